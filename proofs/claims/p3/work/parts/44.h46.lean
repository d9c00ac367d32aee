def l_Tx_program_5 : Pl := [(129, some 2), (129, some 3), (129, some 4), (129, some 5), (129, some 6), (129, some 7), (129, some 8), (129, some 9), (129, some 10), (129, some 11), (129, some 13), (129, some 21), (129, some 23), (129, some 24), (129, some 35), (129, some 38), (131, none), (132, none), (133, none), (134, none), (135, none), (136, none), (137, none), (138, none), (139, none), (140, none), (141, none), (142, none), (143, none), (144, none)]
def l_Tx_program_70 : Pl := [(129, some 23), (138, none)]
def l_Tx_program_44 : Pl := [(129, some 2), (129, some 3), (129, some 4), (129, some 5), (129, some 6), (129, some 7), (129, some 8), (129, some 9), (129, some 10), (129, some 11), (129, some 13), (129, some 21), (129, some 23), (129, some 35), (129, some 38), (131, none), (132, none), (133, none), (134, none), (135, none), (136, none), (137, none), (138, none), (144, none)]
def l_Tx_program : Pl := [(129, some 2), (129, some 3), (129, some 4), (129, some 5), (129, some 6), (129, some 7), (129, some 8), (129, some 9), (129, some 10), (129, some 11), (129, some 13), (129, some 21), (129, some 23), (129, some 24), (129, some 35), (129, some 38), (131, none), (132, none), (133, none), (134, none), (135, none), (136, none), (137, none), (138, none), (139, none), (140, none), (141, none), (142, none), (143, none), (144, none)]
set_option maxRecDepth 20000 in
set_option maxHeartbeats 2000000 in
theorem hq_Tx_program_5 {E : Int32 → MW → Prop} {Q : Int32 → MW → Prop} (n : Nat) : ∀ (x5_1 : Int32) (w : MW), BND w → PZ w → 0 ≤ x5_1.toInt → x5_1.toInt ≤ 1 → x5_1.toInt = 0 ∨ (w.1 129 35).toInt + (w.1 129 21).toInt + (w.1 129 23).toInt ≤ (w.1 129 13).toInt → (2 * (40 - (w.1 129 24).toInt) + x5_1.toInt).toNat < n → (∀ (e5_1 : Int32) (w' : MW), BND w' → FR l_Tx_program_5 w w' → PZ w' → 0 ≤ e5_1.toInt → e5_1.toInt ≤ 1 → e5_1.toInt = 0 ∨ (w'.1 129 35).toInt + (w'.1 129 21).toInt + (w'.1 129 23).toInt ≤ (w'.1 129 13).toInt → E e5_1 w') → (∀ (r : Int32) (w' : MW), BND w' → FR l_Tx_program_5 w w' → PZ w' → False → Q r w') → q_Tx_program_5 E Q n x5_1 w := by
  induction n with
  | zero => intros; omega
  | succ n ih =>
    intro x5_1 w hI hf_PZ hp0 hp1 hp2 hm hE hQ
    rw [q_Tx_program_5.eq_2]
    refine ⟨fun h12654 => ?_, fun h12654 => ?_⟩
    · have o12655 : (0 ≤ x5_1.toInt) ∧ (x5_1.toInt ≤ 1) ∧ (x5_1.toInt = 0 ∨ (w.1 129 35).toInt + (w.1 129 21).toInt + (w.1 129 23).toInt ≤ (w.1 129 13).toInt) := by have := bd_129_35 hI; have := bd_129_21 hI; have := bd_129_23 hI; have := bd_129_13 hI; have := (by decide : ((0 : Int32)).toInt = 0); exact ⟨by omega, by omega, by omega⟩
      exact hE _ _ hI (FR.refl _ w) hf_PZ o12655.1 o12655.2.1 o12655.2.2
    · refine Eq.mpr (p_Tx_isWord.eq_1 _ _ _) ?_
      refine ⟨fun h12656 => ?_, fun h12656 => ?_⟩
      · refine ⟨fun h => absurd h (by decide), fun _ => ?_⟩
        refine Eq.mpr (p_Tx_isWord.eq_1 _ _ _) ?_
        refine ⟨fun h12657 => ?_, fun h12657 => ?_⟩
        · refine ⟨fun h => absurd h (by decide), fun _ => ?_⟩
          refine Eq.mpr (p_Tx_isWord.eq_1 _ _ _) ?_
          refine ⟨fun h12658 => ?_, fun h12658 => ?_⟩
          · refine ⟨fun _ => ?_, fun h => absurd (by decide) h⟩
            have o12659 : (0 ≤ x5_1.toInt) ∧ (x5_1.toInt ≤ 1) ∧ (x5_1.toInt = 0 ∨ (w.1 129 35).toInt + (w.1 129 21).toInt + (w.1 129 23).toInt ≤ (w.1 129 13).toInt) := by have := bd_129_35 hI; have := bd_129_21 hI; have := bd_129_23 hI; have := bd_129_13 hI; have := (by decide : ((0 : Int32)).toInt = 0); exact ⟨by omega, by omega, by omega⟩
            exact hE _ _ hI (FR.refl _ w) hf_PZ o12659.1 o12659.2.1 o12659.2.2
          · refine ⟨fun h => absurd h (by decide), fun _ => ?_⟩
            refine h_Tx_declaration hI hf_PZ (by have := bd_129_35 hI; have := bd_129_21 hI; have := bd_129_23 hI; have := bd_129_13 hI; have := (by decide : ((0 : Int32)).toInt = 0); omega) (fun r12663 w12660 hI12661 hL12662 hlw12660_PZ p12664 p12665 p12666 p12667 => ?_)
            have hF12668 : FR l_Tx_program_5 w w12660 := (FR.refl _ w).tr hL12662 rfl
            have o12669 : (0 ≤ r12663.toInt) ∧ (r12663.toInt ≤ 1) ∧ (r12663.toInt = 0 ∨ (w12660.1 129 35).toInt + (w12660.1 129 21).toInt + (w12660.1 129 23).toInt ≤ (w12660.1 129 13).toInt) := by have := bd_129_35 hI12661; have := bd_129_21 hI12661; have := bd_129_23 hI12661; have := bd_129_13 hI12661; have := bd_129_35 hI; have := bd_129_21 hI; have := bd_129_23 hI; have := bd_129_13 hI; have := (by decide : ((0 : Int32)).toInt = 0); have := bd_129_24 hI12661; have := bd_129_24 hI; exact ⟨by omega, by omega, by omega⟩
            exact ih _ w12660 hI12661 hlw12660_PZ o12669.1 o12669.2.1 o12669.2.2 (by have := bd_129_24 hI12661; have := bd_129_24 hI; have := bd_129_35 hI12661; have := bd_129_21 hI12661; have := bd_129_23 hI12661; have := bd_129_13 hI12661; have := bd_129_35 hI; have := bd_129_21 hI; have := bd_129_23 hI; have := bd_129_13 hI; have := (by decide : ((0 : Int32)).toInt = 0); omega) (fun e0 w9 hI9 hF9 hl9_PZ p0 p1 u0 => hE e0 w9 hI9 (hF12668.tr hF9 rfl) hl9_PZ p0 p1 (by have := bd_129_35 hI; have := bd_129_21 hI; have := bd_129_23 hI; have := bd_129_13 hI; have := (by decide : ((0 : Int32)).toInt = 0); have := bd_129_35 hI12661; have := bd_129_21 hI12661; have := bd_129_23 hI12661; have := bd_129_13 hI12661; have := bd_129_24 hI12661; have := bd_129_24 hI; omega)) (fun r w9 hI9 hF9 hl9_PZ q0 => q0.elim)
        · refine ⟨fun _ => ?_, fun h => absurd (by decide) h⟩
          refine h_Tx_declaration hI hf_PZ (by have := bd_129_35 hI; have := bd_129_21 hI; have := bd_129_23 hI; have := bd_129_13 hI; have := (by decide : ((0 : Int32)).toInt = 0); omega) (fun r12673 w12670 hI12671 hL12672 hlw12670_PZ p12674 p12675 p12676 p12677 => ?_)
          have hF12678 : FR l_Tx_program_5 w w12670 := (FR.refl _ w).tr hL12672 rfl
          have o12679 : (0 ≤ r12673.toInt) ∧ (r12673.toInt ≤ 1) ∧ (r12673.toInt = 0 ∨ (w12670.1 129 35).toInt + (w12670.1 129 21).toInt + (w12670.1 129 23).toInt ≤ (w12670.1 129 13).toInt) := by have := bd_129_35 hI12671; have := bd_129_21 hI12671; have := bd_129_23 hI12671; have := bd_129_13 hI12671; have := bd_129_35 hI; have := bd_129_21 hI; have := bd_129_23 hI; have := bd_129_13 hI; have := (by decide : ((0 : Int32)).toInt = 0); have := bd_129_24 hI12671; have := bd_129_24 hI; exact ⟨by omega, by omega, by omega⟩
          exact ih _ w12670 hI12671 hlw12670_PZ o12679.1 o12679.2.1 o12679.2.2 (by have := bd_129_24 hI12671; have := bd_129_24 hI; have := bd_129_35 hI12671; have := bd_129_21 hI12671; have := bd_129_23 hI12671; have := bd_129_13 hI12671; have := bd_129_35 hI; have := bd_129_21 hI; have := bd_129_23 hI; have := bd_129_13 hI; have := (by decide : ((0 : Int32)).toInt = 0); omega) (fun e0 w9 hI9 hF9 hl9_PZ p0 p1 u0 => hE e0 w9 hI9 (hF12678.tr hF9 rfl) hl9_PZ p0 p1 (by have := bd_129_35 hI; have := bd_129_21 hI; have := bd_129_23 hI; have := bd_129_13 hI; have := (by decide : ((0 : Int32)).toInt = 0); have := bd_129_35 hI12671; have := bd_129_21 hI12671; have := bd_129_23 hI12671; have := bd_129_13 hI12671; have := bd_129_24 hI12671; have := bd_129_24 hI; omega)) (fun r w9 hI9 hF9 hl9_PZ q0 => q0.elim)
      · refine ⟨fun _ => ?_, fun h => absurd (by decide) h⟩
        refine h_Tx_declaration hI hf_PZ (by have := bd_129_35 hI; have := bd_129_21 hI; have := bd_129_23 hI; have := bd_129_13 hI; have := (by decide : ((0 : Int32)).toInt = 0); omega) (fun r12683 w12680 hI12681 hL12682 hlw12680_PZ p12684 p12685 p12686 p12687 => ?_)
        have hF12688 : FR l_Tx_program_5 w w12680 := (FR.refl _ w).tr hL12682 rfl
        have o12689 : (0 ≤ r12683.toInt) ∧ (r12683.toInt ≤ 1) ∧ (r12683.toInt = 0 ∨ (w12680.1 129 35).toInt + (w12680.1 129 21).toInt + (w12680.1 129 23).toInt ≤ (w12680.1 129 13).toInt) := by have := bd_129_35 hI12681; have := bd_129_21 hI12681; have := bd_129_23 hI12681; have := bd_129_13 hI12681; have := bd_129_35 hI; have := bd_129_21 hI; have := bd_129_23 hI; have := bd_129_13 hI; have := (by decide : ((0 : Int32)).toInt = 0); have := bd_129_24 hI12681; have := bd_129_24 hI; exact ⟨by omega, by omega, by omega⟩
        exact ih _ w12680 hI12681 hlw12680_PZ o12689.1 o12689.2.1 o12689.2.2 (by have := bd_129_24 hI12681; have := bd_129_24 hI; have := bd_129_35 hI12681; have := bd_129_21 hI12681; have := bd_129_23 hI12681; have := bd_129_13 hI12681; have := bd_129_35 hI; have := bd_129_21 hI; have := bd_129_23 hI; have := bd_129_13 hI; have := (by decide : ((0 : Int32)).toInt = 0); omega) (fun e0 w9 hI9 hF9 hl9_PZ p0 p1 u0 => hE e0 w9 hI9 (hF12688.tr hF9 rfl) hl9_PZ p0 p1 (by have := bd_129_35 hI; have := bd_129_21 hI; have := bd_129_23 hI; have := bd_129_13 hI; have := (by decide : ((0 : Int32)).toInt = 0); have := bd_129_35 hI12681; have := bd_129_21 hI12681; have := bd_129_23 hI12681; have := bd_129_13 hI12681; have := bd_129_24 hI12681; have := bd_129_24 hI; omega)) (fun r w9 hI9 hF9 hl9_PZ q0 => q0.elim)
set_option maxRecDepth 20000 in
set_option maxHeartbeats 2000000 in
theorem hq_Tx_program_44 {E : Int32 → MW → Prop} {Q : Int32 → MW → Prop} (n : Nat) : ∀ (x44_1 : Int32) (w : MW), BND w → PZ w → 0 ≤ x44_1.toInt → x44_1.toInt ≤ 1 → x44_1.toInt = 0 ∨ (w.1 129 35).toInt + (w.1 129 21).toInt + (w.1 129 23).toInt ≤ (w.1 129 13).toInt → (2 * (300 - (w.1 129 13).toInt) + x44_1.toInt).toNat < n → (∀ (e44_1 : Int32) (w' : MW), BND w' → FR l_Tx_program_44 w w' → PZ w' → 0 ≤ e44_1.toInt → e44_1.toInt ≤ 1 → E e44_1 w') → (∀ (r : Int32) (w' : MW), BND w' → FR l_Tx_program_44 w w' → PZ w' → False → Q r w') → q_Tx_program_44 E Q n x44_1 w := by
  induction n with
  | zero => intros; omega
  | succ n ih =>
    intro x44_1 w hI hf_PZ hp0 hp1 hp2 hm hE hQ
    rw [q_Tx_program_44.eq_2]
    refine ⟨fun h12690 => ?_, fun h12690 => ?_⟩
    · have o12691 : (0 ≤ x44_1.toInt) ∧ (x44_1.toInt ≤ 1) := by have := bd_129_35 hI; have := bd_129_21 hI; have := bd_129_23 hI; have := bd_129_13 hI; have := (by decide : ((0 : Int32)).toInt = 0); exact ⟨by omega, by omega⟩
      exact hE _ _ hI (FR.refl _ w) hf_PZ o12691.1 o12691.2
    · refine ⟨fun h12692 => ?_, fun h12692 => ?_⟩
      · have o12693 : (0 ≤ x44_1.toInt) ∧ (x44_1.toInt ≤ 1) := by have := bd_129_35 hI; have := bd_129_21 hI; have := bd_129_23 hI; have := bd_129_13 hI; have := (by decide : ((0 : Int32)).toInt = 0); exact ⟨by omega, by omega⟩
        exact hE _ _ hI (FR.refl _ w) hf_PZ o12693.1 o12693.2
      · refine h_Tx_statement hI hf_PZ (by have := bd_129_35 hI; have := bd_129_21 hI; have := bd_129_23 hI; have := bd_129_13 hI; have := (by decide : ((0 : Int32)).toInt = 0); omega) (fun r12697 w12694 hI12695 hL12696 hlw12694_PZ p12698 p12699 p12700 p12701 p12702 p12703 => ?_)
        have hF12704 : FR l_Tx_program_44 w w12694 := (FR.refl _ w).tr hL12696 rfl
        refine ⟨fun h12705 => ?_, fun h12705 => ?_⟩
        · refine Eq.mpr (q_Tx_program_70.eq_1 _ _ _ _ _ _) ?_
          refine ⟨fun _ => ?_, fun h => absurd (by decide) h⟩
          have o12706 : (0 ≤ (0 : Int32).toInt) ∧ ((0 : Int32).toInt ≤ 1) ∧ ((0 : Int32).toInt = 0 ∨ (w12694.1 129 35).toInt + (w12694.1 129 21).toInt + (w12694.1 129 23).toInt ≤ (w12694.1 129 13).toInt) := by have := (by decide : ((0 : Int32)).toInt = 0); have := bd_129_35 hI12695; have := bd_129_21 hI12695; have := bd_129_23 hI12695; have := bd_129_23 hI; have := (congrArg Int32.toInt (hL12696 129 23 rfl).1); have := bd_129_13 hI12695; have := bd_129_35 hI; have := bd_129_21 hI; have := bd_129_13 hI; have := bd_129_11 hI12695; have := bd_129_11 hI; exact ⟨by omega, by omega, by omega⟩
          exact ih _ w12694 hI12695 hlw12694_PZ o12706.1 o12706.2.1 o12706.2.2 (by have := (by decide : ((0 : Int32)).toInt = 0); have := bd_129_13 hI12695; have := bd_129_13 hI; have := bd_129_35 hI; have := bd_129_21 hI; have := bd_129_23 hI; have := bd_129_35 hI12695; have := bd_129_23 hI12695; have := (congrArg Int32.toInt (hL12696 129 23 rfl).1); have := bd_129_21 hI12695; have := bd_129_11 hI12695; have := bd_129_11 hI; omega) (fun e0 w9 hI9 hF9 hl9_PZ p0 p1 => hE e0 w9 hI9 (hF12704.tr hF9 rfl) hl9_PZ p0 p1 ) (fun r w9 hI9 hF9 hl9_PZ q0 => q0.elim)
        · refine Eq.mpr (q_Tx_program_70.eq_1 _ _ _ _ _ _) ?_
          refine ⟨fun h => absurd h (by decide), fun _ => ?_⟩
          refine Eq.mpr (p_Tx_base.eq_1 _ _) ?_
          have o12707 : 0 ≤ (((300 : Int32) * ((1 : Int32) - (w12694.1 129 12))) + (w12694.1 129 23)).toInt ∧ (((300 : Int32) * ((1 : Int32) - (w12694.1 129 12))) + (w12694.1 129 23)).toInt < 600 := by have := bd_129_12 hI12695; have := bd_129_12 hI; have := (congrArg Int32.toInt (hL12696 129 12 rfl).1); have := bd_129_23 hI12695; have := bd_129_23 hI; have := (congrArg Int32.toInt (hL12696 129 23 rfl).1); have := bd_129_35 hI; have := bd_129_21 hI; have := bd_129_13 hI; have := (by decide : ((0 : Int32)).toInt = 0); have := bd_129_13 hI12695; have := bd_129_35 hI12695; have := bd_129_21 hI12695; have := bd_129_11 hI12695; have := bd_129_11 hI; have := ti_sub2 (by decide : ((1 : Int32)).toInt = 1) (Eq.refl (w12694.1 129 12).toInt) (by omega) (by omega); have := ti_mul2 (by decide : ((300 : Int32)).toInt = 300) (Eq.refl ((1 : Int32) - (w12694.1 129 12)).toInt) (by omega) (by omega); have := ti_add2 (Eq.refl ((300 : Int32) * ((1 : Int32) - (w12694.1 129 12))).toInt) (Eq.refl (w12694.1 129 23).toInt) (by omega) (by omega); omega
          refine ⟨o12707, ?_⟩
          have o12709 : 0 ≤ r12697.toInt ∧ r12697.toInt ≤ 299 := by have := bd_129_13 hI12695; have := bd_129_35 hI12695; have := bd_129_35 hI; have := bd_129_23 hI12695; have := bd_129_23 hI; have := (congrArg Int32.toInt (hL12696 129 23 rfl).1); have := bd_129_21 hI12695; have := bd_129_13 hI; have := bd_129_21 hI; have := bd_129_11 hI12695; have := bd_129_11 hI; have := (by decide : ((0 : Int32)).toInt = 0); omega
          have hI12708 : BND (sI w12694 138 ((((300 : Int32) * ((1 : Int32) - (w12694.1 129 12))) + (w12694.1 129 23)).toInt.toNat) r12697) := wbd_138 hI12695 ((((300 : Int32) * ((1 : Int32) - (w12694.1 129 12))) + (w12694.1 129 23)).toInt.toNat) o12709.1 o12709.2
          have o12711 : 0 ≤ ((w12694.1 129 23) + (1 : Int32)).toInt ∧ ((w12694.1 129 23) + (1 : Int32)).toInt ≤ 300 := by have := bd_129_23 hI12695; have := bd_129_23 hI; have := (congrArg Int32.toInt (hL12696 129 23 rfl).1); have := bd_129_35 hI; have := bd_129_21 hI; have := bd_129_13 hI; have := (by decide : ((0 : Int32)).toInt = 0); have := bd_129_13 hI12695; have := bd_129_35 hI12695; have := bd_129_21 hI12695; have := bd_129_11 hI12695; have := bd_129_11 hI; have := ti_add2 (Eq.refl (w12694.1 129 23).toInt) (by decide : ((1 : Int32)).toInt = 1) (by omega) (by omega); omega
          have hI12710 : BND (sI (sI w12694 138 ((((300 : Int32) * ((1 : Int32) - (w12694.1 129 12))) + (w12694.1 129 23)).toInt.toNat) r12697) 129 23 ((w12694.1 129 23) + (1 : Int32))) := wbd_129_23 hI12708 o12711.1 o12711.2
          have o12712 : (0 ≤ (1 : Int32).toInt) ∧ ((1 : Int32).toInt ≤ 1) ∧ ((1 : Int32).toInt = 0 ∨ ((sI (sI w12694 138 ((((300 : Int32) * ((1 : Int32) - (w12694.1 129 12))) + (w12694.1 129 23)).toInt.toNat) r12697) 129 23 ((w12694.1 129 23) + (1 : Int32))).1 129 35).toInt + ((sI (sI w12694 138 ((((300 : Int32) * ((1 : Int32) - (w12694.1 129 12))) + (w12694.1 129 23)).toInt.toNat) r12697) 129 23 ((w12694.1 129 23) + (1 : Int32))).1 129 21).toInt + ((sI (sI w12694 138 ((((300 : Int32) * ((1 : Int32) - (w12694.1 129 12))) + (w12694.1 129 23)).toInt.toNat) r12697) 129 23 ((w12694.1 129 23) + (1 : Int32))).1 129 23).toInt ≤ ((sI (sI w12694 138 ((((300 : Int32) * ((1 : Int32) - (w12694.1 129 12))) + (w12694.1 129 23)).toInt.toNat) r12697) 129 23 ((w12694.1 129 23) + (1 : Int32))).1 129 13).toInt) := by have := (by decide : ((1 : Int32)).toInt = 1); have := bd_129_35 hI12695; have : ((sI (sI w12694 138 ((((300 : Int32) * ((1 : Int32) - (w12694.1 129 12))) + (w12694.1 129 23)).toInt.toNat) r12697) 129 23 ((w12694.1 129 23) + (1 : Int32))).1 129 35).toInt = (w12694.1 129 35).toInt := rfl; have := bd_129_21 hI12695; have : ((sI (sI w12694 138 ((((300 : Int32) * ((1 : Int32) - (w12694.1 129 12))) + (w12694.1 129 23)).toInt.toNat) r12697) 129 23 ((w12694.1 129 23) + (1 : Int32))).1 129 21).toInt = (w12694.1 129 21).toInt := rfl; have := bd_129_23 hI12695; have := bd_129_23 hI; have := (congrArg Int32.toInt (hL12696 129 23 rfl).1); have : ((sI (sI w12694 138 ((((300 : Int32) * ((1 : Int32) - (w12694.1 129 12))) + (w12694.1 129 23)).toInt.toNat) r12697) 129 23 ((w12694.1 129 23) + (1 : Int32))).1 129 23).toInt = ((w12694.1 129 23) + (1 : Int32)).toInt := rfl; have := bd_129_13 hI12695; have : ((sI (sI w12694 138 ((((300 : Int32) * ((1 : Int32) - (w12694.1 129 12))) + (w12694.1 129 23)).toInt.toNat) r12697) 129 23 ((w12694.1 129 23) + (1 : Int32))).1 129 13).toInt = (w12694.1 129 13).toInt := rfl; have := bd_129_35 hI; have := bd_129_21 hI; have := bd_129_13 hI; have := (by decide : ((0 : Int32)).toInt = 0); have := bd_129_11 hI12695; have := bd_129_11 hI; have := ti_add2 (Eq.refl (w12694.1 129 23).toInt) (by decide : ((1 : Int32)).toInt = 1) (by omega) (by omega); exact ⟨by omega, by omega, by omega⟩
          exact ih _ (sI (sI w12694 138 ((((300 : Int32) * ((1 : Int32) - (w12694.1 129 12))) + (w12694.1 129 23)).toInt.toNat) r12697) 129 23 ((w12694.1 129 23) + (1 : Int32))) hI12710 (PZ_fr (l := [(129, some 23)]) (FR.I (FR.refl _ (sI w12694 138 ((((300 : Int32) * ((1 : Int32) - (w12694.1 129 12))) + (w12694.1 129 23)).toInt.toNat) r12697)) (k := 129) (j := 23) (v := ((w12694.1 129 23) + (1 : Int32))) rfl) rfl (PZ_fr (l := [(138, none)]) (FR.I (FR.refl _ w12694) (k := 138) (j := (((300 : Int32) * ((1 : Int32) - (w12694.1 129 12))) + (w12694.1 129 23)).toInt.toNat) (v := r12697) rfl) rfl hlw12694_PZ)) o12712.1 o12712.2.1 o12712.2.2 (by have := (by decide : ((1 : Int32)).toInt = 1); have := bd_129_13 hI12695; have : ((sI (sI w12694 138 ((((300 : Int32) * ((1 : Int32) - (w12694.1 129 12))) + (w12694.1 129 23)).toInt.toNat) r12697) 129 23 ((w12694.1 129 23) + (1 : Int32))).1 129 13).toInt = (w12694.1 129 13).toInt := rfl; have := bd_129_13 hI; have := bd_129_35 hI; have := bd_129_21 hI; have := bd_129_23 hI; have := (by decide : ((0 : Int32)).toInt = 0); have := bd_129_35 hI12695; have := bd_129_23 hI12695; have := (congrArg Int32.toInt (hL12696 129 23 rfl).1); have := bd_129_21 hI12695; have := bd_129_11 hI12695; have := bd_129_11 hI; omega) (fun e0 w9 hI9 hF9 hl9_PZ p0 p1 => hE e0 w9 hI9 ((FR.I (FR.I hF12704 (k := 138) (j := (((300 : Int32) * ((1 : Int32) - (w12694.1 129 12))) + (w12694.1 129 23)).toInt.toNat) (v := r12697) rfl) (k := 129) (j := 23) (v := ((w12694.1 129 23) + (1 : Int32))) rfl).tr hF9 rfl) hl9_PZ p0 p1 ) (fun r w9 hI9 hF9 hl9_PZ q0 => q0.elim)
set_option maxRecDepth 20000 in
set_option maxHeartbeats 2000000 in
theorem h_Tx_program {w : MW} {Q : Int32 → MW → Prop} (hI : BND w) (hf_PZ : PZ w) (hp0 : (w.1 129 35).toInt + (w.1 129 21).toInt + (w.1 129 23).toInt ≤ (w.1 129 13).toInt) (hQ : ∀ (r : Int32) (w' : MW), BND w' → FR l_Tx_program w w' → PZ w' → 0 ≤ r.toInt → r.toInt ≤ 1 → Q r w') : p_Tx_program w Q := by
  refine Eq.mpr (p_Tx_program.eq_1 _ _) ?_
  refine h_Tx_go hI hf_PZ  (fun r12716 w12713 hI12714 hL12715 hlw12713_PZ p12717 p12718 p12719 => ?_)
  have hF12720 : FR l_Tx_program w w12713 := (FR.refl _ w).tr hL12715 rfl
  have o12721 : (0 ≤ r12716.toInt) ∧ (r12716.toInt ≤ 1) ∧ (r12716.toInt = 0 ∨ (w12713.1 129 35).toInt + (w12713.1 129 21).toInt + (w12713.1 129 23).toInt ≤ (w12713.1 129 13).toInt) := by have := bd_129_35 hI12714; have := bd_129_35 hI; have := (congrArg Int32.toInt (hL12715 129 35 rfl).1); have := bd_129_21 hI12714; have := bd_129_21 hI; have := (congrArg Int32.toInt (hL12715 129 21 rfl).1); have := bd_129_23 hI12714; have := bd_129_23 hI; have := (congrArg Int32.toInt (hL12715 129 23 rfl).1); have := bd_129_13 hI12714; have := bd_129_13 hI; have := (congrArg Int32.toInt (hL12715 129 13 rfl).1); have := bd_129_4 hI12714; have := bd_129_5 hI12714; have := bd_129_6 hI12714; exact ⟨by omega, by omega, by omega⟩
  refine hq_Tx_program_5 FU _ w12713 hI12714 hlw12713_PZ o12721.1 o12721.2.1 o12721.2.2 (fu_lt (by have := bd_129_24 hI12714; have := bd_129_24 hI; have := (congrArg Int32.toInt (hL12715 129 24 rfl).1); have := bd_129_4 hI12714; have := bd_129_5 hI12714; have := bd_129_6 hI12714; omega)) (fun e12725 w12722 hI12723 hL12724 hlw12722_PZ p12726 p12727 p12728 => ?_) (fun r w9 hI9 hF9 hl9_PZ q0 => q0.elim)
  have hF12729 : FR l_Tx_program w w12722 := hF12720.tr hL12724 rfl
  have o12730 : (0 ≤ e12725.toInt) ∧ (e12725.toInt ≤ 1) ∧ (e12725.toInt = 0 ∨ (w12722.1 129 35).toInt + (w12722.1 129 21).toInt + (w12722.1 129 23).toInt ≤ (w12722.1 129 13).toInt) := by have := bd_129_35 hI12723; have := bd_129_21 hI12723; have := bd_129_23 hI12723; have := bd_129_13 hI12723; have := bd_129_35 hI; have := bd_129_21 hI; have := bd_129_23 hI; have := bd_129_13 hI; exact ⟨by omega, by omega, by omega⟩
  refine hq_Tx_program_44 FU _ w12722 hI12723 hlw12722_PZ o12730.1 o12730.2.1 o12730.2.2 (fu_lt (by have := bd_129_13 hI12723; have := bd_129_35 hI; have := bd_129_21 hI; have := bd_129_23 hI; have := bd_129_13 hI; have := bd_129_35 hI12723; have := bd_129_21 hI12723; have := bd_129_23 hI12723; omega)) (fun e12734 w12731 hI12732 hL12733 hlw12731_PZ p12735 p12736 => ?_) (fun r w9 hI9 hF9 hl9_PZ q0 => q0.elim)
  have hF12737 : FR l_Tx_program w w12731 := hF12729.tr hL12733 rfl
  have o12738 : e12734.toInt = 0 ∨ e12734.toInt = 1 := by omega
  refine ⟨o12738, ?_⟩
  have o12739 : (0 ≤ e12734.toInt) ∧ (e12734.toInt ≤ 1) := by exact ⟨by omega, by omega⟩
  exact hQ _ _ hI12732 hF12737 hlw12731_PZ  o12739.1 o12739.2
def l_Tx_unit : Pl := [(129, some 1), (130, none)]
set_option maxRecDepth 20000 in
set_option maxHeartbeats 2000000 in
theorem h_Tx_unit {w : MW} {a0 : Int32} {Q : Int32 → MW → Prop} (hI : BND w) (hp0 : (-128) ≤ a0.toInt) (hp1 : a0.toInt ≤ 127) (hQ : ∀ (r : Int32) (w' : MW), BND w' → FR l_Tx_unit w w' → 0 ≤ r.toInt → r.toInt ≤ 1 → Q r w') : p_Tx_unit w a0 Q := by
  refine Eq.mpr (p_Tx_unit.eq_1 _ _ _) ?_
  refine ⟨fun h12740 => ?_, fun h12740 => ?_⟩
  · have o12741 : (0 ≤ (0 : Int32).toInt) ∧ ((0 : Int32).toInt ≤ 1) := by have := (by decide : ((0 : Int32)).toInt = 0); exact ⟨by omega, by omega⟩
    exact hQ _ _ hI (FR.refl _ w)  o12741.1 o12741.2
  · refine ⟨fun h12742 => ?_, fun h12742 => ?_⟩
    · exfalso; have := (by decide : ((1 : Int32)).toInt = 1); have := (by decide : ((127 : Int32)).toInt = 127); omega
    · refine ⟨fun h12743 => ?_, fun h12743 => ?_⟩
      · have o12744 : 0 ≤ (w.1 129 1).toInt ∧ (w.1 129 1).toInt < 4020 := by have := bd_129_1 hI; have := (by decide : ((4020 : Int32)).toInt = 4020); omega
        refine ⟨o12744, ?_⟩
        have o12746 : (-128) ≤ (vp_nar .byte ((Int32.toInt8 a0).toInt32)).toInt ∧ (vp_nar .byte ((Int32.toInt8 a0).toInt32)).toInt ≤ 127 := by have := (by decide : ((1 : Int32)).toInt = 1); have := (by decide : ((127 : Int32)).toInt = 127); have := nb_i2beq (x := a0) (by omega) (by omega); have := nb_byteq (x := ((Int32.toInt8 a0).toInt32)) (by omega) (by omega); omega
        have hI12745 : BND (sI w 130 ((w.1 129 1).toInt.toNat) (vp_nar .byte ((Int32.toInt8 a0).toInt32))) := wbd_130 hI ((w.1 129 1).toInt.toNat) o12746.1 o12746.2
        have o12748 : 0 ≤ ((w.1 129 1) + (1 : Int32)).toInt ∧ ((w.1 129 1) + (1 : Int32)).toInt ≤ 4020 := by have := bd_129_1 hI; have := (by decide : ((4020 : Int32)).toInt = 4020); have := ti_add2 (Eq.refl (w.1 129 1).toInt) (by decide : ((1 : Int32)).toInt = 1) (by omega) (by omega); omega
        have hI12747 : BND (sI (sI w 130 ((w.1 129 1).toInt.toNat) (vp_nar .byte ((Int32.toInt8 a0).toInt32))) 129 1 ((w.1 129 1) + (1 : Int32))) := wbd_129_1 hI12745 o12748.1 o12748.2
        have o12749 : (0 ≤ (1 : Int32).toInt) ∧ ((1 : Int32).toInt ≤ 1) := by have := (by decide : ((1 : Int32)).toInt = 1); exact ⟨by omega, by omega⟩
        exact hQ _ _ hI12747 (FR.I (FR.I (FR.refl _ w) (k := 130) (j := (w.1 129 1).toInt.toNat) (v := (vp_nar .byte ((Int32.toInt8 a0).toInt32))) rfl) (k := 129) (j := 1) (v := ((w.1 129 1) + (1 : Int32))) rfl)  o12749.1 o12749.2
      · have o12750 : (0 ≤ (0 : Int32).toInt) ∧ ((0 : Int32).toInt ≤ 1) := by have := (by decide : ((0 : Int32)).toInt = 0); exact ⟨by omega, by omega⟩
        exact hQ _ _ hI (FR.refl _ w)  o12750.1 o12750.2
def l_Mo_say_2 : Pl := [(127, some 83), (127, some 84)]
def l_Mo_say : Pl := [(127, some 83), (127, some 84)]
set_option maxRecDepth 20000 in
set_option maxHeartbeats 2000000 in
theorem hq_Mo_say_2 {E : MW → Prop} {Q : MW → Prop} (n : Nat) : ∀ (x2_3 : Int64) (w : MW), BND w → 0 ≤ x2_3.toInt → x2_3.toInt ≤ 435778511222 → (x2_3.toInt - 0).toNat < n → (∀ (w' : MW), BND w' → FR l_Mo_say_2 w w' → E w') → (∀ (w' : MW), BND w' → FR l_Mo_say_2 w w' → False → Q w') → q_Mo_say_2 E Q n x2_3 w := by
  induction n with
  | zero => intros; omega
  | succ n ih =>
    intro x2_3 w hI  hp0 hp1 hm hE hQ
    rw [q_Mo_say_2.eq_2]
    refine ⟨fun h12751 => ?_, fun h12751 => ?_⟩
    · exact hE _ hI (FR.refl _ w)
    · refine Eq.mpr (p_Mo_letter.eq_1 _ _ _) ?_
      refine ⟨fun h12752 => ?_, fun h12752 => ?_⟩
      · have hI12753 : BND (sI w 127 84 (w.1 127 84)) := wbd_127_84 hI
        have hI12754 : BND (sI (sI w 127 84 (w.1 127 84)) 127 83 ((w.1 127 83) - (1 : Int32))) := wbd_127_83 hI12753
        have o12755 : (0 ≤ ((x2_3.toUInt64 >>> ((8 : Int32).toInt64.toUInt64 &&& Int64.toUInt64 63)).toInt64).toInt) ∧ (((x2_3.toUInt64 >>> ((8 : Int32).toInt64.toUInt64 &&& Int64.toUInt64 63)).toInt64).toInt ≤ 435778511222) := by have := nb_cmp x2_3 (0 : Int64); have := (by decide : ((0 : Int64)).toInt = 0); have := (by decide : ((0 : Int32)).toInt = 0); have := nb_lushr8 x2_3 (by omega); exact ⟨by omega, by omega⟩
        exact ih _ (sI (sI w 127 84 (w.1 127 84)) 127 83 ((w.1 127 83) - (1 : Int32))) hI12754  o12755.1 o12755.2 (by have := nb_cmp x2_3 (0 : Int64); have := (by decide : ((0 : Int64)).toInt = 0); have := (by decide : ((0 : Int32)).toInt = 0); have := nb_lushr8 x2_3 (by omega); omega) (fun w9 hI9 hF9 => hE w9 hI9 ((FR.I (FR.I (FR.refl _ w) (k := 127) (j := 84) (v := (w.1 127 84)) rfl) (k := 127) (j := 83) (v := ((w.1 127 83) - (1 : Int32))) rfl).tr hF9 rfl) ) (fun w9 hI9 hF9 q0 => q0.elim)
      · have hI12756 : BND (sI w 127 84 (Int64.toInt32 (x2_3 &&& (255 : Int64)))) := wbd_127_84 hI
        have hI12757 : BND (sI (sI w 127 84 (Int64.toInt32 (x2_3 &&& (255 : Int64)))) 127 83 ((w.1 127 83) - (1 : Int32))) := wbd_127_83 hI12756
        have o12758 : (0 ≤ ((x2_3.toUInt64 >>> ((8 : Int32).toInt64.toUInt64 &&& Int64.toUInt64 63)).toInt64).toInt) ∧ (((x2_3.toUInt64 >>> ((8 : Int32).toInt64.toUInt64 &&& Int64.toUInt64 63)).toInt64).toInt ≤ 435778511222) := by have := nb_cmp x2_3 (0 : Int64); have := (by decide : ((0 : Int64)).toInt = 0); have := (by decide : ((0 : Int32)).toInt = 0); have := nb_lushr8 x2_3 (by omega); exact ⟨by omega, by omega⟩
        exact ih _ (sI (sI w 127 84 (Int64.toInt32 (x2_3 &&& (255 : Int64)))) 127 83 ((w.1 127 83) - (1 : Int32))) hI12757  o12758.1 o12758.2 (by have := nb_cmp x2_3 (0 : Int64); have := (by decide : ((0 : Int64)).toInt = 0); have := (by decide : ((0 : Int32)).toInt = 0); have := nb_lushr8 x2_3 (by omega); omega) (fun w9 hI9 hF9 => hE w9 hI9 ((FR.I (FR.I (FR.refl _ w) (k := 127) (j := 84) (v := (Int64.toInt32 (x2_3 &&& (255 : Int64)))) rfl) (k := 127) (j := 83) (v := ((w.1 127 83) - (1 : Int32))) rfl).tr hF9 rfl) ) (fun w9 hI9 hF9 q0 => q0.elim)
set_option maxRecDepth 20000 in
set_option maxHeartbeats 2000000 in
theorem h_Mo_say {w : MW} {a0 : Int64} {Q : MW → Prop} (hI : BND w) (hp0 : 1701865840 ≤ a0.toInt) (hp1 : a0.toInt ≤ 435778511222) (hQ : ∀ (w' : MW), BND w' → FR l_Mo_say w w' → Q w') : p_Mo_say w a0 Q := by
  refine Eq.mpr (p_Mo_say.eq_1 _ _ _) ?_
  have o12759 : (0 ≤ a0.toInt) ∧ (a0.toInt ≤ 435778511222) := by exact ⟨by omega, by omega⟩
  refine hq_Mo_say_2 FU _ w hI  o12759.1 o12759.2 (fu_lt (by omega)) (fun w12760 hI12761 hL12762  => ?_) (fun w9 hI9 hF9 q0 => q0.elim)
  have hF12763 : FR l_Mo_say w w12760 := (FR.refl _ w).tr hL12762 rfl
  exact hQ _ hI12761 hF12763 
def l_Mo_sayNumber_19 : Pl := []
def l_Mo_sayNumber_37 : Pl := [(127, some 83), (127, some 84)]
def l_Mo_sayNumber : Pl := [(127, some 83), (127, some 84)]
set_option maxRecDepth 20000 in
set_option maxHeartbeats 2000000 in
theorem hq_Mo_sayNumber_19 {x19_1 : Int32} {E : Int32 → MW → Prop} {Q : MW → Prop} (n : Nat) : ∀ (x19_2 : Int32) (w : MW), BND w → 0 ≤ x19_1.toInt → x19_1.toInt ≤ 100000 → 1 ≤ x19_2.toInt → x19_2.toInt ≤ 1000000 → (1000000 - x19_2.toInt).toNat < n → (∀ (e19_2 : Int32) (w' : MW), BND w' → FR l_Mo_sayNumber_19 w w' → 1 ≤ e19_2.toInt → e19_2.toInt ≤ 1000000 → E e19_2 w') → (∀ (w' : MW), BND w' → FR l_Mo_sayNumber_19 w w' → False → Q w') → q_Mo_sayNumber_19 x19_1 E Q n x19_2 w := by
  induction n with
  | zero => intros; omega
  | succ n ih =>
    intro x19_2 w hI  hp0 hp1 hp2 hp3 hm hE hQ
    rw [q_Mo_sayNumber_19.eq_2]
    have o12764 : ¬ x19_2.toInt = 0 := by omega
    refine ⟨o12764, ?_⟩
    refine ⟨fun h12765 => ?_, fun h12765 => ?_⟩
    · have o12766 : (1 ≤ x19_2.toInt) ∧ (x19_2.toInt ≤ 1000000) := by have := (by decide : ((10 : Int32)).toInt = 10); have := nb_divb (x := x19_1) (y := x19_2) (by omega) (by omega); have := nb_div10 (x := x19_1) (y := x19_2) (by omega) (by omega); exact ⟨by omega, by omega⟩
      exact hE _ _ hI (FR.refl _ w) o12766.1 o12766.2
    · have o12767 : (0 ≤ x19_1.toInt) ∧ (x19_1.toInt ≤ 100000) ∧ (1 ≤ (x19_2 * (10 : Int32)).toInt) ∧ ((x19_2 * (10 : Int32)).toInt ≤ 1000000) := by have := (by decide : ((10 : Int32)).toInt = 10); have := ti_mul2 (Eq.refl x19_2.toInt) (by decide : ((10 : Int32)).toInt = 10) (by omega) (by omega); have := nb_divb (x := x19_1) (y := x19_2) (by omega) (by omega); have := nb_div10 (x := x19_1) (y := x19_2) (by omega) (by omega); exact ⟨by omega, by omega, by omega, by omega⟩
      exact ih _ w hI  o12767.1 o12767.2.1 o12767.2.2.1 o12767.2.2.2 (by have := (by decide : ((10 : Int32)).toInt = 10); have := ti_mul2 (Eq.refl x19_2.toInt) (by decide : ((10 : Int32)).toInt = 10) (by omega) (by omega); have := nb_divb (x := x19_1) (y := x19_2) (by omega) (by omega); have := nb_div10 (x := x19_1) (y := x19_2) (by omega) (by omega); omega) (fun e0 w9 hI9 hF9 p0 p1 => hE e0 w9 hI9 ((FR.refl _ w).tr hF9 rfl) p0 p1 ) (fun w9 hI9 hF9 q0 => q0.elim)
set_option maxRecDepth 20000 in
set_option maxHeartbeats 2000000 in
theorem hq_Mo_sayNumber_37 {x37_1 : Int32} {E : MW → Prop} {Q : MW → Prop} (n : Nat) : ∀ (x37_3 : Int32) (w : MW), BND w → 0 ≤ x37_1.toInt → x37_1.toInt ≤ 100000 → 0 ≤ x37_3.toInt → x37_3.toInt ≤ 1000000 → (x37_3.toInt - 0).toNat < n → (∀ (w' : MW), BND w' → FR l_Mo_sayNumber_37 w w' → E w') → (∀ (w' : MW), BND w' → FR l_Mo_sayNumber_37 w w' → False → Q w') → q_Mo_sayNumber_37 x37_1 E Q n x37_3 w := by
  induction n with
  | zero => intros; omega
  | succ n ih =>
    intro x37_3 w hI  hp0 hp1 hp2 hp3 hm hE hQ
    rw [q_Mo_sayNumber_37.eq_2]
    refine ⟨fun h12768 => ?_, fun h12768 => ?_⟩
    · exact hE _ hI (FR.refl _ w)
    · have o12769 : ¬ x37_3.toInt = 0 := by have := (by decide : ((0 : Int32)).toInt = 0); omega
      refine ⟨o12769, ?_⟩
      refine Eq.mpr (p_Mo_letter.eq_1 _ _ _) ?_
      refine ⟨fun h12770 => ?_, fun h12770 => ?_⟩
      · have hI12771 : BND (sI w 127 84 (w.1 127 84)) := wbd_127_84 hI
        have hI12772 : BND (sI (sI w 127 84 (w.1 127 84)) 127 83 ((w.1 127 83) - (1 : Int32))) := wbd_127_83 hI12771
        have o12773 : (0 ≤ x37_1.toInt) ∧ (x37_1.toInt ≤ 100000) ∧ (0 ≤ (x37_3 / (10 : Int32)).toInt) ∧ ((x37_3 / (10 : Int32)).toInt ≤ 1000000) := by have := (by decide : ((0 : Int32)).toInt = 0); have := nb_div (x := x37_3) (by omega) (by decide : ((10 : Int32)).toInt = 10) (by decide); exact ⟨by omega, by omega, by omega, by omega⟩
        exact ih _ (sI (sI w 127 84 (w.1 127 84)) 127 83 ((w.1 127 83) - (1 : Int32))) hI12772  o12773.1 o12773.2.1 o12773.2.2.1 o12773.2.2.2 (by have := (by decide : ((0 : Int32)).toInt = 0); have := nb_div (x := x37_3) (by omega) (by decide : ((10 : Int32)).toInt = 10) (by decide); omega) (fun w9 hI9 hF9 => hE w9 hI9 ((FR.I (FR.I (FR.refl _ w) (k := 127) (j := 84) (v := (w.1 127 84)) rfl) (k := 127) (j := 83) (v := ((w.1 127 83) - (1 : Int32))) rfl).tr hF9 rfl) ) (fun w9 hI9 hF9 q0 => q0.elim)
      · have hI12774 : BND (sI w 127 84 ((48 : Int32) + ((x37_1 / x37_3) - (x37_1 / x37_3) / (10 : Int32) * (10 : Int32)))) := wbd_127_84 hI
        have hI12775 : BND (sI (sI w 127 84 ((48 : Int32) + ((x37_1 / x37_3) - (x37_1 / x37_3) / (10 : Int32) * (10 : Int32)))) 127 83 ((w.1 127 83) - (1 : Int32))) := wbd_127_83 hI12774
        have o12776 : (0 ≤ x37_1.toInt) ∧ (x37_1.toInt ≤ 100000) ∧ (0 ≤ (x37_3 / (10 : Int32)).toInt) ∧ ((x37_3 / (10 : Int32)).toInt ≤ 1000000) := by have := (by decide : ((0 : Int32)).toInt = 0); have := nb_div (x := x37_3) (by omega) (by decide : ((10 : Int32)).toInt = 10) (by decide); exact ⟨by omega, by omega, by omega, by omega⟩
        exact ih _ (sI (sI w 127 84 ((48 : Int32) + ((x37_1 / x37_3) - (x37_1 / x37_3) / (10 : Int32) * (10 : Int32)))) 127 83 ((w.1 127 83) - (1 : Int32))) hI12775  o12776.1 o12776.2.1 o12776.2.2.1 o12776.2.2.2 (by have := (by decide : ((0 : Int32)).toInt = 0); have := nb_div (x := x37_3) (by omega) (by decide : ((10 : Int32)).toInt = 10) (by decide); omega) (fun w9 hI9 hF9 => hE w9 hI9 ((FR.I (FR.I (FR.refl _ w) (k := 127) (j := 84) (v := ((48 : Int32) + ((x37_1 / x37_3) - (x37_1 / x37_3) / (10 : Int32) * (10 : Int32)))) rfl) (k := 127) (j := 83) (v := ((w.1 127 83) - (1 : Int32))) rfl).tr hF9 rfl) ) (fun w9 hI9 hF9 q0 => q0.elim)
set_option maxRecDepth 20000 in
set_option maxHeartbeats 2000000 in
theorem h_Mo_sayNumber {w : MW} {a0 : Int32} {Q : MW → Prop} (hI : BND w) (hp0 : (-1) ≤ a0.toInt) (hp1 : a0.toInt ≤ 100000) (hQ : ∀ (w' : MW), BND w' → FR l_Mo_sayNumber w w' → Q w') : p_Mo_sayNumber w a0 Q := by
  refine Eq.mpr (p_Mo_sayNumber.eq_1 _ _ _) ?_
  refine Eq.mpr (p_Mo_letter.eq_1 _ _ _) ?_
  refine ⟨fun h12777 => ?_, fun h12777 => ?_⟩
  · refine ⟨fun h12778 => ?_, fun h12778 => ?_⟩
    · have hI12779 : BND (sI w 127 84 (w.1 127 84)) := wbd_127_84 hI
      have hI12780 : BND (sI (sI w 127 84 (w.1 127 84)) 127 83 ((w.1 127 83) - (1 : Int32))) := wbd_127_83 hI12779
      have o12781 : (0 ≤ a0.toInt) ∧ (a0.toInt ≤ 100000) ∧ (1 ≤ (1 : Int32).toInt) ∧ ((1 : Int32).toInt ≤ 1000000) := by have := (by decide : ((1 : Int32)).toInt = 1); have := (by decide : ((0 : Int32)).toInt = 0); exact ⟨by omega, by omega, by omega, by omega⟩
      refine hq_Mo_sayNumber_19 FU _ (sI (sI w 127 84 (w.1 127 84)) 127 83 ((w.1 127 83) - (1 : Int32))) hI12780  o12781.1 o12781.2.1 o12781.2.2.1 o12781.2.2.2 (fu_lt (by have := (by decide : ((1 : Int32)).toInt = 1); have := (by decide : ((0 : Int32)).toInt = 0); omega)) (fun e12785 w12782 hI12783 hL12784 p12786 p12787 => ?_) (fun w9 hI9 hF9 q0 => q0.elim)
      have hF12788 : FR l_Mo_sayNumber w w12782 := (FR.I (FR.I (FR.refl _ w) (k := 127) (j := 84) (v := (w.1 127 84)) rfl) (k := 127) (j := 83) (v := ((w.1 127 83) - (1 : Int32))) rfl).tr hL12784 rfl
      have o12789 : (0 ≤ a0.toInt) ∧ (a0.toInt ≤ 100000) ∧ (0 ≤ e12785.toInt) ∧ (e12785.toInt ≤ 1000000) := by have := (by decide : ((0 : Int32)).toInt = 0); exact ⟨by omega, by omega, by omega, by omega⟩
      refine hq_Mo_sayNumber_37 FU _ w12782 hI12783  o12789.1 o12789.2.1 o12789.2.2.1 o12789.2.2.2 (fu_lt (by have := (by decide : ((0 : Int32)).toInt = 0); omega)) (fun w12790 hI12791 hL12792  => ?_) (fun w9 hI9 hF9 q0 => q0.elim)
      have hF12793 : FR l_Mo_sayNumber w w12790 := hF12788.tr hL12792 rfl
      exact hQ _ hI12791 hF12793 
    · refine Eq.mpr (p_Mo_letter.eq_1 _ _ _) ?_
      refine ⟨fun h12794 => ?_, fun h12794 => ?_⟩
      · have hI12795 : BND (sI w 127 84 (w.1 127 84)) := wbd_127_84 hI
        have hI12796 : BND (sI (sI w 127 84 (w.1 127 84)) 127 83 ((w.1 127 83) - (1 : Int32))) := wbd_127_83 hI12795
        have hI12797 : BND (sI (sI (sI w 127 84 (w.1 127 84)) 127 83 ((w.1 127 83) - (1 : Int32))) 127 84 ((sI (sI w 127 84 (w.1 127 84)) 127 83 ((w.1 127 83) - (1 : Int32))).1 127 84)) := wbd_127_84 hI12796
        have hI12798 : BND (sI (sI (sI (sI w 127 84 (w.1 127 84)) 127 83 ((w.1 127 83) - (1 : Int32))) 127 84 ((sI (sI w 127 84 (w.1 127 84)) 127 83 ((w.1 127 83) - (1 : Int32))).1 127 84)) 127 83 (((sI (sI w 127 84 (w.1 127 84)) 127 83 ((w.1 127 83) - (1 : Int32))).1 127 83) - (1 : Int32))) := wbd_127_83 hI12797
        exact hQ _ hI12798 (FR.I (FR.I (FR.I (FR.I (FR.refl _ w) (k := 127) (j := 84) (v := (w.1 127 84)) rfl) (k := 127) (j := 83) (v := ((w.1 127 83) - (1 : Int32))) rfl) (k := 127) (j := 84) (v := ((sI (sI w 127 84 (w.1 127 84)) 127 83 ((w.1 127 83) - (1 : Int32))).1 127 84)) rfl) (k := 127) (j := 83) (v := (((sI (sI w 127 84 (w.1 127 84)) 127 83 ((w.1 127 83) - (1 : Int32))).1 127 83) - (1 : Int32))) rfl) 
      · have hI12799 : BND (sI w 127 84 (w.1 127 84)) := wbd_127_84 hI
        have hI12800 : BND (sI (sI w 127 84 (w.1 127 84)) 127 83 ((w.1 127 83) - (1 : Int32))) := wbd_127_83 hI12799
        have hI12801 : BND (sI (sI (sI w 127 84 (w.1 127 84)) 127 83 ((w.1 127 83) - (1 : Int32))) 127 84 45) := wbd_127_84 hI12800
        have hI12802 : BND (sI (sI (sI (sI w 127 84 (w.1 127 84)) 127 83 ((w.1 127 83) - (1 : Int32))) 127 84 45) 127 83 (((sI (sI w 127 84 (w.1 127 84)) 127 83 ((w.1 127 83) - (1 : Int32))).1 127 83) - (1 : Int32))) := wbd_127_83 hI12801
        exact hQ _ hI12802 (FR.I (FR.I (FR.I (FR.I (FR.refl _ w) (k := 127) (j := 84) (v := (w.1 127 84)) rfl) (k := 127) (j := 83) (v := ((w.1 127 83) - (1 : Int32))) rfl) (k := 127) (j := 84) (v := 45) rfl) (k := 127) (j := 83) (v := (((sI (sI w 127 84 (w.1 127 84)) 127 83 ((w.1 127 83) - (1 : Int32))).1 127 83) - (1 : Int32))) rfl) 
  · refine ⟨fun h12803 => ?_, fun h12803 => ?_⟩
    · have hI12804 : BND (sI w 127 84 32) := wbd_127_84 hI
      have hI12805 : BND (sI (sI w 127 84 32) 127 83 ((w.1 127 83) - (1 : Int32))) := wbd_127_83 hI12804
      have o12806 : (0 ≤ a0.toInt) ∧ (a0.toInt ≤ 100000) ∧ (1 ≤ (1 : Int32).toInt) ∧ ((1 : Int32).toInt ≤ 1000000) := by have := (by decide : ((1 : Int32)).toInt = 1); have := (by decide : ((0 : Int32)).toInt = 0); exact ⟨by omega, by omega, by omega, by omega⟩
      refine hq_Mo_sayNumber_19 FU _ (sI (sI w 127 84 32) 127 83 ((w.1 127 83) - (1 : Int32))) hI12805  o12806.1 o12806.2.1 o12806.2.2.1 o12806.2.2.2 (fu_lt (by have := (by decide : ((1 : Int32)).toInt = 1); have := (by decide : ((0 : Int32)).toInt = 0); omega)) (fun e12810 w12807 hI12808 hL12809 p12811 p12812 => ?_) (fun w9 hI9 hF9 q0 => q0.elim)
      have hF12813 : FR l_Mo_sayNumber w w12807 := (FR.I (FR.I (FR.refl _ w) (k := 127) (j := 84) (v := 32) rfl) (k := 127) (j := 83) (v := ((w.1 127 83) - (1 : Int32))) rfl).tr hL12809 rfl
      have o12814 : (0 ≤ a0.toInt) ∧ (a0.toInt ≤ 100000) ∧ (0 ≤ e12810.toInt) ∧ (e12810.toInt ≤ 1000000) := by have := (by decide : ((0 : Int32)).toInt = 0); exact ⟨by omega, by omega, by omega, by omega⟩
      refine hq_Mo_sayNumber_37 FU _ w12807 hI12808  o12814.1 o12814.2.1 o12814.2.2.1 o12814.2.2.2 (fu_lt (by have := (by decide : ((0 : Int32)).toInt = 0); omega)) (fun w12815 hI12816 hL12817  => ?_) (fun w9 hI9 hF9 q0 => q0.elim)
      have hF12818 : FR l_Mo_sayNumber w w12815 := hF12813.tr hL12817 rfl
      exact hQ _ hI12816 hF12818 
    · refine Eq.mpr (p_Mo_letter.eq_1 _ _ _) ?_
      refine ⟨fun h12819 => ?_, fun h12819 => ?_⟩
      · have hI12820 : BND (sI w 127 84 32) := wbd_127_84 hI
        have hI12821 : BND (sI (sI w 127 84 32) 127 83 ((w.1 127 83) - (1 : Int32))) := wbd_127_83 hI12820
        have hI12822 : BND (sI (sI (sI w 127 84 32) 127 83 ((w.1 127 83) - (1 : Int32))) 127 84 ((sI (sI w 127 84 32) 127 83 ((w.1 127 83) - (1 : Int32))).1 127 84)) := wbd_127_84 hI12821
        have hI12823 : BND (sI (sI (sI (sI w 127 84 32) 127 83 ((w.1 127 83) - (1 : Int32))) 127 84 ((sI (sI w 127 84 32) 127 83 ((w.1 127 83) - (1 : Int32))).1 127 84)) 127 83 (((sI (sI w 127 84 32) 127 83 ((w.1 127 83) - (1 : Int32))).1 127 83) - (1 : Int32))) := wbd_127_83 hI12822
        exact hQ _ hI12823 (FR.I (FR.I (FR.I (FR.I (FR.refl _ w) (k := 127) (j := 84) (v := 32) rfl) (k := 127) (j := 83) (v := ((w.1 127 83) - (1 : Int32))) rfl) (k := 127) (j := 84) (v := ((sI (sI w 127 84 32) 127 83 ((w.1 127 83) - (1 : Int32))).1 127 84)) rfl) (k := 127) (j := 83) (v := (((sI (sI w 127 84 32) 127 83 ((w.1 127 83) - (1 : Int32))).1 127 83) - (1 : Int32))) rfl) 
      · exfalso; have := (by decide : ((0 : Int32)).toInt = 0); have : ((sI (sI w 127 84 32) 127 83 ((w.1 127 83) - (1 : Int32))).1 127 83).toInt = ((w.1 127 83) - (1 : Int32)).toInt := rfl; have := ti_sub2 (Eq.refl (w.1 127 83).toInt) (by decide : ((1 : Int32)).toInt = 1) (by omega) (by omega); omega
def l_Mo_write_59 : Pl := [(127, some 83), (127, some 84)]
def l_Mo_write_12 : Pl := [(127, some 83), (127, some 84)]
def l_Mo_write_116 : Pl := [(127, some 83), (127, some 84)]
def l_Mo_write : Pl := [(127, some 83), (127, some 84)]
set_option maxRecDepth 20000 in
set_option maxHeartbeats 2000000 in
theorem hq_Mo_write_12 {x12_1 : Int32} {E : MW → Prop} {Q : Int32 → MW → Prop} (n : Nat) : ∀ (x12_2 : Int32) (w : MW), BND w → 0 ≤ x12_2.toInt → x12_2.toInt ≤ 20 → (20 - x12_2.toInt).toNat < n → (∀ (w' : MW), BND w' → FR l_Mo_write_12 w w' → E w') → (∀ (r : Int32) (w' : MW), BND w' → FR l_Mo_write_12 w w' → False → Q r w') → q_Mo_write_12 x12_1 E Q n x12_2 w := by
  induction n with
  | zero => intros; omega
  | succ n ih =>
    intro x12_2 w hI  hp0 hp1 hm hE hQ
    rw [q_Mo_write_12.eq_2]
    refine ⟨fun h12824 => ?_, fun h12824 => ?_⟩
    · exact hE _ hI (FR.refl _ w)
    · refine ⟨fun h12825 => ?_, fun h12825 => ?_⟩
      · exact hE _ hI (FR.refl _ w)
      · have o12826 : 0 ≤ x12_2.toInt ∧ x12_2.toInt < 20 := by have := bd_127_4 hI; omega
        refine ⟨o12826, ?_⟩
        refine ⟨fun h12827 => ?_, fun h12827 => ?_⟩
        · have o12828 : 0 ≤ x12_2.toInt ∧ x12_2.toInt < 20 := by have := bd_127_4 hI; omega
          refine ⟨o12828, ?_⟩
          refine ⟨fun h12829 => ?_, fun h12829 => ?_⟩
          · refine Eq.mpr (q_Mo_write_59.eq_1 _ _ _ _ _ _ _) ?_
            have o12830 : (1701865840 ≤ (435778511222 : Int64).toInt) ∧ ((435778511222 : Int64).toInt ≤ 435778511222) := by have := (by decide : ((435778511222 : Int64)).toInt = 435778511222); exact ⟨by omega, by omega⟩
            refine h_Mo_say hI  o12830.1 o12830.2 (fun w12831 hI12832 hL12833  => ?_)
            have hF12835 : FR l_Mo_write_12 w w12831 := (FR.refl _ w).tr hL12833 rfl
            have o12836 : 0 ≤ x12_2.toInt ∧ x12_2.toInt < 20 := by have := bd_127_4 hI; omega
            refine ⟨o12836, ?_⟩
            refine ⟨fun h12837 => ?_, fun h12837 => ?_⟩
            · refine Eq.mpr (p_Mo_letter.eq_1 _ _ _) ?_
              refine ⟨fun h12838 => ?_, fun h12838 => ?_⟩
              · have hI12839 : BND (sI w12831 127 84 (w12831.1 127 84)) := wbd_127_84 hI12832
                have hI12840 : BND (sI (sI w12831 127 84 (w12831.1 127 84)) 127 83 ((w12831.1 127 83) - (1 : Int32))) := wbd_127_83 hI12839
                have o12841 : (0 ≤ (x12_2 + (1 : Int32)).toInt) ∧ ((x12_2 + (1 : Int32)).toInt ≤ 20) := by have := bd_127_4 hI; have := ti_add2 (Eq.refl x12_2.toInt) (by decide : ((1 : Int32)).toInt = 1) (by omega) (by omega); exact ⟨by omega, by omega⟩
                exact ih _ (sI (sI w12831 127 84 (w12831.1 127 84)) 127 83 ((w12831.1 127 83) - (1 : Int32))) hI12840  o12841.1 o12841.2 (by have := bd_127_4 hI; have := ti_add2 (Eq.refl x12_2.toInt) (by decide : ((1 : Int32)).toInt = 1) (by omega) (by omega); omega) (fun w9 hI9 hF9 => hE w9 hI9 ((FR.I (FR.I hF12835 (k := 127) (j := 84) (v := (w12831.1 127 84)) rfl) (k := 127) (j := 83) (v := ((w12831.1 127 83) - (1 : Int32))) rfl).tr hF9 rfl) ) (fun r w9 hI9 hF9 q0 => q0.elim)
              · have hI12842 : BND (sI w12831 127 84 10) := wbd_127_84 hI12832
                have hI12843 : BND (sI (sI w12831 127 84 10) 127 83 ((w12831.1 127 83) - (1 : Int32))) := wbd_127_83 hI12842
                have o12844 : (0 ≤ (x12_2 + (1 : Int32)).toInt) ∧ ((x12_2 + (1 : Int32)).toInt ≤ 20) := by have := bd_127_4 hI; have := ti_add2 (Eq.refl x12_2.toInt) (by decide : ((1 : Int32)).toInt = 1) (by omega) (by omega); exact ⟨by omega, by omega⟩
                exact ih _ (sI (sI w12831 127 84 10) 127 83 ((w12831.1 127 83) - (1 : Int32))) hI12843  o12844.1 o12844.2 (by have := bd_127_4 hI; have := ti_add2 (Eq.refl x12_2.toInt) (by decide : ((1 : Int32)).toInt = 1) (by omega) (by omega); omega) (fun w9 hI9 hF9 => hE w9 hI9 ((FR.I (FR.I hF12835 (k := 127) (j := 84) (v := 10) rfl) (k := 127) (j := 83) (v := ((w12831.1 127 83) - (1 : Int32))) rfl).tr hF9 rfl) ) (fun r w9 hI9 hF9 q0 => q0.elim)
            · have o12845 : 0 ≤ x12_2.toInt ∧ x12_2.toInt < 20 := by have := bd_127_4 hI; omega
              refine ⟨o12845, ?_⟩
              refine ⟨fun h12846 => ?_, fun h12846 => ?_⟩
              · have o12847 : 0 ≤ x12_2.toInt ∧ x12_2.toInt < 20 := by have := bd_127_4 hI; omega
                refine ⟨o12847, ?_⟩
                have o12848 : ((-1) ≤ ((w12831.1 163 x12_2.toInt.toNat) - (2 : Int32)).toInt) ∧ (((w12831.1 163 x12_2.toInt.toNat) - (2 : Int32)).toInt ≤ 100000) := by have := bd_163 hI12832 x12_2.toInt.toNat; have := bd_163 hI x12_2.toInt.toNat; have := (congrArg Int32.toInt (hL12833 163 x12_2.toInt.toNat rfl).1); have := (by decide : ((0 : Int32)).toInt = 0); have := (by decide : ((1 : Int32)).toInt = 1); have := ti_sub2 (Eq.refl (w12831.1 163 x12_2.toInt.toNat).toInt) (by decide : ((2 : Int32)).toInt = 2) (by omega) (by omega); exact ⟨by omega, by omega⟩
                refine h_Mo_sayNumber hI12832  o12848.1 o12848.2 (fun w12849 hI12850 hL12851  => ?_)
                have hF12853 : FR l_Mo_write_12 w w12849 := hF12835.tr hL12851 rfl
                refine Eq.mpr (p_Mo_letter.eq_1 _ _ _) ?_
                refine ⟨fun h12854 => ?_, fun h12854 => ?_⟩
                · have hI12855 : BND (sI w12849 127 84 (w12849.1 127 84)) := wbd_127_84 hI12850
                  have hI12856 : BND (sI (sI w12849 127 84 (w12849.1 127 84)) 127 83 ((w12849.1 127 83) - (1 : Int32))) := wbd_127_83 hI12855
                  have o12857 : (0 ≤ (x12_2 + (1 : Int32)).toInt) ∧ ((x12_2 + (1 : Int32)).toInt ≤ 20) := by have := bd_127_4 hI; have := ti_add2 (Eq.refl x12_2.toInt) (by decide : ((1 : Int32)).toInt = 1) (by omega) (by omega); exact ⟨by omega, by omega⟩
                  exact ih _ (sI (sI w12849 127 84 (w12849.1 127 84)) 127 83 ((w12849.1 127 83) - (1 : Int32))) hI12856  o12857.1 o12857.2 (by have := bd_127_4 hI; have := ti_add2 (Eq.refl x12_2.toInt) (by decide : ((1 : Int32)).toInt = 1) (by omega) (by omega); omega) (fun w9 hI9 hF9 => hE w9 hI9 ((FR.I (FR.I hF12853 (k := 127) (j := 84) (v := (w12849.1 127 84)) rfl) (k := 127) (j := 83) (v := ((w12849.1 127 83) - (1 : Int32))) rfl).tr hF9 rfl) ) (fun r w9 hI9 hF9 q0 => q0.elim)
                · have hI12858 : BND (sI w12849 127 84 10) := wbd_127_84 hI12850
                  have hI12859 : BND (sI (sI w12849 127 84 10) 127 83 ((w12849.1 127 83) - (1 : Int32))) := wbd_127_83 hI12858
                  have o12860 : (0 ≤ (x12_2 + (1 : Int32)).toInt) ∧ ((x12_2 + (1 : Int32)).toInt ≤ 20) := by have := bd_127_4 hI; have := ti_add2 (Eq.refl x12_2.toInt) (by decide : ((1 : Int32)).toInt = 1) (by omega) (by omega); exact ⟨by omega, by omega⟩
                  exact ih _ (sI (sI w12849 127 84 10) 127 83 ((w12849.1 127 83) - (1 : Int32))) hI12859  o12860.1 o12860.2 (by have := bd_127_4 hI; have := ti_add2 (Eq.refl x12_2.toInt) (by decide : ((1 : Int32)).toInt = 1) (by omega) (by omega); omega) (fun w9 hI9 hF9 => hE w9 hI9 ((FR.I (FR.I hF12853 (k := 127) (j := 84) (v := 10) rfl) (k := 127) (j := 83) (v := ((w12849.1 127 83) - (1 : Int32))) rfl).tr hF9 rfl) ) (fun r w9 hI9 hF9 q0 => q0.elim)
              · have o12861 : 0 ≤ x12_2.toInt ∧ x12_2.toInt < 20 := by have := bd_127_4 hI; omega
                refine ⟨o12861, ?_⟩
                have o12862 : ((-1) ≤ (w12831.1 164 x12_2.toInt.toNat).toInt) ∧ ((w12831.1 164 x12_2.toInt.toNat).toInt ≤ 100000) := by have := bd_164 hI12832 x12_2.toInt.toNat; have := bd_164 hI x12_2.toInt.toNat; have := (congrArg Int32.toInt (hL12833 164 x12_2.toInt.toNat rfl).1); exact ⟨by omega, by omega⟩
                refine h_Mo_sayNumber hI12832  o12862.1 o12862.2 (fun w12863 hI12864 hL12865  => ?_)
                have hF12867 : FR l_Mo_write_12 w w12863 := hF12835.tr hL12865 rfl
                refine Eq.mpr (p_Mo_letter.eq_1 _ _ _) ?_
                refine ⟨fun h12868 => ?_, fun h12868 => ?_⟩
                · have hI12869 : BND (sI w12863 127 84 (w12863.1 127 84)) := wbd_127_84 hI12864
                  have hI12870 : BND (sI (sI w12863 127 84 (w12863.1 127 84)) 127 83 ((w12863.1 127 83) - (1 : Int32))) := wbd_127_83 hI12869
                  have o12871 : (0 ≤ (x12_2 + (1 : Int32)).toInt) ∧ ((x12_2 + (1 : Int32)).toInt ≤ 20) := by have := bd_127_4 hI; have := ti_add2 (Eq.refl x12_2.toInt) (by decide : ((1 : Int32)).toInt = 1) (by omega) (by omega); exact ⟨by omega, by omega⟩
                  exact ih _ (sI (sI w12863 127 84 (w12863.1 127 84)) 127 83 ((w12863.1 127 83) - (1 : Int32))) hI12870  o12871.1 o12871.2 (by have := bd_127_4 hI; have := ti_add2 (Eq.refl x12_2.toInt) (by decide : ((1 : Int32)).toInt = 1) (by omega) (by omega); omega) (fun w9 hI9 hF9 => hE w9 hI9 ((FR.I (FR.I hF12867 (k := 127) (j := 84) (v := (w12863.1 127 84)) rfl) (k := 127) (j := 83) (v := ((w12863.1 127 83) - (1 : Int32))) rfl).tr hF9 rfl) ) (fun r w9 hI9 hF9 q0 => q0.elim)
                · have hI12872 : BND (sI w12863 127 84 10) := wbd_127_84 hI12864
                  have hI12873 : BND (sI (sI w12863 127 84 10) 127 83 ((w12863.1 127 83) - (1 : Int32))) := wbd_127_83 hI12872
                  have o12874 : (0 ≤ (x12_2 + (1 : Int32)).toInt) ∧ ((x12_2 + (1 : Int32)).toInt ≤ 20) := by have := bd_127_4 hI; have := ti_add2 (Eq.refl x12_2.toInt) (by decide : ((1 : Int32)).toInt = 1) (by omega) (by omega); exact ⟨by omega, by omega⟩
                  exact ih _ (sI (sI w12863 127 84 10) 127 83 ((w12863.1 127 83) - (1 : Int32))) hI12873  o12874.1 o12874.2 (by have := bd_127_4 hI; have := ti_add2 (Eq.refl x12_2.toInt) (by decide : ((1 : Int32)).toInt = 1) (by omega) (by omega); omega) (fun w9 hI9 hF9 => hE w9 hI9 ((FR.I (FR.I hF12867 (k := 127) (j := 84) (v := 10) rfl) (k := 127) (j := 83) (v := ((w12863.1 127 83) - (1 : Int32))) rfl).tr hF9 rfl) ) (fun r w9 hI9 hF9 q0 => q0.elim)
          · refine Eq.mpr (q_Mo_write_59.eq_1 _ _ _ _ _ _ _) ?_
            have o12875 : (1701865840 ≤ (1886221680 : Int64).toInt) ∧ ((1886221680 : Int64).toInt ≤ 435778511222) := by have := (by decide : ((1886221680 : Int64)).toInt = 1886221680); exact ⟨by omega, by omega⟩
            refine h_Mo_say hI  o12875.1 o12875.2 (fun w12876 hI12877 hL12878  => ?_)
            have hF12880 : FR l_Mo_write_12 w w12876 := (FR.refl _ w).tr hL12878 rfl
            have o12881 : 0 ≤ x12_2.toInt ∧ x12_2.toInt < 20 := by have := bd_127_4 hI; omega
            refine ⟨o12881, ?_⟩
            refine ⟨fun h12882 => ?_, fun h12882 => ?_⟩
            · refine Eq.mpr (p_Mo_letter.eq_1 _ _ _) ?_
              refine ⟨fun h12883 => ?_, fun h12883 => ?_⟩
              · have hI12884 : BND (sI w12876 127 84 (w12876.1 127 84)) := wbd_127_84 hI12877
                have hI12885 : BND (sI (sI w12876 127 84 (w12876.1 127 84)) 127 83 ((w12876.1 127 83) - (1 : Int32))) := wbd_127_83 hI12884
                have o12886 : (0 ≤ (x12_2 + (1 : Int32)).toInt) ∧ ((x12_2 + (1 : Int32)).toInt ≤ 20) := by have := bd_127_4 hI; have := ti_add2 (Eq.refl x12_2.toInt) (by decide : ((1 : Int32)).toInt = 1) (by omega) (by omega); exact ⟨by omega, by omega⟩
                exact ih _ (sI (sI w12876 127 84 (w12876.1 127 84)) 127 83 ((w12876.1 127 83) - (1 : Int32))) hI12885  o12886.1 o12886.2 (by have := bd_127_4 hI; have := ti_add2 (Eq.refl x12_2.toInt) (by decide : ((1 : Int32)).toInt = 1) (by omega) (by omega); omega) (fun w9 hI9 hF9 => hE w9 hI9 ((FR.I (FR.I hF12880 (k := 127) (j := 84) (v := (w12876.1 127 84)) rfl) (k := 127) (j := 83) (v := ((w12876.1 127 83) - (1 : Int32))) rfl).tr hF9 rfl) ) (fun r w9 hI9 hF9 q0 => q0.elim)
              · have hI12887 : BND (sI w12876 127 84 10) := wbd_127_84 hI12877
                have hI12888 : BND (sI (sI w12876 127 84 10) 127 83 ((w12876.1 127 83) - (1 : Int32))) := wbd_127_83 hI12887
                have o12889 : (0 ≤ (x12_2 + (1 : Int32)).toInt) ∧ ((x12_2 + (1 : Int32)).toInt ≤ 20) := by have := bd_127_4 hI; have := ti_add2 (Eq.refl x12_2.toInt) (by decide : ((1 : Int32)).toInt = 1) (by omega) (by omega); exact ⟨by omega, by omega⟩
                exact ih _ (sI (sI w12876 127 84 10) 127 83 ((w12876.1 127 83) - (1 : Int32))) hI12888  o12889.1 o12889.2 (by have := bd_127_4 hI; have := ti_add2 (Eq.refl x12_2.toInt) (by decide : ((1 : Int32)).toInt = 1) (by omega) (by omega); omega) (fun w9 hI9 hF9 => hE w9 hI9 ((FR.I (FR.I hF12880 (k := 127) (j := 84) (v := 10) rfl) (k := 127) (j := 83) (v := ((w12876.1 127 83) - (1 : Int32))) rfl).tr hF9 rfl) ) (fun r w9 hI9 hF9 q0 => q0.elim)
            · have o12890 : 0 ≤ x12_2.toInt ∧ x12_2.toInt < 20 := by have := bd_127_4 hI; omega
              refine ⟨o12890, ?_⟩
              refine ⟨fun h12891 => ?_, fun h12891 => ?_⟩
              · have o12892 : 0 ≤ x12_2.toInt ∧ x12_2.toInt < 20 := by have := bd_127_4 hI; omega
                refine ⟨o12892, ?_⟩
                have o12893 : ((-1) ≤ ((w12876.1 163 x12_2.toInt.toNat) - (2 : Int32)).toInt) ∧ (((w12876.1 163 x12_2.toInt.toNat) - (2 : Int32)).toInt ≤ 100000) := by have := bd_163 hI12877 x12_2.toInt.toNat; have := bd_163 hI x12_2.toInt.toNat; have := (congrArg Int32.toInt (hL12878 163 x12_2.toInt.toNat rfl).1); have := (by decide : ((0 : Int32)).toInt = 0); have := (by decide : ((1 : Int32)).toInt = 1); have := ti_sub2 (Eq.refl (w12876.1 163 x12_2.toInt.toNat).toInt) (by decide : ((2 : Int32)).toInt = 2) (by omega) (by omega); exact ⟨by omega, by omega⟩
                refine h_Mo_sayNumber hI12877  o12893.1 o12893.2 (fun w12894 hI12895 hL12896  => ?_)
                have hF12898 : FR l_Mo_write_12 w w12894 := hF12880.tr hL12896 rfl
                refine Eq.mpr (p_Mo_letter.eq_1 _ _ _) ?_
                refine ⟨fun h12899 => ?_, fun h12899 => ?_⟩
                · have hI12900 : BND (sI w12894 127 84 (w12894.1 127 84)) := wbd_127_84 hI12895
                  have hI12901 : BND (sI (sI w12894 127 84 (w12894.1 127 84)) 127 83 ((w12894.1 127 83) - (1 : Int32))) := wbd_127_83 hI12900
                  have o12902 : (0 ≤ (x12_2 + (1 : Int32)).toInt) ∧ ((x12_2 + (1 : Int32)).toInt ≤ 20) := by have := bd_127_4 hI; have := ti_add2 (Eq.refl x12_2.toInt) (by decide : ((1 : Int32)).toInt = 1) (by omega) (by omega); exact ⟨by omega, by omega⟩
                  exact ih _ (sI (sI w12894 127 84 (w12894.1 127 84)) 127 83 ((w12894.1 127 83) - (1 : Int32))) hI12901  o12902.1 o12902.2 (by have := bd_127_4 hI; have := ti_add2 (Eq.refl x12_2.toInt) (by decide : ((1 : Int32)).toInt = 1) (by omega) (by omega); omega) (fun w9 hI9 hF9 => hE w9 hI9 ((FR.I (FR.I hF12898 (k := 127) (j := 84) (v := (w12894.1 127 84)) rfl) (k := 127) (j := 83) (v := ((w12894.1 127 83) - (1 : Int32))) rfl).tr hF9 rfl) ) (fun r w9 hI9 hF9 q0 => q0.elim)
                · have hI12903 : BND (sI w12894 127 84 10) := wbd_127_84 hI12895
                  have hI12904 : BND (sI (sI w12894 127 84 10) 127 83 ((w12894.1 127 83) - (1 : Int32))) := wbd_127_83 hI12903
                  have o12905 : (0 ≤ (x12_2 + (1 : Int32)).toInt) ∧ ((x12_2 + (1 : Int32)).toInt ≤ 20) := by have := bd_127_4 hI; have := ti_add2 (Eq.refl x12_2.toInt) (by decide : ((1 : Int32)).toInt = 1) (by omega) (by omega); exact ⟨by omega, by omega⟩
                  exact ih _ (sI (sI w12894 127 84 10) 127 83 ((w12894.1 127 83) - (1 : Int32))) hI12904  o12905.1 o12905.2 (by have := bd_127_4 hI; have := ti_add2 (Eq.refl x12_2.toInt) (by decide : ((1 : Int32)).toInt = 1) (by omega) (by omega); omega) (fun w9 hI9 hF9 => hE w9 hI9 ((FR.I (FR.I hF12898 (k := 127) (j := 84) (v := 10) rfl) (k := 127) (j := 83) (v := ((w12894.1 127 83) - (1 : Int32))) rfl).tr hF9 rfl) ) (fun r w9 hI9 hF9 q0 => q0.elim)
              · have o12906 : 0 ≤ x12_2.toInt ∧ x12_2.toInt < 20 := by have := bd_127_4 hI; omega
                refine ⟨o12906, ?_⟩
                have o12907 : ((-1) ≤ (w12876.1 164 x12_2.toInt.toNat).toInt) ∧ ((w12876.1 164 x12_2.toInt.toNat).toInt ≤ 100000) := by have := bd_164 hI12877 x12_2.toInt.toNat; have := bd_164 hI x12_2.toInt.toNat; have := (congrArg Int32.toInt (hL12878 164 x12_2.toInt.toNat rfl).1); exact ⟨by omega, by omega⟩
                refine h_Mo_sayNumber hI12877  o12907.1 o12907.2 (fun w12908 hI12909 hL12910  => ?_)
                have hF12912 : FR l_Mo_write_12 w w12908 := hF12880.tr hL12910 rfl
                refine Eq.mpr (p_Mo_letter.eq_1 _ _ _) ?_
                refine ⟨fun h12913 => ?_, fun h12913 => ?_⟩
                · have hI12914 : BND (sI w12908 127 84 (w12908.1 127 84)) := wbd_127_84 hI12909
                  have hI12915 : BND (sI (sI w12908 127 84 (w12908.1 127 84)) 127 83 ((w12908.1 127 83) - (1 : Int32))) := wbd_127_83 hI12914
                  have o12916 : (0 ≤ (x12_2 + (1 : Int32)).toInt) ∧ ((x12_2 + (1 : Int32)).toInt ≤ 20) := by have := bd_127_4 hI; have := ti_add2 (Eq.refl x12_2.toInt) (by decide : ((1 : Int32)).toInt = 1) (by omega) (by omega); exact ⟨by omega, by omega⟩
                  exact ih _ (sI (sI w12908 127 84 (w12908.1 127 84)) 127 83 ((w12908.1 127 83) - (1 : Int32))) hI12915  o12916.1 o12916.2 (by have := bd_127_4 hI; have := ti_add2 (Eq.refl x12_2.toInt) (by decide : ((1 : Int32)).toInt = 1) (by omega) (by omega); omega) (fun w9 hI9 hF9 => hE w9 hI9 ((FR.I (FR.I hF12912 (k := 127) (j := 84) (v := (w12908.1 127 84)) rfl) (k := 127) (j := 83) (v := ((w12908.1 127 83) - (1 : Int32))) rfl).tr hF9 rfl) ) (fun r w9 hI9 hF9 q0 => q0.elim)
                · have hI12917 : BND (sI w12908 127 84 10) := wbd_127_84 hI12909
                  have hI12918 : BND (sI (sI w12908 127 84 10) 127 83 ((w12908.1 127 83) - (1 : Int32))) := wbd_127_83 hI12917
                  have o12919 : (0 ≤ (x12_2 + (1 : Int32)).toInt) ∧ ((x12_2 + (1 : Int32)).toInt ≤ 20) := by have := bd_127_4 hI; have := ti_add2 (Eq.refl x12_2.toInt) (by decide : ((1 : Int32)).toInt = 1) (by omega) (by omega); exact ⟨by omega, by omega⟩
                  exact ih _ (sI (sI w12908 127 84 10) 127 83 ((w12908.1 127 83) - (1 : Int32))) hI12918  o12919.1 o12919.2 (by have := bd_127_4 hI; have := ti_add2 (Eq.refl x12_2.toInt) (by decide : ((1 : Int32)).toInt = 1) (by omega) (by omega); omega) (fun w9 hI9 hF9 => hE w9 hI9 ((FR.I (FR.I hF12912 (k := 127) (j := 84) (v := 10) rfl) (k := 127) (j := 83) (v := ((w12908.1 127 83) - (1 : Int32))) rfl).tr hF9 rfl) ) (fun r w9 hI9 hF9 q0 => q0.elim)
        · refine Eq.mpr (q_Mo_write_59.eq_1 _ _ _ _ _ _ _) ?_
          have o12920 : (1701865840 ≤ (1802396020 : Int64).toInt) ∧ ((1802396020 : Int64).toInt ≤ 435778511222) := by have := (by decide : ((1802396020 : Int64)).toInt = 1802396020); exact ⟨by omega, by omega⟩
          refine h_Mo_say hI  o12920.1 o12920.2 (fun w12921 hI12922 hL12923  => ?_)
          have hF12925 : FR l_Mo_write_12 w w12921 := (FR.refl _ w).tr hL12923 rfl
          have o12926 : 0 ≤ x12_2.toInt ∧ x12_2.toInt < 20 := by have := bd_127_4 hI; omega
          refine ⟨o12926, ?_⟩
          refine ⟨fun h12927 => ?_, fun h12927 => ?_⟩
          · refine Eq.mpr (p_Mo_letter.eq_1 _ _ _) ?_
            refine ⟨fun h12928 => ?_, fun h12928 => ?_⟩
            · have hI12929 : BND (sI w12921 127 84 (w12921.1 127 84)) := wbd_127_84 hI12922
              have hI12930 : BND (sI (sI w12921 127 84 (w12921.1 127 84)) 127 83 ((w12921.1 127 83) - (1 : Int32))) := wbd_127_83 hI12929
              have o12931 : (0 ≤ (x12_2 + (1 : Int32)).toInt) ∧ ((x12_2 + (1 : Int32)).toInt ≤ 20) := by have := bd_127_4 hI; have := ti_add2 (Eq.refl x12_2.toInt) (by decide : ((1 : Int32)).toInt = 1) (by omega) (by omega); exact ⟨by omega, by omega⟩
              exact ih _ (sI (sI w12921 127 84 (w12921.1 127 84)) 127 83 ((w12921.1 127 83) - (1 : Int32))) hI12930  o12931.1 o12931.2 (by have := bd_127_4 hI; have := ti_add2 (Eq.refl x12_2.toInt) (by decide : ((1 : Int32)).toInt = 1) (by omega) (by omega); omega) (fun w9 hI9 hF9 => hE w9 hI9 ((FR.I (FR.I hF12925 (k := 127) (j := 84) (v := (w12921.1 127 84)) rfl) (k := 127) (j := 83) (v := ((w12921.1 127 83) - (1 : Int32))) rfl).tr hF9 rfl) ) (fun r w9 hI9 hF9 q0 => q0.elim)
            · have hI12932 : BND (sI w12921 127 84 10) := wbd_127_84 hI12922
              have hI12933 : BND (sI (sI w12921 127 84 10) 127 83 ((w12921.1 127 83) - (1 : Int32))) := wbd_127_83 hI12932
              have o12934 : (0 ≤ (x12_2 + (1 : Int32)).toInt) ∧ ((x12_2 + (1 : Int32)).toInt ≤ 20) := by have := bd_127_4 hI; have := ti_add2 (Eq.refl x12_2.toInt) (by decide : ((1 : Int32)).toInt = 1) (by omega) (by omega); exact ⟨by omega, by omega⟩
              exact ih _ (sI (sI w12921 127 84 10) 127 83 ((w12921.1 127 83) - (1 : Int32))) hI12933  o12934.1 o12934.2 (by have := bd_127_4 hI; have := ti_add2 (Eq.refl x12_2.toInt) (by decide : ((1 : Int32)).toInt = 1) (by omega) (by omega); omega) (fun w9 hI9 hF9 => hE w9 hI9 ((FR.I (FR.I hF12925 (k := 127) (j := 84) (v := 10) rfl) (k := 127) (j := 83) (v := ((w12921.1 127 83) - (1 : Int32))) rfl).tr hF9 rfl) ) (fun r w9 hI9 hF9 q0 => q0.elim)
          · have o12935 : 0 ≤ x12_2.toInt ∧ x12_2.toInt < 20 := by have := bd_127_4 hI; omega
            refine ⟨o12935, ?_⟩
            refine ⟨fun h12936 => ?_, fun h12936 => ?_⟩
            · have o12937 : 0 ≤ x12_2.toInt ∧ x12_2.toInt < 20 := by have := bd_127_4 hI; omega
              refine ⟨o12937, ?_⟩
              have o12938 : ((-1) ≤ ((w12921.1 163 x12_2.toInt.toNat) - (2 : Int32)).toInt) ∧ (((w12921.1 163 x12_2.toInt.toNat) - (2 : Int32)).toInt ≤ 100000) := by have := bd_163 hI12922 x12_2.toInt.toNat; have := bd_163 hI x12_2.toInt.toNat; have := (congrArg Int32.toInt (hL12923 163 x12_2.toInt.toNat rfl).1); have := (by decide : ((0 : Int32)).toInt = 0); have := (by decide : ((1 : Int32)).toInt = 1); have := ti_sub2 (Eq.refl (w12921.1 163 x12_2.toInt.toNat).toInt) (by decide : ((2 : Int32)).toInt = 2) (by omega) (by omega); exact ⟨by omega, by omega⟩
              refine h_Mo_sayNumber hI12922  o12938.1 o12938.2 (fun w12939 hI12940 hL12941  => ?_)
              have hF12943 : FR l_Mo_write_12 w w12939 := hF12925.tr hL12941 rfl
              refine Eq.mpr (p_Mo_letter.eq_1 _ _ _) ?_
              refine ⟨fun h12944 => ?_, fun h12944 => ?_⟩
              · have hI12945 : BND (sI w12939 127 84 (w12939.1 127 84)) := wbd_127_84 hI12940
                have hI12946 : BND (sI (sI w12939 127 84 (w12939.1 127 84)) 127 83 ((w12939.1 127 83) - (1 : Int32))) := wbd_127_83 hI12945
                have o12947 : (0 ≤ (x12_2 + (1 : Int32)).toInt) ∧ ((x12_2 + (1 : Int32)).toInt ≤ 20) := by have := bd_127_4 hI; have := ti_add2 (Eq.refl x12_2.toInt) (by decide : ((1 : Int32)).toInt = 1) (by omega) (by omega); exact ⟨by omega, by omega⟩
                exact ih _ (sI (sI w12939 127 84 (w12939.1 127 84)) 127 83 ((w12939.1 127 83) - (1 : Int32))) hI12946  o12947.1 o12947.2 (by have := bd_127_4 hI; have := ti_add2 (Eq.refl x12_2.toInt) (by decide : ((1 : Int32)).toInt = 1) (by omega) (by omega); omega) (fun w9 hI9 hF9 => hE w9 hI9 ((FR.I (FR.I hF12943 (k := 127) (j := 84) (v := (w12939.1 127 84)) rfl) (k := 127) (j := 83) (v := ((w12939.1 127 83) - (1 : Int32))) rfl).tr hF9 rfl) ) (fun r w9 hI9 hF9 q0 => q0.elim)
              · have hI12948 : BND (sI w12939 127 84 10) := wbd_127_84 hI12940
                have hI12949 : BND (sI (sI w12939 127 84 10) 127 83 ((w12939.1 127 83) - (1 : Int32))) := wbd_127_83 hI12948
                have o12950 : (0 ≤ (x12_2 + (1 : Int32)).toInt) ∧ ((x12_2 + (1 : Int32)).toInt ≤ 20) := by have := bd_127_4 hI; have := ti_add2 (Eq.refl x12_2.toInt) (by decide : ((1 : Int32)).toInt = 1) (by omega) (by omega); exact ⟨by omega, by omega⟩
                exact ih _ (sI (sI w12939 127 84 10) 127 83 ((w12939.1 127 83) - (1 : Int32))) hI12949  o12950.1 o12950.2 (by have := bd_127_4 hI; have := ti_add2 (Eq.refl x12_2.toInt) (by decide : ((1 : Int32)).toInt = 1) (by omega) (by omega); omega) (fun w9 hI9 hF9 => hE w9 hI9 ((FR.I (FR.I hF12943 (k := 127) (j := 84) (v := 10) rfl) (k := 127) (j := 83) (v := ((w12939.1 127 83) - (1 : Int32))) rfl).tr hF9 rfl) ) (fun r w9 hI9 hF9 q0 => q0.elim)
            · have o12951 : 0 ≤ x12_2.toInt ∧ x12_2.toInt < 20 := by have := bd_127_4 hI; omega
              refine ⟨o12951, ?_⟩
              have o12952 : ((-1) ≤ (w12921.1 164 x12_2.toInt.toNat).toInt) ∧ ((w12921.1 164 x12_2.toInt.toNat).toInt ≤ 100000) := by have := bd_164 hI12922 x12_2.toInt.toNat; have := bd_164 hI x12_2.toInt.toNat; have := (congrArg Int32.toInt (hL12923 164 x12_2.toInt.toNat rfl).1); exact ⟨by omega, by omega⟩
              refine h_Mo_sayNumber hI12922  o12952.1 o12952.2 (fun w12953 hI12954 hL12955  => ?_)
              have hF12957 : FR l_Mo_write_12 w w12953 := hF12925.tr hL12955 rfl
              refine Eq.mpr (p_Mo_letter.eq_1 _ _ _) ?_
              refine ⟨fun h12958 => ?_, fun h12958 => ?_⟩
              · have hI12959 : BND (sI w12953 127 84 (w12953.1 127 84)) := wbd_127_84 hI12954
                have hI12960 : BND (sI (sI w12953 127 84 (w12953.1 127 84)) 127 83 ((w12953.1 127 83) - (1 : Int32))) := wbd_127_83 hI12959
                have o12961 : (0 ≤ (x12_2 + (1 : Int32)).toInt) ∧ ((x12_2 + (1 : Int32)).toInt ≤ 20) := by have := bd_127_4 hI; have := ti_add2 (Eq.refl x12_2.toInt) (by decide : ((1 : Int32)).toInt = 1) (by omega) (by omega); exact ⟨by omega, by omega⟩
                exact ih _ (sI (sI w12953 127 84 (w12953.1 127 84)) 127 83 ((w12953.1 127 83) - (1 : Int32))) hI12960  o12961.1 o12961.2 (by have := bd_127_4 hI; have := ti_add2 (Eq.refl x12_2.toInt) (by decide : ((1 : Int32)).toInt = 1) (by omega) (by omega); omega) (fun w9 hI9 hF9 => hE w9 hI9 ((FR.I (FR.I hF12957 (k := 127) (j := 84) (v := (w12953.1 127 84)) rfl) (k := 127) (j := 83) (v := ((w12953.1 127 83) - (1 : Int32))) rfl).tr hF9 rfl) ) (fun r w9 hI9 hF9 q0 => q0.elim)
              · have hI12962 : BND (sI w12953 127 84 10) := wbd_127_84 hI12954
                have hI12963 : BND (sI (sI w12953 127 84 10) 127 83 ((w12953.1 127 83) - (1 : Int32))) := wbd_127_83 hI12962
                have o12964 : (0 ≤ (x12_2 + (1 : Int32)).toInt) ∧ ((x12_2 + (1 : Int32)).toInt ≤ 20) := by have := bd_127_4 hI; have := ti_add2 (Eq.refl x12_2.toInt) (by decide : ((1 : Int32)).toInt = 1) (by omega) (by omega); exact ⟨by omega, by omega⟩
                exact ih _ (sI (sI w12953 127 84 10) 127 83 ((w12953.1 127 83) - (1 : Int32))) hI12963  o12964.1 o12964.2 (by have := bd_127_4 hI; have := ti_add2 (Eq.refl x12_2.toInt) (by decide : ((1 : Int32)).toInt = 1) (by omega) (by omega); omega) (fun w9 hI9 hF9 => hE w9 hI9 ((FR.I (FR.I hF12957 (k := 127) (j := 84) (v := 10) rfl) (k := 127) (j := 83) (v := ((w12953.1 127 83) - (1 : Int32))) rfl).tr hF9 rfl) ) (fun r w9 hI9 hF9 q0 => q0.elim)
set_option maxRecDepth 20000 in
set_option maxHeartbeats 2000000 in
theorem hq_Mo_write_116 {x116_1 : Int32} {E : MW → Prop} {Q : Int32 → MW → Prop} (n : Nat) : ∀ (x116_2 : Int32) (w : MW), BND w → 0 ≤ x116_2.toInt → x116_2.toInt ≤ 24 → (24 - x116_2.toInt).toNat < n → (∀ (w' : MW), BND w' → FR l_Mo_write_116 w w' → E w') → (∀ (r : Int32) (w' : MW), BND w' → FR l_Mo_write_116 w w' → False → Q r w') → q_Mo_write_116 x116_1 E Q n x116_2 w := by
  induction n with
  | zero => intros; omega
  | succ n ih =>
    intro x116_2 w hI  hp0 hp1 hm hE hQ
    rw [q_Mo_write_116.eq_2]
    refine ⟨fun h12965 => ?_, fun h12965 => ?_⟩
    · exact hE _ hI (FR.refl _ w)
    · refine ⟨fun h12966 => ?_, fun h12966 => ?_⟩
      · exact hE _ hI (FR.refl _ w)
      · have o12967 : (1701865840 ≤ (1701865840 : Int64).toInt) ∧ ((1701865840 : Int64).toInt ≤ 435778511222) := by have := (by decide : ((1701865840 : Int64)).toInt = 1701865840); exact ⟨by omega, by omega⟩
        refine h_Mo_say hI  o12967.1 o12967.2 (fun w12968 hI12969 hL12970  => ?_)
        have hF12972 : FR l_Mo_write_116 w w12968 := (FR.refl _ w).tr hL12970 rfl
        have o12973 : 0 ≤ ((2 : Int32) * x116_2).toInt ∧ ((2 : Int32) * x116_2).toInt < 48 := by have := bd_127_11 hI; have := ti_mul2 (by decide : ((2 : Int32)).toInt = 2) (Eq.refl x116_2.toInt) (by omega) (by omega); omega
        refine ⟨o12973, ?_⟩
        have o12974 : ((-1) ≤ (w12968.1 170 (((2 : Int32) * x116_2).toInt.toNat)).toInt) ∧ ((w12968.1 170 (((2 : Int32) * x116_2).toInt.toNat)).toInt ≤ 100000) := by have := bd_170 hI12969 (((2 : Int32) * x116_2).toInt.toNat); have := bd_170 hI (((2 : Int32) * x116_2).toInt.toNat); have := (congrArg Int32.toInt (hL12970 170 (((2 : Int32) * x116_2).toInt.toNat) rfl).1); exact ⟨by omega, by omega⟩
        refine h_Mo_sayNumber hI12969  o12974.1 o12974.2 (fun w12975 hI12976 hL12977  => ?_)
        have hF12979 : FR l_Mo_write_116 w w12975 := hF12972.tr hL12977 rfl
        have o12980 : 0 ≤ (((2 : Int32) * x116_2) + (1 : Int32)).toInt ∧ (((2 : Int32) * x116_2) + (1 : Int32)).toInt < 48 := by have := bd_127_11 hI; have := ti_mul2 (by decide : ((2 : Int32)).toInt = 2) (Eq.refl x116_2.toInt) (by omega) (by omega); have := ti_add2 (Eq.refl ((2 : Int32) * x116_2).toInt) (by decide : ((1 : Int32)).toInt = 1) (by omega) (by omega); omega
        refine ⟨o12980, ?_⟩
        have o12981 : ((-1) ≤ (w12975.1 170 ((((2 : Int32) * x116_2) + (1 : Int32)).toInt.toNat)).toInt) ∧ ((w12975.1 170 ((((2 : Int32) * x116_2) + (1 : Int32)).toInt.toNat)).toInt ≤ 100000) := by have := bd_170 hI12976 ((((2 : Int32) * x116_2) + (1 : Int32)).toInt.toNat); have := bd_170 hI12969 ((((2 : Int32) * x116_2) + (1 : Int32)).toInt.toNat); have := bd_170 hI ((((2 : Int32) * x116_2) + (1 : Int32)).toInt.toNat); have := (congrArg Int32.toInt (hL12970 170 ((((2 : Int32) * x116_2) + (1 : Int32)).toInt.toNat) rfl).1); have := (congrArg Int32.toInt (hL12977 170 ((((2 : Int32) * x116_2) + (1 : Int32)).toInt.toNat) rfl).1); exact ⟨by omega, by omega⟩
        refine h_Mo_sayNumber hI12976  o12981.1 o12981.2 (fun w12982 hI12983 hL12984  => ?_)
        have hF12986 : FR l_Mo_write_116 w w12982 := hF12979.tr hL12984 rfl
        have o12987 : 0 ≤ x116_2.toInt ∧ x116_2.toInt < 24 := by have := bd_127_11 hI; omega
        refine ⟨o12987, ?_⟩
        have o12988 : ((-1) ≤ (w12982.1 169 x116_2.toInt.toNat).toInt) ∧ ((w12982.1 169 x116_2.toInt.toNat).toInt ≤ 100000) := by have := bd_169 hI12983 x116_2.toInt.toNat; have := bd_169 hI12976 x116_2.toInt.toNat; have := bd_169 hI12969 x116_2.toInt.toNat; have := bd_169 hI x116_2.toInt.toNat; have := (congrArg Int32.toInt (hL12970 169 x116_2.toInt.toNat rfl).1); have := (congrArg Int32.toInt (hL12977 169 x116_2.toInt.toNat rfl).1); have := (congrArg Int32.toInt (hL12984 169 x116_2.toInt.toNat rfl).1); exact ⟨by omega, by omega⟩
        refine h_Mo_sayNumber hI12983  o12988.1 o12988.2 (fun w12989 hI12990 hL12991  => ?_)
        have hF12993 : FR l_Mo_write_116 w w12989 := hF12986.tr hL12991 rfl
        refine Eq.mpr (p_Mo_letter.eq_1 _ _ _) ?_
        refine ⟨fun h12994 => ?_, fun h12994 => ?_⟩
        · have hI12995 : BND (sI w12989 127 84 (w12989.1 127 84)) := wbd_127_84 hI12990
          have hI12996 : BND (sI (sI w12989 127 84 (w12989.1 127 84)) 127 83 ((w12989.1 127 83) - (1 : Int32))) := wbd_127_83 hI12995
          have o12997 : (0 ≤ (x116_2 + (1 : Int32)).toInt) ∧ ((x116_2 + (1 : Int32)).toInt ≤ 24) := by have := bd_127_11 hI; have := ti_add2 (Eq.refl x116_2.toInt) (by decide : ((1 : Int32)).toInt = 1) (by omega) (by omega); exact ⟨by omega, by omega⟩
          exact ih _ (sI (sI w12989 127 84 (w12989.1 127 84)) 127 83 ((w12989.1 127 83) - (1 : Int32))) hI12996  o12997.1 o12997.2 (by have := bd_127_11 hI; have := ti_add2 (Eq.refl x116_2.toInt) (by decide : ((1 : Int32)).toInt = 1) (by omega) (by omega); omega) (fun w9 hI9 hF9 => hE w9 hI9 ((FR.I (FR.I hF12993 (k := 127) (j := 84) (v := (w12989.1 127 84)) rfl) (k := 127) (j := 83) (v := ((w12989.1 127 83) - (1 : Int32))) rfl).tr hF9 rfl) ) (fun r w9 hI9 hF9 q0 => q0.elim)
        · have hI12998 : BND (sI w12989 127 84 10) := wbd_127_84 hI12990
          have hI12999 : BND (sI (sI w12989 127 84 10) 127 83 ((w12989.1 127 83) - (1 : Int32))) := wbd_127_83 hI12998
          have o13000 : (0 ≤ (x116_2 + (1 : Int32)).toInt) ∧ ((x116_2 + (1 : Int32)).toInt ≤ 24) := by have := bd_127_11 hI; have := ti_add2 (Eq.refl x116_2.toInt) (by decide : ((1 : Int32)).toInt = 1) (by omega) (by omega); exact ⟨by omega, by omega⟩
          exact ih _ (sI (sI w12989 127 84 10) 127 83 ((w12989.1 127 83) - (1 : Int32))) hI12999  o13000.1 o13000.2 (by have := bd_127_11 hI; have := ti_add2 (Eq.refl x116_2.toInt) (by decide : ((1 : Int32)).toInt = 1) (by omega) (by omega); omega) (fun w9 hI9 hF9 => hE w9 hI9 ((FR.I (FR.I hF12993 (k := 127) (j := 84) (v := 10) rfl) (k := 127) (j := 83) (v := ((w12989.1 127 83) - (1 : Int32))) rfl).tr hF9 rfl) ) (fun r w9 hI9 hF9 q0 => q0.elim)
set_option maxRecDepth 20000 in
set_option maxHeartbeats 2000000 in
theorem h_Mo_write {w : MW} {a0 : Int32} {Q : Int32 → MW → Prop} (hI : BND w)  (hQ : ∀ (r : Int32) (w' : MW), BND w' → FR l_Mo_write w w' → Q r w') : p_Mo_write w a0 Q := by
  refine Eq.mpr (p_Mo_write.eq_1 _ _ _) ?_
  have hI13001 : BND (sI w 127 83 a0) := wbd_127_83 hI
  have hI13002 : BND (sI (sI w 127 83 a0) 127 84 (-1)) := wbd_127_84 hI13001
  have o13003 : (0 ≤ (0 : Int32).toInt) ∧ ((0 : Int32).toInt ≤ 20) := by have := ti_lo a0; have := ti_hi a0; have := (by decide : ((0 : Int32)).toInt = 0); exact ⟨by omega, by omega⟩
  refine hq_Mo_write_12 FU _ (sI (sI w 127 83 a0) 127 84 (-1)) hI13002  o13003.1 o13003.2 (fu_lt (by have := ti_lo a0; have := ti_hi a0; have := (by decide : ((0 : Int32)).toInt = 0); omega)) (fun w13004 hI13005 hL13006  => ?_) (fun r w9 hI9 hF9 q0 => q0.elim)
  have hF13007 : FR l_Mo_write w w13004 := (FR.I (FR.I (FR.refl _ w) (k := 127) (j := 83) (v := a0) rfl) (k := 127) (j := 84) (v := (-1)) rfl).tr hL13006 rfl
  have o13008 : (0 ≤ (0 : Int32).toInt) ∧ ((0 : Int32).toInt ≤ 24) := by have := ti_lo a0; have := ti_hi a0; have := (by decide : ((0 : Int32)).toInt = 0); exact ⟨by omega, by omega⟩
  refine hq_Mo_write_116 FU _ w13004 hI13005  o13008.1 o13008.2 (fu_lt (by have := ti_lo a0; have := ti_hi a0; have := (by decide : ((0 : Int32)).toInt = 0); omega)) (fun w13009 hI13010 hL13011  => ?_) (fun r w9 hI9 hF9 q0 => q0.elim)
  have hF13012 : FR l_Mo_write w w13009 := hF13007.tr hL13011 rfl
  exact hQ _ _ hI13010 hF13012 
