def l_Rd_takeNewName : Pl := [(87, some 2), (87, some 3), (87, some 4), (87, some 5), (87, some 6), (87, some 7), (87, some 9)]
set_option maxRecDepth 20000 in
set_option maxHeartbeats 2000000 in
theorem h_Rd_takeNewName {w : MW} {Q : Int64 → MW → Prop} (hI : BND w) (hr_87_0 : w.2.2 87 0 = some 1) (hr_87_1 : w.2.2 87 1 = some 108)  (hQ : ∀ (r : Int64) (w' : MW), BND w' → FR l_Rd_takeNewName w w' → Q r w') : p_Rd_takeNewName w Q := by
  refine Eq.mpr (p_Rd_takeNewName.eq_1 _ _) ?_
  refine h_Rd_nextWord hI hr_87_0  (fun w3592 hI3593 hL3594  => ?_)
  have hF3596 : FR l_Rd_takeNewName w w3592 := (FR.refl _ w).tr hL3594 rfl
  refine ⟨fun h3597 => ?_, fun h3597 => ?_⟩
  · refine Eq.mpr (p_Rd_fail.eq_1 _ _) ?_
    refine ⟨fun h3598 => ?_, fun h3598 => ?_⟩
    · exact hQ _ _ hI3593 hF3596
    · have hI3599 : BND (sI w3592 87 9 (w3592.1 87 4)) := wbd_87_9 hI3593
      exact hQ _ _ hI3599 (FR.I hF3596 (k := 87) (j := 9) (v := (w3592.1 87 4)) rfl) 
  · refine ⟨((hL3594 87 1 rfl).2.2.trans hr_87_1), ?_⟩
    refine h_Pr_finds108 hI3593   (fun r3603 w3600 hI3601 hL3602 p3604 p3605 => ?_)
    have hF3606 : FR l_Rd_takeNewName w w3600 := hF3596.tr hL3602 rfl
    refine ⟨fun h3607 => ?_, fun h3607 => ?_⟩
    · refine Eq.mpr (p_Rd_fail.eq_1 _ _) ?_
      refine ⟨fun h3608 => ?_, fun h3608 => ?_⟩
      · exact hQ _ _ hI3601 hF3606
      · have hI3609 : BND (sI w3600 87 9 (w3600.1 87 4)) := wbd_87_9 hI3601
        exact hQ _ _ hI3609 (FR.I hF3606 (k := 87) (j := 9) (v := (w3600.1 87 4)) rfl) 
    · refine ⟨((hL3602 87 1 rfl).2.2.trans ((hL3594 87 1 rfl).2.2.trans hr_87_1)), ?_⟩
      refine ⟨fun h3610 => ?_, fun h3610 => ?_⟩
      · refine h_Rd_nextWord hI3601 ((hL3602 87 0 rfl).2.2.trans ((hL3594 87 0 rfl).2.2.trans hr_87_0))  (fun w3611 hI3612 hL3613  => ?_)
        have hF3615 : FR l_Rd_takeNewName w w3611 := hF3606.tr hL3613 rfl
        exact hQ _ _ hI3612 hF3615 
      · refine Eq.mpr (p_Rd_fail.eq_1 _ _) ?_
        refine ⟨fun h3616 => ?_, fun h3616 => ?_⟩
        · exact hQ _ _ hI3601 hF3606
        · have hI3617 : BND (sI w3600 87 9 (w3600.1 87 4)) := wbd_87_9 hI3601
          exact hQ _ _ hI3617 (FR.I hF3606 (k := 87) (j := 9) (v := (w3600.1 87 4)) rfl) 
def l_Rd_takeUnit : Pl := [(87, some 2), (87, some 3), (87, some 4), (87, some 5), (87, some 6), (87, some 7), (87, some 9)]
set_option maxRecDepth 20000 in
set_option maxHeartbeats 2000000 in
theorem h_Rd_takeUnit {w : MW} {Q : Int32 → MW → Prop} (hI : BND w) (hr_87_0 : w.2.2 87 0 = some 1)  (hQ : ∀ (r : Int32) (w' : MW), BND w' → FR l_Rd_takeUnit w w' → 0 ≤ r.toInt → r.toInt ≤ 5 → Q r w') : p_Rd_takeUnit w Q := by
  refine Eq.mpr (p_Rd_takeUnit.eq_1 _ _) ?_
  refine ⟨fun h3618 => ?_, fun h3618 => ?_⟩
  · have o3619 : (0 ≤ (0 : Int32).toInt) ∧ ((0 : Int32).toInt ≤ 5) := by have := (by decide : ((0 : Int32)).toInt = 0); exact ⟨by omega, by omega⟩
    exact hQ _ _ hI (FR.refl _ w)  o3619.1 o3619.2
  · refine ⟨fun h3620 => ?_, fun h3620 => ?_⟩
    · have o3621 : (0 ≤ (0 : Int32).toInt) ∧ ((0 : Int32).toInt ≤ 5) := by have := (by decide : ((0 : Int32)).toInt = 0); exact ⟨by omega, by omega⟩
      exact hQ _ _ hI (FR.refl _ w)  o3621.1 o3621.2
    · refine ⟨fun h3622 => ?_, fun h3622 => ?_⟩
      · refine h_Rd_nextWord hI hr_87_0  (fun w3623 hI3624 hL3625  => ?_)
        have hF3627 : FR l_Rd_takeUnit w w3623 := (FR.refl _ w).tr hL3625 rfl
        have o3628 : (0 ≤ (w.1 87 3).toInt) ∧ ((w.1 87 3).toInt ≤ 5) := by have := (by decide : ((1 : Int32)).toInt = 1); have := (by decide : ((5 : Int32)).toInt = 5); exact ⟨by omega, by omega⟩
        exact hQ _ _ hI3624 hF3627  o3628.1 o3628.2
      · have o3629 : (0 ≤ (0 : Int32).toInt) ∧ ((0 : Int32).toInt ≤ 5) := by have := (by decide : ((0 : Int32)).toInt = 0); exact ⟨by omega, by omega⟩
        exact hQ _ _ hI (FR.refl _ w)  o3629.1 o3629.2
def l_Rd_read_1_108_114 : Pl := [(87, some 2), (87, some 3), (87, some 4), (87, some 5), (87, some 6), (87, some 7), (87, some 9), (88, none), (89, none), (108, some 1), (108, some 10), (109, none), (110, none), (111, none), (112, none), (113, none), (114, none), (116, none), (117, none), (118, none), (119, none), (120, none), (121, none)]
def l_Rd_read_1_108_38 : Pl := [(87, some 2), (87, some 3), (87, some 4), (87, some 5), (87, some 6), (87, some 7), (87, some 8), (87, some 9), (88, none), (89, none), (108, some 0), (108, some 1), (108, some 10), (109, none), (110, none), (111, none), (112, none), (113, none), (114, none), (115, none), (116, none), (117, none), (118, none), (119, none), (120, none), (121, none)]
def l_Rd_read_1_108_172 : Pl := [(87, some 2), (87, some 3), (87, some 4), (87, some 5), (87, some 6), (87, some 7), (87, some 8), (87, some 9), (88, none), (89, none), (108, some 0), (108, some 1), (108, some 2), (109, none), (110, none), (111, none), (112, none), (113, none), (114, none), (115, none)]
def l_Rd_read_1_108 : Pl := [(87, some 0), (87, some 1), (87, some 2), (87, some 3), (87, some 4), (87, some 5), (87, some 6), (87, some 7), (87, some 8), (87, some 9), (88, none), (89, none), (108, some 0), (108, some 1), (108, some 2), (108, some 10), (109, none), (110, none), (111, none), (112, none), (113, none), (114, none), (115, none), (116, none), (117, none), (118, none), (119, none), (120, none), (121, none)]
set_option maxRecDepth 20000 in
set_option maxHeartbeats 2000000 in
theorem hq_Rd_read_1_108_38 {E : MW → Prop} {Q : Int32 → MW → Prop} (n : Nat) : ∀ (x38_3 : Int32) (w : MW), BND w → NK w → w.2.2 87 0 = some 1 → w.2.2 87 1 = some 108 → 0 ≤ x38_3.toInt → x38_3.toInt ≤ 4001 → (4001 - x38_3.toInt).toNat < n → (∀ (w' : MW), BND w' → FR l_Rd_read_1_108_38 w w' → NK w' → E w') → (∀ (r : Int32) (w' : MW), BND w' → FR l_Rd_read_1_108_38 w w' → NK w' → False → Q r w') → q_Rd_read_1_108_38 E Q n x38_3 w := by
  induction n with
  | zero => intros; omega
  | succ n ih =>
    intro x38_3 w hI hf_NK hr_87_0 hr_87_1 hp0 hp1 hm hE hQ
    rw [q_Rd_read_1_108_38.eq_2]
    refine ⟨fun h3630 => ?_, fun h3630 => ?_⟩
    · exact hE _ hI (FR.refl _ w) hf_NK
    · refine ⟨fun h3631 => ?_, fun h3631 => ?_⟩
      · exact hE _ hI (FR.refl _ w) hf_NK
      · refine ⟨fun h3632 => ?_, fun h3632 => ?_⟩
        · exact hE _ hI (FR.refl _ w) hf_NK
        · refine ⟨fun h3633 => ?_, fun h3633 => ?_⟩
          · exact hE _ hI (FR.refl _ w) hf_NK
          · refine h_Rd_takeNewName hI hr_87_0 hr_87_1  (fun r3637 w3634 hI3635 hL3636  => ?_)
            have hF3638 : FR l_Rd_read_1_108_38 w w3634 := (FR.refl _ w).tr hL3636 rfl
            refine ⟨fun h3639 => ?_, fun h3639 => ?_⟩
            · refine h_Rd_takeUnit hI3635 ((hL3636 87 0 rfl).2.2.trans hr_87_0)  (fun r3643 w3640 hI3641 hL3642 p3644 p3645 => ?_)
              have hF3646 : FR l_Rd_read_1_108_38 w w3640 := hF3638.tr hL3642 rfl
              refine Eq.mpr (q_Rd_read_1_108_114.eq_1 _ _ _ _ _ _ _ _ _) ?_
              refine ⟨fun _ => ?_, fun h => absurd h3639 h⟩
              have o3647 : (15 ≤ (59 : Int32).toInt) ∧ ((59 : Int32).toInt ≤ 125) := by have := (by decide : ((59 : Int32)).toInt = 59); exact ⟨by omega, by omega⟩
              refine h_Rd_take hI3641 ((hL3642 87 0 rfl).2.2.trans ((hL3636 87 0 rfl).2.2.trans hr_87_0)) o3647.1 o3647.2 (fun w3648 hI3649 hL3650  => ?_)
              have hF3652 : FR l_Rd_read_1_108_38 w w3648 := hF3646.tr hL3650 rfl
              refine ⟨((hL3650 87 1 rfl).2.2.trans ((hL3642 87 1 rfl).2.2.trans ((hL3636 87 1 rfl).2.2.trans hr_87_1))), ?_⟩
              refine Eq.mpr (p_Pr_addNames108.eq_1 _ _ _ _ _ _) ?_
              refine ⟨fun h3653 => ?_, fun h3653 => ?_⟩
              · have hW3654 : NK w3640 := (NK_fr hL3642 rfl (NK_fr hL3636 rfl hf_NK))
                have o3655 : (0 ≤ (x38_3 + (1 : Int32)).toInt) ∧ ((x38_3 + (1 : Int32)).toInt ≤ 4001) := by have := (by decide : ((4000 : Int32)).toInt = 4000); have := ti_add2 (Eq.refl x38_3.toInt) (by decide : ((1 : Int32)).toInt = 1) (by omega) (by omega); exact ⟨by omega, by omega⟩
                exact ih _ w3648 hI3649 (NK_fr hL3650 rfl hW3654) ((hL3650 87 0 rfl).2.2.trans ((hL3642 87 0 rfl).2.2.trans ((hL3636 87 0 rfl).2.2.trans hr_87_0))) ((hL3650 87 1 rfl).2.2.trans ((hL3642 87 1 rfl).2.2.trans ((hL3636 87 1 rfl).2.2.trans hr_87_1))) o3655.1 o3655.2 (by have := (by decide : ((4000 : Int32)).toInt = 4000); have := ti_add2 (Eq.refl x38_3.toInt) (by decide : ((1 : Int32)).toInt = 1) (by omega) (by omega); omega) (fun w9 hI9 hF9 hl9_NK => hE w9 hI9 (hF3652.tr hF9 rfl) hl9_NK ) (fun r w9 hI9 hF9 hl9_NK q0 => q0.elim)
              · have o3656 : 0 ≤ (w3648.1 108 10).toInt ∧ (w3648.1 108 10).toInt < 40 := by have := bd_108_10 hI3649; have := bd_108_10 hI3641; have := bd_108_10 hI3635; have := bd_108_10 hI; have := (congrArg Int32.toInt (hL3636 108 10 rfl).1); have := (congrArg Int32.toInt (hL3642 108 10 rfl).1); have := (congrArg Int32.toInt (hL3650 108 10 rfl).1); have := (by decide : ((40 : Int32)).toInt = 40); omega
                refine ⟨o3656, ?_⟩
                have o3657 : 0 ≤ (w3648.1 108 10).toInt ∧ (w3648.1 108 10).toInt < 40 := by have := bd_108_10 hI3649; have := bd_108_10 hI3641; have := bd_108_10 hI3635; have := bd_108_10 hI; have := (congrArg Int32.toInt (hL3636 108 10 rfl).1); have := (congrArg Int32.toInt (hL3642 108 10 rfl).1); have := (congrArg Int32.toInt (hL3650 108 10 rfl).1); have := (by decide : ((40 : Int32)).toInt = 40); omega
                refine ⟨o3657, ?_⟩
                have o3658 : 0 ≤ (w3648.1 108 10).toInt ∧ (w3648.1 108 10).toInt < 40 := by have := bd_108_10 hI3649; have := bd_108_10 hI3641; have := bd_108_10 hI3635; have := bd_108_10 hI; have := (congrArg Int32.toInt (hL3636 108 10 rfl).1); have := (congrArg Int32.toInt (hL3642 108 10 rfl).1); have := (congrArg Int32.toInt (hL3650 108 10 rfl).1); have := (by decide : ((40 : Int32)).toInt = 40); omega
                refine ⟨o3658, ?_⟩
                have o3659 : 0 ≤ (w3648.1 108 10).toInt ∧ (w3648.1 108 10).toInt < 40 := by have := bd_108_10 hI3649; have := bd_108_10 hI3641; have := bd_108_10 hI3635; have := bd_108_10 hI; have := (congrArg Int32.toInt (hL3636 108 10 rfl).1); have := (congrArg Int32.toInt (hL3642 108 10 rfl).1); have := (congrArg Int32.toInt (hL3650 108 10 rfl).1); have := (by decide : ((40 : Int32)).toInt = 40); omega
                refine ⟨o3659, ?_⟩
                have o3660 : 0 ≤ (w3648.1 108 10).toInt ∧ (w3648.1 108 10).toInt < 40 := by have := bd_108_10 hI3649; have := bd_108_10 hI3641; have := bd_108_10 hI3635; have := bd_108_10 hI; have := (congrArg Int32.toInt (hL3636 108 10 rfl).1); have := (congrArg Int32.toInt (hL3642 108 10 rfl).1); have := (congrArg Int32.toInt (hL3650 108 10 rfl).1); have := (by decide : ((40 : Int32)).toInt = 40); omega
                refine ⟨o3660, ?_⟩
                have o3661 : 0 ≤ (w3648.1 108 10).toInt ∧ (w3648.1 108 10).toInt < 40 := by have := bd_108_10 hI3649; have := bd_108_10 hI3641; have := bd_108_10 hI3635; have := bd_108_10 hI; have := (congrArg Int32.toInt (hL3636 108 10 rfl).1); have := (congrArg Int32.toInt (hL3642 108 10 rfl).1); have := (congrArg Int32.toInt (hL3650 108 10 rfl).1); have := (by decide : ((40 : Int32)).toInt = 40); omega
                refine ⟨o3661, ?_⟩
                have hI3662 : BND (sI (sJ w3648 116 ((w3648.1 108 10).toInt.toNat) r3637) 117 ((w3648.1 108 10).toInt.toNat) (w.1 87 3)) := wbd_117 (bnd_J hI3649 (k := 116) (j := (w3648.1 108 10).toInt.toNat) (v := r3637)) ((w3648.1 108 10).toInt.toNat)
                have hI3663 : BND (sI (sI (sJ w3648 116 ((w3648.1 108 10).toInt.toNat) r3637) 117 ((w3648.1 108 10).toInt.toNat) (w.1 87 3)) 118 ((w3648.1 108 10).toInt.toNat) r3643) := wbd_118 hI3662 ((w3648.1 108 10).toInt.toNat)
                have hI3664 : BND (sI (sI (sI (sJ w3648 116 ((w3648.1 108 10).toInt.toNat) r3637) 117 ((w3648.1 108 10).toInt.toNat) (w.1 87 3)) 118 ((w3648.1 108 10).toInt.toNat) r3643) 119 ((w3648.1 108 10).toInt.toNat) (-1)) := wbd_119 hI3663 ((w3648.1 108 10).toInt.toNat) (by decide) (by decide)
                have hI3665 : BND (sI (sJ (sI (sI (sI (sJ w3648 116 ((w3648.1 108 10).toInt.toNat) r3637) 117 ((w3648.1 108 10).toInt.toNat) (w.1 87 3)) 118 ((w3648.1 108 10).toInt.toNat) r3643) 119 ((w3648.1 108 10).toInt.toNat) (-1)) 120 ((w3648.1 108 10).toInt.toNat) 0) 121 ((w3648.1 108 10).toInt.toNat) 5) := wbd_121 (bnd_J hI3664 (k := 120) (j := (w3648.1 108 10).toInt.toNat) (v := 0)) ((w3648.1 108 10).toInt.toNat) (by decide) (by decide)
                have o3667 : 0 ≤ ((w3648.1 108 10) + (1 : Int32)).toInt ∧ ((w3648.1 108 10) + (1 : Int32)).toInt ≤ 40 := by have := bd_108_10 hI3649; have := bd_108_10 hI3641; have := bd_108_10 hI3635; have := bd_108_10 hI; have := (congrArg Int32.toInt (hL3636 108 10 rfl).1); have := (congrArg Int32.toInt (hL3642 108 10 rfl).1); have := (congrArg Int32.toInt (hL3650 108 10 rfl).1); have := (by decide : ((40 : Int32)).toInt = 40); have := ti_add2 (Eq.refl (w3648.1 108 10).toInt) (by decide : ((1 : Int32)).toInt = 1) (by omega) (by omega); omega
                have hI3666 : BND (sI (sI (sJ (sI (sI (sI (sJ w3648 116 ((w3648.1 108 10).toInt.toNat) r3637) 117 ((w3648.1 108 10).toInt.toNat) (w.1 87 3)) 118 ((w3648.1 108 10).toInt.toNat) r3643) 119 ((w3648.1 108 10).toInt.toNat) (-1)) 120 ((w3648.1 108 10).toInt.toNat) 0) 121 ((w3648.1 108 10).toInt.toNat) 5) 108 10 ((w3648.1 108 10) + (1 : Int32))) := wbd_108_10 hI3665 o3667.1 o3667.2
                have hW3668 : NK w3640 := (NK_fr hL3642 rfl (NK_fr hL3636 rfl hf_NK))
                have hW3669 : NK (sJ w3648 116 ((w3648.1 108 10).toInt.toNat) r3637) := (NK_fr (l := [(116, none)]) (FR.J (FR.refl _ w3648) (k := 116) (j := (w3648.1 108 10).toInt.toNat) (v := r3637) rfl) rfl (NK_fr hL3650 rfl hW3668))
                have o3670 : ((w3648.1 108 10).toInt = (w3648.1 108 10).toInt) ∧ (¬ (w.1 87 3).toInt = 10 ∨ 0 ≤ ((-1) : Int32).toInt) := by have := bd_108_10 hI3649; have := bd_108_10 hI3641; have := bd_108_10 hI3635; have := bd_108_10 hI; have := (congrArg Int32.toInt (hL3636 108 10 rfl).1); have := (congrArg Int32.toInt (hL3642 108 10 rfl).1); have := (congrArg Int32.toInt (hL3650 108 10 rfl).1); have := (by decide : (((-1) : Int32)).toInt = (-1)); have := (by decide : ((8 : Int32)).toInt = 8); have := (by decide : ((10 : Int32)).toInt = 10); have := (by decide : ((40 : Int32)).toInt = 40); exact ⟨by omega, by omega⟩
                have hW3671 : NK (sJ (sI (sI (sI (sJ w3648 116 ((w3648.1 108 10).toInt.toNat) r3637) 117 ((w3648.1 108 10).toInt.toNat) (w.1 87 3)) 118 ((w3648.1 108 10).toInt.toNat) r3643) 119 ((w3648.1 108 10).toInt.toNat) (-1)) 120 ((w3648.1 108 10).toInt.toNat) 0) := (NK_fr (l := [(120, none)]) (FR.J (FR.refl _ (sI (sI (sI (sJ w3648 116 ((w3648.1 108 10).toInt.toNat) r3637) 117 ((w3648.1 108 10).toInt.toNat) (w.1 87 3)) 118 ((w3648.1 108 10).toInt.toNat) r3643) 119 ((w3648.1 108 10).toInt.toNat) (-1))) (k := 120) (j := (w3648.1 108 10).toInt.toNat) (v := 0) rfl) rfl (nk_add hW3669 o3670.1 o3670.2))
                have hW3672 : NK (sI (sJ (sI (sI (sI (sJ w3648 116 ((w3648.1 108 10).toInt.toNat) r3637) 117 ((w3648.1 108 10).toInt.toNat) (w.1 87 3)) 118 ((w3648.1 108 10).toInt.toNat) r3643) 119 ((w3648.1 108 10).toInt.toNat) (-1)) 120 ((w3648.1 108 10).toInt.toNat) 0) 121 ((w3648.1 108 10).toInt.toNat) 5) := (NK_fr (l := [(121, none)]) (FR.I (FR.refl _ (sJ (sI (sI (sI (sJ w3648 116 ((w3648.1 108 10).toInt.toNat) r3637) 117 ((w3648.1 108 10).toInt.toNat) (w.1 87 3)) 118 ((w3648.1 108 10).toInt.toNat) r3643) 119 ((w3648.1 108 10).toInt.toNat) (-1)) 120 ((w3648.1 108 10).toInt.toNat) 0)) (k := 121) (j := (w3648.1 108 10).toInt.toNat) (v := 5) rfl) rfl hW3671)
                have hW3673 : NK (sI (sI (sJ (sI (sI (sI (sJ w3648 116 ((w3648.1 108 10).toInt.toNat) r3637) 117 ((w3648.1 108 10).toInt.toNat) (w.1 87 3)) 118 ((w3648.1 108 10).toInt.toNat) r3643) 119 ((w3648.1 108 10).toInt.toNat) (-1)) 120 ((w3648.1 108 10).toInt.toNat) 0) 121 ((w3648.1 108 10).toInt.toNat) 5) 108 10 ((w3648.1 108 10) + (1 : Int32))) := (NK_fr (l := [(108, some 10)]) (FR.I (FR.refl _ (sI (sJ (sI (sI (sI (sJ w3648 116 ((w3648.1 108 10).toInt.toNat) r3637) 117 ((w3648.1 108 10).toInt.toNat) (w.1 87 3)) 118 ((w3648.1 108 10).toInt.toNat) r3643) 119 ((w3648.1 108 10).toInt.toNat) (-1)) 120 ((w3648.1 108 10).toInt.toNat) 0) 121 ((w3648.1 108 10).toInt.toNat) 5)) (k := 108) (j := 10) (v := ((w3648.1 108 10) + (1 : Int32))) rfl) rfl hW3672)
                have o3674 : (0 ≤ (x38_3 + (1 : Int32)).toInt) ∧ ((x38_3 + (1 : Int32)).toInt ≤ 4001) := by have := (by decide : ((4000 : Int32)).toInt = 4000); have := ti_add2 (Eq.refl x38_3.toInt) (by decide : ((1 : Int32)).toInt = 1) (by omega) (by omega); exact ⟨by omega, by omega⟩
                exact ih _ (sI (sI (sJ (sI (sI (sI (sJ w3648 116 ((w3648.1 108 10).toInt.toNat) r3637) 117 ((w3648.1 108 10).toInt.toNat) (w.1 87 3)) 118 ((w3648.1 108 10).toInt.toNat) r3643) 119 ((w3648.1 108 10).toInt.toNat) (-1)) 120 ((w3648.1 108 10).toInt.toNat) 0) 121 ((w3648.1 108 10).toInt.toNat) 5) 108 10 ((w3648.1 108 10) + (1 : Int32))) hI3666 hW3673 ((hL3650 87 0 rfl).2.2.trans ((hL3642 87 0 rfl).2.2.trans ((hL3636 87 0 rfl).2.2.trans hr_87_0))) ((hL3650 87 1 rfl).2.2.trans ((hL3642 87 1 rfl).2.2.trans ((hL3636 87 1 rfl).2.2.trans hr_87_1))) o3674.1 o3674.2 (by have := (by decide : ((4000 : Int32)).toInt = 4000); have := ti_add2 (Eq.refl x38_3.toInt) (by decide : ((1 : Int32)).toInt = 1) (by omega) (by omega); omega) (fun w9 hI9 hF9 hl9_NK => hE w9 hI9 ((FR.I (FR.I (FR.J (FR.I (FR.I (FR.I (FR.J hF3652 (k := 116) (j := (w3648.1 108 10).toInt.toNat) (v := r3637) rfl) (k := 117) (j := (w3648.1 108 10).toInt.toNat) (v := (w.1 87 3)) rfl) (k := 118) (j := (w3648.1 108 10).toInt.toNat) (v := r3643) rfl) (k := 119) (j := (w3648.1 108 10).toInt.toNat) (v := (-1)) rfl) (k := 120) (j := (w3648.1 108 10).toInt.toNat) (v := 0) rfl) (k := 121) (j := (w3648.1 108 10).toInt.toNat) (v := 5) rfl) (k := 108) (j := 10) (v := ((w3648.1 108 10) + (1 : Int32))) rfl).tr hF9 rfl) hl9_NK ) (fun r w9 hI9 hF9 hl9_NK q0 => q0.elim)
            · refine h_Rd_readBlock hI3635 (NK_fr hL3636 rfl hf_NK) ((hL3636 87 0 rfl).2.2.trans hr_87_0) ((hL3636 87 1 rfl).2.2.trans hr_87_1)  (fun r3678 w3675 hI3676 hL3677 p3679 p3680 p3681 => ?_)
              have hF3682 : FR l_Rd_read_1_108_38 w w3675 := hF3638.tr hL3677 rfl
              refine Eq.mpr (q_Rd_read_1_108_114.eq_1 _ _ _ _ _ _ _ _ _) ?_
              refine ⟨fun h => absurd h h3639, fun _ => ?_⟩
              refine h_Rd_makeNode hI3676 ((hL3677 87 1 rfl).2.2.trans ((hL3636 87 1 rfl).2.2.trans hr_87_1))  (fun r3686 w3683 hI3684 hL3685 p3687 p3688 => ?_)
              have hF3689 : FR l_Rd_read_1_108_38 w w3683 := hF3682.tr hL3685 rfl
              refine ⟨((hL3685 87 1 rfl).2.2.trans ((hL3677 87 1 rfl).2.2.trans ((hL3636 87 1 rfl).2.2.trans hr_87_1))), ?_⟩
              refine Eq.mpr (p_Pr_addNames108.eq_1 _ _ _ _ _ _) ?_
              refine ⟨fun h3690 => ?_, fun h3690 => ?_⟩
              · have hW3691 : NK w3675 := (NK_fr hL3677 rfl (NK_fr hL3636 rfl hf_NK))
                have o3692 : (0 ≤ (x38_3 + (1 : Int32)).toInt) ∧ ((x38_3 + (1 : Int32)).toInt ≤ 4001) := by have := (by decide : ((4000 : Int32)).toInt = 4000); have := ti_add2 (Eq.refl x38_3.toInt) (by decide : ((1 : Int32)).toInt = 1) (by omega) (by omega); exact ⟨by omega, by omega⟩
                exact ih _ w3683 hI3684 (NK_fr hL3685 rfl hW3691) ((hL3685 87 0 rfl).2.2.trans ((hL3677 87 0 rfl).2.2.trans ((hL3636 87 0 rfl).2.2.trans hr_87_0))) ((hL3685 87 1 rfl).2.2.trans ((hL3677 87 1 rfl).2.2.trans ((hL3636 87 1 rfl).2.2.trans hr_87_1))) o3692.1 o3692.2 (by have := (by decide : ((4000 : Int32)).toInt = 4000); have := ti_add2 (Eq.refl x38_3.toInt) (by decide : ((1 : Int32)).toInt = 1) (by omega) (by omega); omega) (fun w9 hI9 hF9 hl9_NK => hE w9 hI9 (hF3689.tr hF9 rfl) hl9_NK ) (fun r w9 hI9 hF9 hl9_NK q0 => q0.elim)
              · have o3693 : 0 ≤ (w3683.1 108 10).toInt ∧ (w3683.1 108 10).toInt < 40 := by have := bd_108_10 hI3684; have := bd_108_10 hI3676; have := bd_108_10 hI3635; have := bd_108_10 hI; have := (congrArg Int32.toInt (hL3636 108 10 rfl).1); have := (congrArg Int32.toInt (hL3677 108 10 rfl).1); have := (congrArg Int32.toInt (hL3685 108 10 rfl).1); have := (by decide : ((40 : Int32)).toInt = 40); omega
                refine ⟨o3693, ?_⟩
                have o3694 : 0 ≤ (w3683.1 108 10).toInt ∧ (w3683.1 108 10).toInt < 40 := by have := bd_108_10 hI3684; have := bd_108_10 hI3676; have := bd_108_10 hI3635; have := bd_108_10 hI; have := (congrArg Int32.toInt (hL3636 108 10 rfl).1); have := (congrArg Int32.toInt (hL3677 108 10 rfl).1); have := (congrArg Int32.toInt (hL3685 108 10 rfl).1); have := (by decide : ((40 : Int32)).toInt = 40); omega
                refine ⟨o3694, ?_⟩
                have o3695 : 0 ≤ (w3683.1 108 10).toInt ∧ (w3683.1 108 10).toInt < 40 := by have := bd_108_10 hI3684; have := bd_108_10 hI3676; have := bd_108_10 hI3635; have := bd_108_10 hI; have := (congrArg Int32.toInt (hL3636 108 10 rfl).1); have := (congrArg Int32.toInt (hL3677 108 10 rfl).1); have := (congrArg Int32.toInt (hL3685 108 10 rfl).1); have := (by decide : ((40 : Int32)).toInt = 40); omega
                refine ⟨o3695, ?_⟩
                have o3696 : 0 ≤ (w3683.1 108 10).toInt ∧ (w3683.1 108 10).toInt < 40 := by have := bd_108_10 hI3684; have := bd_108_10 hI3676; have := bd_108_10 hI3635; have := bd_108_10 hI; have := (congrArg Int32.toInt (hL3636 108 10 rfl).1); have := (congrArg Int32.toInt (hL3677 108 10 rfl).1); have := (congrArg Int32.toInt (hL3685 108 10 rfl).1); have := (by decide : ((40 : Int32)).toInt = 40); omega
                refine ⟨o3696, ?_⟩
                have o3697 : 0 ≤ (w3683.1 108 10).toInt ∧ (w3683.1 108 10).toInt < 40 := by have := bd_108_10 hI3684; have := bd_108_10 hI3676; have := bd_108_10 hI3635; have := bd_108_10 hI; have := (congrArg Int32.toInt (hL3636 108 10 rfl).1); have := (congrArg Int32.toInt (hL3677 108 10 rfl).1); have := (congrArg Int32.toInt (hL3685 108 10 rfl).1); have := (by decide : ((40 : Int32)).toInt = 40); omega
                refine ⟨o3697, ?_⟩
                have o3698 : 0 ≤ (w3683.1 108 10).toInt ∧ (w3683.1 108 10).toInt < 40 := by have := bd_108_10 hI3684; have := bd_108_10 hI3676; have := bd_108_10 hI3635; have := bd_108_10 hI; have := (congrArg Int32.toInt (hL3636 108 10 rfl).1); have := (congrArg Int32.toInt (hL3677 108 10 rfl).1); have := (congrArg Int32.toInt (hL3685 108 10 rfl).1); have := (by decide : ((40 : Int32)).toInt = 40); omega
                refine ⟨o3698, ?_⟩
                have hI3699 : BND (sI (sJ w3683 116 ((w3683.1 108 10).toInt.toNat) r3637) 117 ((w3683.1 108 10).toInt.toNat) (w.1 87 3)) := wbd_117 (bnd_J hI3684 (k := 116) (j := (w3683.1 108 10).toInt.toNat) (v := r3637)) ((w3683.1 108 10).toInt.toNat)
                have hI3700 : BND (sI (sI (sJ w3683 116 ((w3683.1 108 10).toInt.toNat) r3637) 117 ((w3683.1 108 10).toInt.toNat) (w.1 87 3)) 118 ((w3683.1 108 10).toInt.toNat) 0) := wbd_118 hI3699 ((w3683.1 108 10).toInt.toNat)
                have o3702 : (-1) ≤ r3678.toInt ∧ r3678.toInt ≤ 300 := by have := bd_87_8 hI3676; have := bd_87_8 hI3635; have := bd_87_8 hI; have := (congrArg Int32.toInt (hL3636 87 8 rfl).1); omega
                have hI3701 : BND (sI (sI (sI (sJ w3683 116 ((w3683.1 108 10).toInt.toNat) r3637) 117 ((w3683.1 108 10).toInt.toNat) (w.1 87 3)) 118 ((w3683.1 108 10).toInt.toNat) 0) 119 ((w3683.1 108 10).toInt.toNat) r3678) := wbd_119 hI3700 ((w3683.1 108 10).toInt.toNat) o3702.1 o3702.2
                have hI3703 : BND (sI (sJ (sI (sI (sI (sJ w3683 116 ((w3683.1 108 10).toInt.toNat) r3637) 117 ((w3683.1 108 10).toInt.toNat) (w.1 87 3)) 118 ((w3683.1 108 10).toInt.toNat) 0) 119 ((w3683.1 108 10).toInt.toNat) r3678) 120 ((w3683.1 108 10).toInt.toNat) 0) 121 ((w3683.1 108 10).toInt.toNat) 5) := wbd_121 (bnd_J hI3701 (k := 120) (j := (w3683.1 108 10).toInt.toNat) (v := 0)) ((w3683.1 108 10).toInt.toNat) (by decide) (by decide)
                have o3705 : 0 ≤ ((w3683.1 108 10) + (1 : Int32)).toInt ∧ ((w3683.1 108 10) + (1 : Int32)).toInt ≤ 40 := by have := bd_108_10 hI3684; have := bd_108_10 hI3676; have := bd_108_10 hI3635; have := bd_108_10 hI; have := (congrArg Int32.toInt (hL3636 108 10 rfl).1); have := (congrArg Int32.toInt (hL3677 108 10 rfl).1); have := (congrArg Int32.toInt (hL3685 108 10 rfl).1); have := (by decide : ((40 : Int32)).toInt = 40); have := ti_add2 (Eq.refl (w3683.1 108 10).toInt) (by decide : ((1 : Int32)).toInt = 1) (by omega) (by omega); omega
                have hI3704 : BND (sI (sI (sJ (sI (sI (sI (sJ w3683 116 ((w3683.1 108 10).toInt.toNat) r3637) 117 ((w3683.1 108 10).toInt.toNat) (w.1 87 3)) 118 ((w3683.1 108 10).toInt.toNat) 0) 119 ((w3683.1 108 10).toInt.toNat) r3678) 120 ((w3683.1 108 10).toInt.toNat) 0) 121 ((w3683.1 108 10).toInt.toNat) 5) 108 10 ((w3683.1 108 10) + (1 : Int32))) := wbd_108_10 hI3703 o3705.1 o3705.2
                have hW3706 : NK w3675 := (NK_fr hL3677 rfl (NK_fr hL3636 rfl hf_NK))
                have hW3707 : NK (sJ w3683 116 ((w3683.1 108 10).toInt.toNat) r3637) := (NK_fr (l := [(116, none)]) (FR.J (FR.refl _ w3683) (k := 116) (j := (w3683.1 108 10).toInt.toNat) (v := r3637) rfl) rfl (NK_fr hL3685 rfl hW3706))
                have o3708 : ((w3683.1 108 10).toInt = (w3683.1 108 10).toInt) ∧ (¬ (w.1 87 3).toInt = 10 ∨ 0 ≤ r3678.toInt) := by have := bd_108_10 hI3684; have := bd_108_10 hI3676; have := bd_108_10 hI3635; have := bd_108_10 hI; have := (congrArg Int32.toInt (hL3636 108 10 rfl).1); have := (congrArg Int32.toInt (hL3677 108 10 rfl).1); have := (congrArg Int32.toInt (hL3685 108 10 rfl).1); have := (by decide : ((0 : Int32)).toInt = 0); have := (by decide : ((8 : Int32)).toInt = 8); have := (by decide : ((10 : Int32)).toInt = 10); have := bd_87_8 hI3676; have := bd_87_8 hI3635; have := bd_87_8 hI; have := (congrArg Int32.toInt (hL3636 87 8 rfl).1); have := (by decide : ((40 : Int32)).toInt = 40); exact ⟨by omega, by omega⟩
                have hW3709 : NK (sJ (sI (sI (sI (sJ w3683 116 ((w3683.1 108 10).toInt.toNat) r3637) 117 ((w3683.1 108 10).toInt.toNat) (w.1 87 3)) 118 ((w3683.1 108 10).toInt.toNat) 0) 119 ((w3683.1 108 10).toInt.toNat) r3678) 120 ((w3683.1 108 10).toInt.toNat) 0) := (NK_fr (l := [(120, none)]) (FR.J (FR.refl _ (sI (sI (sI (sJ w3683 116 ((w3683.1 108 10).toInt.toNat) r3637) 117 ((w3683.1 108 10).toInt.toNat) (w.1 87 3)) 118 ((w3683.1 108 10).toInt.toNat) 0) 119 ((w3683.1 108 10).toInt.toNat) r3678)) (k := 120) (j := (w3683.1 108 10).toInt.toNat) (v := 0) rfl) rfl (nk_add hW3707 o3708.1 o3708.2))
                have hW3710 : NK (sI (sJ (sI (sI (sI (sJ w3683 116 ((w3683.1 108 10).toInt.toNat) r3637) 117 ((w3683.1 108 10).toInt.toNat) (w.1 87 3)) 118 ((w3683.1 108 10).toInt.toNat) 0) 119 ((w3683.1 108 10).toInt.toNat) r3678) 120 ((w3683.1 108 10).toInt.toNat) 0) 121 ((w3683.1 108 10).toInt.toNat) 5) := (NK_fr (l := [(121, none)]) (FR.I (FR.refl _ (sJ (sI (sI (sI (sJ w3683 116 ((w3683.1 108 10).toInt.toNat) r3637) 117 ((w3683.1 108 10).toInt.toNat) (w.1 87 3)) 118 ((w3683.1 108 10).toInt.toNat) 0) 119 ((w3683.1 108 10).toInt.toNat) r3678) 120 ((w3683.1 108 10).toInt.toNat) 0)) (k := 121) (j := (w3683.1 108 10).toInt.toNat) (v := 5) rfl) rfl hW3709)
                have hW3711 : NK (sI (sI (sJ (sI (sI (sI (sJ w3683 116 ((w3683.1 108 10).toInt.toNat) r3637) 117 ((w3683.1 108 10).toInt.toNat) (w.1 87 3)) 118 ((w3683.1 108 10).toInt.toNat) 0) 119 ((w3683.1 108 10).toInt.toNat) r3678) 120 ((w3683.1 108 10).toInt.toNat) 0) 121 ((w3683.1 108 10).toInt.toNat) 5) 108 10 ((w3683.1 108 10) + (1 : Int32))) := (NK_fr (l := [(108, some 10)]) (FR.I (FR.refl _ (sI (sJ (sI (sI (sI (sJ w3683 116 ((w3683.1 108 10).toInt.toNat) r3637) 117 ((w3683.1 108 10).toInt.toNat) (w.1 87 3)) 118 ((w3683.1 108 10).toInt.toNat) 0) 119 ((w3683.1 108 10).toInt.toNat) r3678) 120 ((w3683.1 108 10).toInt.toNat) 0) 121 ((w3683.1 108 10).toInt.toNat) 5)) (k := 108) (j := 10) (v := ((w3683.1 108 10) + (1 : Int32))) rfl) rfl hW3710)
                have o3712 : (0 ≤ (x38_3 + (1 : Int32)).toInt) ∧ ((x38_3 + (1 : Int32)).toInt ≤ 4001) := by have := (by decide : ((4000 : Int32)).toInt = 4000); have := ti_add2 (Eq.refl x38_3.toInt) (by decide : ((1 : Int32)).toInt = 1) (by omega) (by omega); exact ⟨by omega, by omega⟩
                exact ih _ (sI (sI (sJ (sI (sI (sI (sJ w3683 116 ((w3683.1 108 10).toInt.toNat) r3637) 117 ((w3683.1 108 10).toInt.toNat) (w.1 87 3)) 118 ((w3683.1 108 10).toInt.toNat) 0) 119 ((w3683.1 108 10).toInt.toNat) r3678) 120 ((w3683.1 108 10).toInt.toNat) 0) 121 ((w3683.1 108 10).toInt.toNat) 5) 108 10 ((w3683.1 108 10) + (1 : Int32))) hI3704 hW3711 ((hL3685 87 0 rfl).2.2.trans ((hL3677 87 0 rfl).2.2.trans ((hL3636 87 0 rfl).2.2.trans hr_87_0))) ((hL3685 87 1 rfl).2.2.trans ((hL3677 87 1 rfl).2.2.trans ((hL3636 87 1 rfl).2.2.trans hr_87_1))) o3712.1 o3712.2 (by have := (by decide : ((4000 : Int32)).toInt = 4000); have := ti_add2 (Eq.refl x38_3.toInt) (by decide : ((1 : Int32)).toInt = 1) (by omega) (by omega); omega) (fun w9 hI9 hF9 hl9_NK => hE w9 hI9 ((FR.I (FR.I (FR.J (FR.I (FR.I (FR.I (FR.J hF3689 (k := 116) (j := (w3683.1 108 10).toInt.toNat) (v := r3637) rfl) (k := 117) (j := (w3683.1 108 10).toInt.toNat) (v := (w.1 87 3)) rfl) (k := 118) (j := (w3683.1 108 10).toInt.toNat) (v := 0) rfl) (k := 119) (j := (w3683.1 108 10).toInt.toNat) (v := r3678) rfl) (k := 120) (j := (w3683.1 108 10).toInt.toNat) (v := 0) rfl) (k := 121) (j := (w3683.1 108 10).toInt.toNat) (v := 5) rfl) (k := 108) (j := 10) (v := ((w3683.1 108 10) + (1 : Int32))) rfl).tr hF9 rfl) hl9_NK ) (fun r w9 hI9 hF9 hl9_NK q0 => q0.elim)
set_option maxRecDepth 20000 in
set_option maxHeartbeats 2000000 in
theorem hq_Rd_read_1_108_172 {E : Int32 → Int32 → MW → Prop} {Q : Int32 → MW → Prop} (n : Nat) : ∀ (x172_3 : Int32) (x172_4 : Int32) (x172_5 : Int32) (x172_6 : Int32) (w : MW), BND w → NK w → w.2.2 87 0 = some 1 → w.2.2 87 1 = some 108 → x172_3.toInt ≤ 501 → 0 ≤ x172_4.toInt → (-1) ≤ x172_5.toInt → x172_5.toInt ≤ 300 → 0 ≤ x172_6.toInt → x172_6.toInt ≤ 4001 → (4001 - x172_6.toInt).toNat < n → (∀ (e172_3 : Int32) (e172_4 : Int32) (w' : MW), BND w' → FR l_Rd_read_1_108_172 w w' → e172_3.toInt ≤ 501 → 0 ≤ e172_4.toInt → E e172_3 e172_4 w') → (∀ (r : Int32) (w' : MW), BND w' → FR l_Rd_read_1_108_172 w w' → False → Q r w') → q_Rd_read_1_108_172 E Q n x172_3 x172_4 x172_5 x172_6 w := by
  induction n with
  | zero => intros; omega
  | succ n ih =>
    intro x172_3 x172_4 x172_5 x172_6 w hI hf_NK hr_87_0 hr_87_1 hp0 hp1 hp2 hp3 hp4 hp5 hm hE hQ
    rw [q_Rd_read_1_108_172.eq_2]
    refine ⟨fun h3713 => ?_, fun h3713 => ?_⟩
    · have o3714 : (x172_3.toInt ≤ 501) ∧ (0 ≤ x172_4.toInt) := by exact ⟨by omega, by omega⟩
      exact hE _ _ _ hI (FR.refl _ w) o3714.1 o3714.2
    · refine ⟨fun h3715 => ?_, fun h3715 => ?_⟩
      · have o3716 : (x172_3.toInt ≤ 501) ∧ (0 ≤ x172_4.toInt) := by exact ⟨by omega, by omega⟩
        exact hE _ _ _ hI (FR.refl _ w) o3716.1 o3716.2
      · refine ⟨fun h3717 => ?_, fun h3717 => ?_⟩
        · have o3718 : (x172_3.toInt ≤ 501) ∧ (0 ≤ x172_4.toInt) := by exact ⟨by omega, by omega⟩
          exact hE _ _ _ hI (FR.refl _ w) o3718.1 o3718.2
        · refine h_Rd_readStatement hI hf_NK hr_87_0 hr_87_1  (fun r3722 w3719 hI3720 hL3721 p3723 p3724 p3725 => ?_)
          have hF3726 : FR l_Rd_read_1_108_172 w w3719 := (FR.refl _ w).tr hL3721 rfl
          have o3727 : 0 ≤ r3722.toInt ∧ r3722.toInt < 301 := by have := bd_87_8 hI3720; have := bd_87_8 hI; omega
          refine ⟨o3727, ?_⟩
          refine Eq.mpr (p_Ma_min.eq_1 _ _ _ _) ?_
          refine ⟨fun h3728 => ?_, fun h3728 => ?_⟩
          · replace h3728 : 501 < (x172_3 + (w3719.1 88 r3722.toInt.toNat)).toInt := h3728
            have o3729 : 0 ≤ r3722.toInt ∧ r3722.toInt < 301 := by have := bd_87_8 hI3720; have := bd_87_8 hI; omega
            refine ⟨o3729, ?_⟩
            refine Eq.mpr (p_Ma_max.eq_1 _ _ _ _) ?_
            refine ⟨fun h3730 => ?_, fun h3730 => ?_⟩
            · refine ⟨fun h3731 => ?_, fun h3731 => ?_⟩
              · refine ⟨((hL3721 87 1 rfl).2.2.trans hr_87_1), ?_⟩
                have o3732 : 0 ≤ x172_5.toInt ∧ x172_5.toInt < 301 := by have := (by decide : ((0 : Int32)).toInt = 0); omega
                refine ⟨o3732, ?_⟩
                have o3734 : (-1) ≤ r3722.toInt ∧ r3722.toInt ≤ 300 := by have := bd_87_8 hI3720; have := bd_87_8 hI; omega
                have hI3733 : BND (sI w3719 114 x172_5.toInt.toNat r3722) := wbd_114 hI3720 x172_5.toInt.toNat o3734.1 o3734.2
                have hW3735 : NK (sI w3719 114 x172_5.toInt.toNat r3722) := (NK_fr (l := [(114, none)]) (FR.I (FR.refl _ w3719) (k := 114) (j := x172_5.toInt.toNat) (v := r3722) rfl) rfl (NK_fr hL3721 rfl hf_NK))
                have o3736 : ((501 : Int32).toInt ≤ 501) ∧ (0 ≤ (w3719.1 89 r3722.toInt.toNat).toInt) ∧ ((-1) ≤ r3722.toInt) ∧ (r3722.toInt ≤ 300) ∧ (0 ≤ (x172_6 + (1 : Int32)).toInt) ∧ ((x172_6 + (1 : Int32)).toInt ≤ 4001) := by have := (by decide : ((501 : Int32)).toInt = 501); have := (by decide : ((4000 : Int32)).toInt = 4000); have := bd_87_8 hI3720; have := bd_87_8 hI; have := ti_add2 (Eq.refl x172_6.toInt) (by decide : ((1 : Int32)).toInt = 1) (by omega) (by omega); exact ⟨by omega, by omega, by omega, by omega, by omega, by omega⟩
                exact ih _ _ _ _ (sI w3719 114 x172_5.toInt.toNat r3722) hI3733 hW3735 ((hL3721 87 0 rfl).2.2.trans hr_87_0) ((hL3721 87 1 rfl).2.2.trans hr_87_1) o3736.1 o3736.2.1 o3736.2.2.1 o3736.2.2.2.1 o3736.2.2.2.2.1 o3736.2.2.2.2.2 (by have := (by decide : ((501 : Int32)).toInt = 501); have := (by decide : ((4000 : Int32)).toInt = 4000); have := bd_87_8 hI3720; have := bd_87_8 hI; have := ti_add2 (Eq.refl x172_6.toInt) (by decide : ((1 : Int32)).toInt = 1) (by omega) (by omega); omega) (fun e0 e1 w9 hI9 hF9 p0 p1 => hE e0 e1 w9 hI9 ((FR.I hF3726 (k := 114) (j := x172_5.toInt.toNat) (v := r3722) rfl).tr hF9 rfl) p0 p1 ) (fun r w9 hI9 hF9 q0 => q0.elim)
              · refine ⟨((hL3721 87 1 rfl).2.2.trans hr_87_1), ?_⟩
                have o3738 : (-1) ≤ r3722.toInt ∧ r3722.toInt ≤ 300 := by have := bd_87_8 hI3720; have := bd_87_8 hI; omega
                have hI3737 : BND (sI w3719 108 2 r3722) := wbd_108_2 hI3720 o3738.1 o3738.2
                have hW3739 : NK (sI w3719 108 2 r3722) := (NK_fr (l := [(108, some 2)]) (FR.I (FR.refl _ w3719) (k := 108) (j := 2) (v := r3722) rfl) rfl (NK_fr hL3721 rfl hf_NK))
                have o3740 : ((501 : Int32).toInt ≤ 501) ∧ (0 ≤ (w3719.1 89 r3722.toInt.toNat).toInt) ∧ ((-1) ≤ r3722.toInt) ∧ (r3722.toInt ≤ 300) ∧ (0 ≤ (x172_6 + (1 : Int32)).toInt) ∧ ((x172_6 + (1 : Int32)).toInt ≤ 4001) := by have := (by decide : ((501 : Int32)).toInt = 501); have := (by decide : ((4000 : Int32)).toInt = 4000); have := bd_87_8 hI3720; have := bd_87_8 hI; have := ti_add2 (Eq.refl x172_6.toInt) (by decide : ((1 : Int32)).toInt = 1) (by omega) (by omega); exact ⟨by omega, by omega, by omega, by omega, by omega, by omega⟩
                exact ih _ _ _ _ (sI w3719 108 2 r3722) hI3737 hW3739 ((hL3721 87 0 rfl).2.2.trans hr_87_0) ((hL3721 87 1 rfl).2.2.trans hr_87_1) o3740.1 o3740.2.1 o3740.2.2.1 o3740.2.2.2.1 o3740.2.2.2.2.1 o3740.2.2.2.2.2 (by have := (by decide : ((501 : Int32)).toInt = 501); have := (by decide : ((4000 : Int32)).toInt = 4000); have := bd_87_8 hI3720; have := bd_87_8 hI; have := ti_add2 (Eq.refl x172_6.toInt) (by decide : ((1 : Int32)).toInt = 1) (by omega) (by omega); omega) (fun e0 e1 w9 hI9 hF9 p0 p1 => hE e0 e1 w9 hI9 ((FR.I hF3726 (k := 108) (j := 2) (v := r3722) rfl).tr hF9 rfl) p0 p1 ) (fun r w9 hI9 hF9 q0 => q0.elim)
            · refine ⟨fun h3741 => ?_, fun h3741 => ?_⟩
              · refine ⟨((hL3721 87 1 rfl).2.2.trans hr_87_1), ?_⟩
                have o3742 : 0 ≤ x172_5.toInt ∧ x172_5.toInt < 301 := by have := (by decide : ((0 : Int32)).toInt = 0); omega
                refine ⟨o3742, ?_⟩
                have o3744 : (-1) ≤ r3722.toInt ∧ r3722.toInt ≤ 300 := by have := bd_87_8 hI3720; have := bd_87_8 hI; omega
                have hI3743 : BND (sI w3719 114 x172_5.toInt.toNat r3722) := wbd_114 hI3720 x172_5.toInt.toNat o3744.1 o3744.2
                have hW3745 : NK (sI w3719 114 x172_5.toInt.toNat r3722) := (NK_fr (l := [(114, none)]) (FR.I (FR.refl _ w3719) (k := 114) (j := x172_5.toInt.toNat) (v := r3722) rfl) rfl (NK_fr hL3721 rfl hf_NK))
                have o3746 : ((501 : Int32).toInt ≤ 501) ∧ (0 ≤ x172_4.toInt) ∧ ((-1) ≤ r3722.toInt) ∧ (r3722.toInt ≤ 300) ∧ (0 ≤ (x172_6 + (1 : Int32)).toInt) ∧ ((x172_6 + (1 : Int32)).toInt ≤ 4001) := by have := (by decide : ((501 : Int32)).toInt = 501); have := (by decide : ((4000 : Int32)).toInt = 4000); have := bd_87_8 hI3720; have := bd_87_8 hI; have := ti_add2 (Eq.refl x172_6.toInt) (by decide : ((1 : Int32)).toInt = 1) (by omega) (by omega); exact ⟨by omega, by omega, by omega, by omega, by omega, by omega⟩
                exact ih _ _ _ _ (sI w3719 114 x172_5.toInt.toNat r3722) hI3743 hW3745 ((hL3721 87 0 rfl).2.2.trans hr_87_0) ((hL3721 87 1 rfl).2.2.trans hr_87_1) o3746.1 o3746.2.1 o3746.2.2.1 o3746.2.2.2.1 o3746.2.2.2.2.1 o3746.2.2.2.2.2 (by have := (by decide : ((501 : Int32)).toInt = 501); have := (by decide : ((4000 : Int32)).toInt = 4000); have := bd_87_8 hI3720; have := bd_87_8 hI; have := ti_add2 (Eq.refl x172_6.toInt) (by decide : ((1 : Int32)).toInt = 1) (by omega) (by omega); omega) (fun e0 e1 w9 hI9 hF9 p0 p1 => hE e0 e1 w9 hI9 ((FR.I hF3726 (k := 114) (j := x172_5.toInt.toNat) (v := r3722) rfl).tr hF9 rfl) p0 p1 ) (fun r w9 hI9 hF9 q0 => q0.elim)
              · refine ⟨((hL3721 87 1 rfl).2.2.trans hr_87_1), ?_⟩
                have o3748 : (-1) ≤ r3722.toInt ∧ r3722.toInt ≤ 300 := by have := bd_87_8 hI3720; have := bd_87_8 hI; omega
                have hI3747 : BND (sI w3719 108 2 r3722) := wbd_108_2 hI3720 o3748.1 o3748.2
                have hW3749 : NK (sI w3719 108 2 r3722) := (NK_fr (l := [(108, some 2)]) (FR.I (FR.refl _ w3719) (k := 108) (j := 2) (v := r3722) rfl) rfl (NK_fr hL3721 rfl hf_NK))
                have o3750 : ((501 : Int32).toInt ≤ 501) ∧ (0 ≤ x172_4.toInt) ∧ ((-1) ≤ r3722.toInt) ∧ (r3722.toInt ≤ 300) ∧ (0 ≤ (x172_6 + (1 : Int32)).toInt) ∧ ((x172_6 + (1 : Int32)).toInt ≤ 4001) := by have := (by decide : ((501 : Int32)).toInt = 501); have := (by decide : ((4000 : Int32)).toInt = 4000); have := bd_87_8 hI3720; have := bd_87_8 hI; have := ti_add2 (Eq.refl x172_6.toInt) (by decide : ((1 : Int32)).toInt = 1) (by omega) (by omega); exact ⟨by omega, by omega, by omega, by omega, by omega, by omega⟩
                exact ih _ _ _ _ (sI w3719 108 2 r3722) hI3747 hW3749 ((hL3721 87 0 rfl).2.2.trans hr_87_0) ((hL3721 87 1 rfl).2.2.trans hr_87_1) o3750.1 o3750.2.1 o3750.2.2.1 o3750.2.2.2.1 o3750.2.2.2.2.1 o3750.2.2.2.2.2 (by have := (by decide : ((501 : Int32)).toInt = 501); have := (by decide : ((4000 : Int32)).toInt = 4000); have := bd_87_8 hI3720; have := bd_87_8 hI; have := ti_add2 (Eq.refl x172_6.toInt) (by decide : ((1 : Int32)).toInt = 1) (by omega) (by omega); omega) (fun e0 e1 w9 hI9 hF9 p0 p1 => hE e0 e1 w9 hI9 ((FR.I hF3726 (k := 108) (j := 2) (v := r3722) rfl).tr hF9 rfl) p0 p1 ) (fun r w9 hI9 hF9 q0 => q0.elim)
          · replace h3728 : ¬ (501 < (x172_3 + (w3719.1 88 r3722.toInt.toNat)).toInt) := h3728
            have o3751 : 0 ≤ r3722.toInt ∧ r3722.toInt < 301 := by have := bd_87_8 hI3720; have := bd_87_8 hI; omega
            refine ⟨o3751, ?_⟩
            refine Eq.mpr (p_Ma_max.eq_1 _ _ _ _) ?_
            refine ⟨fun h3752 => ?_, fun h3752 => ?_⟩
            · refine ⟨fun h3753 => ?_, fun h3753 => ?_⟩
              · refine ⟨((hL3721 87 1 rfl).2.2.trans hr_87_1), ?_⟩
                have o3754 : 0 ≤ x172_5.toInt ∧ x172_5.toInt < 301 := by have := (by decide : ((0 : Int32)).toInt = 0); omega
                refine ⟨o3754, ?_⟩
                have o3756 : (-1) ≤ r3722.toInt ∧ r3722.toInt ≤ 300 := by have := bd_87_8 hI3720; have := bd_87_8 hI; omega
                have hI3755 : BND (sI w3719 114 x172_5.toInt.toNat r3722) := wbd_114 hI3720 x172_5.toInt.toNat o3756.1 o3756.2
                have hW3757 : NK (sI w3719 114 x172_5.toInt.toNat r3722) := (NK_fr (l := [(114, none)]) (FR.I (FR.refl _ w3719) (k := 114) (j := x172_5.toInt.toNat) (v := r3722) rfl) rfl (NK_fr hL3721 rfl hf_NK))
                have o3758 : ((x172_3 + (w3719.1 88 r3722.toInt.toNat)).toInt ≤ 501) ∧ (0 ≤ (w3719.1 89 r3722.toInt.toNat).toInt) ∧ ((-1) ≤ r3722.toInt) ∧ (r3722.toInt ≤ 300) ∧ (0 ≤ (x172_6 + (1 : Int32)).toInt) ∧ ((x172_6 + (1 : Int32)).toInt ≤ 4001) := by have := (by decide : ((4000 : Int32)).toInt = 4000); have := bd_87_8 hI3720; have := bd_87_8 hI; have := (by decide : ((501 : Int32)).toInt = 501); have := True.intro; have := ti_add2 (Eq.refl x172_6.toInt) (by decide : ((1 : Int32)).toInt = 1) (by omega) (by omega); exact ⟨by omega, by omega, by omega, by omega, by omega, by omega⟩
                exact ih _ _ _ _ (sI w3719 114 x172_5.toInt.toNat r3722) hI3755 hW3757 ((hL3721 87 0 rfl).2.2.trans hr_87_0) ((hL3721 87 1 rfl).2.2.trans hr_87_1) o3758.1 o3758.2.1 o3758.2.2.1 o3758.2.2.2.1 o3758.2.2.2.2.1 o3758.2.2.2.2.2 (by have := (by decide : ((4000 : Int32)).toInt = 4000); have := bd_87_8 hI3720; have := bd_87_8 hI; have := (by decide : ((501 : Int32)).toInt = 501); have := True.intro; have := ti_add2 (Eq.refl x172_6.toInt) (by decide : ((1 : Int32)).toInt = 1) (by omega) (by omega); omega) (fun e0 e1 w9 hI9 hF9 p0 p1 => hE e0 e1 w9 hI9 ((FR.I hF3726 (k := 114) (j := x172_5.toInt.toNat) (v := r3722) rfl).tr hF9 rfl) p0 p1 ) (fun r w9 hI9 hF9 q0 => q0.elim)
              · refine ⟨((hL3721 87 1 rfl).2.2.trans hr_87_1), ?_⟩
                have o3760 : (-1) ≤ r3722.toInt ∧ r3722.toInt ≤ 300 := by have := bd_87_8 hI3720; have := bd_87_8 hI; omega
                have hI3759 : BND (sI w3719 108 2 r3722) := wbd_108_2 hI3720 o3760.1 o3760.2
                have hW3761 : NK (sI w3719 108 2 r3722) := (NK_fr (l := [(108, some 2)]) (FR.I (FR.refl _ w3719) (k := 108) (j := 2) (v := r3722) rfl) rfl (NK_fr hL3721 rfl hf_NK))
                have o3762 : ((x172_3 + (w3719.1 88 r3722.toInt.toNat)).toInt ≤ 501) ∧ (0 ≤ (w3719.1 89 r3722.toInt.toNat).toInt) ∧ ((-1) ≤ r3722.toInt) ∧ (r3722.toInt ≤ 300) ∧ (0 ≤ (x172_6 + (1 : Int32)).toInt) ∧ ((x172_6 + (1 : Int32)).toInt ≤ 4001) := by have := (by decide : ((4000 : Int32)).toInt = 4000); have := bd_87_8 hI3720; have := bd_87_8 hI; have := (by decide : ((501 : Int32)).toInt = 501); have := True.intro; have := ti_add2 (Eq.refl x172_6.toInt) (by decide : ((1 : Int32)).toInt = 1) (by omega) (by omega); exact ⟨by omega, by omega, by omega, by omega, by omega, by omega⟩
                exact ih _ _ _ _ (sI w3719 108 2 r3722) hI3759 hW3761 ((hL3721 87 0 rfl).2.2.trans hr_87_0) ((hL3721 87 1 rfl).2.2.trans hr_87_1) o3762.1 o3762.2.1 o3762.2.2.1 o3762.2.2.2.1 o3762.2.2.2.2.1 o3762.2.2.2.2.2 (by have := (by decide : ((4000 : Int32)).toInt = 4000); have := bd_87_8 hI3720; have := bd_87_8 hI; have := (by decide : ((501 : Int32)).toInt = 501); have := True.intro; have := ti_add2 (Eq.refl x172_6.toInt) (by decide : ((1 : Int32)).toInt = 1) (by omega) (by omega); omega) (fun e0 e1 w9 hI9 hF9 p0 p1 => hE e0 e1 w9 hI9 ((FR.I hF3726 (k := 108) (j := 2) (v := r3722) rfl).tr hF9 rfl) p0 p1 ) (fun r w9 hI9 hF9 q0 => q0.elim)
            · refine ⟨fun h3763 => ?_, fun h3763 => ?_⟩
              · refine ⟨((hL3721 87 1 rfl).2.2.trans hr_87_1), ?_⟩
                have o3764 : 0 ≤ x172_5.toInt ∧ x172_5.toInt < 301 := by have := (by decide : ((0 : Int32)).toInt = 0); omega
                refine ⟨o3764, ?_⟩
                have o3766 : (-1) ≤ r3722.toInt ∧ r3722.toInt ≤ 300 := by have := bd_87_8 hI3720; have := bd_87_8 hI; omega
                have hI3765 : BND (sI w3719 114 x172_5.toInt.toNat r3722) := wbd_114 hI3720 x172_5.toInt.toNat o3766.1 o3766.2
                have hW3767 : NK (sI w3719 114 x172_5.toInt.toNat r3722) := (NK_fr (l := [(114, none)]) (FR.I (FR.refl _ w3719) (k := 114) (j := x172_5.toInt.toNat) (v := r3722) rfl) rfl (NK_fr hL3721 rfl hf_NK))
                have o3768 : ((x172_3 + (w3719.1 88 r3722.toInt.toNat)).toInt ≤ 501) ∧ (0 ≤ x172_4.toInt) ∧ ((-1) ≤ r3722.toInt) ∧ (r3722.toInt ≤ 300) ∧ (0 ≤ (x172_6 + (1 : Int32)).toInt) ∧ ((x172_6 + (1 : Int32)).toInt ≤ 4001) := by have := (by decide : ((4000 : Int32)).toInt = 4000); have := bd_87_8 hI3720; have := bd_87_8 hI; have := (by decide : ((501 : Int32)).toInt = 501); have := True.intro; have := ti_add2 (Eq.refl x172_6.toInt) (by decide : ((1 : Int32)).toInt = 1) (by omega) (by omega); exact ⟨by omega, by omega, by omega, by omega, by omega, by omega⟩
                exact ih _ _ _ _ (sI w3719 114 x172_5.toInt.toNat r3722) hI3765 hW3767 ((hL3721 87 0 rfl).2.2.trans hr_87_0) ((hL3721 87 1 rfl).2.2.trans hr_87_1) o3768.1 o3768.2.1 o3768.2.2.1 o3768.2.2.2.1 o3768.2.2.2.2.1 o3768.2.2.2.2.2 (by have := (by decide : ((4000 : Int32)).toInt = 4000); have := bd_87_8 hI3720; have := bd_87_8 hI; have := (by decide : ((501 : Int32)).toInt = 501); have := True.intro; have := ti_add2 (Eq.refl x172_6.toInt) (by decide : ((1 : Int32)).toInt = 1) (by omega) (by omega); omega) (fun e0 e1 w9 hI9 hF9 p0 p1 => hE e0 e1 w9 hI9 ((FR.I hF3726 (k := 114) (j := x172_5.toInt.toNat) (v := r3722) rfl).tr hF9 rfl) p0 p1 ) (fun r w9 hI9 hF9 q0 => q0.elim)
              · refine ⟨((hL3721 87 1 rfl).2.2.trans hr_87_1), ?_⟩
                have o3770 : (-1) ≤ r3722.toInt ∧ r3722.toInt ≤ 300 := by have := bd_87_8 hI3720; have := bd_87_8 hI; omega
                have hI3769 : BND (sI w3719 108 2 r3722) := wbd_108_2 hI3720 o3770.1 o3770.2
                have hW3771 : NK (sI w3719 108 2 r3722) := (NK_fr (l := [(108, some 2)]) (FR.I (FR.refl _ w3719) (k := 108) (j := 2) (v := r3722) rfl) rfl (NK_fr hL3721 rfl hf_NK))
                have o3772 : ((x172_3 + (w3719.1 88 r3722.toInt.toNat)).toInt ≤ 501) ∧ (0 ≤ x172_4.toInt) ∧ ((-1) ≤ r3722.toInt) ∧ (r3722.toInt ≤ 300) ∧ (0 ≤ (x172_6 + (1 : Int32)).toInt) ∧ ((x172_6 + (1 : Int32)).toInt ≤ 4001) := by have := (by decide : ((4000 : Int32)).toInt = 4000); have := bd_87_8 hI3720; have := bd_87_8 hI; have := (by decide : ((501 : Int32)).toInt = 501); have := True.intro; have := ti_add2 (Eq.refl x172_6.toInt) (by decide : ((1 : Int32)).toInt = 1) (by omega) (by omega); exact ⟨by omega, by omega, by omega, by omega, by omega, by omega⟩
                exact ih _ _ _ _ (sI w3719 108 2 r3722) hI3769 hW3771 ((hL3721 87 0 rfl).2.2.trans hr_87_0) ((hL3721 87 1 rfl).2.2.trans hr_87_1) o3772.1 o3772.2.1 o3772.2.2.1 o3772.2.2.2.1 o3772.2.2.2.2.1 o3772.2.2.2.2.2 (by have := (by decide : ((4000 : Int32)).toInt = 4000); have := bd_87_8 hI3720; have := bd_87_8 hI; have := (by decide : ((501 : Int32)).toInt = 501); have := True.intro; have := ti_add2 (Eq.refl x172_6.toInt) (by decide : ((1 : Int32)).toInt = 1) (by omega) (by omega); omega) (fun e0 e1 w9 hI9 hF9 p0 p1 => hE e0 e1 w9 hI9 ((FR.I hF3726 (k := 108) (j := 2) (v := r3722) rfl).tr hF9 rfl) p0 p1 ) (fun r w9 hI9 hF9 q0 => q0.elim)
set_option maxRecDepth 20000 in
set_option maxHeartbeats 2000000 in
theorem h_Rd_read_1_108 {w : MW} {Q : Int32 → MW → Prop} (hI : BND w) (hf_NK : NK w) (hr_87_0 : w.2.2 87 0 = some 1) (hr_87_1 : w.2.2 87 1 = some 108)  (hQ : ∀ (r : Int32) (w' : MW), BND w' → FR l_Rd_read_1_108 w w' → NK w' → Q r w') : p_Rd_read_1_108 w Q := by
  refine Eq.mpr (p_Rd_read_1_108.eq_1 _ _) ?_
  refine Eq.mpr (p_Pr_clears108.eq_1 _ _) ?_
  have hI3773 : BND (sI (sR (sR w 87 0 (some 1)) 87 1 (some 108)) 108 0 0) := wbd_108_0 (bnd_R (bnd_R hI (k := 87) (j := 0) (v := some 1)) (k := 87) (j := 1) (v := some 108))
  have hI3774 : BND (sI (sI (sR (sR w 87 0 (some 1)) 87 1 (some 108)) 108 0 0) 108 1 0) := wbd_108_1 hI3773 (by decide) (by decide)
  have hI3775 : BND (sI (sI (sI (sR (sR w 87 0 (some 1)) 87 1 (some 108)) 108 0 0) 108 1 0) 108 2 (-1)) := wbd_108_2 hI3774 (by decide) (by decide)
  have hI3776 : BND (sI (sI (sI (sI (sR (sR w 87 0 (some 1)) 87 1 (some 108)) 108 0 0) 108 1 0) 108 2 (-1)) 108 10 0) := wbd_108_10 hI3775 (by decide) (by decide)
  have hI3777 : BND (sI (sI (sI (sI (sI (sR (sR w 87 0 (some 1)) 87 1 (some 108)) 108 0 0) 108 1 0) 108 2 (-1)) 108 10 0) 87 2 0) := wbd_87_2 hI3776 (by decide) (by decide)
  have hI3778 : BND (sI (sI (sI (sI (sI (sI (sR (sR w 87 0 (some 1)) 87 1 (some 108)) 108 0 0) 108 1 0) 108 2 (-1)) 108 10 0) 87 2 0) 87 8 0) := wbd_87_8 hI3777 (by decide) (by decide)
  have hI3779 : BND (sI (sI (sI (sI (sI (sI (sI (sR (sR w 87 0 (some 1)) 87 1 (some 108)) 108 0 0) 108 1 0) 108 2 (-1)) 108 10 0) 87 2 0) 87 8 0) 87 9 (-1)) := wbd_87_9 hI3778
  refine h_Rd_nextWord hI3779 rfl  (fun w3780 hI3781 hL3782  => ?_)
  have hF3784 : FR l_Rd_read_1_108 w w3780 := (FR.I (FR.I (FR.I (FR.I (FR.I (FR.I (FR.I (FR.R (FR.R (FR.refl _ w) (k := 87) (j := 0) (v := some 1) rfl) (k := 87) (j := 1) (v := some 108) rfl) (k := 108) (j := 0) (v := 0) rfl) (k := 108) (j := 1) (v := 0) rfl) (k := 108) (j := 2) (v := (-1)) rfl) (k := 108) (j := 10) (v := 0) rfl) (k := 87) (j := 2) (v := 0) rfl) (k := 87) (j := 8) (v := 0) rfl) (k := 87) (j := 9) (v := (-1)) rfl).tr hL3782 rfl
  have hW3785 : NK (sR w 87 0 (some 1)) := (NK_fr (l := [(87, some 0)]) (FR.R (FR.refl _ w) (k := 87) (j := 0) (v := some 1) rfl) rfl hf_NK)
  have hW3786 : NK (sR (sR w 87 0 (some 1)) 87 1 (some 108)) := (NK_fr (l := [(87, some 1)]) (FR.R (FR.refl _ (sR w 87 0 (some 1))) (k := 87) (j := 1) (v := some 108) rfl) rfl hW3785)
  have hW3787 : NK (sI (sR (sR w 87 0 (some 1)) 87 1 (some 108)) 108 0 0) := (NK_fr (l := [(108, some 0)]) (FR.I (FR.refl _ (sR (sR w 87 0 (some 1)) 87 1 (some 108))) (k := 108) (j := 0) (v := 0) rfl) rfl hW3786)
  have hW3788 : NK (sI (sI (sR (sR w 87 0 (some 1)) 87 1 (some 108)) 108 0 0) 108 1 0) := (NK_fr (l := [(108, some 1)]) (FR.I (FR.refl _ (sI (sR (sR w 87 0 (some 1)) 87 1 (some 108)) 108 0 0)) (k := 108) (j := 1) (v := 0) rfl) rfl hW3787)
  have hW3789 : NK (sI (sI (sI (sR (sR w 87 0 (some 1)) 87 1 (some 108)) 108 0 0) 108 1 0) 108 2 (-1)) := (NK_fr (l := [(108, some 2)]) (FR.I (FR.refl _ (sI (sI (sR (sR w 87 0 (some 1)) 87 1 (some 108)) 108 0 0) 108 1 0)) (k := 108) (j := 2) (v := (-1)) rfl) rfl hW3788)
  have hW3790 : NK (sI (sI (sI (sI (sR (sR w 87 0 (some 1)) 87 1 (some 108)) 108 0 0) 108 1 0) 108 2 (-1)) 108 10 0) := (NK_fr (l := [(108, some 10)]) (FR.I (FR.refl _ (sI (sI (sI (sR (sR w 87 0 (some 1)) 87 1 (some 108)) 108 0 0) 108 1 0) 108 2 (-1))) (k := 108) (j := 10) (v := 0) rfl) rfl hW3789)
  have hW3791 : NK (sI (sI (sI (sI (sI (sR (sR w 87 0 (some 1)) 87 1 (some 108)) 108 0 0) 108 1 0) 108 2 (-1)) 108 10 0) 87 2 0) := (NK_fr (l := [(87, some 2)]) (FR.I (FR.refl _ (sI (sI (sI (sI (sR (sR w 87 0 (some 1)) 87 1 (some 108)) 108 0 0) 108 1 0) 108 2 (-1)) 108 10 0)) (k := 87) (j := 2) (v := 0) rfl) rfl hW3790)
  have hW3792 : NK (sI (sI (sI (sI (sI (sI (sR (sR w 87 0 (some 1)) 87 1 (some 108)) 108 0 0) 108 1 0) 108 2 (-1)) 108 10 0) 87 2 0) 87 8 0) := (NK_fr (l := [(87, some 8)]) (FR.I (FR.refl _ (sI (sI (sI (sI (sI (sR (sR w 87 0 (some 1)) 87 1 (some 108)) 108 0 0) 108 1 0) 108 2 (-1)) 108 10 0) 87 2 0)) (k := 87) (j := 8) (v := 0) rfl) rfl hW3791)
  have hW3793 : NK (sI (sI (sI (sI (sI (sI (sI (sR (sR w 87 0 (some 1)) 87 1 (some 108)) 108 0 0) 108 1 0) 108 2 (-1)) 108 10 0) 87 2 0) 87 8 0) 87 9 (-1)) := (NK_fr (l := [(87, some 9)]) (FR.I (FR.refl _ (sI (sI (sI (sI (sI (sI (sR (sR w 87 0 (some 1)) 87 1 (some 108)) 108 0 0) 108 1 0) 108 2 (-1)) 108 10 0) 87 2 0) 87 8 0)) (k := 87) (j := 9) (v := (-1)) rfl) rfl hW3792)
  have o3794 : (0 ≤ (0 : Int32).toInt) ∧ ((0 : Int32).toInt ≤ 4001) := by have := (by decide : ((0 : Int32)).toInt = 0); exact ⟨by omega, by omega⟩
  refine hq_Rd_read_1_108_38 FU _ w3780 hI3781 (NK_fr hL3782 rfl hW3793) ((hL3782 87 0 rfl).2.2.trans rfl) ((hL3782 87 1 rfl).2.2.trans rfl) o3794.1 o3794.2 (fu_lt (by have := (by decide : ((0 : Int32)).toInt = 0); omega)) (fun w3795 hI3796 hL3797 hlw3795_NK  => ?_) (fun r w9 hI9 hF9 hl9_NK q0 => q0.elim)
  have hF3798 : FR l_Rd_read_1_108 w w3795 := hF3784.tr hL3797 rfl
  have o3799 : ((0 : Int32).toInt ≤ 501) ∧ (0 ≤ (0 : Int32).toInt) ∧ ((-1) ≤ ((-1) : Int32).toInt) ∧ (((-1) : Int32).toInt ≤ 300) ∧ (0 ≤ (0 : Int32).toInt) ∧ ((0 : Int32).toInt ≤ 4001) := by have := (by decide : ((0 : Int32)).toInt = 0); have := (by decide : (((-1) : Int32)).toInt = (-1)); exact ⟨by omega, by omega, by omega, by omega, by omega, by omega⟩
  refine hq_Rd_read_1_108_172 FU _ _ _ _ w3795 hI3796 hlw3795_NK ((hL3797 87 0 rfl).2.2.trans ((hL3782 87 0 rfl).2.2.trans rfl)) ((hL3797 87 1 rfl).2.2.trans ((hL3782 87 1 rfl).2.2.trans rfl)) o3799.1 o3799.2.1 o3799.2.2.1 o3799.2.2.2.1 o3799.2.2.2.2.1 o3799.2.2.2.2.2 (fu_lt (by have := (by decide : ((0 : Int32)).toInt = 0); have := (by decide : (((-1) : Int32)).toInt = (-1)); omega)) (fun e3803 e3804 w3800 hI3801 hL3802 p3805 p3806 => ?_) (fun r w9 hI9 hF9 q0 => q0.elim)
  have hF3807 : FR l_Rd_read_1_108 w w3800 := hF3798.tr hL3802 rfl
  refine ⟨fun h3808 => ?_, fun h3808 => ?_⟩
  · exact hQ _ _ hI3801 hF3807 (NK_fr hL3802 rfl hlw3795_NK)
  · refine ⟨fun h3809 => ?_, fun h3809 => ?_⟩
    · refine Eq.mpr (p_Rd_fail.eq_1 _ _) ?_
      refine ⟨fun h => absurd h h3808, fun _ => ?_⟩
      have hI3810 : BND (sI w3800 87 9 (w3800.1 87 4)) := wbd_87_9 hI3801
      have hW3811 : NK (sI w3800 87 9 (w3800.1 87 4)) := (NK_fr (l := [(87, some 9)]) (FR.I (FR.refl _ w3800) (k := 87) (j := 9) (v := (w3800.1 87 4)) rfl) rfl (NK_fr hL3802 rfl hlw3795_NK))
      exact hQ _ _ hI3810 (FR.I hF3807 (k := 87) (j := 9) (v := (w3800.1 87 4)) rfl) hW3811 
    · refine ⟨fun h3812 => ?_, fun h3812 => ?_⟩
      · exact hQ _ _ hI3801 hF3807 (NK_fr hL3802 rfl hlw3795_NK)
      · refine Eq.mpr (p_Rd_fail.eq_1 _ _) ?_
        refine ⟨fun h => absurd h h3808, fun _ => ?_⟩
        have hI3813 : BND (sI w3800 87 9 (w3800.1 87 4)) := wbd_87_9 hI3801
        have hW3814 : NK (sI w3800 87 9 (w3800.1 87 4)) := (NK_fr (l := [(87, some 9)]) (FR.I (FR.refl _ w3800) (k := 87) (j := 9) (v := (w3800.1 87 4)) rfl) rfl (NK_fr hL3802 rfl hlw3795_NK))
        exact hQ _ _ hI3813 (FR.I hF3807 (k := 87) (j := 9) (v := (w3800.1 87 4)) rfl) hW3814 
def l_Ro_nextWords99_8 : Pl := [(99, some 12)]
def l_Ro_nextWords99_60 : Pl := [(99, some 13)]
def l_Ro_nextWords99 : Pl := [(99, some 12), (99, some 13), (99, some 14)]
set_option maxRecDepth 20000 in
set_option maxHeartbeats 2000000 in
theorem hq_Ro_nextWords99_8 {E : MW → Prop} {Q : MW → Prop} (n : Nat) : ∀ (w : MW), BND w → w.2.2 99 11 = some 1 → (4000 - (w.1 99 12).toInt).toNat < n → (∀ (w' : MW), BND w' → FR l_Ro_nextWords99_8 w w' → E w') → (∀ (w' : MW), BND w' → FR l_Ro_nextWords99_8 w w' → False → Q w') → q_Ro_nextWords99_8 E Q n w := by
  induction n with
  | zero => intros; omega
  | succ n ih =>
    intro w hI hr_99_11  hm hE hQ
    rw [q_Ro_nextWords99_8.eq_2]
    refine ⟨hr_99_11, ?_⟩
    refine ⟨fun h3815 => ?_, fun h3815 => ?_⟩
    · exact hE _ hI (FR.refl _ w)
    · refine ⟨hr_99_11, ?_⟩
      refine Eq.mpr (p_Tp_at.eq_1 _ _ _) ?_
      refine ⟨fun h3816 => ?_, fun h3816 => ?_⟩
      · exfalso; have := bd_99_12 hI; have := bd_1_2 hI; have := (by decide : ((0 : Int32)).toInt = 0); omega
      · refine ⟨fun h => absurd h h3815, fun _ => ?_⟩
        refine ⟨fun h3817 => ?_, fun h3817 => ?_⟩
        · have o3818 : 0 ≤ ((w.1 99 12) >>> ((2 : Int32) &&& 31)).toInt ∧ ((w.1 99 12) >>> ((2 : Int32) &&& 31)).toInt < 1005 := by have := bd_99_12 hI; have := bd_1_2 hI; have := (by decide : ((0 : Int32)).toInt = 0); have := nb_shr (w.1 99 12) ((2 : Int32) &&& 31) 2 4 rfl rfl; have := ti_mul2 (by decide : ((4 : Int32)).toInt = 4) (by decide : ((1005 : Int32)).toInt = 1005) (by omega) (by omega); omega
          refine ⟨o3818, ?_⟩
          refine Eq.mpr (p_Tp_isBlank.eq_1 _ _ _) ?_
          refine ⟨fun h3819 => ?_, fun h3819 => ?_⟩
          · refine ⟨fun h => absurd h (by decide), fun _ => ?_⟩
            have o3821 : 0 ≤ ((w.1 99 12) + (1 : Int32)).toInt ∧ ((w.1 99 12) + (1 : Int32)).toInt ≤ 4000 := by have := bd_99_12 hI; have := bd_1_2 hI; have := (by decide : ((0 : Int32)).toInt = 0); have := ti_lo ((((w.1 2 (((w.1 99 12) >>> ((2 : Int32) &&& 31)).toInt.toNat)).toUInt32 >>> (((24 : Int32) - ((8 : Int32) * ((w.1 99 12) &&& (3 : Int32)))).toUInt32 &&& Int32.toUInt32 31)).toInt32) &&& (255 : Int32)); have := ti_hi ((((w.1 2 (((w.1 99 12) >>> ((2 : Int32) &&& 31)).toInt.toNat)).toUInt32 >>> (((24 : Int32) - ((8 : Int32) * ((w.1 99 12) &&& (3 : Int32)))).toUInt32 &&& Int32.toUInt32 31)).toInt32) &&& (255 : Int32)); have := ti_lo (((w.1 2 (((w.1 99 12) >>> ((2 : Int32) &&& 31)).toInt.toNat)).toUInt32 >>> (((24 : Int32) - ((8 : Int32) * ((w.1 99 12) &&& (3 : Int32)))).toUInt32 &&& Int32.toUInt32 31)).toInt32); have := ti_hi (((w.1 2 (((w.1 99 12) >>> ((2 : Int32) &&& 31)).toInt.toNat)).toUInt32 >>> (((24 : Int32) - ((8 : Int32) * ((w.1 99 12) &&& (3 : Int32)))).toUInt32 &&& Int32.toUInt32 31)).toInt32); have := ti_lo ((w.1 99 12) &&& (3 : Int32)); have := ti_hi ((w.1 99 12) &&& (3 : Int32)); have := nb_and (w.1 99 12) (3 : Int32) 3 rfl (by decide); have := nb_and (((w.1 2 (((w.1 99 12) >>> ((2 : Int32) &&& 31)).toInt.toNat)).toUInt32 >>> (((24 : Int32) - ((8 : Int32) * ((w.1 99 12) &&& (3 : Int32)))).toUInt32 &&& Int32.toUInt32 31)).toInt32) (255 : Int32) 255 rfl (by decide); have := (by decide : ((32 : Int32)).toInt = 32); have := ti_add2 (Eq.refl (w.1 99 12).toInt) (by decide : ((1 : Int32)).toInt = 1) (by omega) (by omega); have := ti_mul2 (by decide : ((4 : Int32)).toInt = 4) (by decide : ((1005 : Int32)).toInt = 1005) (by omega) (by omega); have := ti_mul2 (by decide : ((8 : Int32)).toInt = 8) (Eq.refl ((w.1 99 12) &&& (3 : Int32)).toInt) (by omega) (by omega); have := ti_sub2 (by decide : ((24 : Int32)).toInt = 24) (Eq.refl ((8 : Int32) * ((w.1 99 12) &&& (3 : Int32))).toInt) (by omega) (by omega); omega
            have hI3820 : BND (sI w 99 12 ((w.1 99 12) + (1 : Int32))) := wbd_99_12 hI o3821.1 o3821.2
            exact ih (sI w 99 12 ((w.1 99 12) + (1 : Int32))) hI3820 hr_99_11  (by have := bd_99_12 hI; have : ((sI w 99 12 ((w.1 99 12) + (1 : Int32))).1 99 12).toInt = ((w.1 99 12) + (1 : Int32)).toInt := rfl; have := bd_1_2 hI; have := (by decide : ((0 : Int32)).toInt = 0); have := ti_lo ((((w.1 2 (((w.1 99 12) >>> ((2 : Int32) &&& 31)).toInt.toNat)).toUInt32 >>> (((24 : Int32) - ((8 : Int32) * ((w.1 99 12) &&& (3 : Int32)))).toUInt32 &&& Int32.toUInt32 31)).toInt32) &&& (255 : Int32)); have := ti_hi ((((w.1 2 (((w.1 99 12) >>> ((2 : Int32) &&& 31)).toInt.toNat)).toUInt32 >>> (((24 : Int32) - ((8 : Int32) * ((w.1 99 12) &&& (3 : Int32)))).toUInt32 &&& Int32.toUInt32 31)).toInt32) &&& (255 : Int32)); have := ti_lo (((w.1 2 (((w.1 99 12) >>> ((2 : Int32) &&& 31)).toInt.toNat)).toUInt32 >>> (((24 : Int32) - ((8 : Int32) * ((w.1 99 12) &&& (3 : Int32)))).toUInt32 &&& Int32.toUInt32 31)).toInt32); have := ti_hi (((w.1 2 (((w.1 99 12) >>> ((2 : Int32) &&& 31)).toInt.toNat)).toUInt32 >>> (((24 : Int32) - ((8 : Int32) * ((w.1 99 12) &&& (3 : Int32)))).toUInt32 &&& Int32.toUInt32 31)).toInt32); have := ti_lo ((w.1 99 12) &&& (3 : Int32)); have := ti_hi ((w.1 99 12) &&& (3 : Int32)); have := nb_and (w.1 99 12) (3 : Int32) 3 rfl (by decide); have := nb_and (((w.1 2 (((w.1 99 12) >>> ((2 : Int32) &&& 31)).toInt.toNat)).toUInt32 >>> (((24 : Int32) - ((8 : Int32) * ((w.1 99 12) &&& (3 : Int32)))).toUInt32 &&& Int32.toUInt32 31)).toInt32) (255 : Int32) 255 rfl (by decide); have := (by decide : ((32 : Int32)).toInt = 32); have := ti_add2 (Eq.refl (w.1 99 12).toInt) (by decide : ((1 : Int32)).toInt = 1) (by omega) (by omega); have := ti_mul2 (by decide : ((4 : Int32)).toInt = 4) (by decide : ((1005 : Int32)).toInt = 1005) (by omega) (by omega); have := ti_mul2 (by decide : ((8 : Int32)).toInt = 8) (Eq.refl ((w.1 99 12) &&& (3 : Int32)).toInt) (by omega) (by omega); have := ti_sub2 (by decide : ((24 : Int32)).toInt = 24) (Eq.refl ((8 : Int32) * ((w.1 99 12) &&& (3 : Int32))).toInt) (by omega) (by omega); omega) (fun w9 hI9 hF9 => hE w9 hI9 ((FR.I (FR.refl _ w) (k := 99) (j := 12) (v := ((w.1 99 12) + (1 : Int32))) rfl).tr hF9 rfl) ) (fun w9 hI9 hF9 q0 => q0.elim)
          · refine ⟨fun h3822 => ?_, fun h3822 => ?_⟩
            · refine ⟨fun _ => ?_, fun h => absurd (by decide) h⟩
              exact hE _ hI (FR.refl _ w) 
            · refine ⟨fun h => absurd h (by decide), fun _ => ?_⟩
              have o3824 : 0 ≤ ((w.1 99 12) + (1 : Int32)).toInt ∧ ((w.1 99 12) + (1 : Int32)).toInt ≤ 4000 := by have := bd_99_12 hI; have := bd_1_2 hI; have := (by decide : ((0 : Int32)).toInt = 0); have := ti_lo ((((w.1 2 (((w.1 99 12) >>> ((2 : Int32) &&& 31)).toInt.toNat)).toUInt32 >>> (((24 : Int32) - ((8 : Int32) * ((w.1 99 12) &&& (3 : Int32)))).toUInt32 &&& Int32.toUInt32 31)).toInt32) &&& (255 : Int32)); have := ti_hi ((((w.1 2 (((w.1 99 12) >>> ((2 : Int32) &&& 31)).toInt.toNat)).toUInt32 >>> (((24 : Int32) - ((8 : Int32) * ((w.1 99 12) &&& (3 : Int32)))).toUInt32 &&& Int32.toUInt32 31)).toInt32) &&& (255 : Int32)); have := ti_lo (((w.1 2 (((w.1 99 12) >>> ((2 : Int32) &&& 31)).toInt.toNat)).toUInt32 >>> (((24 : Int32) - ((8 : Int32) * ((w.1 99 12) &&& (3 : Int32)))).toUInt32 &&& Int32.toUInt32 31)).toInt32); have := ti_hi (((w.1 2 (((w.1 99 12) >>> ((2 : Int32) &&& 31)).toInt.toNat)).toUInt32 >>> (((24 : Int32) - ((8 : Int32) * ((w.1 99 12) &&& (3 : Int32)))).toUInt32 &&& Int32.toUInt32 31)).toInt32); have := ti_lo ((w.1 99 12) &&& (3 : Int32)); have := ti_hi ((w.1 99 12) &&& (3 : Int32)); have := nb_and (w.1 99 12) (3 : Int32) 3 rfl (by decide); have := nb_and (((w.1 2 (((w.1 99 12) >>> ((2 : Int32) &&& 31)).toInt.toNat)).toUInt32 >>> (((24 : Int32) - ((8 : Int32) * ((w.1 99 12) &&& (3 : Int32)))).toUInt32 &&& Int32.toUInt32 31)).toInt32) (255 : Int32) 255 rfl (by decide); have := (by decide : ((32 : Int32)).toInt = 32); have := (by decide : ((10 : Int32)).toInt = 10); have := ti_add2 (Eq.refl (w.1 99 12).toInt) (by decide : ((1 : Int32)).toInt = 1) (by omega) (by omega); have := ti_mul2 (by decide : ((4 : Int32)).toInt = 4) (by decide : ((1005 : Int32)).toInt = 1005) (by omega) (by omega); have := ti_mul2 (by decide : ((8 : Int32)).toInt = 8) (Eq.refl ((w.1 99 12) &&& (3 : Int32)).toInt) (by omega) (by omega); have := ti_sub2 (by decide : ((24 : Int32)).toInt = 24) (Eq.refl ((8 : Int32) * ((w.1 99 12) &&& (3 : Int32))).toInt) (by omega) (by omega); omega
              have hI3823 : BND (sI w 99 12 ((w.1 99 12) + (1 : Int32))) := wbd_99_12 hI o3824.1 o3824.2
              exact ih (sI w 99 12 ((w.1 99 12) + (1 : Int32))) hI3823 hr_99_11  (by have := bd_99_12 hI; have : ((sI w 99 12 ((w.1 99 12) + (1 : Int32))).1 99 12).toInt = ((w.1 99 12) + (1 : Int32)).toInt := rfl; have := bd_1_2 hI; have := (by decide : ((0 : Int32)).toInt = 0); have := ti_lo ((((w.1 2 (((w.1 99 12) >>> ((2 : Int32) &&& 31)).toInt.toNat)).toUInt32 >>> (((24 : Int32) - ((8 : Int32) * ((w.1 99 12) &&& (3 : Int32)))).toUInt32 &&& Int32.toUInt32 31)).toInt32) &&& (255 : Int32)); have := ti_hi ((((w.1 2 (((w.1 99 12) >>> ((2 : Int32) &&& 31)).toInt.toNat)).toUInt32 >>> (((24 : Int32) - ((8 : Int32) * ((w.1 99 12) &&& (3 : Int32)))).toUInt32 &&& Int32.toUInt32 31)).toInt32) &&& (255 : Int32)); have := ti_lo (((w.1 2 (((w.1 99 12) >>> ((2 : Int32) &&& 31)).toInt.toNat)).toUInt32 >>> (((24 : Int32) - ((8 : Int32) * ((w.1 99 12) &&& (3 : Int32)))).toUInt32 &&& Int32.toUInt32 31)).toInt32); have := ti_hi (((w.1 2 (((w.1 99 12) >>> ((2 : Int32) &&& 31)).toInt.toNat)).toUInt32 >>> (((24 : Int32) - ((8 : Int32) * ((w.1 99 12) &&& (3 : Int32)))).toUInt32 &&& Int32.toUInt32 31)).toInt32); have := ti_lo ((w.1 99 12) &&& (3 : Int32)); have := ti_hi ((w.1 99 12) &&& (3 : Int32)); have := nb_and (w.1 99 12) (3 : Int32) 3 rfl (by decide); have := nb_and (((w.1 2 (((w.1 99 12) >>> ((2 : Int32) &&& 31)).toInt.toNat)).toUInt32 >>> (((24 : Int32) - ((8 : Int32) * ((w.1 99 12) &&& (3 : Int32)))).toUInt32 &&& Int32.toUInt32 31)).toInt32) (255 : Int32) 255 rfl (by decide); have := (by decide : ((32 : Int32)).toInt = 32); have := (by decide : ((10 : Int32)).toInt = 10); have := ti_add2 (Eq.refl (w.1 99 12).toInt) (by decide : ((1 : Int32)).toInt = 1) (by omega) (by omega); have := ti_mul2 (by decide : ((4 : Int32)).toInt = 4) (by decide : ((1005 : Int32)).toInt = 1005) (by omega) (by omega); have := ti_mul2 (by decide : ((8 : Int32)).toInt = 8) (Eq.refl ((w.1 99 12) &&& (3 : Int32)).toInt) (by omega) (by omega); have := ti_sub2 (by decide : ((24 : Int32)).toInt = 24) (Eq.refl ((8 : Int32) * ((w.1 99 12) &&& (3 : Int32))).toInt) (by omega) (by omega); omega) (fun w9 hI9 hF9 => hE w9 hI9 ((FR.I (FR.refl _ w) (k := 99) (j := 12) (v := ((w.1 99 12) + (1 : Int32))) rfl).tr hF9 rfl) ) (fun w9 hI9 hF9 q0 => q0.elim)
        · exfalso; have := bd_99_12 hI; have := bd_1_2 hI; have := (by decide : ((0 : Int32)).toInt = 0); have := ti_mul2 (by decide : ((4 : Int32)).toInt = 4) (by decide : ((1005 : Int32)).toInt = 1005) (by omega) (by omega); omega
set_option maxRecDepth 20000 in
set_option maxHeartbeats 2000000 in
theorem hq_Ro_nextWords99_60 {E : MW → Prop} {Q : MW → Prop} (n : Nat) : ∀ (w : MW), BND w → w.2.2 99 11 = some 1 → (4000 - (w.1 99 13).toInt).toNat < n → (∀ (w' : MW), BND w' → FR l_Ro_nextWords99_60 w w' → E w') → (∀ (w' : MW), BND w' → FR l_Ro_nextWords99_60 w w' → False → Q w') → q_Ro_nextWords99_60 E Q n w := by
  induction n with
  | zero => intros; omega
  | succ n ih =>
    intro w hI hr_99_11  hm hE hQ
    rw [q_Ro_nextWords99_60.eq_2]
    refine ⟨hr_99_11, ?_⟩
    refine ⟨fun h3825 => ?_, fun h3825 => ?_⟩
    · exact hE _ hI (FR.refl _ w)
    · refine ⟨hr_99_11, ?_⟩
      refine Eq.mpr (p_Tp_at.eq_1 _ _ _) ?_
      refine ⟨fun h3826 => ?_, fun h3826 => ?_⟩
      · exfalso; have := bd_99_13 hI; have := bd_1_2 hI; have := (by decide : ((0 : Int32)).toInt = 0); omega
      · refine ⟨fun h => absurd h h3825, fun _ => ?_⟩
        refine ⟨fun h3827 => ?_, fun h3827 => ?_⟩
        · have o3828 : 0 ≤ ((w.1 99 13) >>> ((2 : Int32) &&& 31)).toInt ∧ ((w.1 99 13) >>> ((2 : Int32) &&& 31)).toInt < 1005 := by have := bd_99_13 hI; have := bd_1_2 hI; have := (by decide : ((0 : Int32)).toInt = 0); have := nb_shr (w.1 99 13) ((2 : Int32) &&& 31) 2 4 rfl rfl; have := ti_mul2 (by decide : ((4 : Int32)).toInt = 4) (by decide : ((1005 : Int32)).toInt = 1005) (by omega) (by omega); omega
          refine ⟨o3828, ?_⟩
          refine Eq.mpr (p_Tp_isBlank.eq_1 _ _ _) ?_
          refine ⟨fun h3829 => ?_, fun h3829 => ?_⟩
          · refine ⟨fun _ => ?_, fun h => absurd (by decide) h⟩
            exact hE _ hI (FR.refl _ w) 
          · refine ⟨fun h3830 => ?_, fun h3830 => ?_⟩
            · refine ⟨fun h => absurd h (by decide), fun _ => ?_⟩
              refine ⟨hr_99_11, ?_⟩
              refine Eq.mpr (p_Tp_at.eq_1 _ _ _) ?_
              refine ⟨fun h => absurd h h3826, fun _ => ?_⟩
              refine ⟨fun h => absurd h h3825, fun _ => ?_⟩
              refine ⟨fun _ => ?_, fun h => absurd h3827 h⟩
              have o3831 : 0 ≤ ((w.1 99 13) >>> ((2 : Int32) &&& 31)).toInt ∧ ((w.1 99 13) >>> ((2 : Int32) &&& 31)).toInt < 1005 := by have := bd_99_13 hI; have := bd_1_2 hI; have := (by decide : ((0 : Int32)).toInt = 0); have := ti_lo ((((w.1 2 (((w.1 99 13) >>> ((2 : Int32) &&& 31)).toInt.toNat)).toUInt32 >>> (((24 : Int32) - ((8 : Int32) * ((w.1 99 13) &&& (3 : Int32)))).toUInt32 &&& Int32.toUInt32 31)).toInt32) &&& (255 : Int32)); have := ti_hi ((((w.1 2 (((w.1 99 13) >>> ((2 : Int32) &&& 31)).toInt.toNat)).toUInt32 >>> (((24 : Int32) - ((8 : Int32) * ((w.1 99 13) &&& (3 : Int32)))).toUInt32 &&& Int32.toUInt32 31)).toInt32) &&& (255 : Int32)); have := ti_lo (((w.1 2 (((w.1 99 13) >>> ((2 : Int32) &&& 31)).toInt.toNat)).toUInt32 >>> (((24 : Int32) - ((8 : Int32) * ((w.1 99 13) &&& (3 : Int32)))).toUInt32 &&& Int32.toUInt32 31)).toInt32); have := ti_hi (((w.1 2 (((w.1 99 13) >>> ((2 : Int32) &&& 31)).toInt.toNat)).toUInt32 >>> (((24 : Int32) - ((8 : Int32) * ((w.1 99 13) &&& (3 : Int32)))).toUInt32 &&& Int32.toUInt32 31)).toInt32); have := ti_lo ((w.1 99 13) &&& (3 : Int32)); have := ti_hi ((w.1 99 13) &&& (3 : Int32)); have := nb_and (w.1 99 13) (3 : Int32) 3 rfl (by decide); have := nb_and (((w.1 2 (((w.1 99 13) >>> ((2 : Int32) &&& 31)).toInt.toNat)).toUInt32 >>> (((24 : Int32) - ((8 : Int32) * ((w.1 99 13) &&& (3 : Int32)))).toUInt32 &&& Int32.toUInt32 31)).toInt32) (255 : Int32) 255 rfl (by decide); have := (by decide : ((32 : Int32)).toInt = 32); have := (by decide : ((10 : Int32)).toInt = 10); have := nb_shr (w.1 99 13) ((2 : Int32) &&& 31) 2 4 rfl rfl; have := ti_mul2 (by decide : ((4 : Int32)).toInt = 4) (by decide : ((1005 : Int32)).toInt = 1005) (by omega) (by omega); have := ti_mul2 (by decide : ((8 : Int32)).toInt = 8) (Eq.refl ((w.1 99 13) &&& (3 : Int32)).toInt) (by omega) (by omega); have := ti_sub2 (by decide : ((24 : Int32)).toInt = 24) (Eq.refl ((8 : Int32) * ((w.1 99 13) &&& (3 : Int32))).toInt) (by omega) (by omega); omega
              refine ⟨o3831, ?_⟩
              refine Eq.mpr (p_Ro_isMark.eq_1 _ _ _) ?_
              refine ⟨fun h3832 => ?_, fun h3832 => ?_⟩
              · refine ⟨fun _ => ?_, fun h => absurd (by decide) h⟩
                exact hE _ hI (FR.refl _ w) 
              · refine ⟨fun h3833 => ?_, fun h3833 => ?_⟩
                · refine ⟨fun _ => ?_, fun h => absurd (by decide) h⟩
                  exact hE _ hI (FR.refl _ w) 
                · refine ⟨fun h3834 => ?_, fun h3834 => ?_⟩
                  · refine ⟨fun h => absurd h (by decide), fun _ => ?_⟩
                    have o3836 : 0 ≤ ((w.1 99 13) + (1 : Int32)).toInt ∧ ((w.1 99 13) + (1 : Int32)).toInt ≤ 4000 := by have := bd_99_13 hI; have := bd_1_2 hI; have := (by decide : ((0 : Int32)).toInt = 0); have := ti_lo ((((w.1 2 (((w.1 99 13) >>> ((2 : Int32) &&& 31)).toInt.toNat)).toUInt32 >>> (((24 : Int32) - ((8 : Int32) * ((w.1 99 13) &&& (3 : Int32)))).toUInt32 &&& Int32.toUInt32 31)).toInt32) &&& (255 : Int32)); have := ti_hi ((((w.1 2 (((w.1 99 13) >>> ((2 : Int32) &&& 31)).toInt.toNat)).toUInt32 >>> (((24 : Int32) - ((8 : Int32) * ((w.1 99 13) &&& (3 : Int32)))).toUInt32 &&& Int32.toUInt32 31)).toInt32) &&& (255 : Int32)); have := ti_lo (((w.1 2 (((w.1 99 13) >>> ((2 : Int32) &&& 31)).toInt.toNat)).toUInt32 >>> (((24 : Int32) - ((8 : Int32) * ((w.1 99 13) &&& (3 : Int32)))).toUInt32 &&& Int32.toUInt32 31)).toInt32); have := ti_hi (((w.1 2 (((w.1 99 13) >>> ((2 : Int32) &&& 31)).toInt.toNat)).toUInt32 >>> (((24 : Int32) - ((8 : Int32) * ((w.1 99 13) &&& (3 : Int32)))).toUInt32 &&& Int32.toUInt32 31)).toInt32); have := ti_lo ((w.1 99 13) &&& (3 : Int32)); have := ti_hi ((w.1 99 13) &&& (3 : Int32)); have := nb_and (w.1 99 13) (3 : Int32) 3 rfl (by decide); have := nb_and (((w.1 2 (((w.1 99 13) >>> ((2 : Int32) &&& 31)).toInt.toNat)).toUInt32 >>> (((24 : Int32) - ((8 : Int32) * ((w.1 99 13) &&& (3 : Int32)))).toUInt32 &&& Int32.toUInt32 31)).toInt32) (255 : Int32) 255 rfl (by decide); have := (by decide : ((32 : Int32)).toInt = 32); have := (by decide : ((10 : Int32)).toInt = 10); have := (by decide : ((40 : Int32)).toInt = 40); have := (by decide : ((41 : Int32)).toInt = 41); have := (by decide : ((59 : Int32)).toInt = 59); have := ti_add2 (Eq.refl (w.1 99 13).toInt) (by decide : ((1 : Int32)).toInt = 1) (by omega) (by omega); have := ti_mul2 (by decide : ((4 : Int32)).toInt = 4) (by decide : ((1005 : Int32)).toInt = 1005) (by omega) (by omega); have := ti_mul2 (by decide : ((8 : Int32)).toInt = 8) (Eq.refl ((w.1 99 13) &&& (3 : Int32)).toInt) (by omega) (by omega); have := ti_sub2 (by decide : ((24 : Int32)).toInt = 24) (Eq.refl ((8 : Int32) * ((w.1 99 13) &&& (3 : Int32))).toInt) (by omega) (by omega); omega
                    have hI3835 : BND (sI w 99 13 ((w.1 99 13) + (1 : Int32))) := wbd_99_13 hI o3836.1 o3836.2
                    exact ih (sI w 99 13 ((w.1 99 13) + (1 : Int32))) hI3835 hr_99_11  (by have := bd_99_13 hI; have : ((sI w 99 13 ((w.1 99 13) + (1 : Int32))).1 99 13).toInt = ((w.1 99 13) + (1 : Int32)).toInt := rfl; have := bd_1_2 hI; have := (by decide : ((0 : Int32)).toInt = 0); have := ti_lo ((((w.1 2 (((w.1 99 13) >>> ((2 : Int32) &&& 31)).toInt.toNat)).toUInt32 >>> (((24 : Int32) - ((8 : Int32) * ((w.1 99 13) &&& (3 : Int32)))).toUInt32 &&& Int32.toUInt32 31)).toInt32) &&& (255 : Int32)); have := ti_hi ((((w.1 2 (((w.1 99 13) >>> ((2 : Int32) &&& 31)).toInt.toNat)).toUInt32 >>> (((24 : Int32) - ((8 : Int32) * ((w.1 99 13) &&& (3 : Int32)))).toUInt32 &&& Int32.toUInt32 31)).toInt32) &&& (255 : Int32)); have := ti_lo (((w.1 2 (((w.1 99 13) >>> ((2 : Int32) &&& 31)).toInt.toNat)).toUInt32 >>> (((24 : Int32) - ((8 : Int32) * ((w.1 99 13) &&& (3 : Int32)))).toUInt32 &&& Int32.toUInt32 31)).toInt32); have := ti_hi (((w.1 2 (((w.1 99 13) >>> ((2 : Int32) &&& 31)).toInt.toNat)).toUInt32 >>> (((24 : Int32) - ((8 : Int32) * ((w.1 99 13) &&& (3 : Int32)))).toUInt32 &&& Int32.toUInt32 31)).toInt32); have := ti_lo ((w.1 99 13) &&& (3 : Int32)); have := ti_hi ((w.1 99 13) &&& (3 : Int32)); have := nb_and (w.1 99 13) (3 : Int32) 3 rfl (by decide); have := nb_and (((w.1 2 (((w.1 99 13) >>> ((2 : Int32) &&& 31)).toInt.toNat)).toUInt32 >>> (((24 : Int32) - ((8 : Int32) * ((w.1 99 13) &&& (3 : Int32)))).toUInt32 &&& Int32.toUInt32 31)).toInt32) (255 : Int32) 255 rfl (by decide); have := (by decide : ((32 : Int32)).toInt = 32); have := (by decide : ((10 : Int32)).toInt = 10); have := (by decide : ((40 : Int32)).toInt = 40); have := (by decide : ((41 : Int32)).toInt = 41); have := (by decide : ((59 : Int32)).toInt = 59); have := ti_add2 (Eq.refl (w.1 99 13).toInt) (by decide : ((1 : Int32)).toInt = 1) (by omega) (by omega); have := ti_mul2 (by decide : ((4 : Int32)).toInt = 4) (by decide : ((1005 : Int32)).toInt = 1005) (by omega) (by omega); have := ti_mul2 (by decide : ((8 : Int32)).toInt = 8) (Eq.refl ((w.1 99 13) &&& (3 : Int32)).toInt) (by omega) (by omega); have := ti_sub2 (by decide : ((24 : Int32)).toInt = 24) (Eq.refl ((8 : Int32) * ((w.1 99 13) &&& (3 : Int32))).toInt) (by omega) (by omega); omega) (fun w9 hI9 hF9 => hE w9 hI9 ((FR.I (FR.refl _ w) (k := 99) (j := 13) (v := ((w.1 99 13) + (1 : Int32))) rfl).tr hF9 rfl) ) (fun w9 hI9 hF9 q0 => q0.elim)
                  · refine ⟨fun _ => ?_, fun h => absurd (by decide) h⟩
                    exact hE _ hI (FR.refl _ w) 
            · refine ⟨fun _ => ?_, fun h => absurd (by decide) h⟩
              exact hE _ hI (FR.refl _ w) 
        · exfalso; have := bd_99_13 hI; have := bd_1_2 hI; have := (by decide : ((0 : Int32)).toInt = 0); have := ti_mul2 (by decide : ((4 : Int32)).toInt = 4) (by decide : ((1005 : Int32)).toInt = 1005) (by omega) (by omega); omega
set_option maxRecDepth 20000 in
set_option maxHeartbeats 2000000 in
theorem h_Ro_nextWords99 {w : MW} {Q : MW → Prop} (hI : BND w) (hr_99_11 : w.2.2 99 11 = some 1)  (hQ : ∀ (w' : MW), BND w' → FR l_Ro_nextWords99 w w' → Q w') : p_Ro_nextWords99 w Q := by
  refine Eq.mpr (p_Ro_nextWords99.eq_1 _ _) ?_
  have o3838 : 0 ≤ (w.1 99 13).toInt ∧ (w.1 99 13).toInt ≤ 4000 := by have := bd_99_13 hI; omega
  have hI3837 : BND (sI w 99 12 (w.1 99 13)) := wbd_99_12 hI o3838.1 o3838.2
  refine hq_Ro_nextWords99_8 FU (sI w 99 12 (w.1 99 13)) hI3837 hr_99_11  (fu_lt (by have := bd_99_13 hI; have : ((sI w 99 12 (w.1 99 13)).1 99 12).toInt = (w.1 99 13).toInt := rfl; omega)) (fun w3839 hI3840 hL3841  => ?_) (fun w9 hI9 hF9 q0 => q0.elim)
  have hF3842 : FR l_Ro_nextWords99 w w3839 := (FR.I (FR.refl _ w) (k := 99) (j := 12) (v := (w.1 99 13)) rfl).tr hL3841 rfl
  have o3844 : 0 ≤ (w3839.1 99 12).toInt ∧ (w3839.1 99 12).toInt ≤ 4000 := by have := bd_99_12 hI3840; omega
  have hI3843 : BND (sI w3839 99 13 (w3839.1 99 12)) := wbd_99_13 hI3840 o3844.1 o3844.2
  refine hq_Ro_nextWords99_60 FU (sI w3839 99 13 (w3839.1 99 12)) hI3843 ((hL3841 99 11 rfl).2.2.trans hr_99_11)  (fu_lt (by have := bd_99_12 hI3840; have : ((sI w3839 99 13 (w3839.1 99 12)).1 99 13).toInt = (w3839.1 99 12).toInt := rfl; omega)) (fun w3845 hI3846 hL3847  => ?_) (fun w9 hI9 hF9 q0 => q0.elim)
  have hF3848 : FR l_Ro_nextWords99 w w3845 := (FR.I hF3842 (k := 99) (j := 13) (v := (w3839.1 99 12)) rfl).tr hL3847 rfl
  refine ⟨fun h3849 => ?_, fun h3849 => ?_⟩
  · have hI3850 : BND (sI w3845 99 14 ((w3845.1 99 14) + (1 : Int32))) := wbd_99_14 hI3846
    exact hQ _ hI3850 (FR.I hF3848 (k := 99) (j := 14) (v := ((w3845.1 99 14) + (1 : Int32))) rfl) 
  · refine ⟨((hL3847 99 11 rfl).2.2.trans ((hL3841 99 11 rfl).2.2.trans hr_99_11)), ?_⟩
    refine ⟨fun h3851 => ?_, fun h3851 => ?_⟩
    · have hI3852 : BND (sI w3845 99 14 ((w3845.1 99 14) + (1 : Int32))) := wbd_99_14 hI3846
      exact hQ _ hI3852 (FR.I hF3848 (k := 99) (j := 14) (v := ((w3845.1 99 14) + (1 : Int32))) rfl) 
    · have o3854 : 0 ≤ ((w3845.1 99 13) + (1 : Int32)).toInt ∧ ((w3845.1 99 13) + (1 : Int32)).toInt ≤ 4000 := by have := bd_99_13 hI3846; have := bd_99_12 hI3846; have := bd_99_12 hI3840; have : ((sI w3839 99 13 (w3839.1 99 12)).1 99 12).toInt = (w3839.1 99 12).toInt := rfl; have := (congrArg Int32.toInt (hL3847 99 12 rfl).1); have := bd_1_2 hI3846; have := bd_1_2 hI3840; have := bd_1_2 hI; have : ((sI w 99 12 (w.1 99 13)).1 1 2).toInt = (w.1 1 2).toInt := rfl; have := (congrArg Int32.toInt (hL3841 1 2 rfl).1); have : ((sI w3839 99 13 (w3839.1 99 12)).1 1 2).toInt = (w3839.1 1 2).toInt := rfl; have := (congrArg Int32.toInt (hL3847 1 2 rfl).1); have := ti_add2 (Eq.refl (w3845.1 99 13).toInt) (by decide : ((1 : Int32)).toInt = 1) (by omega) (by omega); omega
      have hI3853 : BND (sI w3845 99 13 ((w3845.1 99 13) + (1 : Int32))) := wbd_99_13 hI3846 o3854.1 o3854.2
      have hI3855 : BND (sI (sI w3845 99 13 ((w3845.1 99 13) + (1 : Int32))) 99 14 ((w3845.1 99 14) + (1 : Int32))) := wbd_99_14 hI3853
      exact hQ _ hI3855 (FR.I (FR.I hF3848 (k := 99) (j := 13) (v := ((w3845.1 99 13) + (1 : Int32))) rfl) (k := 99) (j := 14) (v := ((w3845.1 99 14) + (1 : Int32))) rfl) 
