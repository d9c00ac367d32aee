def l_Mo_mayCome_69 : Pl := []
def l_Mo_mayCome : Pl := []
set_option maxRecDepth 20000 in
set_option maxHeartbeats 2000000 in
theorem h_Mo_mayCome {w : MW} {a0 : Int32} {b0 : Int32} {Q : Int32 → MW → Prop} (hI : BND w) (hp0 : 0 ≤ a0.toInt) (hp1 : a0.toInt ≤ 15) (hp2 : 0 ≤ b0.toInt) (hp3 : b0.toInt ≤ 43) (hp4 : b0.toInt < (w.1 127 4).toInt + (w.1 127 11).toInt) (hQ : ∀ (r : Int32) (w' : MW), BND w' → FR l_Mo_mayCome w w' → 0 ≤ r.toInt → r.toInt ≤ 1 → Q r w') : p_Mo_mayCome w a0 b0 Q := by
  refine Eq.mpr (p_Mo_mayCome.eq_1 _ _ _ _) ?_
  have o13552 : (0 ≤ b0.toInt) ∧ (b0.toInt ≤ 43) ∧ (b0.toInt < (w.1 127 4).toInt + (w.1 127 11).toInt) := by have := bd_127_4 hI; have := bd_127_11 hI; exact ⟨by omega, by omega, by omega⟩
  refine h_Mo_liquidIn hI  o13552.1 o13552.2.1 o13552.2.2 (fun r13556 w13553 hI13554 hL13555 p13557 p13558 => ?_)
  have hF13559 : FR l_Mo_mayCome w w13553 := (FR.refl _ w).tr hL13555 rfl
  refine ⟨fun h13560 => ?_, fun h13560 => ?_⟩
  · have o13561 : 0 ≤ b0.toInt ∧ b0.toInt < 44 := by have := bd_127_4 hI; have := bd_127_11 hI; omega
    refine ⟨o13561, ?_⟩
    refine ⟨fun h13562 => ?_, fun h13562 => ?_⟩
    · have o13563 : 0 ≤ b0.toInt ∧ b0.toInt < 44 := by have := bd_127_4 hI; have := bd_127_11 hI; omega
      refine ⟨o13563, ?_⟩
      refine ⟨fun h13564 => ?_, fun h13564 => ?_⟩
      · refine Eq.mpr (q_Mo_mayCome_69.eq_1 _ _ _ _) ?_
        refine ⟨fun h => absurd h (by decide), fun _ => ?_⟩
        have o13565 : (0 ≤ b0.toInt) ∧ (b0.toInt ≤ 43) ∧ (b0.toInt < (w13553.1 127 4).toInt + (w13553.1 127 11).toInt) := by have := bd_127_4 hI13554; have := bd_127_4 hI; have := (congrArg Int32.toInt (hL13555 127 4 rfl).1); have := bd_127_11 hI13554; have := bd_127_11 hI; have := (congrArg Int32.toInt (hL13555 127 11 rfl).1); exact ⟨by omega, by omega, by omega⟩
        refine h_Mo_level hI13554  o13565.1 o13565.2.1 o13565.2.2 (fun r13569 w13566 hI13567 hL13568 p13570 p13571 => ?_)
        have hF13572 : FR l_Mo_mayCome w w13566 := hF13559.tr hL13568 rfl
        refine ⟨fun h13573 => ?_, fun h13573 => ?_⟩
        · replace h13573 : r13569.toInt < 5 := h13573
          have o13574 : (0 ≤ (0 : Int32).toInt) ∧ ((0 : Int32).toInt ≤ 1) := by have := (by decide : ((0 : Int32)).toInt = 0); exact ⟨by omega, by omega⟩
          exact hQ _ _ hI13567 hF13572  o13574.1 o13574.2
        · replace h13573 : ¬ (r13569.toInt < 5) := h13573
          have o13575 : (0 ≤ (1 : Int32).toInt) ∧ ((1 : Int32).toInt ≤ 1) := by have := (by decide : ((1 : Int32)).toInt = 1); exact ⟨by omega, by omega⟩
          exact hQ _ _ hI13567 hF13572  o13575.1 o13575.2
      · refine ⟨fun h13576 => ?_, fun h13576 => ?_⟩
        · have o13577 : 0 ≤ b0.toInt ∧ b0.toInt < 44 := by have := bd_127_4 hI; have := bd_127_11 hI; omega
          refine ⟨o13577, ?_⟩
          have o13578 : 0 ≤ (((16 : Int32) * (w13553.1 173 b0.toInt.toNat)) + a0).toInt ∧ (((16 : Int32) * (w13553.1 173 b0.toInt.toNat)) + a0).toInt < 256 := by have := bd_173 hI13554 b0.toInt.toNat; have := bd_173 hI b0.toInt.toNat; have := (congrArg Int32.toInt (hL13555 173 b0.toInt.toNat rfl).1); have := (by decide : ((0 : Int32)).toInt = 0); have := (by decide : ((15 : Int32)).toInt = 15); have := ti_mul2 (by decide : ((16 : Int32)).toInt = 16) (Eq.refl (w13553.1 173 b0.toInt.toNat).toInt) (by omega) (by omega); have := ti_add2 (Eq.refl ((16 : Int32) * (w13553.1 173 b0.toInt.toNat)).toInt) (Eq.refl a0.toInt) (by omega) (by omega); omega
          refine ⟨o13578, ?_⟩
          refine Eq.mpr (q_Mo_mayCome_69.eq_1 _ _ _ _) ?_
          refine ⟨fun h13579 => ?_, fun h13579 => ?_⟩
          · have o13580 : (0 ≤ (1 : Int32).toInt) ∧ ((1 : Int32).toInt ≤ 1) := by have := (by decide : ((1 : Int32)).toInt = 1); exact ⟨by omega, by omega⟩
            exact hQ _ _ hI13554 hF13559  o13580.1 o13580.2
          · have o13581 : (0 ≤ b0.toInt) ∧ (b0.toInt ≤ 43) ∧ (b0.toInt < (w13553.1 127 4).toInt + (w13553.1 127 11).toInt) := by have := bd_127_4 hI13554; have := bd_127_4 hI; have := (congrArg Int32.toInt (hL13555 127 4 rfl).1); have := bd_127_11 hI13554; have := bd_127_11 hI; have := (congrArg Int32.toInt (hL13555 127 11 rfl).1); exact ⟨by omega, by omega, by omega⟩
            refine h_Mo_level hI13554  o13581.1 o13581.2.1 o13581.2.2 (fun r13585 w13582 hI13583 hL13584 p13586 p13587 => ?_)
            have hF13588 : FR l_Mo_mayCome w w13582 := hF13559.tr hL13584 rfl
            refine ⟨fun h13589 => ?_, fun h13589 => ?_⟩
            · have o13590 : (0 ≤ (0 : Int32).toInt) ∧ ((0 : Int32).toInt ≤ 1) := by have := (by decide : ((0 : Int32)).toInt = 0); exact ⟨by omega, by omega⟩
              exact hQ _ _ hI13583 hF13588  o13590.1 o13590.2
            · have o13591 : (0 ≤ (1 : Int32).toInt) ∧ ((1 : Int32).toInt ≤ 1) := by have := (by decide : ((1 : Int32)).toInt = 1); exact ⟨by omega, by omega⟩
              exact hQ _ _ hI13583 hF13588  o13591.1 o13591.2
        · refine Eq.mpr (q_Mo_mayCome_69.eq_1 _ _ _ _) ?_
          refine ⟨fun h => absurd h (by decide), fun _ => ?_⟩
          have o13592 : (0 ≤ b0.toInt) ∧ (b0.toInt ≤ 43) ∧ (b0.toInt < (w13553.1 127 4).toInt + (w13553.1 127 11).toInt) := by have := bd_127_4 hI13554; have := bd_127_4 hI; have := (congrArg Int32.toInt (hL13555 127 4 rfl).1); have := bd_127_11 hI13554; have := bd_127_11 hI; have := (congrArg Int32.toInt (hL13555 127 11 rfl).1); exact ⟨by omega, by omega, by omega⟩
          refine h_Mo_level hI13554  o13592.1 o13592.2.1 o13592.2.2 (fun r13596 w13593 hI13594 hL13595 p13597 p13598 => ?_)
          have hF13599 : FR l_Mo_mayCome w w13593 := hF13559.tr hL13595 rfl
          refine ⟨fun h13600 => ?_, fun h13600 => ?_⟩
          · replace h13600 : r13596.toInt < 5 := h13600
            have o13601 : (0 ≤ (0 : Int32).toInt) ∧ ((0 : Int32).toInt ≤ 1) := by have := (by decide : ((0 : Int32)).toInt = 0); exact ⟨by omega, by omega⟩
            exact hQ _ _ hI13594 hF13599  o13601.1 o13601.2
          · replace h13600 : ¬ (r13596.toInt < 5) := h13600
            have o13602 : (0 ≤ (1 : Int32).toInt) ∧ ((1 : Int32).toInt ≤ 1) := by have := (by decide : ((1 : Int32)).toInt = 1); exact ⟨by omega, by omega⟩
            exact hQ _ _ hI13594 hF13599  o13602.1 o13602.2
    · have o13603 : (0 ≤ (1 : Int32).toInt) ∧ ((1 : Int32).toInt ≤ 1) := by have := (by decide : ((1 : Int32)).toInt = 1); exact ⟨by omega, by omega⟩
      exact hQ _ _ hI13554 hF13559  o13603.1 o13603.2
  · refine ⟨fun h13604 => ?_, fun h13604 => ?_⟩
    · have o13605 : (0 ≤ (0 : Int32).toInt) ∧ ((0 : Int32).toInt ≤ 1) := by have := (by decide : ((0 : Int32)).toInt = 0); exact ⟨by omega, by omega⟩
      exact hQ _ _ hI13554 hF13559  o13605.1 o13605.2
    · have o13606 : (0 ≤ (1 : Int32).toInt) ∧ ((1 : Int32).toInt ≤ 1) := by have := (by decide : ((1 : Int32)).toInt = 1); exact ⟨by omega, by omega⟩
      exact hQ _ _ hI13554 hF13559  o13606.1 o13606.2
def l_Mo_fill : Pl := [(127, some 45), (127, some 46), (127, some 47), (127, some 48), (165, none), (166, none), (167, none), (173, none), (174, none), (194, none), (195, none), (196, none)]
set_option maxRecDepth 20000 in
set_option maxHeartbeats 2000000 in
theorem h_Mo_fill {w : MW} {a0 : Int32} {b0 : Int32} {c0 : Int64} {Q : Int32 → MW → Prop} (hI : BND w) (hf_FT : FT w)  (hQ : ∀ (r : Int32) (w' : MW), BND w' → FR l_Mo_fill w w' → 0 ≤ r.toInt → r.toInt ≤ 1 → Q r w') : p_Mo_fill w a0 b0 c0 Q := by
  refine Eq.mpr (p_Mo_fill.eq_1 _ _ _ _ _) ?_
  refine Eq.mpr (p_Mo_isTank.eq_1 _ _ _) ?_
  refine Eq.mpr (p_Mo_isThing.eq_1 _ _ _) ?_
  refine ⟨fun h13607 => ?_, fun h13607 => ?_⟩
  · refine ⟨fun _ => ?_, fun h => absurd (by decide) h⟩
    refine ⟨fun _ => ?_, fun h => absurd (by decide) h⟩
    have o13608 : (0 ≤ (0 : Int32).toInt) ∧ ((0 : Int32).toInt ≤ 1) := by have := (by decide : ((0 : Int32)).toInt = 0); exact ⟨by omega, by omega⟩
    exact hQ _ _ hI (FR.refl _ w)  o13608.1 o13608.2
  · refine ⟨fun h13609 => ?_, fun h13609 => ?_⟩
    · refine ⟨fun _ => ?_, fun h => absurd (by decide) h⟩
      refine ⟨fun _ => ?_, fun h => absurd (by decide) h⟩
      have o13610 : (0 ≤ (0 : Int32).toInt) ∧ ((0 : Int32).toInt ≤ 1) := by have := (by decide : ((0 : Int32)).toInt = 0); exact ⟨by omega, by omega⟩
      exact hQ _ _ hI (FR.refl _ w)  o13610.1 o13610.2
    · refine ⟨fun h => absurd h (by decide), fun _ => ?_⟩
      have o13611 : 0 ≤ a0.toInt ∧ a0.toInt < 20 := by have := (by decide : ((0 : Int32)).toInt = 0); have := bd_127_4 hI; omega
      refine ⟨o13611, ?_⟩
      refine ⟨fun h13612 => ?_, fun h13612 => ?_⟩
      · refine ⟨fun _ => ?_, fun h => absurd (by decide) h⟩
        have o13613 : (0 ≤ (0 : Int32).toInt) ∧ ((0 : Int32).toInt ≤ 1) := by have := (by decide : ((0 : Int32)).toInt = 0); exact ⟨by omega, by omega⟩
        exact hQ _ _ hI (FR.refl _ w)  o13613.1 o13613.2
      · refine ⟨fun h => absurd h (by decide), fun _ => ?_⟩
        refine ⟨fun h13614 => ?_, fun h13614 => ?_⟩
        · have o13615 : (0 ≤ (0 : Int32).toInt) ∧ ((0 : Int32).toInt ≤ 1) := by have := (by decide : ((0 : Int32)).toInt = 0); exact ⟨by omega, by omega⟩
          exact hQ _ _ hI (FR.refl _ w)  o13615.1 o13615.2
        · refine ⟨fun h13616 => ?_, fun h13616 => ?_⟩
          · have o13617 : (0 ≤ (0 : Int32).toInt) ∧ ((0 : Int32).toInt ≤ 1) := by have := (by decide : ((0 : Int32)).toInt = 0); exact ⟨by omega, by omega⟩
            exact hQ _ _ hI (FR.refl _ w)  o13617.1 o13617.2
          · refine ⟨fun h13618 => ?_, fun h13618 => ?_⟩
            · have o13619 : (0 ≤ (0 : Int32).toInt) ∧ ((0 : Int32).toInt ≤ 1) := by have := (by decide : ((0 : Int32)).toInt = 0); exact ⟨by omega, by omega⟩
              exact hQ _ _ hI (FR.refl _ w)  o13619.1 o13619.2
            · refine ⟨fun h13620 => ?_, fun h13620 => ?_⟩
              · have o13621 : (0 ≤ (0 : Int32).toInt) ∧ ((0 : Int32).toInt ≤ 1) := by have := (by decide : ((0 : Int32)).toInt = 0); exact ⟨by omega, by omega⟩
                exact hQ _ _ hI (FR.refl _ w)  o13621.1 o13621.2
              · have o13622 : 0 ≤ a0.toInt ∧ a0.toInt < 20 := by have := (by decide : ((0 : Int32)).toInt = 0); have := bd_127_4 hI; omega
                refine ⟨o13622, ?_⟩
                have o13623 : 0 ≤ a0.toInt ∧ a0.toInt < 20 := by have := (by decide : ((0 : Int32)).toInt = 0); have := bd_127_4 hI; omega
                refine ⟨o13623, ?_⟩
                refine ⟨fun h13624 => ?_, fun h13624 => ?_⟩
                · have o13625 : (0 ≤ (0 : Int32).toInt) ∧ ((0 : Int32).toInt ≤ 1) := by have := (by decide : ((0 : Int32)).toInt = 0); exact ⟨by omega, by omega⟩
                  exact hQ _ _ hI (FR.refl _ w)  o13625.1 o13625.2
                · have o13626 : (0 ≤ b0.toInt) ∧ (b0.toInt ≤ 15) ∧ (0 ≤ a0.toInt) ∧ (a0.toInt ≤ 43) ∧ (a0.toInt < (w.1 127 4).toInt + (w.1 127 11).toInt) := by have := bd_127_4 hI; have := bd_127_11 hI; have := (by decide : ((0 : Int32)).toInt = 0); have := (by decide : ((1 : Int32)).toInt = 1); have := (by decide : ((14 : Int32)).toInt = 14); exact ⟨by omega, by omega, by omega, by omega, by omega⟩
                  refine h_Mo_mayCome hI  o13626.1 o13626.2.1 o13626.2.2.1 o13626.2.2.2.1 o13626.2.2.2.2 (fun r13630 w13627 hI13628 hL13629 p13631 p13632 => ?_)
                  have hF13633 : FR l_Mo_fill w w13627 := (FR.refl _ w).tr hL13629 rfl
                  refine ⟨fun h13634 => ?_, fun h13634 => ?_⟩
                  · refine h_Mo_look hI13628 (FT_fr hL13629 rfl hf_FT)  (fun w13635 hI13636 hL13637  => ?_)
                    have hF13639 : FR l_Mo_fill w w13635 := hF13633.tr hL13637 rfl
                    have o13640 : 0 ≤ a0.toInt ∧ a0.toInt < 44 := by have := (by decide : ((0 : Int32)).toInt = 0); have := bd_127_4 hI; omega
                    refine ⟨o13640, ?_⟩
                    have o13642 : 0 ≤ b0.toInt ∧ b0.toInt ≤ 15 := by have := (by decide : ((1 : Int32)).toInt = 1); have := (by decide : ((14 : Int32)).toInt = 14); omega
                    have hI13641 : BND (sI w13635 194 a0.toInt.toNat b0) := wbd_194 hI13636 a0.toInt.toNat o13642.1 o13642.2
                    refine h_Mo_isSafe hI13641   (fun r13646 w13643 hI13644 hL13645 p13647 p13648 => ?_)
                    have hF13649 : FR l_Mo_fill w w13643 := (FR.I hF13639 (k := 194) (j := a0.toInt.toNat) (v := b0) rfl).tr hL13645 rfl
                    refine ⟨fun h13650 => ?_, fun h13650 => ?_⟩
                    · have o13651 : 0 ≤ a0.toInt ∧ a0.toInt < 20 := by have := (by decide : ((0 : Int32)).toInt = 0); have := bd_127_4 hI; omega
                      refine ⟨o13651, ?_⟩
                      have o13652 : 0 ≤ a0.toInt ∧ a0.toInt < 20 := by have := (by decide : ((0 : Int32)).toInt = 0); have := bd_127_4 hI; omega
                      refine ⟨o13652, ?_⟩
                      have o13653 : 0 ≤ a0.toInt ∧ a0.toInt < 20 := by have := (by decide : ((0 : Int32)).toInt = 0); have := bd_127_4 hI; omega
                      refine ⟨o13653, ?_⟩
                      refine Eq.mpr (p_Mo_note.eq_1 _ _ _) ?_
                      have o13655 : 0 ≤ b0.toInt ∧ b0.toInt ≤ 15 := by have := (by decide : ((1 : Int32)).toInt = 1); have := (by decide : ((14 : Int32)).toInt = 14); omega
                      have hI13654 : BND (sI w13643 166 a0.toInt.toNat b0) := wbd_166 hI13644 a0.toInt.toNat o13655.1 o13655.2
                      have hI13656 : BND (sI (sI w13643 166 a0.toInt.toNat b0) 165 a0.toInt.toNat ((w13643.1 165 a0.toInt.toNat) + (Int64.toInt32 c0))) := wbd_165 hI13654 a0.toInt.toNat
                      have o13657 : (0 ≤ a0.toInt) ∧ (a0.toInt ≤ 43) ∧ (a0.toInt < ((sI (sI w13643 166 a0.toInt.toNat b0) 165 a0.toInt.toNat ((w13643.1 165 a0.toInt.toNat) + (Int64.toInt32 c0))).1 127 4).toInt + ((sI (sI w13643 166 a0.toInt.toNat b0) 165 a0.toInt.toNat ((w13643.1 165 a0.toInt.toNat) + (Int64.toInt32 c0))).1 127 11).toInt) := by have := bd_127_4 hI13644; have := bd_127_4 hI13636; have := bd_127_4 hI13628; have := bd_127_4 hI; have := (congrArg Int32.toInt (hL13629 127 4 rfl).1); have := (congrArg Int32.toInt (hL13637 127 4 rfl).1); have : ((sI w13635 194 a0.toInt.toNat b0).1 127 4).toInt = (w13635.1 127 4).toInt := rfl; have := (congrArg Int32.toInt (hL13645 127 4 rfl).1); have : ((sI (sI w13643 166 a0.toInt.toNat b0) 165 a0.toInt.toNat ((w13643.1 165 a0.toInt.toNat) + (Int64.toInt32 c0))).1 127 4).toInt = (w13643.1 127 4).toInt := rfl; have := bd_127_11 hI13644; have := bd_127_11 hI13636; have := bd_127_11 hI13628; have := bd_127_11 hI; have := (congrArg Int32.toInt (hL13629 127 11 rfl).1); have := (congrArg Int32.toInt (hL13637 127 11 rfl).1); have : ((sI w13635 194 a0.toInt.toNat b0).1 127 11).toInt = (w13635.1 127 11).toInt := rfl; have := (congrArg Int32.toInt (hL13645 127 11 rfl).1); have : ((sI (sI w13643 166 a0.toInt.toNat b0) 165 a0.toInt.toNat ((w13643.1 165 a0.toInt.toNat) + (Int64.toInt32 c0))).1 127 11).toInt = (w13643.1 127 11).toInt := rfl; have := (by decide : ((0 : Int32)).toInt = 0); exact ⟨by omega, by omega, by omega⟩
                      refine h_Mo_liquidIn hI13656  o13657.1 o13657.2.1 o13657.2.2 (fun r13661 w13658 hI13659 hL13660 p13662 p13663 => ?_)
                      have hF13664 : FR l_Mo_fill w w13658 := (FR.I (FR.I hF13649 (k := 166) (j := a0.toInt.toNat) (v := b0) rfl) (k := 165) (j := a0.toInt.toNat) (v := ((w13643.1 165 a0.toInt.toNat) + (Int64.toInt32 c0))) rfl).tr hL13660 rfl
                      refine ⟨fun h13665 => ?_, fun h13665 => ?_⟩
                      · have o13666 : (0 ≤ (1 : Int32).toInt) ∧ ((1 : Int32).toInt ≤ 1) := by have := (by decide : ((1 : Int32)).toInt = 1); exact ⟨by omega, by omega⟩
                        exact hQ _ _ hI13659 hF13664  o13666.1 o13666.2
                      · have o13667 : 0 ≤ a0.toInt ∧ a0.toInt < 44 := by have := (by decide : ((0 : Int32)).toInt = 0); have := bd_127_4 hI; omega
                        refine ⟨o13667, ?_⟩
                        have o13669 : 0 ≤ r13661.toInt ∧ r13661.toInt ≤ 15 := by have := (by decide : ((0 : Int32)).toInt = 0); omega
                        have hI13668 : BND (sI w13658 173 a0.toInt.toNat r13661) := wbd_173 hI13659 a0.toInt.toNat o13669.1 o13669.2
                        have o13670 : (0 ≤ a0.toInt) ∧ (a0.toInt ≤ 43) := by have := (by decide : ((0 : Int32)).toInt = 0); have := bd_127_4 hI; exact ⟨by omega, by omega⟩
                        refine h_Mo_forget hI13668  o13670.1 o13670.2 (fun w13671 hI13672 hL13673  => ?_)
                        have hF13675 : FR l_Mo_fill w w13671 := (FR.I hF13664 (k := 173) (j := a0.toInt.toNat) (v := r13661) rfl).tr hL13673 rfl
                        have o13676 : (0 ≤ (1 : Int32).toInt) ∧ ((1 : Int32).toInt ≤ 1) := by have := (by decide : ((1 : Int32)).toInt = 1); exact ⟨by omega, by omega⟩
                        exact hQ _ _ hI13672 hF13675  o13676.1 o13676.2
                    · have o13677 : (0 ≤ (0 : Int32).toInt) ∧ ((0 : Int32).toInt ≤ 1) := by have := (by decide : ((0 : Int32)).toInt = 0); exact ⟨by omega, by omega⟩
                      exact hQ _ _ hI13644 hF13649  o13677.1 o13677.2
                  · have o13678 : (0 ≤ (0 : Int32).toInt) ∧ ((0 : Int32).toInt ≤ 1) := by have := (by decide : ((0 : Int32)).toInt = 0); exact ⟨by omega, by omega⟩
                    exact hQ _ _ hI13628 hF13633  o13678.1 o13678.2
def l_Mo_may_46 : Pl := [(175, none)]
def l_Mo_may : Pl := [(175, none)]
set_option maxRecDepth 20000 in
set_option maxHeartbeats 2000000 in
theorem h_Mo_may {w : MW} {a0 : Int32} {b0 : Int32} {Q : Int32 → MW → Prop} (hI : BND w)  (hQ : ∀ (r : Int32) (w' : MW), BND w' → FR l_Mo_may w w' → 0 ≤ r.toInt → r.toInt ≤ 1 → Q r w') : p_Mo_may w a0 b0 Q := by
  refine Eq.mpr (p_Mo_may.eq_1 _ _ _ _) ?_
  refine ⟨fun h13679 => ?_, fun h13679 => ?_⟩
  · refine Eq.mpr (q_Mo_may_46.eq_1 _ _ _ _ _) ?_
    refine ⟨fun _ => ?_, fun h => absurd (by decide) h⟩
    refine ⟨by decide, ?_⟩
    have o13680 : (0 ≤ (0 : Int32).toInt) ∧ ((0 : Int32).toInt ≤ 1) := by have := (by decide : ((0 : Int32)).toInt = 0); exact ⟨by omega, by omega⟩
    exact hQ _ _ hI (FR.refl _ w)  o13680.1 o13680.2
  · refine ⟨fun h13681 => ?_, fun h13681 => ?_⟩
    · refine Eq.mpr (q_Mo_may_46.eq_1 _ _ _ _ _) ?_
      refine ⟨fun _ => ?_, fun h => absurd (by decide) h⟩
      refine ⟨by decide, ?_⟩
      have o13682 : (0 ≤ (0 : Int32).toInt) ∧ ((0 : Int32).toInt ≤ 1) := by have := (by decide : ((0 : Int32)).toInt = 0); exact ⟨by omega, by omega⟩
      exact hQ _ _ hI (FR.refl _ w)  o13682.1 o13682.2
    · refine ⟨fun h13683 => ?_, fun h13683 => ?_⟩
      · refine Eq.mpr (q_Mo_may_46.eq_1 _ _ _ _ _) ?_
        refine ⟨fun _ => ?_, fun h => absurd (by decide) h⟩
        refine ⟨by decide, ?_⟩
        have o13684 : (0 ≤ (0 : Int32).toInt) ∧ ((0 : Int32).toInt ≤ 1) := by have := (by decide : ((0 : Int32)).toInt = 0); exact ⟨by omega, by omega⟩
        exact hQ _ _ hI (FR.refl _ w)  o13684.1 o13684.2
      · refine ⟨fun h13685 => ?_, fun h13685 => ?_⟩
        · refine Eq.mpr (q_Mo_may_46.eq_1 _ _ _ _ _) ?_
          refine ⟨fun _ => ?_, fun h => absurd (by decide) h⟩
          refine ⟨by decide, ?_⟩
          have o13686 : (0 ≤ (0 : Int32).toInt) ∧ ((0 : Int32).toInt ≤ 1) := by have := (by decide : ((0 : Int32)).toInt = 0); exact ⟨by omega, by omega⟩
          exact hQ _ _ hI (FR.refl _ w)  o13686.1 o13686.2
        · refine ⟨fun h13687 => ?_, fun h13687 => ?_⟩
          · refine Eq.mpr (q_Mo_may_46.eq_1 _ _ _ _ _) ?_
            refine ⟨fun _ => ?_, fun h => absurd (by decide) h⟩
            refine ⟨by decide, ?_⟩
            have o13688 : (0 ≤ (0 : Int32).toInt) ∧ ((0 : Int32).toInt ≤ 1) := by have := (by decide : ((0 : Int32)).toInt = 0); exact ⟨by omega, by omega⟩
            exact hQ _ _ hI (FR.refl _ w)  o13688.1 o13688.2
          · have o13689 : 0 ≤ (((16 : Int32) * a0) + b0).toInt ∧ (((16 : Int32) * a0) + b0).toInt < 256 := by have := (by decide : ((1 : Int32)).toInt = 1); have := (by decide : ((14 : Int32)).toInt = 14); have := ti_mul2 (by decide : ((16 : Int32)).toInt = 16) (Eq.refl a0.toInt) (by omega) (by omega); have := ti_add2 (Eq.refl ((16 : Int32) * a0).toInt) (Eq.refl b0.toInt) (by omega) (by omega); omega
            refine ⟨o13689, ?_⟩
            refine ⟨fun h13690 => ?_, fun h13690 => ?_⟩
            · refine Eq.mpr (q_Mo_may_46.eq_1 _ _ _ _ _) ?_
              refine ⟨fun _ => ?_, fun h => absurd (by decide) h⟩
              refine ⟨by decide, ?_⟩
              have o13691 : (0 ≤ (0 : Int32).toInt) ∧ ((0 : Int32).toInt ≤ 1) := by have := (by decide : ((0 : Int32)).toInt = 0); exact ⟨by omega, by omega⟩
              exact hQ _ _ hI (FR.refl _ w)  o13691.1 o13691.2
            · refine Eq.mpr (q_Mo_may_46.eq_1 _ _ _ _ _) ?_
              refine ⟨fun h => absurd h (by decide), fun _ => ?_⟩
              have o13692 : 0 ≤ (((16 : Int32) * a0) + b0).toInt ∧ (((16 : Int32) * a0) + b0).toInt < 256 := by have := (by decide : ((1 : Int32)).toInt = 1); have := (by decide : ((14 : Int32)).toInt = 14); have := ti_mul2 (by decide : ((16 : Int32)).toInt = 16) (Eq.refl a0.toInt) (by omega) (by omega); have := ti_add2 (Eq.refl ((16 : Int32) * a0).toInt) (Eq.refl b0.toInt) (by omega) (by omega); omega
              refine ⟨o13692, ?_⟩
              have o13693 : 0 ≤ (((16 : Int32) * b0) + a0).toInt ∧ (((16 : Int32) * b0) + a0).toInt < 256 := by have := (by decide : ((1 : Int32)).toInt = 1); have := (by decide : ((14 : Int32)).toInt = 14); have := ti_mul2 (by decide : ((16 : Int32)).toInt = 16) (Eq.refl b0.toInt) (by omega) (by omega); have := ti_add2 (Eq.refl ((16 : Int32) * b0).toInt) (Eq.refl a0.toInt) (by omega) (by omega); omega
              refine ⟨o13693, ?_⟩
              refine ⟨by decide, ?_⟩
              have o13695 : 0 ≤ (vp_nar .boolean (1 : Int32)).toInt ∧ (vp_nar .boolean (1 : Int32)).toInt ≤ 1 := by have := nb_bool1; omega
              have hI13694 : BND (sI w 175 ((((16 : Int32) * a0) + b0).toInt.toNat) (vp_nar .boolean (1 : Int32))) := wbd_175 hI ((((16 : Int32) * a0) + b0).toInt.toNat) o13695.1 o13695.2
              have o13697 : 0 ≤ (vp_nar .boolean (1 : Int32)).toInt ∧ (vp_nar .boolean (1 : Int32)).toInt ≤ 1 := by have := nb_bool1; omega
              have hI13696 : BND (sI (sI w 175 ((((16 : Int32) * a0) + b0).toInt.toNat) (vp_nar .boolean (1 : Int32))) 175 ((((16 : Int32) * b0) + a0).toInt.toNat) (vp_nar .boolean (1 : Int32))) := wbd_175 hI13694 ((((16 : Int32) * b0) + a0).toInt.toNat) o13697.1 o13697.2
              have o13698 : (0 ≤ (1 : Int32).toInt) ∧ ((1 : Int32).toInt ≤ 1) := by have := (by decide : ((1 : Int32)).toInt = 1); exact ⟨by omega, by omega⟩
              exact hQ _ _ hI13696 (FR.I (FR.I (FR.refl _ w) (k := 175) (j := (((16 : Int32) * a0) + b0).toInt.toNat) (v := (vp_nar .boolean (1 : Int32))) rfl) (k := 175) (j := (((16 : Int32) * b0) + a0).toInt.toNat) (v := (vp_nar .boolean (1 : Int32))) rfl)  o13698.1 o13698.2
def l_Mo_need : Pl := [(176, none)]
set_option maxRecDepth 20000 in
set_option maxHeartbeats 2000000 in
theorem h_Mo_need {w : MW} {a0 : Int32} {b0 : Int32} {c0 : Int32} {Q : Int32 → MW → Prop} (hI : BND w)  (hQ : ∀ (r : Int32) (w' : MW), BND w' → FR l_Mo_need w w' → 0 ≤ r.toInt → r.toInt ≤ 1 → Q r w') : p_Mo_need w a0 b0 c0 Q := by
  refine Eq.mpr (p_Mo_need.eq_1 _ _ _ _ _) ?_
  refine ⟨fun h13699 => ?_, fun h13699 => ?_⟩
  · have o13700 : (0 ≤ (0 : Int32).toInt) ∧ ((0 : Int32).toInt ≤ 1) := by have := (by decide : ((0 : Int32)).toInt = 0); exact ⟨by omega, by omega⟩
    exact hQ _ _ hI (FR.refl _ w)  o13700.1 o13700.2
  · refine ⟨fun h13701 => ?_, fun h13701 => ?_⟩
    · have o13702 : (0 ≤ (0 : Int32).toInt) ∧ ((0 : Int32).toInt ≤ 1) := by have := (by decide : ((0 : Int32)).toInt = 0); exact ⟨by omega, by omega⟩
      exact hQ _ _ hI (FR.refl _ w)  o13702.1 o13702.2
    · refine ⟨fun h13703 => ?_, fun h13703 => ?_⟩
      · have o13704 : (0 ≤ (0 : Int32).toInt) ∧ ((0 : Int32).toInt ≤ 1) := by have := (by decide : ((0 : Int32)).toInt = 0); exact ⟨by omega, by omega⟩
        exact hQ _ _ hI (FR.refl _ w)  o13704.1 o13704.2
      · refine ⟨fun h13705 => ?_, fun h13705 => ?_⟩
        · have o13706 : (0 ≤ (0 : Int32).toInt) ∧ ((0 : Int32).toInt ≤ 1) := by have := (by decide : ((0 : Int32)).toInt = 0); exact ⟨by omega, by omega⟩
          exact hQ _ _ hI (FR.refl _ w)  o13706.1 o13706.2
        · refine ⟨fun h13707 => ?_, fun h13707 => ?_⟩
          · have o13708 : (0 ≤ (0 : Int32).toInt) ∧ ((0 : Int32).toInt ≤ 1) := by have := (by decide : ((0 : Int32)).toInt = 0); exact ⟨by omega, by omega⟩
            exact hQ _ _ hI (FR.refl _ w)  o13708.1 o13708.2
          · refine ⟨fun h13709 => ?_, fun h13709 => ?_⟩
            · have o13710 : 0 ≤ (((16 : Int32) * a0) + b0).toInt ∧ (((16 : Int32) * a0) + b0).toInt < 256 := by have := (by decide : ((1 : Int32)).toInt = 1); have := (by decide : ((14 : Int32)).toInt = 14); have := ti_mul2 (by decide : ((16 : Int32)).toInt = 16) (Eq.refl a0.toInt) (by omega) (by omega); have := ti_add2 (Eq.refl ((16 : Int32) * a0).toInt) (Eq.refl b0.toInt) (by omega) (by omega); omega
              refine ⟨o13710, ?_⟩
              have o13712 : 0 ≤ c0.toInt ∧ c0.toInt ≤ 5 := by have := (by decide : ((0 : Int32)).toInt = 0); have := (by decide : ((5 : Int32)).toInt = 5); omega
              have hI13711 : BND (sI w 176 ((((16 : Int32) * a0) + b0).toInt.toNat) c0) := wbd_176 hI ((((16 : Int32) * a0) + b0).toInt.toNat) o13712.1 o13712.2
              have o13713 : (0 ≤ (1 : Int32).toInt) ∧ ((1 : Int32).toInt ≤ 1) := by have := (by decide : ((1 : Int32)).toInt = 1); exact ⟨by omega, by omega⟩
              exact hQ _ _ hI13711 (FR.I (FR.refl _ w) (k := 176) (j := (((16 : Int32) * a0) + b0).toInt.toNat) (v := c0) rfl)  o13713.1 o13713.2
            · have o13714 : (0 ≤ (0 : Int32).toInt) ∧ ((0 : Int32).toInt ≤ 1) := by have := (by decide : ((0 : Int32)).toInt = 0); exact ⟨by omega, by omega⟩
              exact hQ _ _ hI (FR.refl _ w)  o13714.1 o13714.2
def l_Mo_lasts : Pl := [(177, none)]
set_option maxRecDepth 20000 in
set_option maxHeartbeats 2000000 in
theorem h_Mo_lasts {w : MW} {a0 : Int32} {b0 : Int32} {Q : Int32 → MW → Prop} (hI : BND w)  (hQ : ∀ (r : Int32) (w' : MW), BND w' → FR l_Mo_lasts w w' → 0 ≤ r.toInt → r.toInt ≤ 1 → Q r w') : p_Mo_lasts w a0 b0 Q := by
  refine Eq.mpr (p_Mo_lasts.eq_1 _ _ _ _) ?_
  refine ⟨fun h13715 => ?_, fun h13715 => ?_⟩
  · have o13716 : (0 ≤ (0 : Int32).toInt) ∧ ((0 : Int32).toInt ≤ 1) := by have := (by decide : ((0 : Int32)).toInt = 0); exact ⟨by omega, by omega⟩
    exact hQ _ _ hI (FR.refl _ w)  o13716.1 o13716.2
  · refine ⟨fun h13717 => ?_, fun h13717 => ?_⟩
    · have o13718 : (0 ≤ (0 : Int32).toInt) ∧ ((0 : Int32).toInt ≤ 1) := by have := (by decide : ((0 : Int32)).toInt = 0); exact ⟨by omega, by omega⟩
      exact hQ _ _ hI (FR.refl _ w)  o13718.1 o13718.2
    · refine ⟨fun h13719 => ?_, fun h13719 => ?_⟩
      · have o13720 : (0 ≤ (0 : Int32).toInt) ∧ ((0 : Int32).toInt ≤ 1) := by have := (by decide : ((0 : Int32)).toInt = 0); exact ⟨by omega, by omega⟩
        exact hQ _ _ hI (FR.refl _ w)  o13720.1 o13720.2
      · refine ⟨fun h13721 => ?_, fun h13721 => ?_⟩
        · have o13722 : 0 ≤ a0.toInt ∧ a0.toInt < 6 := by have := (by decide : ((1 : Int32)).toInt = 1); have := (by decide : ((5 : Int32)).toInt = 5); omega
          refine ⟨o13722, ?_⟩
          have o13724 : 0 ≤ b0.toInt ∧ b0.toInt ≤ 1000000 := by have := (by decide : ((0 : Int32)).toInt = 0); have := (by decide : ((1000000 : Int32)).toInt = 1000000); omega
          have hI13723 : BND (sI w 177 a0.toInt.toNat b0) := wbd_177 hI a0.toInt.toNat o13724.1 o13724.2
          have o13725 : (0 ≤ (1 : Int32).toInt) ∧ ((1 : Int32).toInt ≤ 1) := by have := (by decide : ((1 : Int32)).toInt = 1); exact ⟨by omega, by omega⟩
          exact hQ _ _ hI13723 (FR.I (FR.refl _ w) (k := 177) (j := a0.toInt.toNat) (v := b0) rfl)  o13725.1 o13725.2
        · have o13726 : (0 ≤ (0 : Int32).toInt) ∧ ((0 : Int32).toInt ≤ 1) := by have := (by decide : ((0 : Int32)).toInt = 0); exact ⟨by omega, by omega⟩
          exact hQ _ _ hI (FR.refl _ w)  o13726.1 o13726.2
def l_Mo_bind_72 : Pl := [(197, none), (198, none), (199, none), (200, none)]
def l_Mo_bind_53 : Pl := [(197, none), (198, none), (199, none), (200, none)]
def l_Mo_bind_36 : Pl := [(197, none), (198, none), (199, none), (200, none)]
def l_Mo_bind : Pl := [(197, none), (198, none), (199, none), (200, none)]
set_option maxRecDepth 20000 in
set_option maxHeartbeats 2000000 in
theorem h_Mo_bind {w : MW} {a0 : Int32} {b0 : Int32} {c0 : Int32} {e0 : Int32} {f0 : Int32} {Q : Int32 → MW → Prop} (hI : BND w)  (hQ : ∀ (r : Int32) (w' : MW), BND w' → FR l_Mo_bind w w' → 0 ≤ r.toInt → r.toInt ≤ 1 → Q r w') : p_Mo_bind w a0 b0 c0 e0 f0 Q := by
  refine Eq.mpr (p_Mo_bind.eq_1 _ _ _ _ _ _ _) ?_
  refine ⟨fun h13727 => ?_, fun h13727 => ?_⟩
  · have o13728 : (0 ≤ (0 : Int32).toInt) ∧ ((0 : Int32).toInt ≤ 1) := by have := (by decide : ((0 : Int32)).toInt = 0); exact ⟨by omega, by omega⟩
    exact hQ _ _ hI (FR.refl _ w)  o13728.1 o13728.2
  · refine ⟨fun h13729 => ?_, fun h13729 => ?_⟩
    · have o13730 : (0 ≤ (0 : Int32).toInt) ∧ ((0 : Int32).toInt ≤ 1) := by have := (by decide : ((0 : Int32)).toInt = 0); exact ⟨by omega, by omega⟩
      exact hQ _ _ hI (FR.refl _ w)  o13730.1 o13730.2
    · refine ⟨fun h13731 => ?_, fun h13731 => ?_⟩
      · have o13732 : (0 ≤ (0 : Int32).toInt) ∧ ((0 : Int32).toInt ≤ 1) := by have := (by decide : ((0 : Int32)).toInt = 0); exact ⟨by omega, by omega⟩
        exact hQ _ _ hI (FR.refl _ w)  o13732.1 o13732.2
      · refine ⟨fun h13733 => ?_, fun h13733 => ?_⟩
        · have o13734 : (0 ≤ (0 : Int32).toInt) ∧ ((0 : Int32).toInt ≤ 1) := by have := (by decide : ((0 : Int32)).toInt = 0); exact ⟨by omega, by omega⟩
          exact hQ _ _ hI (FR.refl _ w)  o13734.1 o13734.2
        · refine ⟨fun h13735 => ?_, fun h13735 => ?_⟩
          · refine Eq.mpr (q_Mo_bind_36.eq_1 _ _ _ _ _ _ _) ?_
            refine ⟨fun h13736 => ?_, fun h13736 => ?_⟩
            · refine Eq.mpr (q_Mo_bind_53.eq_1 _ _ _ _ _ _ _) ?_
              refine ⟨fun h13737 => ?_, fun h13737 => ?_⟩
              · refine Eq.mpr (q_Mo_bind_72.eq_1 _ _ _ _ _ _ _) ?_
                have o13738 : 0 ≤ a0.toInt ∧ a0.toInt < 32 := by have := (by decide : ((0 : Int32)).toInt = 0); have := (by decide : ((31 : Int32)).toInt = 31); omega
                refine ⟨o13738, ?_⟩
                have o13739 : 0 ≤ a0.toInt ∧ a0.toInt < 32 := by have := (by decide : ((0 : Int32)).toInt = 0); have := (by decide : ((31 : Int32)).toInt = 31); omega
                refine ⟨o13739, ?_⟩
                have o13740 : 0 ≤ a0.toInt ∧ a0.toInt < 32 := by have := (by decide : ((0 : Int32)).toInt = 0); have := (by decide : ((31 : Int32)).toInt = 31); omega
                refine ⟨o13740, ?_⟩
                have o13741 : 0 ≤ a0.toInt ∧ a0.toInt < 32 := by have := (by decide : ((0 : Int32)).toInt = 0); have := (by decide : ((31 : Int32)).toInt = 31); omega
                refine ⟨o13741, ?_⟩
                have o13743 : (-1) ≤ b0.toInt ∧ b0.toInt ≤ 4 := by have := (by decide : ((0 : Int32)).toInt = 0); have := (by decide : ((4 : Int32)).toInt = 4); have := (by decide : ((2 : Int32)).toInt = 2); have := (by decide : ((3 : Int32)).toInt = 3); omega
                have hI13742 : BND (sI w 197 a0.toInt.toNat b0) := wbd_197 hI a0.toInt.toNat o13743.1 o13743.2
                have hI13744 : BND (sI (sI w 197 a0.toInt.toNat b0) 198 a0.toInt.toNat c0) := wbd_198 hI13742 a0.toInt.toNat
                have hI13745 : BND (sI (sI (sI w 197 a0.toInt.toNat b0) 198 a0.toInt.toNat c0) 199 a0.toInt.toNat e0) := wbd_199 hI13744 a0.toInt.toNat
                have hI13746 : BND (sI (sI (sI (sI w 197 a0.toInt.toNat b0) 198 a0.toInt.toNat c0) 199 a0.toInt.toNat e0) 200 a0.toInt.toNat f0) := wbd_200 hI13745 a0.toInt.toNat
                have o13747 : (0 ≤ (1 : Int32).toInt) ∧ ((1 : Int32).toInt ≤ 1) := by have := (by decide : ((1 : Int32)).toInt = 1); exact ⟨by omega, by omega⟩
                exact hQ _ _ hI13746 (FR.I (FR.I (FR.I (FR.I (FR.refl _ w) (k := 197) (j := a0.toInt.toNat) (v := b0) rfl) (k := 198) (j := a0.toInt.toNat) (v := c0) rfl) (k := 199) (j := a0.toInt.toNat) (v := e0) rfl) (k := 200) (j := a0.toInt.toNat) (v := f0) rfl)  o13747.1 o13747.2
              · refine ⟨fun h13748 => ?_, fun h13748 => ?_⟩
                · have o13749 : (0 ≤ (0 : Int32).toInt) ∧ ((0 : Int32).toInt ≤ 1) := by have := (by decide : ((0 : Int32)).toInt = 0); exact ⟨by omega, by omega⟩
                  exact hQ _ _ hI (FR.refl _ w)  o13749.1 o13749.2
                · refine ⟨fun h13750 => ?_, fun h13750 => ?_⟩
                  · refine Eq.mpr (q_Mo_bind_72.eq_1 _ _ _ _ _ _ _) ?_
                    have o13751 : 0 ≤ a0.toInt ∧ a0.toInt < 32 := by have := (by decide : ((0 : Int32)).toInt = 0); have := (by decide : ((31 : Int32)).toInt = 31); omega
                    refine ⟨o13751, ?_⟩
                    have o13752 : 0 ≤ a0.toInt ∧ a0.toInt < 32 := by have := (by decide : ((0 : Int32)).toInt = 0); have := (by decide : ((31 : Int32)).toInt = 31); omega
                    refine ⟨o13752, ?_⟩
                    have o13753 : 0 ≤ a0.toInt ∧ a0.toInt < 32 := by have := (by decide : ((0 : Int32)).toInt = 0); have := (by decide : ((31 : Int32)).toInt = 31); omega
                    refine ⟨o13753, ?_⟩
                    have o13754 : 0 ≤ a0.toInt ∧ a0.toInt < 32 := by have := (by decide : ((0 : Int32)).toInt = 0); have := (by decide : ((31 : Int32)).toInt = 31); omega
                    refine ⟨o13754, ?_⟩
                    have o13756 : (-1) ≤ b0.toInt ∧ b0.toInt ≤ 4 := by have := (by decide : ((0 : Int32)).toInt = 0); have := (by decide : ((4 : Int32)).toInt = 4); have := (by decide : ((2 : Int32)).toInt = 2); have := (by decide : ((3 : Int32)).toInt = 3); omega
                    have hI13755 : BND (sI w 197 a0.toInt.toNat b0) := wbd_197 hI a0.toInt.toNat o13756.1 o13756.2
                    have hI13757 : BND (sI (sI w 197 a0.toInt.toNat b0) 198 a0.toInt.toNat c0) := wbd_198 hI13755 a0.toInt.toNat
                    have hI13758 : BND (sI (sI (sI w 197 a0.toInt.toNat b0) 198 a0.toInt.toNat c0) 199 a0.toInt.toNat e0) := wbd_199 hI13757 a0.toInt.toNat
                    have hI13759 : BND (sI (sI (sI (sI w 197 a0.toInt.toNat b0) 198 a0.toInt.toNat c0) 199 a0.toInt.toNat e0) 200 a0.toInt.toNat f0) := wbd_200 hI13758 a0.toInt.toNat
                    have o13760 : (0 ≤ (1 : Int32).toInt) ∧ ((1 : Int32).toInt ≤ 1) := by have := (by decide : ((1 : Int32)).toInt = 1); exact ⟨by omega, by omega⟩
                    exact hQ _ _ hI13759 (FR.I (FR.I (FR.I (FR.I (FR.refl _ w) (k := 197) (j := a0.toInt.toNat) (v := b0) rfl) (k := 198) (j := a0.toInt.toNat) (v := c0) rfl) (k := 199) (j := a0.toInt.toNat) (v := e0) rfl) (k := 200) (j := a0.toInt.toNat) (v := f0) rfl)  o13760.1 o13760.2
                  · have o13761 : (0 ≤ (0 : Int32).toInt) ∧ ((0 : Int32).toInt ≤ 1) := by have := (by decide : ((0 : Int32)).toInt = 0); exact ⟨by omega, by omega⟩
                    exact hQ _ _ hI (FR.refl _ w)  o13761.1 o13761.2
            · refine ⟨fun h13762 => ?_, fun h13762 => ?_⟩
              · have o13763 : (0 ≤ (0 : Int32).toInt) ∧ ((0 : Int32).toInt ≤ 1) := by have := (by decide : ((0 : Int32)).toInt = 0); exact ⟨by omega, by omega⟩
                exact hQ _ _ hI (FR.refl _ w)  o13763.1 o13763.2
              · refine ⟨fun h13764 => ?_, fun h13764 => ?_⟩
                · have o13765 : (0 ≤ (0 : Int32).toInt) ∧ ((0 : Int32).toInt ≤ 1) := by have := (by decide : ((0 : Int32)).toInt = 0); exact ⟨by omega, by omega⟩
                  exact hQ _ _ hI (FR.refl _ w)  o13765.1 o13765.2
                · refine Eq.mpr (q_Mo_bind_53.eq_1 _ _ _ _ _ _ _) ?_
                  refine ⟨fun h13766 => ?_, fun h13766 => ?_⟩
                  · refine Eq.mpr (q_Mo_bind_72.eq_1 _ _ _ _ _ _ _) ?_
                    have o13767 : 0 ≤ a0.toInt ∧ a0.toInt < 32 := by have := (by decide : ((0 : Int32)).toInt = 0); have := (by decide : ((31 : Int32)).toInt = 31); omega
                    refine ⟨o13767, ?_⟩
                    have o13768 : 0 ≤ a0.toInt ∧ a0.toInt < 32 := by have := (by decide : ((0 : Int32)).toInt = 0); have := (by decide : ((31 : Int32)).toInt = 31); omega
                    refine ⟨o13768, ?_⟩
                    have o13769 : 0 ≤ a0.toInt ∧ a0.toInt < 32 := by have := (by decide : ((0 : Int32)).toInt = 0); have := (by decide : ((31 : Int32)).toInt = 31); omega
                    refine ⟨o13769, ?_⟩
                    have o13770 : 0 ≤ a0.toInt ∧ a0.toInt < 32 := by have := (by decide : ((0 : Int32)).toInt = 0); have := (by decide : ((31 : Int32)).toInt = 31); omega
                    refine ⟨o13770, ?_⟩
                    have o13772 : (-1) ≤ b0.toInt ∧ b0.toInt ≤ 4 := by have := (by decide : ((0 : Int32)).toInt = 0); have := (by decide : ((4 : Int32)).toInt = 4); have := (by decide : ((2 : Int32)).toInt = 2); have := (by decide : ((3 : Int32)).toInt = 3); omega
                    have hI13771 : BND (sI w 197 a0.toInt.toNat b0) := wbd_197 hI a0.toInt.toNat o13772.1 o13772.2
                    have hI13773 : BND (sI (sI w 197 a0.toInt.toNat b0) 198 a0.toInt.toNat c0) := wbd_198 hI13771 a0.toInt.toNat
                    have hI13774 : BND (sI (sI (sI w 197 a0.toInt.toNat b0) 198 a0.toInt.toNat c0) 199 a0.toInt.toNat e0) := wbd_199 hI13773 a0.toInt.toNat
                    have hI13775 : BND (sI (sI (sI (sI w 197 a0.toInt.toNat b0) 198 a0.toInt.toNat c0) 199 a0.toInt.toNat e0) 200 a0.toInt.toNat f0) := wbd_200 hI13774 a0.toInt.toNat
                    have o13776 : (0 ≤ (1 : Int32).toInt) ∧ ((1 : Int32).toInt ≤ 1) := by have := (by decide : ((1 : Int32)).toInt = 1); exact ⟨by omega, by omega⟩
                    exact hQ _ _ hI13775 (FR.I (FR.I (FR.I (FR.I (FR.refl _ w) (k := 197) (j := a0.toInt.toNat) (v := b0) rfl) (k := 198) (j := a0.toInt.toNat) (v := c0) rfl) (k := 199) (j := a0.toInt.toNat) (v := e0) rfl) (k := 200) (j := a0.toInt.toNat) (v := f0) rfl)  o13776.1 o13776.2
                  · exfalso; have := (by decide : ((0 : Int32)).toInt = 0); have := (by decide : ((31 : Int32)).toInt = 31); have := (by decide : ((4 : Int32)).toInt = 4); have := (by decide : ((2 : Int32)).toInt = 2); have := (by decide : ((9 : Int32)).toInt = 9); have := (by decide : ((3 : Int32)).toInt = 3); omega
          · refine ⟨fun h13777 => ?_, fun h13777 => ?_⟩
            · have o13778 : (0 ≤ (0 : Int32).toInt) ∧ ((0 : Int32).toInt ≤ 1) := by have := (by decide : ((0 : Int32)).toInt = 0); exact ⟨by omega, by omega⟩
              exact hQ _ _ hI (FR.refl _ w)  o13778.1 o13778.2
            · refine ⟨fun h13779 => ?_, fun h13779 => ?_⟩
              · have o13780 : (0 ≤ (0 : Int32).toInt) ∧ ((0 : Int32).toInt ≤ 1) := by have := (by decide : ((0 : Int32)).toInt = 0); exact ⟨by omega, by omega⟩
                exact hQ _ _ hI (FR.refl _ w)  o13780.1 o13780.2
              · refine Eq.mpr (q_Mo_bind_36.eq_1 _ _ _ _ _ _ _) ?_
                refine ⟨fun h13781 => ?_, fun h13781 => ?_⟩
                · refine Eq.mpr (q_Mo_bind_53.eq_1 _ _ _ _ _ _ _) ?_
                  refine ⟨fun h13782 => ?_, fun h13782 => ?_⟩
                  · refine Eq.mpr (q_Mo_bind_72.eq_1 _ _ _ _ _ _ _) ?_
                    have o13783 : 0 ≤ a0.toInt ∧ a0.toInt < 32 := by have := (by decide : ((0 : Int32)).toInt = 0); have := (by decide : ((31 : Int32)).toInt = 31); omega
                    refine ⟨o13783, ?_⟩
                    have o13784 : 0 ≤ a0.toInt ∧ a0.toInt < 32 := by have := (by decide : ((0 : Int32)).toInt = 0); have := (by decide : ((31 : Int32)).toInt = 31); omega
                    refine ⟨o13784, ?_⟩
                    have o13785 : 0 ≤ a0.toInt ∧ a0.toInt < 32 := by have := (by decide : ((0 : Int32)).toInt = 0); have := (by decide : ((31 : Int32)).toInt = 31); omega
                    refine ⟨o13785, ?_⟩
                    have o13786 : 0 ≤ a0.toInt ∧ a0.toInt < 32 := by have := (by decide : ((0 : Int32)).toInt = 0); have := (by decide : ((31 : Int32)).toInt = 31); omega
                    refine ⟨o13786, ?_⟩
                    have o13788 : (-1) ≤ b0.toInt ∧ b0.toInt ≤ 4 := by have := (by decide : ((0 : Int32)).toInt = 0); have := (by decide : ((4 : Int32)).toInt = 4); have := (by decide : ((2 : Int32)).toInt = 2); have := (by decide : ((3 : Int32)).toInt = 3); omega
                    have hI13787 : BND (sI w 197 a0.toInt.toNat b0) := wbd_197 hI a0.toInt.toNat o13788.1 o13788.2
                    have hI13789 : BND (sI (sI w 197 a0.toInt.toNat b0) 198 a0.toInt.toNat c0) := wbd_198 hI13787 a0.toInt.toNat
                    have hI13790 : BND (sI (sI (sI w 197 a0.toInt.toNat b0) 198 a0.toInt.toNat c0) 199 a0.toInt.toNat e0) := wbd_199 hI13789 a0.toInt.toNat
                    have hI13791 : BND (sI (sI (sI (sI w 197 a0.toInt.toNat b0) 198 a0.toInt.toNat c0) 199 a0.toInt.toNat e0) 200 a0.toInt.toNat f0) := wbd_200 hI13790 a0.toInt.toNat
                    have o13792 : (0 ≤ (1 : Int32).toInt) ∧ ((1 : Int32).toInt ≤ 1) := by have := (by decide : ((1 : Int32)).toInt = 1); exact ⟨by omega, by omega⟩
                    exact hQ _ _ hI13791 (FR.I (FR.I (FR.I (FR.I (FR.refl _ w) (k := 197) (j := a0.toInt.toNat) (v := b0) rfl) (k := 198) (j := a0.toInt.toNat) (v := c0) rfl) (k := 199) (j := a0.toInt.toNat) (v := e0) rfl) (k := 200) (j := a0.toInt.toNat) (v := f0) rfl)  o13792.1 o13792.2
                  · exfalso; have := (by decide : ((0 : Int32)).toInt = 0); have := (by decide : ((31 : Int32)).toInt = 31); have := (by decide : ((4 : Int32)).toInt = 4); have := (by decide : ((1 : Int32)).toInt = 1); have := (by decide : ((100 : Int32)).toInt = 100); have := (by decide : ((2 : Int32)).toInt = 2); have := (by decide : ((3 : Int32)).toInt = 3); omega
                · exfalso; have := (by decide : ((0 : Int32)).toInt = 0); have := (by decide : ((31 : Int32)).toInt = 31); have := (by decide : ((4 : Int32)).toInt = 4); have := (by decide : ((1 : Int32)).toInt = 1); have := (by decide : ((100 : Int32)).toInt = 100); have := (by decide : ((2 : Int32)).toInt = 2); omega
def l_Mo_isOnWay_34 : Pl := []
def l_Mo_isOnWay_2 : Pl := []
def l_Mo_isOnWay : Pl := []
set_option maxRecDepth 20000 in
set_option maxHeartbeats 2000000 in
theorem hq_Mo_isOnWay_34 {x34_1 : Int32} {x34_2 : Int32} {E : MW → Prop} {Q : Int32 → MW → Prop} (n : Nat) : ∀ (x34_3 : Int32) (w : MW), BND w → 0 ≤ x34_1.toInt → x34_1.toInt ≤ 43 → 0 ≤ x34_2.toInt → x34_2.toInt ≤ 23 → 0 ≤ x34_3.toInt → x34_3.toInt ≤ 24 → (24 - x34_3.toInt).toNat < n → (∀ (w' : MW), BND w' → FR l_Mo_isOnWay_34 w w' → E w') → (∀ (r : Int32) (w' : MW), BND w' → FR l_Mo_isOnWay_34 w w' → 1 ≤ r.toInt → r.toInt ≤ 1 → Q r w') → q_Mo_isOnWay_34 x34_1 x34_2 E Q n x34_3 w := by
  induction n with
  | zero => intros; omega
  | succ n ih =>
    intro x34_3 w hI  hp0 hp1 hp2 hp3 hp4 hp5 hm hE hQ
    rw [q_Mo_isOnWay_34.eq_2]
    have o13793 : 0 ≤ x34_2.toInt ∧ x34_2.toInt < 24 := by omega
    refine ⟨o13793, ?_⟩
    refine ⟨fun h13794 => ?_, fun h13794 => ?_⟩
    · exact hE _ hI (FR.refl _ w)
    · have o13795 : 0 ≤ (((24 : Int32) * x34_2) + x34_3).toInt ∧ (((24 : Int32) * x34_2) + x34_3).toInt < 576 := by have := bd_185 hI x34_2.toInt.toNat; have := ti_mul2 (by decide : ((24 : Int32)).toInt = 24) (Eq.refl x34_2.toInt) (by omega) (by omega); have := ti_add2 (Eq.refl ((24 : Int32) * x34_2).toInt) (Eq.refl x34_3.toInt) (by omega) (by omega); omega
      refine ⟨o13795, ?_⟩
      refine ⟨fun h13796 => ?_, fun h13796 => ?_⟩
      · have o13797 : (0 ≤ x34_1.toInt) ∧ (x34_1.toInt ≤ 43) ∧ (0 ≤ x34_2.toInt) ∧ (x34_2.toInt ≤ 23) ∧ (0 ≤ (x34_3 + (1 : Int32)).toInt) ∧ ((x34_3 + (1 : Int32)).toInt ≤ 24) := by have := bd_185 hI x34_2.toInt.toNat; have := ti_add2 (Eq.refl x34_3.toInt) (by decide : ((1 : Int32)).toInt = 1) (by omega) (by omega); exact ⟨by omega, by omega, by omega, by omega, by omega, by omega⟩
        exact ih _ w hI  o13797.1 o13797.2.1 o13797.2.2.1 o13797.2.2.2.1 o13797.2.2.2.2.1 o13797.2.2.2.2.2 (by have := bd_185 hI x34_2.toInt.toNat; have := ti_add2 (Eq.refl x34_3.toInt) (by decide : ((1 : Int32)).toInt = 1) (by omega) (by omega); omega) (fun w9 hI9 hF9 => hE w9 hI9 ((FR.refl _ w).tr hF9 rfl) ) (fun r w9 hI9 hF9 q0 q1 => hQ r w9 hI9 ((FR.refl _ w).tr hF9 rfl) (by have := bd_185 hI x34_2.toInt.toNat; have := ti_add2 (Eq.refl x34_3.toInt) (by decide : ((1 : Int32)).toInt = 1) (by omega) (by omega); omega) (by have := bd_185 hI x34_2.toInt.toNat; have := ti_add2 (Eq.refl x34_3.toInt) (by decide : ((1 : Int32)).toInt = 1) (by omega) (by omega); omega))
      · have o13798 : (1 ≤ (1 : Int32).toInt) ∧ ((1 : Int32).toInt ≤ 1) := by have := (by decide : ((1 : Int32)).toInt = 1); exact ⟨by omega, by omega⟩
        exact hQ _ _ hI (FR.refl _ w)  o13798.1 o13798.2
set_option maxRecDepth 20000 in
set_option maxHeartbeats 2000000 in
theorem hq_Mo_isOnWay_2 {x2_1 : Int32} {E : MW → Prop} {Q : Int32 → MW → Prop} (n : Nat) : ∀ (x2_2 : Int32) (w : MW), BND w → FT w → 0 ≤ x2_1.toInt → x2_1.toInt ≤ 43 → 0 ≤ x2_2.toInt → x2_2.toInt ≤ 24 → (24 - x2_2.toInt).toNat < n → (∀ (w' : MW), BND w' → FR l_Mo_isOnWay_2 w w' → E w') → (∀ (r : Int32) (w' : MW), BND w' → FR l_Mo_isOnWay_2 w w' → 1 ≤ r.toInt → r.toInt ≤ 1 → Q r w') → q_Mo_isOnWay_2 x2_1 E Q n x2_2 w := by
  induction n with
  | zero => intros; omega
  | succ n ih =>
    intro x2_2 w hI hf_FT hp0 hp1 hp2 hp3 hm hE hQ
    rw [q_Mo_isOnWay_2.eq_2]
    refine ⟨fun h13799 => ?_, fun h13799 => ?_⟩
    · exact hE _ hI (FR.refl _ w)
    · have o13800 : 0 ≤ x2_2.toInt ∧ x2_2.toInt < 24 := by have := bd_127_26 hI; omega
      refine ⟨o13800, ?_⟩
      refine ⟨fun h13801 => ?_, fun h13801 => ?_⟩
      · have o13802 : (1 ≤ (1 : Int32).toInt) ∧ ((1 : Int32).toInt ≤ 1) := by have := (by decide : ((1 : Int32)).toInt = 1); exact ⟨by omega, by omega⟩
        exact hQ _ _ hI (FR.refl _ w)  o13802.1 o13802.2
      · have o13803 : 0 ≤ x2_2.toInt ∧ x2_2.toInt < 24 := by have := bd_127_26 hI; omega
        refine ⟨o13803, ?_⟩
        refine ⟨fun h13804 => ?_, fun h13804 => ?_⟩
        · have o13805 : (0 ≤ x2_1.toInt) ∧ (x2_1.toInt ≤ 43) ∧ (0 ≤ x2_2.toInt) ∧ (x2_2.toInt ≤ 23) ∧ (0 ≤ (0 : Int32).toInt) ∧ ((0 : Int32).toInt ≤ 24) := by have := (by decide : ((0 : Int32)).toInt = 0); have := bd_127_26 hI; have := bd_181 hI x2_2.toInt.toNat; have := bd_127_4 hI; have := bd_182 hI x2_2.toInt.toNat; (try have := hf_FT x2_2 (by omega) (by omega)); exact ⟨by omega, by omega, by omega, by omega, by omega, by omega⟩
          refine hq_Mo_isOnWay_34 FU _ w hI  o13805.1 o13805.2.1 o13805.2.2.1 o13805.2.2.2.1 o13805.2.2.2.2.1 o13805.2.2.2.2.2 (fu_lt (by have := (by decide : ((0 : Int32)).toInt = 0); have := bd_127_26 hI; have := bd_181 hI x2_2.toInt.toNat; have := bd_127_4 hI; have := bd_182 hI x2_2.toInt.toNat; (try have := hf_FT x2_2 (by omega) (by omega)); omega)) (fun w13806 hI13807 hL13808  => ?_) (fun r w9 hI9 hF9 q0 q1 => hQ r w9 hI9 (((FR.refl _ w)).tr hF9 rfl) (by have := (by decide : ((0 : Int32)).toInt = 0); have := bd_127_26 hI; have := bd_181 hI x2_2.toInt.toNat; have := bd_127_4 hI; have := bd_182 hI x2_2.toInt.toNat; (try have := hf_FT x2_2 (by omega) (by omega)); omega) (by have := (by decide : ((0 : Int32)).toInt = 0); have := bd_127_26 hI; have := bd_181 hI x2_2.toInt.toNat; have := bd_127_4 hI; have := bd_182 hI x2_2.toInt.toNat; (try have := hf_FT x2_2 (by omega) (by omega)); omega))
          have hF13809 : FR l_Mo_isOnWay_2 w w13806 := (FR.refl _ w).tr hL13808 rfl
          have o13810 : (0 ≤ x2_1.toInt) ∧ (x2_1.toInt ≤ 43) ∧ (0 ≤ (x2_2 + (1 : Int32)).toInt) ∧ ((x2_2 + (1 : Int32)).toInt ≤ 24) := by have := bd_127_26 hI; have := bd_127_4 hI; have := bd_182 hI x2_2.toInt.toNat; have := bd_181 hI x2_2.toInt.toNat; have := ti_add2 (Eq.refl x2_2.toInt) (by decide : ((1 : Int32)).toInt = 1) (by omega) (by omega); (try have := hf_FT x2_2 (by omega) (by omega)); exact ⟨by omega, by omega, by omega, by omega⟩
          exact ih _ w13806 hI13807 (FT_fr hL13808 rfl hf_FT) o13810.1 o13810.2.1 o13810.2.2.1 o13810.2.2.2 (by have := bd_127_26 hI; have := bd_127_4 hI; have := bd_182 hI x2_2.toInt.toNat; have := bd_181 hI x2_2.toInt.toNat; have := ti_add2 (Eq.refl x2_2.toInt) (by decide : ((1 : Int32)).toInt = 1) (by omega) (by omega); (try have := hf_FT x2_2 (by omega) (by omega)); omega) (fun w9 hI9 hF9 => hE w9 hI9 (hF13809.tr hF9 rfl) ) (fun r w9 hI9 hF9 q0 q1 => hQ r w9 hI9 (hF13809.tr hF9 rfl) (by have := bd_127_26 hI; have := bd_127_4 hI; have := bd_182 hI x2_2.toInt.toNat; have := bd_181 hI x2_2.toInt.toNat; have := ti_add2 (Eq.refl x2_2.toInt) (by decide : ((1 : Int32)).toInt = 1) (by omega) (by omega); (try have := hf_FT x2_2 (by omega) (by omega)); omega) (by have := bd_127_26 hI; have := bd_127_4 hI; have := bd_182 hI x2_2.toInt.toNat; have := bd_181 hI x2_2.toInt.toNat; have := ti_add2 (Eq.refl x2_2.toInt) (by decide : ((1 : Int32)).toInt = 1) (by omega) (by omega); (try have := hf_FT x2_2 (by omega) (by omega)); omega))
        · have o13811 : (1 ≤ (1 : Int32).toInt) ∧ ((1 : Int32).toInt ≤ 1) := by have := (by decide : ((1 : Int32)).toInt = 1); exact ⟨by omega, by omega⟩
          exact hQ _ _ hI (FR.refl _ w)  o13811.1 o13811.2
set_option maxRecDepth 20000 in
set_option maxHeartbeats 2000000 in
theorem h_Mo_isOnWay {w : MW} {a0 : Int32} {Q : Int32 → MW → Prop} (hI : BND w) (hf_FT : FT w) (hp0 : 0 ≤ a0.toInt) (hp1 : a0.toInt ≤ 43) (hQ : ∀ (r : Int32) (w' : MW), BND w' → FR l_Mo_isOnWay w w' → 0 ≤ r.toInt → r.toInt ≤ 1 → Q r w') : p_Mo_isOnWay w a0 Q := by
  refine Eq.mpr (p_Mo_isOnWay.eq_1 _ _ _) ?_
  have o13812 : (0 ≤ a0.toInt) ∧ (a0.toInt ≤ 43) ∧ (0 ≤ (0 : Int32).toInt) ∧ ((0 : Int32).toInt ≤ 24) := by have := (by decide : ((0 : Int32)).toInt = 0); exact ⟨by omega, by omega, by omega, by omega⟩
  refine hq_Mo_isOnWay_2 FU _ w hI hf_FT o13812.1 o13812.2.1 o13812.2.2.1 o13812.2.2.2 (fu_lt (by have := (by decide : ((0 : Int32)).toInt = 0); omega)) (fun w13813 hI13814 hL13815  => ?_) (fun r w9 hI9 hF9 q0 q1 => hQ r w9 hI9 (((FR.refl _ w)).tr hF9 rfl) (by have := (by decide : ((0 : Int32)).toInt = 0); omega) (by have := (by decide : ((0 : Int32)).toInt = 0); omega))
  have hF13816 : FR l_Mo_isOnWay w w13813 := (FR.refl _ w).tr hL13815 rfl
  have o13817 : (0 ≤ (0 : Int32).toInt) ∧ ((0 : Int32).toInt ≤ 1) := by have := (by decide : ((0 : Int32)).toInt = 0); exact ⟨by omega, by omega⟩
  exact hQ _ _ hI13814 hF13816  o13817.1 o13817.2
def l_Mo_least_2 : Pl := []
def l_Mo_least : Pl := []
theorem least_A {x0 x1 x2 : Int32} {p0 : Int} (hk0 : 0 ≤ x0.toInt) (hk7 : x0.toInt ≤ 7) (h9 : p0 ≤ 9) {E : MW → Prop} {Q : Int32 → MW → Prop} {w : MW} (hI : BND w) (hQ : ∀ r : Int32, 0 ≤ r.toInt → r.toInt ≤ 9 → Q r w) (hp : ∀ (p : Int32) (R : Int32 → MW → Prop), p.toInt = p0 → (∀ r : Int32, ¬ r.toInt = 0 → R r w) → p_Mo_passes w x0 p x1 x2 R) (n : Nat) : ∀ (x3 : Int32), 0 ≤ x3.toInt → x3.toInt ≤ p0 → (10 - x3.toInt).toNat < n → q_Mo_least_2 x0 x1 x2 E Q n x3 w := by
  induction n with
  | zero => intros; omega
  | succ n ih =>
    intro x3 h0 h1 hm
    rw [q_Mo_least_2.eq_2]
    refine ⟨fun c => by omega, fun c => ?_⟩
    have e1 := ti_add2 (Eq.refl x3.toInt) (by decide : ((1 : Int32)).toInt = 1) (by omega) (by omega)
    by_cases c0 : x3.toInt = p0
    · exact hp x3 _ c0 (fun r hr => ⟨fun q => absurd q hr, fun _ => hQ x3 h0 (by omega)⟩)
    · refine h_Mo_passes hI hk0 hk7 h0 (by omega) (fun r w' hI' hF' _ _ => ?_)
      obtain rfl := fr_nil hF' rfl
      exact ⟨fun _ => ih _ (by omega) (by omega) (by omega), fun _ => hQ x3 h0 (by omega)⟩
theorem least_B {x0 x1 x2 : Int32} (hk0 : 0 ≤ x0.toInt) (hk7 : x0.toInt ≤ 7) {E : MW → Prop} {Q : Int32 → MW → Prop} {w : MW} (hI : BND w) (hE : E w) (hQ : ∀ r : Int32, 0 ≤ r.toInt → r.toInt ≤ 9 → Q r w) (n : Nat) : ∀ (x3 : Int32), 0 ≤ x3.toInt → x3.toInt ≤ 10 → (10 - x3.toInt).toNat < n → q_Mo_least_2 x0 x1 x2 E Q n x3 w := by
  induction n with
  | zero => intros; omega
  | succ n ih =>
    intro x3 h0 h1 hm
    rw [q_Mo_least_2.eq_2]
    refine ⟨fun c => hE, fun c => ?_⟩
    have e1 := ti_add2 (Eq.refl x3.toInt) (by decide : ((1 : Int32)).toInt = 1) (by omega) (by omega)
    refine h_Mo_passes hI hk0 hk7 h0 (by omega) (fun r w' hI' hF' _ _ => ?_)
    obtain rfl := fr_nil hF' rfl
    exact ⟨fun _ => ih _ (by omega) (by omega) (by omega), fun _ => hQ x3 h0 (by omega)⟩
theorem passes_45 {w : MW} {k p f lo hi s : Int32} {R : Int32 → MW → Prop} (h : (k.toInt = 2 ∧ p.toInt = 4) ∨ (k.toInt = 4 ∧ p.toInt = 1) ∨ (k.toInt = 1 ∧ p.toInt = 0 ∧ lo.toInt = 0 ∧ hi.toInt = 1) ∨ (k.toInt = 1 ∧ p.toInt = 1 ∧ lo.toInt = 0 ∧ hi.toInt = 2) ∨ (k.toInt = 1 ∧ p.toInt = 3 ∧ lo.toInt = 1)) (hR : R 1 w) : q_Mo_passes_45 k p f lo hi s w R := by
  refine Eq.mpr (q_Mo_passes_45.eq_1 _ _ _ _ _ _ _ _) ?_
  rcases h with ⟨h1, h2⟩ | ⟨h1, h2⟩ | ⟨h1, h2, h3, h4⟩ | ⟨h1, h2, h3, h4⟩ | ⟨h1, h2, h3⟩
  · exact ⟨fun c => by omega, fun _ => ⟨fun c => by omega, fun _ => ⟨fun _ => ⟨fun _ => hR, fun c => by omega⟩, fun c => by omega⟩⟩⟩
  · exact ⟨fun c => by omega, fun _ => ⟨fun c => by omega, fun _ => ⟨fun c => by omega, fun _ => ⟨fun c => by omega, fun _ => ⟨fun _ => ⟨fun _ => ⟨fun c => by omega, fun _ => hR⟩, fun c => by omega⟩, fun c => by omega⟩⟩⟩⟩⟩
  · exact ⟨fun c => by omega, fun _ => ⟨fun _ => ⟨fun c => by omega, fun _ => ⟨fun c => by omega, fun _ => ⟨fun _ => hR, fun c => by omega⟩⟩⟩, fun c => by omega⟩⟩
  · exact ⟨fun c => by omega, fun _ => ⟨fun _ => ⟨fun c => by omega, fun _ => ⟨fun _ => Eq.mpr (q_Mo_passes_122.eq_1 _ _ _ _ _) ⟨fun c => by omega, fun _ => ⟨fun _ => hR, fun c => by omega⟩⟩, fun c => by omega⟩⟩, fun c => by omega⟩⟩
  · exact ⟨fun c => by omega, fun _ => ⟨fun _ => ⟨fun _ => ⟨fun c => by omega, fun _ => ⟨fun c => by omega, fun _ => hR⟩⟩, fun c => by omega⟩, fun c => by omega⟩⟩
theorem passes_at {w : MW} {k p a b : Int32} {R : Int32 → MW → Prop} (h : (k.toInt = 2 ∧ p.toInt = 4) ∨ (k.toInt = 4 ∧ p.toInt = 1) ∨ (k.toInt = 1 ∧ p.toInt = 0 ∧ 0 ≤ a.toInt ∧ a.toInt ≤ 2 ∧ 0 ≤ b.toInt ∧ b.toInt ≤ 2 ∧ ¬ a.toInt = b.toInt ∧ a.toInt + b.toInt = 1) ∨ (k.toInt = 1 ∧ p.toInt = 1 ∧ 0 ≤ a.toInt ∧ a.toInt ≤ 2 ∧ 0 ≤ b.toInt ∧ b.toInt ≤ 2 ∧ ¬ a.toInt = b.toInt ∧ a.toInt + b.toInt = 2) ∨ (k.toInt = 1 ∧ p.toInt = 3 ∧ 0 ≤ a.toInt ∧ a.toInt ≤ 2 ∧ 0 ≤ b.toInt ∧ b.toInt ≤ 2 ∧ ¬ a.toInt = b.toInt ∧ a.toInt + b.toInt = 3)) (hR : ∀ r : Int32, ¬ r.toInt = 0 → R r w) : p_Mo_passes w k p a b R := by
  have hR1 := hR 1 (by decide)
  refine Eq.mpr (p_Mo_passes.eq_1 _ _ _ _ _ _) ?_
  have key : ∀ lo hi s : Int32, ((b.toInt ≤ a.toInt ∧ lo = b ∧ hi = a) ∨ (¬ b.toInt ≤ a.toInt ∧ lo = a ∧ hi = b)) → q_Mo_passes_45 k p a lo hi s w R := by
    intro lo hi s hl
    refine passes_45 ?_ hR1
    rcases hl with ⟨hl, rfl, rfl⟩ | ⟨hl, rfl, rfl⟩ <;> (rcases h with h | h | h | h | h) <;> omega
  have k22 : ∀ lo hi : Int32, ((b.toInt ≤ a.toInt ∧ lo = b ∧ hi = a) ∨ (¬ b.toInt ≤ a.toInt ∧ lo = a ∧ hi = b)) → q_Mo_passes_22 k p a lo hi w R := fun lo hi hl => Eq.mpr (q_Mo_passes_22.eq_1 _ _ _ _ _ _ _) ⟨fun _ => key lo hi 0 hl, fun _ => ⟨fun _ => key lo hi 0 hl, fun _ => key lo hi 1 hl⟩⟩
  exact ⟨fun c => k22 b a (Or.inl ⟨c, rfl, rfl⟩), fun c => k22 a b (Or.inr ⟨c, rfl, rfl⟩)⟩
theorem h_Mo_least {w : MW} {a0 : Int32} {b0 : Int32} {c0 : Int32} {Q : Int32 → MW → Prop} (hI : BND w) (hp0 : 0 ≤ a0.toInt) (hp1 : a0.toInt ≤ 7) (hQ : ∀ (r : Int32) (w' : MW), BND w' → FR l_Mo_least w w' → (-1) ≤ r.toInt → r.toInt ≤ 9 → 0 ≤ r.toInt ∨ ¬ a0.toInt = 2 → 0 ≤ r.toInt ∨ ¬ a0.toInt = 4 → 0 ≤ r.toInt ∨ ¬ (a0.toInt = 1 ∧ 0 ≤ b0.toInt ∧ b0.toInt ≤ 2 ∧ 0 ≤ c0.toInt ∧ c0.toInt ≤ 2 ∧ ¬ b0.toInt = c0.toInt) → Q r w') : p_Mo_least w a0 b0 c0 Q := by
  refine Eq.mpr (p_Mo_least.eq_1 _ _ _ _ _) ?_
  have fin : ∀ r : Int32, 0 ≤ r.toInt → r.toInt ≤ 9 → Q r w := fun r h0 h9 => hQ r w hI (FR.refl _ w) (by omega) h9 (Or.inl h0) (Or.inl h0) (Or.inl h0)
  by_cases c2 : a0.toInt = 2
  · exact least_A (p0 := 4) hp0 hp1 (by decide) hI fin (fun p R hp hR => passes_at (Or.inl ⟨c2, hp⟩) hR) FU 0 (by decide) (by decide) (fu_lt (by decide))
  by_cases c4 : a0.toInt = 4
  · exact least_A (p0 := 1) hp0 hp1 (by decide) hI fin (fun p R hp hR => passes_at (Or.inr (Or.inl ⟨c4, hp⟩)) hR) FU 0 (by decide) (by decide) (fu_lt (by decide))
  by_cases cd : a0.toInt = 1 ∧ 0 ≤ b0.toInt ∧ b0.toInt ≤ 2 ∧ 0 ≤ c0.toInt ∧ c0.toInt ≤ 2 ∧ ¬ b0.toInt = c0.toInt
  · obtain ⟨d1, d2, d3, d4, d5, d6⟩ := cd
    by_cases s1 : b0.toInt + c0.toInt = 1
    · exact least_A (p0 := 0) hp0 hp1 (by decide) hI fin (fun p R hp hR => passes_at (Or.inr (Or.inr (Or.inl ⟨d1, hp, d2, d3, d4, d5, d6, s1⟩))) hR) FU 0 (by decide) (by decide) (fu_lt (by decide))
    by_cases s2 : b0.toInt + c0.toInt = 2
    · exact least_A (p0 := 1) hp0 hp1 (by decide) hI fin (fun p R hp hR => passes_at (Or.inr (Or.inr (Or.inr (Or.inl ⟨d1, hp, d2, d3, d4, d5, d6, s2⟩)))) hR) FU 0 (by decide) (by decide) (fu_lt (by decide))
    · exact least_A (p0 := 3) hp0 hp1 (by decide) hI fin (fun p R hp hR => passes_at (Or.inr (Or.inr (Or.inr (Or.inr ⟨d1, hp, d2, d3, d4, d5, d6, by omega⟩)))) hR) FU 0 (by decide) (by decide) (fu_lt (by decide))
  · exact least_B hp0 hp1 hI (hQ _ w hI (FR.refl _ w) (by decide) (by decide) (Or.inr c2) (Or.inr c4) (Or.inr cd)) fin FU 0 (by decide) (by decide) (fu_lt (by decide))
def l_Mo_needOf : Pl := []
set_option maxRecDepth 20000 in
set_option maxHeartbeats 2000000 in
theorem h_Mo_needOf {w : MW} {a0 : Int32} {b0 : Int32} {Q : Int32 → MW → Prop} (hI : BND w) (hp0 : 0 ≤ a0.toInt) (hp1 : a0.toInt ≤ 47) (hp2 : 0 ≤ b0.toInt) (hp3 : b0.toInt ≤ 47) (hQ : ∀ (r : Int32) (w' : MW), BND w' → FR l_Mo_needOf w w' → (-1) ≤ r.toInt → r.toInt ≤ 9 → Q r w') : p_Mo_needOf w a0 b0 Q := by
  refine Eq.mpr (p_Mo_needOf.eq_1 _ _ _ _) ?_
  have o13818 : 0 ≤ a0.toInt ∧ a0.toInt < 48 := by omega
  refine ⟨o13818, ?_⟩
  refine ⟨fun h13819 => ?_, fun h13819 => ?_⟩
  · have o13820 : ((-1) ≤ ((-1) : Int32).toInt) ∧ (((-1) : Int32).toInt ≤ 9) := by have := (by decide : (((-1) : Int32)).toInt = (-1)); exact ⟨by omega, by omega⟩
    exact hQ _ _ hI (FR.refl _ w)  o13820.1 o13820.2
  · have o13821 : 0 ≤ b0.toInt ∧ b0.toInt < 48 := by omega
    refine ⟨o13821, ?_⟩
    refine ⟨fun h13822 => ?_, fun h13822 => ?_⟩
    · have o13823 : ((-1) ≤ ((-1) : Int32).toInt) ∧ (((-1) : Int32).toInt ≤ 9) := by have := (by decide : (((-1) : Int32)).toInt = (-1)); exact ⟨by omega, by omega⟩
      exact hQ _ _ hI (FR.refl _ w)  o13823.1 o13823.2
    · refine ⟨fun h13824 => ?_, fun h13824 => ?_⟩
      · have o13825 : ((-1) ≤ ((-1) : Int32).toInt) ∧ (((-1) : Int32).toInt ≤ 9) := by have := (by decide : (((-1) : Int32)).toInt = (-1)); exact ⟨by omega, by omega⟩
        exact hQ _ _ hI (FR.refl _ w)  o13825.1 o13825.2
      · have o13826 : 0 ≤ (w.1 170 a0.toInt.toNat).toInt ∧ (w.1 170 a0.toInt.toNat).toInt < 20 := by have := bd_170 hI a0.toInt.toNat; have := (by decide : ((0 : Int32)).toInt = 0); have := bd_170 hI b0.toInt.toNat; omega
        refine ⟨o13826, ?_⟩
        refine ⟨fun h13827 => ?_, fun h13827 => ?_⟩
        · have o13828 : ((-1) ≤ ((-1) : Int32).toInt) ∧ (((-1) : Int32).toInt ≤ 9) := by have := (by decide : (((-1) : Int32)).toInt = (-1)); exact ⟨by omega, by omega⟩
          exact hQ _ _ hI (FR.refl _ w)  o13828.1 o13828.2
        · refine ⟨fun h13829 => ?_, fun h13829 => ?_⟩
          · have o13830 : 0 ≤ (w.1 170 a0.toInt.toNat).toInt ∧ (w.1 170 a0.toInt.toNat).toInt < 20 := by have := bd_170 hI a0.toInt.toNat; have := (by decide : ((0 : Int32)).toInt = 0); have := bd_170 hI b0.toInt.toNat; omega
            refine ⟨o13830, ?_⟩
            refine ⟨fun h13831 => ?_, fun h13831 => ?_⟩
            · have o13832 : 0 ≤ (w.1 170 a0.toInt.toNat).toInt ∧ (w.1 170 a0.toInt.toNat).toInt < 20 := by have := bd_170 hI a0.toInt.toNat; have := (by decide : ((0 : Int32)).toInt = 0); have := bd_170 hI b0.toInt.toNat; omega
              refine ⟨o13832, ?_⟩
              have o13833 : 0 ≤ a0.toInt ∧ a0.toInt < 48 := by have := nb_cmp (((w.2.1 127 40) >>> ((b0 / (2 : Int32)).toInt64 &&& 63)) &&& (1 : Int64)) (0 : Int64); have := (by decide : ((0 : Int64)).toInt = 0); have := (by decide : ((0 : Int32)).toInt = 0); omega
              refine ⟨o13833, ?_⟩
              have o13834 : 0 ≤ b0.toInt ∧ b0.toInt < 48 := by have := nb_cmp (((w.2.1 127 40) >>> ((b0 / (2 : Int32)).toInt64 &&& 63)) &&& (1 : Int64)) (0 : Int64); have := (by decide : ((0 : Int64)).toInt = 0); have := (by decide : ((0 : Int32)).toInt = 0); omega
              refine ⟨o13834, ?_⟩
              have o13835 : (0 ≤ ((w.1 163 ((w.1 170 a0.toInt.toNat).toInt.toNat)) - (2 : Int32)).toInt) ∧ (((w.1 163 ((w.1 170 a0.toInt.toNat).toInt.toNat)) - (2 : Int32)).toInt ≤ 7) := by have := bd_163 hI ((w.1 170 a0.toInt.toNat).toInt.toNat); have := (by decide : ((0 : Int32)).toInt = 0); have := (by decide : ((1 : Int32)).toInt = 1); have := ti_sub2 (Eq.refl (w.1 163 ((w.1 170 a0.toInt.toNat).toInt.toNat)).toInt) (by decide : ((2 : Int32)).toInt = 2) (by omega) (by omega); exact ⟨by omega, by omega⟩
              refine h_Mo_least hI  o13835.1 o13835.2 (fun r13839 w13836 hI13837 hL13838 p13840 p13841 p13842 p13843 p13844 => ?_)
              have hF13845 : FR l_Mo_needOf w w13836 := (FR.refl _ w).tr hL13838 rfl
              have o13846 : (0 ≤ (w.1 170 a0.toInt.toNat).toInt) ∧ ((w.1 170 a0.toInt.toNat).toInt ≤ 19) := by have := bd_170 hI a0.toInt.toNat; have := (by decide : ((0 : Int32)).toInt = 0); have := bd_170 hI b0.toInt.toNat; exact ⟨by omega, by omega⟩
              refine h_Mo_held hI13837  o13846.1 o13846.2 (fun r13850 w13847 hI13848 hL13849 p13851 p13852 => ?_)
              have hF13853 : FR l_Mo_needOf w w13847 := hF13845.tr hL13849 rfl
              refine ⟨fun h13854 => ?_, fun h13854 => ?_⟩
              · have o13855 : ((-1) ≤ r13839.toInt) ∧ (r13839.toInt ≤ 9) := by have := bd_163 hI ((w.1 170 a0.toInt.toNat).toInt.toNat); have := (by decide : ((0 : Int32)).toInt = 0); have := (by decide : ((1 : Int32)).toInt = 1); have := ti_sub2 (Eq.refl (w.1 163 ((w.1 170 a0.toInt.toNat).toInt.toNat)).toInt) (by decide : ((2 : Int32)).toInt = 2) (by omega) (by omega); exact ⟨by omega, by omega⟩
                exact hQ _ _ hI13848 hF13853  o13855.1 o13855.2
              · have o13856 : (0 ≤ (w.1 170 a0.toInt.toNat).toInt) ∧ ((w.1 170 a0.toInt.toNat).toInt ≤ 19) := by have := bd_170 hI a0.toInt.toNat; have := (by decide : ((0 : Int32)).toInt = 0); have := bd_170 hI b0.toInt.toNat; exact ⟨by omega, by omega⟩
                refine h_Mo_held hI13848  o13856.1 o13856.2 (fun r13860 w13857 hI13858 hL13859 p13861 p13862 => ?_)
                have hF13863 : FR l_Mo_needOf w w13857 := hF13853.tr hL13859 rfl
                refine ⟨fun h13864 => ?_, fun h13864 => ?_⟩
                · have o13865 : ((-1) ≤ ((-1) : Int32).toInt) ∧ (((-1) : Int32).toInt ≤ 9) := by have := (by decide : (((-1) : Int32)).toInt = (-1)); exact ⟨by omega, by omega⟩
                  exact hQ _ _ hI13858 hF13863  o13865.1 o13865.2
                · have o13866 : ((-1) ≤ r13839.toInt) ∧ (r13839.toInt ≤ 9) := by have := bd_163 hI ((w.1 170 a0.toInt.toNat).toInt.toNat); have := (by decide : ((0 : Int32)).toInt = 0); have := (by decide : ((1 : Int32)).toInt = 1); have := ti_sub2 (Eq.refl (w.1 163 ((w.1 170 a0.toInt.toNat).toInt.toNat)).toInt) (by decide : ((2 : Int32)).toInt = 2) (by omega) (by omega); exact ⟨by omega, by omega⟩
                  exact hQ _ _ hI13858 hF13863  o13866.1 o13866.2
            · have o13867 : 0 ≤ a0.toInt ∧ a0.toInt < 48 := by have := nb_cmp (((w.2.1 127 40) >>> ((b0 / (2 : Int32)).toInt64 &&& 63)) &&& (1 : Int64)) (0 : Int64); have := (by decide : ((0 : Int64)).toInt = 0); have := (by decide : ((0 : Int32)).toInt = 0); omega
              refine ⟨o13867, ?_⟩
              refine ⟨fun h13868 => ?_, fun h13868 => ?_⟩
              · have o13869 : ((-1) ≤ ((-1) : Int32).toInt) ∧ (((-1) : Int32).toInt ≤ 9) := by have := (by decide : (((-1) : Int32)).toInt = (-1)); exact ⟨by omega, by omega⟩
                exact hQ _ _ hI (FR.refl _ w)  o13869.1 o13869.2
              · have o13870 : (0 ≤ (w.1 170 a0.toInt.toNat).toInt) ∧ ((w.1 170 a0.toInt.toNat).toInt ≤ 19) := by have := bd_170 hI a0.toInt.toNat; have := (by decide : ((0 : Int32)).toInt = 0); have := bd_170 hI b0.toInt.toNat; exact ⟨by omega, by omega⟩
                refine h_Mo_held hI  o13870.1 o13870.2 (fun r13874 w13871 hI13872 hL13873 p13875 p13876 => ?_)
                have hF13877 : FR l_Mo_needOf w w13871 := (FR.refl _ w).tr hL13873 rfl
                refine ⟨fun h13878 => ?_, fun h13878 => ?_⟩
                · have o13879 : ((-1) ≤ ((-1) : Int32).toInt) ∧ (((-1) : Int32).toInt ≤ 9) := by have := (by decide : (((-1) : Int32)).toInt = (-1)); exact ⟨by omega, by omega⟩
                  exact hQ _ _ hI13872 hF13877  o13879.1 o13879.2
                · have o13880 : ((-1) ≤ (0 : Int32).toInt) ∧ ((0 : Int32).toInt ≤ 9) := by have := (by decide : ((0 : Int32)).toInt = 0); exact ⟨by omega, by omega⟩
                  exact hQ _ _ hI13872 hF13877  o13880.1 o13880.2
          · have o13881 : ((-1) ≤ ((-1) : Int32).toInt) ∧ (((-1) : Int32).toInt ≤ 9) := by have := (by decide : (((-1) : Int32)).toInt = (-1)); exact ⟨by omega, by omega⟩
            exact hQ _ _ hI (FR.refl _ w)  o13881.1 o13881.2
