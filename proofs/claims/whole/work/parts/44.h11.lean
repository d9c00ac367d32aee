def l_Rd_readPause_33 : Pl := [(87, some 2), (87, some 3), (87, some 4), (87, some 5), (87, some 6), (87, some 7), (87, some 9), (88, none), (89, none), (108, some 1), (109, none), (110, none), (111, none), (112, none), (113, none), (114, none)]
def l_Rd_readPause : Pl := [(87, some 2), (87, some 3), (87, some 4), (87, some 5), (87, some 6), (87, some 7), (87, some 8), (87, some 9), (88, none), (89, none), (108, some 1), (109, none), (110, none), (111, none), (112, none), (113, none), (114, none), (115, none)]
set_option maxRecDepth 20000 in
set_option maxHeartbeats 2000000 in
theorem h_Rd_readPause {w : MW} {a0 : Int32} {Q : Int32 → MW → Prop} (hI : BND w) (hr_87_0 : w.2.2 87 0 = some 1) (hr_87_1 : w.2.2 87 1 = some 108) (hp0 : 12 ≤ a0.toInt) (hp1 : a0.toInt ≤ 13) (hQ : ∀ (r : Int32) (w' : MW), BND w' → FR l_Rd_readPause w w' → 0 ≤ r.toInt → r.toInt ≤ 300 → (w'.1 87 8).toInt = (w.1 87 8).toInt → Q r w') : p_Rd_readPause w a0 Q := by
  refine Eq.mpr (p_Rd_readPause.eq_1 _ _ _) ?_
  refine ⟨hr_87_1, ?_⟩
  refine ⟨fun h2696 => ?_, fun h2696 => ?_⟩
  · have o2697 : (0 ≤ (0 : Int32).toInt) ∧ ((0 : Int32).toInt ≤ 2) := by have := (by decide : ((0 : Int32)).toInt = 0); exact ⟨by omega, by omega⟩
    refine h_Rd_readLevel hI hr_87_0 hr_87_1 o2697.1 o2697.2 (fun r2701 w2698 hI2699 hL2700 p2702 => ?_)
    have hF2703 : FR l_Rd_readPause w w2698 := (FR.refl _ w).tr hL2700 rfl
    refine Eq.mpr (q_Rd_readPause_33.eq_1 _ _ _ _) ?_
    refine ⟨((hL2700 87 1 rfl).2.2.trans hr_87_1), ?_⟩
    have o2704 : (15 ≤ (59 : Int32).toInt) ∧ ((59 : Int32).toInt ≤ 125) := by have := (by decide : ((59 : Int32)).toInt = 59); exact ⟨by omega, by omega⟩
    refine h_Rd_take hI2699 ((hL2700 87 0 rfl).2.2.trans hr_87_0) o2704.1 o2704.2 (fun w2705 hI2706 hL2707  => ?_)
    have hF2709 : FR l_Rd_readPause w w2705 := hF2703.tr hL2707 rfl
    refine h_Rd_makeNode hI2706 ((hL2707 87 1 rfl).2.2.trans ((hL2700 87 1 rfl).2.2.trans hr_87_1))  (fun r2713 w2710 hI2711 hL2712 p2714 p2715 => ?_)
    have hF2716 : FR l_Rd_readPause w w2710 := hF2709.tr hL2712 rfl
    refine Eq.mpr (p_Rd_giveRange.eq_1 _ _ _ _ _) ?_
    refine ⟨((hL2712 87 1 rfl).2.2.trans ((hL2707 87 1 rfl).2.2.trans ((hL2700 87 1 rfl).2.2.trans hr_87_1))), ?_⟩
    have o2717 : 0 ≤ r2713.toInt ∧ r2713.toInt < 301 := by omega
    refine ⟨o2717, ?_⟩
    refine ⟨((hL2712 87 1 rfl).2.2.trans ((hL2707 87 1 rfl).2.2.trans ((hL2700 87 1 rfl).2.2.trans hr_87_1))), ?_⟩
    have o2718 : 0 ≤ r2713.toInt ∧ r2713.toInt < 301 := by omega
    refine ⟨o2718, ?_⟩
    have o2720 : 0 ≤ (w.1 108 1).toInt ∧ (w.1 108 1).toInt ≤ 301 := by have := bd_108_1 hI; omega
    have hI2719 : BND (sI w2710 111 r2713.toInt.toNat (w.1 108 1)) := wbd_111 hI2711 r2713.toInt.toNat o2720.1 o2720.2
    have o2722 : 0 ≤ (w2698.1 108 1).toInt ∧ (w2698.1 108 1).toInt ≤ 301 := by have := bd_108_1 hI2699; omega
    have hI2721 : BND (sI (sI w2710 111 r2713.toInt.toNat (w.1 108 1)) 112 r2713.toInt.toNat (w2698.1 108 1)) := wbd_112 hI2719 r2713.toInt.toNat o2722.1 o2722.2
    have o2723 : (0 ≤ r2713.toInt) ∧ (r2713.toInt ≤ 300) ∧ (((sI (sI w2710 111 r2713.toInt.toNat (w.1 108 1)) 112 r2713.toInt.toNat (w2698.1 108 1)).1 87 8).toInt = (w.1 87 8).toInt) := by have := bd_87_8 hI2711; have := bd_87_8 hI2706; have := bd_87_8 hI2699; have := (congrArg Int32.toInt (hL2707 87 8 rfl).1); have := (congrArg Int32.toInt (hL2712 87 8 rfl).1); have : ((sI (sI w2710 111 r2713.toInt.toNat (w.1 108 1)) 112 r2713.toInt.toNat (w2698.1 108 1)).1 87 8).toInt = (w2710.1 87 8).toInt := rfl; have := bd_87_8 hI; have := ti_lo r2701; have := ti_hi r2701; exact ⟨by omega, by omega, by omega⟩
    exact hQ _ _ hI2721 (FR.I (FR.I hF2716 (k := 111) (j := r2713.toInt.toNat) (v := (w.1 108 1)) rfl) (k := 112) (j := r2713.toInt.toNat) (v := (w2698.1 108 1)) rfl)  o2723.1 o2723.2.1 o2723.2.2
  · have o2724 : (0 ≤ (1 : Int32).toInt) ∧ ((1 : Int32).toInt ≤ 2) := by have := (by decide : ((1 : Int32)).toInt = 1); exact ⟨by omega, by omega⟩
    refine h_Rd_readLevel hI hr_87_0 hr_87_1 o2724.1 o2724.2 (fun r2728 w2725 hI2726 hL2727 p2729 => ?_)
    have hF2730 : FR l_Rd_readPause w w2725 := (FR.refl _ w).tr hL2727 rfl
    refine Eq.mpr (p_Rd_demand.eq_1 _ _ _ _) ?_
    refine ⟨fun h2731 => ?_, fun h2731 => ?_⟩
    · replace h2731 : r2728.toInt = 3 := h2731
      refine Eq.mpr (q_Rd_readPause_33.eq_1 _ _ _ _) ?_
      refine ⟨((hL2727 87 1 rfl).2.2.trans hr_87_1), ?_⟩
      have o2732 : (15 ≤ (59 : Int32).toInt) ∧ ((59 : Int32).toInt ≤ 125) := by have := (by decide : ((59 : Int32)).toInt = 59); exact ⟨by omega, by omega⟩
      refine h_Rd_take hI2726 ((hL2727 87 0 rfl).2.2.trans hr_87_0) o2732.1 o2732.2 (fun w2733 hI2734 hL2735  => ?_)
      have hF2737 : FR l_Rd_readPause w w2733 := hF2730.tr hL2735 rfl
      refine h_Rd_makeNode hI2734 ((hL2735 87 1 rfl).2.2.trans ((hL2727 87 1 rfl).2.2.trans hr_87_1))  (fun r2741 w2738 hI2739 hL2740 p2742 p2743 => ?_)
      have hF2744 : FR l_Rd_readPause w w2738 := hF2737.tr hL2740 rfl
      refine Eq.mpr (p_Rd_giveRange.eq_1 _ _ _ _ _) ?_
      refine ⟨((hL2740 87 1 rfl).2.2.trans ((hL2735 87 1 rfl).2.2.trans ((hL2727 87 1 rfl).2.2.trans hr_87_1))), ?_⟩
      have o2745 : 0 ≤ r2741.toInt ∧ r2741.toInt < 301 := by omega
      refine ⟨o2745, ?_⟩
      refine ⟨((hL2740 87 1 rfl).2.2.trans ((hL2735 87 1 rfl).2.2.trans ((hL2727 87 1 rfl).2.2.trans hr_87_1))), ?_⟩
      have o2746 : 0 ≤ r2741.toInt ∧ r2741.toInt < 301 := by omega
      refine ⟨o2746, ?_⟩
      have o2748 : 0 ≤ (w.1 108 1).toInt ∧ (w.1 108 1).toInt ≤ 301 := by have := bd_108_1 hI; omega
      have hI2747 : BND (sI w2738 111 r2741.toInt.toNat (w.1 108 1)) := wbd_111 hI2739 r2741.toInt.toNat o2748.1 o2748.2
      have o2750 : 0 ≤ (w2725.1 108 1).toInt ∧ (w2725.1 108 1).toInt ≤ 301 := by have := bd_108_1 hI2726; omega
      have hI2749 : BND (sI (sI w2738 111 r2741.toInt.toNat (w.1 108 1)) 112 r2741.toInt.toNat (w2725.1 108 1)) := wbd_112 hI2747 r2741.toInt.toNat o2750.1 o2750.2
      have o2751 : (0 ≤ r2741.toInt) ∧ (r2741.toInt ≤ 300) ∧ (((sI (sI w2738 111 r2741.toInt.toNat (w.1 108 1)) 112 r2741.toInt.toNat (w2725.1 108 1)).1 87 8).toInt = (w.1 87 8).toInt) := by have := bd_87_8 hI2739; have := bd_87_8 hI2734; have := bd_87_8 hI2726; have := (congrArg Int32.toInt (hL2735 87 8 rfl).1); have := (congrArg Int32.toInt (hL2740 87 8 rfl).1); have : ((sI (sI w2738 111 r2741.toInt.toNat (w.1 108 1)) 112 r2741.toInt.toNat (w2725.1 108 1)).1 87 8).toInt = (w2738.1 87 8).toInt := rfl; have := bd_87_8 hI; have := (by decide : ((3 : Int32)).toInt = 3); exact ⟨by omega, by omega, by omega⟩
      exact hQ _ _ hI2749 (FR.I (FR.I hF2744 (k := 111) (j := r2741.toInt.toNat) (v := (w.1 108 1)) rfl) (k := 112) (j := r2741.toInt.toNat) (v := (w2725.1 108 1)) rfl)  o2751.1 o2751.2.1 o2751.2.2
    · replace h2731 : ¬ (r2728.toInt = 3) := h2731
      refine Eq.mpr (p_Rd_fail.eq_1 _ _) ?_
      refine ⟨fun h2752 => ?_, fun h2752 => ?_⟩
      · refine Eq.mpr (q_Rd_readPause_33.eq_1 _ _ _ _) ?_
        refine ⟨((hL2727 87 1 rfl).2.2.trans hr_87_1), ?_⟩
        have o2753 : (15 ≤ (59 : Int32).toInt) ∧ ((59 : Int32).toInt ≤ 125) := by have := (by decide : ((59 : Int32)).toInt = 59); exact ⟨by omega, by omega⟩
        refine h_Rd_take hI2726 ((hL2727 87 0 rfl).2.2.trans hr_87_0) o2753.1 o2753.2 (fun w2754 hI2755 hL2756  => ?_)
        have hF2758 : FR l_Rd_readPause w w2754 := hF2730.tr hL2756 rfl
        refine h_Rd_makeNode hI2755 ((hL2756 87 1 rfl).2.2.trans ((hL2727 87 1 rfl).2.2.trans hr_87_1))  (fun r2762 w2759 hI2760 hL2761 p2763 p2764 => ?_)
        have hF2765 : FR l_Rd_readPause w w2759 := hF2758.tr hL2761 rfl
        refine Eq.mpr (p_Rd_giveRange.eq_1 _ _ _ _ _) ?_
        refine ⟨((hL2761 87 1 rfl).2.2.trans ((hL2756 87 1 rfl).2.2.trans ((hL2727 87 1 rfl).2.2.trans hr_87_1))), ?_⟩
        have o2766 : 0 ≤ r2762.toInt ∧ r2762.toInt < 301 := by omega
        refine ⟨o2766, ?_⟩
        refine ⟨((hL2761 87 1 rfl).2.2.trans ((hL2756 87 1 rfl).2.2.trans ((hL2727 87 1 rfl).2.2.trans hr_87_1))), ?_⟩
        have o2767 : 0 ≤ r2762.toInt ∧ r2762.toInt < 301 := by omega
        refine ⟨o2767, ?_⟩
        have o2769 : 0 ≤ (w.1 108 1).toInt ∧ (w.1 108 1).toInt ≤ 301 := by have := bd_108_1 hI; omega
        have hI2768 : BND (sI w2759 111 r2762.toInt.toNat (w.1 108 1)) := wbd_111 hI2760 r2762.toInt.toNat o2769.1 o2769.2
        have o2771 : 0 ≤ (w2725.1 108 1).toInt ∧ (w2725.1 108 1).toInt ≤ 301 := by have := bd_108_1 hI2726; omega
        have hI2770 : BND (sI (sI w2759 111 r2762.toInt.toNat (w.1 108 1)) 112 r2762.toInt.toNat (w2725.1 108 1)) := wbd_112 hI2768 r2762.toInt.toNat o2771.1 o2771.2
        have o2772 : (0 ≤ r2762.toInt) ∧ (r2762.toInt ≤ 300) ∧ (((sI (sI w2759 111 r2762.toInt.toNat (w.1 108 1)) 112 r2762.toInt.toNat (w2725.1 108 1)).1 87 8).toInt = (w.1 87 8).toInt) := by have := bd_87_8 hI2760; have := bd_87_8 hI2755; have := bd_87_8 hI2726; have := (congrArg Int32.toInt (hL2756 87 8 rfl).1); have := (congrArg Int32.toInt (hL2761 87 8 rfl).1); have : ((sI (sI w2759 111 r2762.toInt.toNat (w.1 108 1)) 112 r2762.toInt.toNat (w2725.1 108 1)).1 87 8).toInt = (w2759.1 87 8).toInt := rfl; have := bd_87_8 hI; have := ti_lo r2728; have := ti_hi r2728; have := (by decide : ((3 : Int32)).toInt = 3); exact ⟨by omega, by omega, by omega⟩
        exact hQ _ _ hI2770 (FR.I (FR.I hF2765 (k := 111) (j := r2762.toInt.toNat) (v := (w.1 108 1)) rfl) (k := 112) (j := r2762.toInt.toNat) (v := (w2725.1 108 1)) rfl)  o2772.1 o2772.2.1 o2772.2.2
      · refine Eq.mpr (q_Rd_readPause_33.eq_1 _ _ _ _) ?_
        refine ⟨((hL2727 87 1 rfl).2.2.trans hr_87_1), ?_⟩
        have hI2773 : BND (sI w2725 87 9 (w2725.1 87 4)) := wbd_87_9 hI2726
        have o2774 : (15 ≤ (59 : Int32).toInt) ∧ ((59 : Int32).toInt ≤ 125) := by have := (by decide : ((59 : Int32)).toInt = 59); exact ⟨by omega, by omega⟩
        refine h_Rd_take hI2773 ((hL2727 87 0 rfl).2.2.trans hr_87_0) o2774.1 o2774.2 (fun w2775 hI2776 hL2777  => ?_)
        have hF2779 : FR l_Rd_readPause w w2775 := (FR.I hF2730 (k := 87) (j := 9) (v := (w2725.1 87 4)) rfl).tr hL2777 rfl
        refine h_Rd_makeNode hI2776 ((hL2777 87 1 rfl).2.2.trans ((hL2727 87 1 rfl).2.2.trans hr_87_1))  (fun r2783 w2780 hI2781 hL2782 p2784 p2785 => ?_)
        have hF2786 : FR l_Rd_readPause w w2780 := hF2779.tr hL2782 rfl
        refine Eq.mpr (p_Rd_giveRange.eq_1 _ _ _ _ _) ?_
        refine ⟨((hL2782 87 1 rfl).2.2.trans ((hL2777 87 1 rfl).2.2.trans ((hL2727 87 1 rfl).2.2.trans hr_87_1))), ?_⟩
        have o2787 : 0 ≤ r2783.toInt ∧ r2783.toInt < 301 := by omega
        refine ⟨o2787, ?_⟩
        refine ⟨((hL2782 87 1 rfl).2.2.trans ((hL2777 87 1 rfl).2.2.trans ((hL2727 87 1 rfl).2.2.trans hr_87_1))), ?_⟩
        have o2788 : 0 ≤ r2783.toInt ∧ r2783.toInt < 301 := by omega
        refine ⟨o2788, ?_⟩
        have o2790 : 0 ≤ (w.1 108 1).toInt ∧ (w.1 108 1).toInt ≤ 301 := by have := bd_108_1 hI; omega
        have hI2789 : BND (sI w2780 111 r2783.toInt.toNat (w.1 108 1)) := wbd_111 hI2781 r2783.toInt.toNat o2790.1 o2790.2
        have o2792 : 0 ≤ ((sI w2725 87 9 (w2725.1 87 4)).1 108 1).toInt ∧ ((sI w2725 87 9 (w2725.1 87 4)).1 108 1).toInt ≤ 301 := by have := bd_108_1 hI2726; have : ((sI w2725 87 9 (w2725.1 87 4)).1 108 1).toInt = (w2725.1 108 1).toInt := rfl; omega
        have hI2791 : BND (sI (sI w2780 111 r2783.toInt.toNat (w.1 108 1)) 112 r2783.toInt.toNat ((sI w2725 87 9 (w2725.1 87 4)).1 108 1)) := wbd_112 hI2789 r2783.toInt.toNat o2792.1 o2792.2
        have o2793 : (0 ≤ r2783.toInt) ∧ (r2783.toInt ≤ 300) ∧ (((sI (sI w2780 111 r2783.toInt.toNat (w.1 108 1)) 112 r2783.toInt.toNat ((sI w2725 87 9 (w2725.1 87 4)).1 108 1)).1 87 8).toInt = (w.1 87 8).toInt) := by have := bd_87_8 hI2781; have := bd_87_8 hI2776; have := bd_87_8 hI2726; have : ((sI w2725 87 9 (w2725.1 87 4)).1 87 8).toInt = (w2725.1 87 8).toInt := rfl; have := (congrArg Int32.toInt (hL2777 87 8 rfl).1); have := (congrArg Int32.toInt (hL2782 87 8 rfl).1); have : ((sI (sI w2780 111 r2783.toInt.toNat (w.1 108 1)) 112 r2783.toInt.toNat ((sI w2725 87 9 (w2725.1 87 4)).1 108 1)).1 87 8).toInt = (w2780.1 87 8).toInt := rfl; have := bd_87_8 hI; have := ti_lo r2728; have := ti_hi r2728; have := (by decide : ((3 : Int32)).toInt = 3); exact ⟨by omega, by omega, by omega⟩
        exact hQ _ _ hI2791 (FR.I (FR.I hF2786 (k := 111) (j := r2783.toInt.toNat) (v := (w.1 108 1)) rfl) (k := 112) (j := r2783.toInt.toNat) (v := ((sI w2725 87 9 (w2725.1 87 4)).1 108 1)) rfl)  o2793.1 o2793.2.1 o2793.2.2
def l_Rd_takeNewName : Pl := [(87, some 2), (87, some 3), (87, some 4), (87, some 5), (87, some 6), (87, some 7), (87, some 9)]
set_option maxRecDepth 20000 in
set_option maxHeartbeats 2000000 in
theorem h_Rd_takeNewName {w : MW} {Q : Int64 → MW → Prop} (hI : BND w) (hr_87_0 : w.2.2 87 0 = some 1) (hr_87_1 : w.2.2 87 1 = some 108)  (hQ : ∀ (r : Int64) (w' : MW), BND w' → FR l_Rd_takeNewName w w' → Q r w') : p_Rd_takeNewName w Q := by
  refine Eq.mpr (p_Rd_takeNewName.eq_1 _ _) ?_
  refine h_Rd_nextWord hI hr_87_0  (fun w2794 hI2795 hL2796  => ?_)
  have hF2798 : FR l_Rd_takeNewName w w2794 := (FR.refl _ w).tr hL2796 rfl
  refine ⟨fun h2799 => ?_, fun h2799 => ?_⟩
  · refine Eq.mpr (p_Rd_fail.eq_1 _ _) ?_
    refine ⟨fun h2800 => ?_, fun h2800 => ?_⟩
    · exact hQ _ _ hI2795 hF2798
    · have hI2801 : BND (sI w2794 87 9 (w2794.1 87 4)) := wbd_87_9 hI2795
      exact hQ _ _ hI2801 (FR.I hF2798 (k := 87) (j := 9) (v := (w2794.1 87 4)) rfl) 
  · refine ⟨((hL2796 87 1 rfl).2.2.trans hr_87_1), ?_⟩
    refine h_Pr_finds108 hI2795   (fun r2805 w2802 hI2803 hL2804 p2806 p2807 => ?_)
    have hF2808 : FR l_Rd_takeNewName w w2802 := hF2798.tr hL2804 rfl
    refine ⟨fun h2809 => ?_, fun h2809 => ?_⟩
    · refine Eq.mpr (p_Rd_fail.eq_1 _ _) ?_
      refine ⟨fun h2810 => ?_, fun h2810 => ?_⟩
      · exact hQ _ _ hI2803 hF2808
      · have hI2811 : BND (sI w2802 87 9 (w2802.1 87 4)) := wbd_87_9 hI2803
        exact hQ _ _ hI2811 (FR.I hF2808 (k := 87) (j := 9) (v := (w2802.1 87 4)) rfl) 
    · refine ⟨((hL2804 87 1 rfl).2.2.trans ((hL2796 87 1 rfl).2.2.trans hr_87_1)), ?_⟩
      refine ⟨fun h2812 => ?_, fun h2812 => ?_⟩
      · refine h_Rd_nextWord hI2803 ((hL2804 87 0 rfl).2.2.trans ((hL2796 87 0 rfl).2.2.trans hr_87_0))  (fun w2813 hI2814 hL2815  => ?_)
        have hF2817 : FR l_Rd_takeNewName w w2813 := hF2808.tr hL2815 rfl
        exact hQ _ _ hI2814 hF2817 
      · refine Eq.mpr (p_Rd_fail.eq_1 _ _) ?_
        refine ⟨fun h2818 => ?_, fun h2818 => ?_⟩
        · exact hQ _ _ hI2803 hF2808
        · have hI2819 : BND (sI w2802 87 9 (w2802.1 87 4)) := wbd_87_9 hI2803
          exact hQ _ _ hI2819 (FR.I hF2808 (k := 87) (j := 9) (v := (w2802.1 87 4)) rfl) 
def l_Rd_takeUnit : Pl := [(87, some 2), (87, some 3), (87, some 4), (87, some 5), (87, some 6), (87, some 7), (87, some 9)]
set_option maxRecDepth 20000 in
set_option maxHeartbeats 2000000 in
theorem h_Rd_takeUnit {w : MW} {Q : Int32 → MW → Prop} (hI : BND w) (hr_87_0 : w.2.2 87 0 = some 1)  (hQ : ∀ (r : Int32) (w' : MW), BND w' → FR l_Rd_takeUnit w w' → 0 ≤ r.toInt → r.toInt ≤ 5 → Q r w') : p_Rd_takeUnit w Q := by
  refine Eq.mpr (p_Rd_takeUnit.eq_1 _ _) ?_
  refine ⟨fun h2820 => ?_, fun h2820 => ?_⟩
  · have o2821 : (0 ≤ (0 : Int32).toInt) ∧ ((0 : Int32).toInt ≤ 5) := by have := (by decide : ((0 : Int32)).toInt = 0); exact ⟨by omega, by omega⟩
    exact hQ _ _ hI (FR.refl _ w)  o2821.1 o2821.2
  · refine ⟨fun h2822 => ?_, fun h2822 => ?_⟩
    · have o2823 : (0 ≤ (0 : Int32).toInt) ∧ ((0 : Int32).toInt ≤ 5) := by have := (by decide : ((0 : Int32)).toInt = 0); exact ⟨by omega, by omega⟩
      exact hQ _ _ hI (FR.refl _ w)  o2823.1 o2823.2
    · refine ⟨fun h2824 => ?_, fun h2824 => ?_⟩
      · refine h_Rd_nextWord hI hr_87_0  (fun w2825 hI2826 hL2827  => ?_)
        have hF2829 : FR l_Rd_takeUnit w w2825 := (FR.refl _ w).tr hL2827 rfl
        have o2830 : (0 ≤ (w.1 87 3).toInt) ∧ ((w.1 87 3).toInt ≤ 5) := by have := (by decide : ((1 : Int32)).toInt = 1); have := (by decide : ((5 : Int32)).toInt = 5); exact ⟨by omega, by omega⟩
        exact hQ _ _ hI2826 hF2829  o2830.1 o2830.2
      · have o2831 : (0 ≤ (0 : Int32).toInt) ∧ ((0 : Int32).toInt ≤ 5) := by have := (by decide : ((0 : Int32)).toInt = 0); exact ⟨by omega, by omega⟩
        exact hQ _ _ hI (FR.refl _ w)  o2831.1 o2831.2
def l_Ro_nextWords99_8 : Pl := [(99, some 12)]
def l_Ro_nextWords99_60 : Pl := [(99, some 13)]
def l_Ro_nextWords99 : Pl := [(99, some 12), (99, some 13), (99, some 14)]
set_option maxRecDepth 20000 in
set_option maxHeartbeats 2000000 in
theorem hq_Ro_nextWords99_8 {E : MW → Prop} {Q : MW → Prop} (n : Nat) : ∀ (w : MW), BND w → w.2.2 99 11 = some 1 → (4000 - (w.1 99 12).toInt).toNat < n → (∀ (w' : MW), BND w' → FR l_Ro_nextWords99_8 w w' → E w') → (∀ (w' : MW), BND w' → FR l_Ro_nextWords99_8 w w' → False → Q w') → q_Ro_nextWords99_8 E Q n w := by
  induction n with
  | zero => intros; omega
  | succ n ih =>
    intro w hI hr_99_11  hm hE hQ
    rw [q_Ro_nextWords99_8.eq_2]
    refine ⟨hr_99_11, ?_⟩
    refine ⟨fun h2832 => ?_, fun h2832 => ?_⟩
    · exact hE _ hI (FR.refl _ w)
    · refine ⟨hr_99_11, ?_⟩
      refine Eq.mpr (p_Tp_at.eq_1 _ _ _) ?_
      refine ⟨fun h2833 => ?_, fun h2833 => ?_⟩
      · exfalso; have := bd_99_12 hI; have := bd_1_2 hI; have := (by decide : ((0 : Int32)).toInt = 0); omega
      · refine ⟨fun h => absurd h h2832, fun _ => ?_⟩
        refine ⟨fun h2834 => ?_, fun h2834 => ?_⟩
        · have o2835 : 0 ≤ ((w.1 99 12) >>> ((2 : Int32) &&& 31)).toInt ∧ ((w.1 99 12) >>> ((2 : Int32) &&& 31)).toInt < 1005 := by have := bd_99_12 hI; have := bd_1_2 hI; have := (by decide : ((0 : Int32)).toInt = 0); have := nb_shr (w.1 99 12) ((2 : Int32) &&& 31) 2 4 rfl rfl; have := ti_mul2 (by decide : ((4 : Int32)).toInt = 4) (by decide : ((1005 : Int32)).toInt = 1005) (by omega) (by omega); omega
          refine ⟨o2835, ?_⟩
          refine Eq.mpr (p_Tp_isBlank.eq_1 _ _ _) ?_
          refine ⟨fun h2836 => ?_, fun h2836 => ?_⟩
          · refine ⟨fun h => absurd h (by decide), fun _ => ?_⟩
            have o2838 : 0 ≤ ((w.1 99 12) + (1 : Int32)).toInt ∧ ((w.1 99 12) + (1 : Int32)).toInt ≤ 4000 := by have := bd_99_12 hI; have := bd_1_2 hI; have := (by decide : ((0 : Int32)).toInt = 0); have := ti_lo ((((w.1 2 (((w.1 99 12) >>> ((2 : Int32) &&& 31)).toInt.toNat)).toUInt32 >>> (((24 : Int32) - ((8 : Int32) * ((w.1 99 12) &&& (3 : Int32)))).toUInt32 &&& Int32.toUInt32 31)).toInt32) &&& (255 : Int32)); have := ti_hi ((((w.1 2 (((w.1 99 12) >>> ((2 : Int32) &&& 31)).toInt.toNat)).toUInt32 >>> (((24 : Int32) - ((8 : Int32) * ((w.1 99 12) &&& (3 : Int32)))).toUInt32 &&& Int32.toUInt32 31)).toInt32) &&& (255 : Int32)); have := ti_lo (((w.1 2 (((w.1 99 12) >>> ((2 : Int32) &&& 31)).toInt.toNat)).toUInt32 >>> (((24 : Int32) - ((8 : Int32) * ((w.1 99 12) &&& (3 : Int32)))).toUInt32 &&& Int32.toUInt32 31)).toInt32); have := ti_hi (((w.1 2 (((w.1 99 12) >>> ((2 : Int32) &&& 31)).toInt.toNat)).toUInt32 >>> (((24 : Int32) - ((8 : Int32) * ((w.1 99 12) &&& (3 : Int32)))).toUInt32 &&& Int32.toUInt32 31)).toInt32); have := ti_lo ((w.1 99 12) &&& (3 : Int32)); have := ti_hi ((w.1 99 12) &&& (3 : Int32)); have := nb_and (w.1 99 12) (3 : Int32) 3 rfl (by decide); have := nb_and (((w.1 2 (((w.1 99 12) >>> ((2 : Int32) &&& 31)).toInt.toNat)).toUInt32 >>> (((24 : Int32) - ((8 : Int32) * ((w.1 99 12) &&& (3 : Int32)))).toUInt32 &&& Int32.toUInt32 31)).toInt32) (255 : Int32) 255 rfl (by decide); have := (by decide : ((32 : Int32)).toInt = 32); have := ti_add2 (Eq.refl (w.1 99 12).toInt) (by decide : ((1 : Int32)).toInt = 1) (by omega) (by omega); have := ti_mul2 (by decide : ((4 : Int32)).toInt = 4) (by decide : ((1005 : Int32)).toInt = 1005) (by omega) (by omega); have := ti_mul2 (by decide : ((8 : Int32)).toInt = 8) (Eq.refl ((w.1 99 12) &&& (3 : Int32)).toInt) (by omega) (by omega); have := ti_sub2 (by decide : ((24 : Int32)).toInt = 24) (Eq.refl ((8 : Int32) * ((w.1 99 12) &&& (3 : Int32))).toInt) (by omega) (by omega); omega
            have hI2837 : BND (sI w 99 12 ((w.1 99 12) + (1 : Int32))) := wbd_99_12 hI o2838.1 o2838.2
            exact ih (sI w 99 12 ((w.1 99 12) + (1 : Int32))) hI2837 hr_99_11  (by have := bd_99_12 hI; have : ((sI w 99 12 ((w.1 99 12) + (1 : Int32))).1 99 12).toInt = ((w.1 99 12) + (1 : Int32)).toInt := rfl; have := bd_1_2 hI; have := (by decide : ((0 : Int32)).toInt = 0); have := ti_lo ((((w.1 2 (((w.1 99 12) >>> ((2 : Int32) &&& 31)).toInt.toNat)).toUInt32 >>> (((24 : Int32) - ((8 : Int32) * ((w.1 99 12) &&& (3 : Int32)))).toUInt32 &&& Int32.toUInt32 31)).toInt32) &&& (255 : Int32)); have := ti_hi ((((w.1 2 (((w.1 99 12) >>> ((2 : Int32) &&& 31)).toInt.toNat)).toUInt32 >>> (((24 : Int32) - ((8 : Int32) * ((w.1 99 12) &&& (3 : Int32)))).toUInt32 &&& Int32.toUInt32 31)).toInt32) &&& (255 : Int32)); have := ti_lo (((w.1 2 (((w.1 99 12) >>> ((2 : Int32) &&& 31)).toInt.toNat)).toUInt32 >>> (((24 : Int32) - ((8 : Int32) * ((w.1 99 12) &&& (3 : Int32)))).toUInt32 &&& Int32.toUInt32 31)).toInt32); have := ti_hi (((w.1 2 (((w.1 99 12) >>> ((2 : Int32) &&& 31)).toInt.toNat)).toUInt32 >>> (((24 : Int32) - ((8 : Int32) * ((w.1 99 12) &&& (3 : Int32)))).toUInt32 &&& Int32.toUInt32 31)).toInt32); have := ti_lo ((w.1 99 12) &&& (3 : Int32)); have := ti_hi ((w.1 99 12) &&& (3 : Int32)); have := nb_and (w.1 99 12) (3 : Int32) 3 rfl (by decide); have := nb_and (((w.1 2 (((w.1 99 12) >>> ((2 : Int32) &&& 31)).toInt.toNat)).toUInt32 >>> (((24 : Int32) - ((8 : Int32) * ((w.1 99 12) &&& (3 : Int32)))).toUInt32 &&& Int32.toUInt32 31)).toInt32) (255 : Int32) 255 rfl (by decide); have := (by decide : ((32 : Int32)).toInt = 32); have := ti_add2 (Eq.refl (w.1 99 12).toInt) (by decide : ((1 : Int32)).toInt = 1) (by omega) (by omega); have := ti_mul2 (by decide : ((4 : Int32)).toInt = 4) (by decide : ((1005 : Int32)).toInt = 1005) (by omega) (by omega); have := ti_mul2 (by decide : ((8 : Int32)).toInt = 8) (Eq.refl ((w.1 99 12) &&& (3 : Int32)).toInt) (by omega) (by omega); have := ti_sub2 (by decide : ((24 : Int32)).toInt = 24) (Eq.refl ((8 : Int32) * ((w.1 99 12) &&& (3 : Int32))).toInt) (by omega) (by omega); omega) (fun w9 hI9 hF9 => hE w9 hI9 ((FR.I (FR.refl _ w) (k := 99) (j := 12) (v := ((w.1 99 12) + (1 : Int32))) rfl).tr hF9 rfl) ) (fun w9 hI9 hF9 q0 => q0.elim)
          · refine ⟨fun h2839 => ?_, fun h2839 => ?_⟩
            · refine ⟨fun _ => ?_, fun h => absurd (by decide) h⟩
              exact hE _ hI (FR.refl _ w) 
            · refine ⟨fun h => absurd h (by decide), fun _ => ?_⟩
              have o2841 : 0 ≤ ((w.1 99 12) + (1 : Int32)).toInt ∧ ((w.1 99 12) + (1 : Int32)).toInt ≤ 4000 := by have := bd_99_12 hI; have := bd_1_2 hI; have := (by decide : ((0 : Int32)).toInt = 0); have := ti_lo ((((w.1 2 (((w.1 99 12) >>> ((2 : Int32) &&& 31)).toInt.toNat)).toUInt32 >>> (((24 : Int32) - ((8 : Int32) * ((w.1 99 12) &&& (3 : Int32)))).toUInt32 &&& Int32.toUInt32 31)).toInt32) &&& (255 : Int32)); have := ti_hi ((((w.1 2 (((w.1 99 12) >>> ((2 : Int32) &&& 31)).toInt.toNat)).toUInt32 >>> (((24 : Int32) - ((8 : Int32) * ((w.1 99 12) &&& (3 : Int32)))).toUInt32 &&& Int32.toUInt32 31)).toInt32) &&& (255 : Int32)); have := ti_lo (((w.1 2 (((w.1 99 12) >>> ((2 : Int32) &&& 31)).toInt.toNat)).toUInt32 >>> (((24 : Int32) - ((8 : Int32) * ((w.1 99 12) &&& (3 : Int32)))).toUInt32 &&& Int32.toUInt32 31)).toInt32); have := ti_hi (((w.1 2 (((w.1 99 12) >>> ((2 : Int32) &&& 31)).toInt.toNat)).toUInt32 >>> (((24 : Int32) - ((8 : Int32) * ((w.1 99 12) &&& (3 : Int32)))).toUInt32 &&& Int32.toUInt32 31)).toInt32); have := ti_lo ((w.1 99 12) &&& (3 : Int32)); have := ti_hi ((w.1 99 12) &&& (3 : Int32)); have := nb_and (w.1 99 12) (3 : Int32) 3 rfl (by decide); have := nb_and (((w.1 2 (((w.1 99 12) >>> ((2 : Int32) &&& 31)).toInt.toNat)).toUInt32 >>> (((24 : Int32) - ((8 : Int32) * ((w.1 99 12) &&& (3 : Int32)))).toUInt32 &&& Int32.toUInt32 31)).toInt32) (255 : Int32) 255 rfl (by decide); have := (by decide : ((32 : Int32)).toInt = 32); have := (by decide : ((10 : Int32)).toInt = 10); have := ti_add2 (Eq.refl (w.1 99 12).toInt) (by decide : ((1 : Int32)).toInt = 1) (by omega) (by omega); have := ti_mul2 (by decide : ((4 : Int32)).toInt = 4) (by decide : ((1005 : Int32)).toInt = 1005) (by omega) (by omega); have := ti_mul2 (by decide : ((8 : Int32)).toInt = 8) (Eq.refl ((w.1 99 12) &&& (3 : Int32)).toInt) (by omega) (by omega); have := ti_sub2 (by decide : ((24 : Int32)).toInt = 24) (Eq.refl ((8 : Int32) * ((w.1 99 12) &&& (3 : Int32))).toInt) (by omega) (by omega); omega
              have hI2840 : BND (sI w 99 12 ((w.1 99 12) + (1 : Int32))) := wbd_99_12 hI o2841.1 o2841.2
              exact ih (sI w 99 12 ((w.1 99 12) + (1 : Int32))) hI2840 hr_99_11  (by have := bd_99_12 hI; have : ((sI w 99 12 ((w.1 99 12) + (1 : Int32))).1 99 12).toInt = ((w.1 99 12) + (1 : Int32)).toInt := rfl; have := bd_1_2 hI; have := (by decide : ((0 : Int32)).toInt = 0); have := ti_lo ((((w.1 2 (((w.1 99 12) >>> ((2 : Int32) &&& 31)).toInt.toNat)).toUInt32 >>> (((24 : Int32) - ((8 : Int32) * ((w.1 99 12) &&& (3 : Int32)))).toUInt32 &&& Int32.toUInt32 31)).toInt32) &&& (255 : Int32)); have := ti_hi ((((w.1 2 (((w.1 99 12) >>> ((2 : Int32) &&& 31)).toInt.toNat)).toUInt32 >>> (((24 : Int32) - ((8 : Int32) * ((w.1 99 12) &&& (3 : Int32)))).toUInt32 &&& Int32.toUInt32 31)).toInt32) &&& (255 : Int32)); have := ti_lo (((w.1 2 (((w.1 99 12) >>> ((2 : Int32) &&& 31)).toInt.toNat)).toUInt32 >>> (((24 : Int32) - ((8 : Int32) * ((w.1 99 12) &&& (3 : Int32)))).toUInt32 &&& Int32.toUInt32 31)).toInt32); have := ti_hi (((w.1 2 (((w.1 99 12) >>> ((2 : Int32) &&& 31)).toInt.toNat)).toUInt32 >>> (((24 : Int32) - ((8 : Int32) * ((w.1 99 12) &&& (3 : Int32)))).toUInt32 &&& Int32.toUInt32 31)).toInt32); have := ti_lo ((w.1 99 12) &&& (3 : Int32)); have := ti_hi ((w.1 99 12) &&& (3 : Int32)); have := nb_and (w.1 99 12) (3 : Int32) 3 rfl (by decide); have := nb_and (((w.1 2 (((w.1 99 12) >>> ((2 : Int32) &&& 31)).toInt.toNat)).toUInt32 >>> (((24 : Int32) - ((8 : Int32) * ((w.1 99 12) &&& (3 : Int32)))).toUInt32 &&& Int32.toUInt32 31)).toInt32) (255 : Int32) 255 rfl (by decide); have := (by decide : ((32 : Int32)).toInt = 32); have := (by decide : ((10 : Int32)).toInt = 10); have := ti_add2 (Eq.refl (w.1 99 12).toInt) (by decide : ((1 : Int32)).toInt = 1) (by omega) (by omega); have := ti_mul2 (by decide : ((4 : Int32)).toInt = 4) (by decide : ((1005 : Int32)).toInt = 1005) (by omega) (by omega); have := ti_mul2 (by decide : ((8 : Int32)).toInt = 8) (Eq.refl ((w.1 99 12) &&& (3 : Int32)).toInt) (by omega) (by omega); have := ti_sub2 (by decide : ((24 : Int32)).toInt = 24) (Eq.refl ((8 : Int32) * ((w.1 99 12) &&& (3 : Int32))).toInt) (by omega) (by omega); omega) (fun w9 hI9 hF9 => hE w9 hI9 ((FR.I (FR.refl _ w) (k := 99) (j := 12) (v := ((w.1 99 12) + (1 : Int32))) rfl).tr hF9 rfl) ) (fun w9 hI9 hF9 q0 => q0.elim)
        · exfalso; have := bd_99_12 hI; have := bd_1_2 hI; have := (by decide : ((0 : Int32)).toInt = 0); have := ti_mul2 (by decide : ((4 : Int32)).toInt = 4) (by decide : ((1005 : Int32)).toInt = 1005) (by omega) (by omega); omega
set_option maxRecDepth 20000 in
set_option maxHeartbeats 2000000 in
theorem hq_Ro_nextWords99_60 {E : MW → Prop} {Q : MW → Prop} (n : Nat) : ∀ (w : MW), BND w → w.2.2 99 11 = some 1 → (4000 - (w.1 99 13).toInt).toNat < n → (∀ (w' : MW), BND w' → FR l_Ro_nextWords99_60 w w' → E w') → (∀ (w' : MW), BND w' → FR l_Ro_nextWords99_60 w w' → False → Q w') → q_Ro_nextWords99_60 E Q n w := by
  induction n with
  | zero => intros; omega
  | succ n ih =>
    intro w hI hr_99_11  hm hE hQ
    rw [q_Ro_nextWords99_60.eq_2]
    refine ⟨hr_99_11, ?_⟩
    refine ⟨fun h2842 => ?_, fun h2842 => ?_⟩
    · exact hE _ hI (FR.refl _ w)
    · refine ⟨hr_99_11, ?_⟩
      refine Eq.mpr (p_Tp_at.eq_1 _ _ _) ?_
      refine ⟨fun h2843 => ?_, fun h2843 => ?_⟩
      · exfalso; have := bd_99_13 hI; have := bd_1_2 hI; have := (by decide : ((0 : Int32)).toInt = 0); omega
      · refine ⟨fun h => absurd h h2842, fun _ => ?_⟩
        refine ⟨fun h2844 => ?_, fun h2844 => ?_⟩
        · have o2845 : 0 ≤ ((w.1 99 13) >>> ((2 : Int32) &&& 31)).toInt ∧ ((w.1 99 13) >>> ((2 : Int32) &&& 31)).toInt < 1005 := by have := bd_99_13 hI; have := bd_1_2 hI; have := (by decide : ((0 : Int32)).toInt = 0); have := nb_shr (w.1 99 13) ((2 : Int32) &&& 31) 2 4 rfl rfl; have := ti_mul2 (by decide : ((4 : Int32)).toInt = 4) (by decide : ((1005 : Int32)).toInt = 1005) (by omega) (by omega); omega
          refine ⟨o2845, ?_⟩
          refine Eq.mpr (p_Tp_isBlank.eq_1 _ _ _) ?_
          refine ⟨fun h2846 => ?_, fun h2846 => ?_⟩
          · refine ⟨fun _ => ?_, fun h => absurd (by decide) h⟩
            exact hE _ hI (FR.refl _ w) 
          · refine ⟨fun h2847 => ?_, fun h2847 => ?_⟩
            · refine ⟨fun h => absurd h (by decide), fun _ => ?_⟩
              refine ⟨hr_99_11, ?_⟩
              refine Eq.mpr (p_Tp_at.eq_1 _ _ _) ?_
              refine ⟨fun h => absurd h h2843, fun _ => ?_⟩
              refine ⟨fun h => absurd h h2842, fun _ => ?_⟩
              refine ⟨fun _ => ?_, fun h => absurd h2844 h⟩
              have o2848 : 0 ≤ ((w.1 99 13) >>> ((2 : Int32) &&& 31)).toInt ∧ ((w.1 99 13) >>> ((2 : Int32) &&& 31)).toInt < 1005 := by have := bd_99_13 hI; have := bd_1_2 hI; have := (by decide : ((0 : Int32)).toInt = 0); have := ti_lo ((((w.1 2 (((w.1 99 13) >>> ((2 : Int32) &&& 31)).toInt.toNat)).toUInt32 >>> (((24 : Int32) - ((8 : Int32) * ((w.1 99 13) &&& (3 : Int32)))).toUInt32 &&& Int32.toUInt32 31)).toInt32) &&& (255 : Int32)); have := ti_hi ((((w.1 2 (((w.1 99 13) >>> ((2 : Int32) &&& 31)).toInt.toNat)).toUInt32 >>> (((24 : Int32) - ((8 : Int32) * ((w.1 99 13) &&& (3 : Int32)))).toUInt32 &&& Int32.toUInt32 31)).toInt32) &&& (255 : Int32)); have := ti_lo (((w.1 2 (((w.1 99 13) >>> ((2 : Int32) &&& 31)).toInt.toNat)).toUInt32 >>> (((24 : Int32) - ((8 : Int32) * ((w.1 99 13) &&& (3 : Int32)))).toUInt32 &&& Int32.toUInt32 31)).toInt32); have := ti_hi (((w.1 2 (((w.1 99 13) >>> ((2 : Int32) &&& 31)).toInt.toNat)).toUInt32 >>> (((24 : Int32) - ((8 : Int32) * ((w.1 99 13) &&& (3 : Int32)))).toUInt32 &&& Int32.toUInt32 31)).toInt32); have := ti_lo ((w.1 99 13) &&& (3 : Int32)); have := ti_hi ((w.1 99 13) &&& (3 : Int32)); have := nb_and (w.1 99 13) (3 : Int32) 3 rfl (by decide); have := nb_and (((w.1 2 (((w.1 99 13) >>> ((2 : Int32) &&& 31)).toInt.toNat)).toUInt32 >>> (((24 : Int32) - ((8 : Int32) * ((w.1 99 13) &&& (3 : Int32)))).toUInt32 &&& Int32.toUInt32 31)).toInt32) (255 : Int32) 255 rfl (by decide); have := (by decide : ((32 : Int32)).toInt = 32); have := (by decide : ((10 : Int32)).toInt = 10); have := nb_shr (w.1 99 13) ((2 : Int32) &&& 31) 2 4 rfl rfl; have := ti_mul2 (by decide : ((4 : Int32)).toInt = 4) (by decide : ((1005 : Int32)).toInt = 1005) (by omega) (by omega); have := ti_mul2 (by decide : ((8 : Int32)).toInt = 8) (Eq.refl ((w.1 99 13) &&& (3 : Int32)).toInt) (by omega) (by omega); have := ti_sub2 (by decide : ((24 : Int32)).toInt = 24) (Eq.refl ((8 : Int32) * ((w.1 99 13) &&& (3 : Int32))).toInt) (by omega) (by omega); omega
              refine ⟨o2848, ?_⟩
              refine Eq.mpr (p_Ro_isMark.eq_1 _ _ _) ?_
              refine ⟨fun h2849 => ?_, fun h2849 => ?_⟩
              · refine ⟨fun _ => ?_, fun h => absurd (by decide) h⟩
                exact hE _ hI (FR.refl _ w) 
              · refine ⟨fun h2850 => ?_, fun h2850 => ?_⟩
                · refine ⟨fun _ => ?_, fun h => absurd (by decide) h⟩
                  exact hE _ hI (FR.refl _ w) 
                · refine ⟨fun h2851 => ?_, fun h2851 => ?_⟩
                  · refine ⟨fun h => absurd h (by decide), fun _ => ?_⟩
                    have o2853 : 0 ≤ ((w.1 99 13) + (1 : Int32)).toInt ∧ ((w.1 99 13) + (1 : Int32)).toInt ≤ 4000 := by have := bd_99_13 hI; have := bd_1_2 hI; have := (by decide : ((0 : Int32)).toInt = 0); have := ti_lo ((((w.1 2 (((w.1 99 13) >>> ((2 : Int32) &&& 31)).toInt.toNat)).toUInt32 >>> (((24 : Int32) - ((8 : Int32) * ((w.1 99 13) &&& (3 : Int32)))).toUInt32 &&& Int32.toUInt32 31)).toInt32) &&& (255 : Int32)); have := ti_hi ((((w.1 2 (((w.1 99 13) >>> ((2 : Int32) &&& 31)).toInt.toNat)).toUInt32 >>> (((24 : Int32) - ((8 : Int32) * ((w.1 99 13) &&& (3 : Int32)))).toUInt32 &&& Int32.toUInt32 31)).toInt32) &&& (255 : Int32)); have := ti_lo (((w.1 2 (((w.1 99 13) >>> ((2 : Int32) &&& 31)).toInt.toNat)).toUInt32 >>> (((24 : Int32) - ((8 : Int32) * ((w.1 99 13) &&& (3 : Int32)))).toUInt32 &&& Int32.toUInt32 31)).toInt32); have := ti_hi (((w.1 2 (((w.1 99 13) >>> ((2 : Int32) &&& 31)).toInt.toNat)).toUInt32 >>> (((24 : Int32) - ((8 : Int32) * ((w.1 99 13) &&& (3 : Int32)))).toUInt32 &&& Int32.toUInt32 31)).toInt32); have := ti_lo ((w.1 99 13) &&& (3 : Int32)); have := ti_hi ((w.1 99 13) &&& (3 : Int32)); have := nb_and (w.1 99 13) (3 : Int32) 3 rfl (by decide); have := nb_and (((w.1 2 (((w.1 99 13) >>> ((2 : Int32) &&& 31)).toInt.toNat)).toUInt32 >>> (((24 : Int32) - ((8 : Int32) * ((w.1 99 13) &&& (3 : Int32)))).toUInt32 &&& Int32.toUInt32 31)).toInt32) (255 : Int32) 255 rfl (by decide); have := (by decide : ((32 : Int32)).toInt = 32); have := (by decide : ((10 : Int32)).toInt = 10); have := (by decide : ((40 : Int32)).toInt = 40); have := (by decide : ((41 : Int32)).toInt = 41); have := (by decide : ((59 : Int32)).toInt = 59); have := ti_add2 (Eq.refl (w.1 99 13).toInt) (by decide : ((1 : Int32)).toInt = 1) (by omega) (by omega); have := ti_mul2 (by decide : ((4 : Int32)).toInt = 4) (by decide : ((1005 : Int32)).toInt = 1005) (by omega) (by omega); have := ti_mul2 (by decide : ((8 : Int32)).toInt = 8) (Eq.refl ((w.1 99 13) &&& (3 : Int32)).toInt) (by omega) (by omega); have := ti_sub2 (by decide : ((24 : Int32)).toInt = 24) (Eq.refl ((8 : Int32) * ((w.1 99 13) &&& (3 : Int32))).toInt) (by omega) (by omega); omega
                    have hI2852 : BND (sI w 99 13 ((w.1 99 13) + (1 : Int32))) := wbd_99_13 hI o2853.1 o2853.2
                    exact ih (sI w 99 13 ((w.1 99 13) + (1 : Int32))) hI2852 hr_99_11  (by have := bd_99_13 hI; have : ((sI w 99 13 ((w.1 99 13) + (1 : Int32))).1 99 13).toInt = ((w.1 99 13) + (1 : Int32)).toInt := rfl; have := bd_1_2 hI; have := (by decide : ((0 : Int32)).toInt = 0); have := ti_lo ((((w.1 2 (((w.1 99 13) >>> ((2 : Int32) &&& 31)).toInt.toNat)).toUInt32 >>> (((24 : Int32) - ((8 : Int32) * ((w.1 99 13) &&& (3 : Int32)))).toUInt32 &&& Int32.toUInt32 31)).toInt32) &&& (255 : Int32)); have := ti_hi ((((w.1 2 (((w.1 99 13) >>> ((2 : Int32) &&& 31)).toInt.toNat)).toUInt32 >>> (((24 : Int32) - ((8 : Int32) * ((w.1 99 13) &&& (3 : Int32)))).toUInt32 &&& Int32.toUInt32 31)).toInt32) &&& (255 : Int32)); have := ti_lo (((w.1 2 (((w.1 99 13) >>> ((2 : Int32) &&& 31)).toInt.toNat)).toUInt32 >>> (((24 : Int32) - ((8 : Int32) * ((w.1 99 13) &&& (3 : Int32)))).toUInt32 &&& Int32.toUInt32 31)).toInt32); have := ti_hi (((w.1 2 (((w.1 99 13) >>> ((2 : Int32) &&& 31)).toInt.toNat)).toUInt32 >>> (((24 : Int32) - ((8 : Int32) * ((w.1 99 13) &&& (3 : Int32)))).toUInt32 &&& Int32.toUInt32 31)).toInt32); have := ti_lo ((w.1 99 13) &&& (3 : Int32)); have := ti_hi ((w.1 99 13) &&& (3 : Int32)); have := nb_and (w.1 99 13) (3 : Int32) 3 rfl (by decide); have := nb_and (((w.1 2 (((w.1 99 13) >>> ((2 : Int32) &&& 31)).toInt.toNat)).toUInt32 >>> (((24 : Int32) - ((8 : Int32) * ((w.1 99 13) &&& (3 : Int32)))).toUInt32 &&& Int32.toUInt32 31)).toInt32) (255 : Int32) 255 rfl (by decide); have := (by decide : ((32 : Int32)).toInt = 32); have := (by decide : ((10 : Int32)).toInt = 10); have := (by decide : ((40 : Int32)).toInt = 40); have := (by decide : ((41 : Int32)).toInt = 41); have := (by decide : ((59 : Int32)).toInt = 59); have := ti_add2 (Eq.refl (w.1 99 13).toInt) (by decide : ((1 : Int32)).toInt = 1) (by omega) (by omega); have := ti_mul2 (by decide : ((4 : Int32)).toInt = 4) (by decide : ((1005 : Int32)).toInt = 1005) (by omega) (by omega); have := ti_mul2 (by decide : ((8 : Int32)).toInt = 8) (Eq.refl ((w.1 99 13) &&& (3 : Int32)).toInt) (by omega) (by omega); have := ti_sub2 (by decide : ((24 : Int32)).toInt = 24) (Eq.refl ((8 : Int32) * ((w.1 99 13) &&& (3 : Int32))).toInt) (by omega) (by omega); omega) (fun w9 hI9 hF9 => hE w9 hI9 ((FR.I (FR.refl _ w) (k := 99) (j := 13) (v := ((w.1 99 13) + (1 : Int32))) rfl).tr hF9 rfl) ) (fun w9 hI9 hF9 q0 => q0.elim)
                  · refine ⟨fun _ => ?_, fun h => absurd (by decide) h⟩
                    exact hE _ hI (FR.refl _ w) 
            · refine ⟨fun _ => ?_, fun h => absurd (by decide) h⟩
              exact hE _ hI (FR.refl _ w) 
        · exfalso; have := bd_99_13 hI; have := bd_1_2 hI; have := (by decide : ((0 : Int32)).toInt = 0); have := ti_mul2 (by decide : ((4 : Int32)).toInt = 4) (by decide : ((1005 : Int32)).toInt = 1005) (by omega) (by omega); omega
set_option maxRecDepth 20000 in
set_option maxHeartbeats 2000000 in
theorem h_Ro_nextWords99 {w : MW} {Q : MW → Prop} (hI : BND w) (hr_99_11 : w.2.2 99 11 = some 1)  (hQ : ∀ (w' : MW), BND w' → FR l_Ro_nextWords99 w w' → Q w') : p_Ro_nextWords99 w Q := by
  refine Eq.mpr (p_Ro_nextWords99.eq_1 _ _) ?_
  have o2855 : 0 ≤ (w.1 99 13).toInt ∧ (w.1 99 13).toInt ≤ 4000 := by have := bd_99_13 hI; omega
  have hI2854 : BND (sI w 99 12 (w.1 99 13)) := wbd_99_12 hI o2855.1 o2855.2
  refine hq_Ro_nextWords99_8 FU (sI w 99 12 (w.1 99 13)) hI2854 hr_99_11  (fu_lt (by have := bd_99_13 hI; have : ((sI w 99 12 (w.1 99 13)).1 99 12).toInt = (w.1 99 13).toInt := rfl; omega)) (fun w2856 hI2857 hL2858  => ?_) (fun w9 hI9 hF9 q0 => q0.elim)
  have hF2859 : FR l_Ro_nextWords99 w w2856 := (FR.I (FR.refl _ w) (k := 99) (j := 12) (v := (w.1 99 13)) rfl).tr hL2858 rfl
  have o2861 : 0 ≤ (w2856.1 99 12).toInt ∧ (w2856.1 99 12).toInt ≤ 4000 := by have := bd_99_12 hI2857; omega
  have hI2860 : BND (sI w2856 99 13 (w2856.1 99 12)) := wbd_99_13 hI2857 o2861.1 o2861.2
  refine hq_Ro_nextWords99_60 FU (sI w2856 99 13 (w2856.1 99 12)) hI2860 ((hL2858 99 11 rfl).2.2.trans hr_99_11)  (fu_lt (by have := bd_99_12 hI2857; have : ((sI w2856 99 13 (w2856.1 99 12)).1 99 13).toInt = (w2856.1 99 12).toInt := rfl; omega)) (fun w2862 hI2863 hL2864  => ?_) (fun w9 hI9 hF9 q0 => q0.elim)
  have hF2865 : FR l_Ro_nextWords99 w w2862 := (FR.I hF2859 (k := 99) (j := 13) (v := (w2856.1 99 12)) rfl).tr hL2864 rfl
  refine ⟨fun h2866 => ?_, fun h2866 => ?_⟩
  · have hI2867 : BND (sI w2862 99 14 ((w2862.1 99 14) + (1 : Int32))) := wbd_99_14 hI2863
    exact hQ _ hI2867 (FR.I hF2865 (k := 99) (j := 14) (v := ((w2862.1 99 14) + (1 : Int32))) rfl) 
  · refine ⟨((hL2864 99 11 rfl).2.2.trans ((hL2858 99 11 rfl).2.2.trans hr_99_11)), ?_⟩
    refine ⟨fun h2868 => ?_, fun h2868 => ?_⟩
    · have hI2869 : BND (sI w2862 99 14 ((w2862.1 99 14) + (1 : Int32))) := wbd_99_14 hI2863
      exact hQ _ hI2869 (FR.I hF2865 (k := 99) (j := 14) (v := ((w2862.1 99 14) + (1 : Int32))) rfl) 
    · have o2871 : 0 ≤ ((w2862.1 99 13) + (1 : Int32)).toInt ∧ ((w2862.1 99 13) + (1 : Int32)).toInt ≤ 4000 := by have := bd_99_13 hI2863; have := bd_99_12 hI2863; have := bd_99_12 hI2857; have : ((sI w2856 99 13 (w2856.1 99 12)).1 99 12).toInt = (w2856.1 99 12).toInt := rfl; have := (congrArg Int32.toInt (hL2864 99 12 rfl).1); have := bd_1_2 hI2863; have := bd_1_2 hI2857; have := bd_1_2 hI; have : ((sI w 99 12 (w.1 99 13)).1 1 2).toInt = (w.1 1 2).toInt := rfl; have := (congrArg Int32.toInt (hL2858 1 2 rfl).1); have : ((sI w2856 99 13 (w2856.1 99 12)).1 1 2).toInt = (w2856.1 1 2).toInt := rfl; have := (congrArg Int32.toInt (hL2864 1 2 rfl).1); have := ti_add2 (Eq.refl (w2862.1 99 13).toInt) (by decide : ((1 : Int32)).toInt = 1) (by omega) (by omega); omega
      have hI2870 : BND (sI w2862 99 13 ((w2862.1 99 13) + (1 : Int32))) := wbd_99_13 hI2863 o2871.1 o2871.2
      have hI2872 : BND (sI (sI w2862 99 13 ((w2862.1 99 13) + (1 : Int32))) 99 14 ((w2862.1 99 14) + (1 : Int32))) := wbd_99_14 hI2870
      exact hQ _ hI2872 (FR.I (FR.I hF2865 (k := 99) (j := 13) (v := ((w2862.1 99 13) + (1 : Int32))) rfl) (k := 99) (j := 14) (v := ((w2862.1 99 14) + (1 : Int32))) rfl) 
def l_Ro_iss99_2013_27 : Pl := []
def l_Ro_iss99_2013 : Pl := []
set_option maxRecDepth 20000 in
set_option maxHeartbeats 2000000 in
theorem hq_Ro_iss99_2013_27 {E : MW → Prop} {Q : Int32 → MW → Prop} (n : Nat) : ∀ (x27_2 : Int32) (w : MW), BND w → w.2.2 99 11 = some 1 → 0 ≤ x27_2.toInt → x27_2.toInt ≤ 3 → (3 - x27_2.toInt).toNat < n → (∀ (w' : MW), BND w' → FR l_Ro_iss99_2013_27 w w' → E w') → (∀ (r : Int32) (w' : MW), BND w' → FR l_Ro_iss99_2013_27 w w' → 0 ≤ r.toInt → r.toInt ≤ 0 → Q r w') → q_Ro_iss99_2013_27 E Q n x27_2 w := by
  induction n with
  | zero => intros; omega
  | succ n ih =>
    intro x27_2 w hI hr_99_11 hp0 hp1 hm hE hQ
    rw [q_Ro_iss99_2013_27.eq_2]
    refine ⟨fun h2873 => ?_, fun h2873 => ?_⟩
    · exact hE _ hI (FR.refl _ w)
    · refine ⟨hr_99_11, ?_⟩
      refine Eq.mpr (p_Tp_at.eq_1 _ _ _) ?_
      refine ⟨fun h2874 => ?_, fun h2874 => ?_⟩
      · exfalso; have := (by decide : ((3 : Int32)).toInt = 3); have := bd_99_12 hI; have := (by decide : ((0 : Int32)).toInt = 0); have := ti_add2 (Eq.refl (w.1 99 12).toInt) (Eq.refl x27_2.toInt) (by omega) (by omega); omega
      · refine ⟨fun h2875 => ?_, fun h2875 => ?_⟩
        · have o2876 : 0 ≤ x27_2.toInt ∧ x27_2.toInt < 3 := by have := (by decide : ((3 : Int32)).toInt = 3); have := bd_99_12 hI; have := (by decide : ((0 : Int32)).toInt = 0); have := bd_1_2 hI; have := ti_add2 (Eq.refl (w.1 99 12).toInt) (Eq.refl x27_2.toInt) (by omega) (by omega); omega
          refine ⟨o2876, ?_⟩
          refine ⟨fun h2877 => ?_, fun h2877 => ?_⟩
          · replace h2877 : (-1) = (chT 13 x27_2).toInt := h2877
            exfalso; have := (by decide : ((3 : Int32)).toInt = 3); have := bd_99_12 hI; have := (by decide : ((0 : Int32)).toInt = 0); have := bd_1_2 hI; have := (by decide : (((-1) : Int32)).toInt = (-1)); have := nb_ch 13 x27_2; have := ti_add2 (Eq.refl (w.1 99 12).toInt) (Eq.refl x27_2.toInt) (by omega) (by omega); omega
          · replace h2877 : ¬ ((-1) = (chT 13 x27_2).toInt) := h2877
            have o2878 : (0 ≤ (0 : Int32).toInt) ∧ ((0 : Int32).toInt ≤ 0) := by have := (by decide : ((0 : Int32)).toInt = 0); exact ⟨by omega, by omega⟩
            exact hQ _ _ hI (FR.refl _ w)  o2878.1 o2878.2
        · refine ⟨fun h2879 => ?_, fun h2879 => ?_⟩
          · have o2880 : 0 ≤ (((w.1 99 12) + x27_2) >>> ((2 : Int32) &&& 31)).toInt ∧ (((w.1 99 12) + x27_2) >>> ((2 : Int32) &&& 31)).toInt < 1005 := by have := bd_99_12 hI; have := (by decide : ((3 : Int32)).toInt = 3); have := (by decide : ((0 : Int32)).toInt = 0); have := bd_1_2 hI; have := ti_add2 (Eq.refl (w.1 99 12).toInt) (Eq.refl x27_2.toInt) (by omega) (by omega); have := nb_shr ((w.1 99 12) + x27_2) ((2 : Int32) &&& 31) 2 4 rfl rfl; have := ti_mul2 (by decide : ((4 : Int32)).toInt = 4) (by decide : ((1005 : Int32)).toInt = 1005) (by omega) (by omega); omega
            refine ⟨o2880, ?_⟩
            have o2881 : 0 ≤ x27_2.toInt ∧ x27_2.toInt < 3 := by have := (by decide : ((3 : Int32)).toInt = 3); have := bd_99_12 hI; have := (by decide : ((0 : Int32)).toInt = 0); have := bd_1_2 hI; have := ti_add2 (Eq.refl (w.1 99 12).toInt) (Eq.refl x27_2.toInt) (by omega) (by omega); have := ti_mul2 (by decide : ((4 : Int32)).toInt = 4) (by decide : ((1005 : Int32)).toInt = 1005) (by omega) (by omega); omega
            refine ⟨o2881, ?_⟩
            refine ⟨fun h2882 => ?_, fun h2882 => ?_⟩
            · have o2883 : (0 ≤ (x27_2 + (1 : Int32)).toInt) ∧ ((x27_2 + (1 : Int32)).toInt ≤ 3) := by have := (by decide : ((3 : Int32)).toInt = 3); have := bd_99_12 hI; have := (by decide : ((0 : Int32)).toInt = 0); have := bd_1_2 hI; have := ti_lo ((((w.1 2 ((((w.1 99 12) + x27_2) >>> ((2 : Int32) &&& 31)).toInt.toNat)).toUInt32 >>> (((24 : Int32) - ((8 : Int32) * (((w.1 99 12) + x27_2) &&& (3 : Int32)))).toUInt32 &&& Int32.toUInt32 31)).toInt32) &&& (255 : Int32)); have := ti_hi ((((w.1 2 ((((w.1 99 12) + x27_2) >>> ((2 : Int32) &&& 31)).toInt.toNat)).toUInt32 >>> (((24 : Int32) - ((8 : Int32) * (((w.1 99 12) + x27_2) &&& (3 : Int32)))).toUInt32 &&& Int32.toUInt32 31)).toInt32) &&& (255 : Int32)); have := ti_lo (((w.1 2 ((((w.1 99 12) + x27_2) >>> ((2 : Int32) &&& 31)).toInt.toNat)).toUInt32 >>> (((24 : Int32) - ((8 : Int32) * (((w.1 99 12) + x27_2) &&& (3 : Int32)))).toUInt32 &&& Int32.toUInt32 31)).toInt32); have := ti_hi (((w.1 2 ((((w.1 99 12) + x27_2) >>> ((2 : Int32) &&& 31)).toInt.toNat)).toUInt32 >>> (((24 : Int32) - ((8 : Int32) * (((w.1 99 12) + x27_2) &&& (3 : Int32)))).toUInt32 &&& Int32.toUInt32 31)).toInt32); have := ti_lo (((w.1 99 12) + x27_2) &&& (3 : Int32)); have := ti_hi (((w.1 99 12) + x27_2) &&& (3 : Int32)); have := nb_and ((w.1 99 12) + x27_2) (3 : Int32) 3 rfl (by decide); have := nb_and (((w.1 2 ((((w.1 99 12) + x27_2) >>> ((2 : Int32) &&& 31)).toInt.toNat)).toUInt32 >>> (((24 : Int32) - ((8 : Int32) * (((w.1 99 12) + x27_2) &&& (3 : Int32)))).toUInt32 &&& Int32.toUInt32 31)).toInt32) (255 : Int32) 255 rfl (by decide); have := nb_ch 13 x27_2; have := ti_add2 (Eq.refl x27_2.toInt) (by decide : ((1 : Int32)).toInt = 1) (by omega) (by omega); have := ti_add2 (Eq.refl (w.1 99 12).toInt) (Eq.refl x27_2.toInt) (by omega) (by omega); have := ti_mul2 (by decide : ((4 : Int32)).toInt = 4) (by decide : ((1005 : Int32)).toInt = 1005) (by omega) (by omega); have := ti_mul2 (by decide : ((8 : Int32)).toInt = 8) (Eq.refl (((w.1 99 12) + x27_2) &&& (3 : Int32)).toInt) (by omega) (by omega); have := ti_sub2 (by decide : ((24 : Int32)).toInt = 24) (Eq.refl ((8 : Int32) * (((w.1 99 12) + x27_2) &&& (3 : Int32))).toInt) (by omega) (by omega); exact ⟨by omega, by omega⟩
              exact ih _ w hI hr_99_11 o2883.1 o2883.2 (by have := (by decide : ((3 : Int32)).toInt = 3); have := bd_99_12 hI; have := (by decide : ((0 : Int32)).toInt = 0); have := bd_1_2 hI; have := ti_lo ((((w.1 2 ((((w.1 99 12) + x27_2) >>> ((2 : Int32) &&& 31)).toInt.toNat)).toUInt32 >>> (((24 : Int32) - ((8 : Int32) * (((w.1 99 12) + x27_2) &&& (3 : Int32)))).toUInt32 &&& Int32.toUInt32 31)).toInt32) &&& (255 : Int32)); have := ti_hi ((((w.1 2 ((((w.1 99 12) + x27_2) >>> ((2 : Int32) &&& 31)).toInt.toNat)).toUInt32 >>> (((24 : Int32) - ((8 : Int32) * (((w.1 99 12) + x27_2) &&& (3 : Int32)))).toUInt32 &&& Int32.toUInt32 31)).toInt32) &&& (255 : Int32)); have := ti_lo (((w.1 2 ((((w.1 99 12) + x27_2) >>> ((2 : Int32) &&& 31)).toInt.toNat)).toUInt32 >>> (((24 : Int32) - ((8 : Int32) * (((w.1 99 12) + x27_2) &&& (3 : Int32)))).toUInt32 &&& Int32.toUInt32 31)).toInt32); have := ti_hi (((w.1 2 ((((w.1 99 12) + x27_2) >>> ((2 : Int32) &&& 31)).toInt.toNat)).toUInt32 >>> (((24 : Int32) - ((8 : Int32) * (((w.1 99 12) + x27_2) &&& (3 : Int32)))).toUInt32 &&& Int32.toUInt32 31)).toInt32); have := ti_lo (((w.1 99 12) + x27_2) &&& (3 : Int32)); have := ti_hi (((w.1 99 12) + x27_2) &&& (3 : Int32)); have := nb_and ((w.1 99 12) + x27_2) (3 : Int32) 3 rfl (by decide); have := nb_and (((w.1 2 ((((w.1 99 12) + x27_2) >>> ((2 : Int32) &&& 31)).toInt.toNat)).toUInt32 >>> (((24 : Int32) - ((8 : Int32) * (((w.1 99 12) + x27_2) &&& (3 : Int32)))).toUInt32 &&& Int32.toUInt32 31)).toInt32) (255 : Int32) 255 rfl (by decide); have := nb_ch 13 x27_2; have := ti_add2 (Eq.refl x27_2.toInt) (by decide : ((1 : Int32)).toInt = 1) (by omega) (by omega); have := ti_add2 (Eq.refl (w.1 99 12).toInt) (Eq.refl x27_2.toInt) (by omega) (by omega); have := ti_mul2 (by decide : ((4 : Int32)).toInt = 4) (by decide : ((1005 : Int32)).toInt = 1005) (by omega) (by omega); have := ti_mul2 (by decide : ((8 : Int32)).toInt = 8) (Eq.refl (((w.1 99 12) + x27_2) &&& (3 : Int32)).toInt) (by omega) (by omega); have := ti_sub2 (by decide : ((24 : Int32)).toInt = 24) (Eq.refl ((8 : Int32) * (((w.1 99 12) + x27_2) &&& (3 : Int32))).toInt) (by omega) (by omega); omega) (fun w9 hI9 hF9 => hE w9 hI9 ((FR.refl _ w).tr hF9 rfl) ) (fun r w9 hI9 hF9 q0 q1 => hQ r w9 hI9 ((FR.refl _ w).tr hF9 rfl) (by have := (by decide : ((3 : Int32)).toInt = 3); have := bd_99_12 hI; have := (by decide : ((0 : Int32)).toInt = 0); have := bd_1_2 hI; have := ti_lo ((((w.1 2 ((((w.1 99 12) + x27_2) >>> ((2 : Int32) &&& 31)).toInt.toNat)).toUInt32 >>> (((24 : Int32) - ((8 : Int32) * (((w.1 99 12) + x27_2) &&& (3 : Int32)))).toUInt32 &&& Int32.toUInt32 31)).toInt32) &&& (255 : Int32)); have := ti_hi ((((w.1 2 ((((w.1 99 12) + x27_2) >>> ((2 : Int32) &&& 31)).toInt.toNat)).toUInt32 >>> (((24 : Int32) - ((8 : Int32) * (((w.1 99 12) + x27_2) &&& (3 : Int32)))).toUInt32 &&& Int32.toUInt32 31)).toInt32) &&& (255 : Int32)); have := ti_lo (((w.1 2 ((((w.1 99 12) + x27_2) >>> ((2 : Int32) &&& 31)).toInt.toNat)).toUInt32 >>> (((24 : Int32) - ((8 : Int32) * (((w.1 99 12) + x27_2) &&& (3 : Int32)))).toUInt32 &&& Int32.toUInt32 31)).toInt32); have := ti_hi (((w.1 2 ((((w.1 99 12) + x27_2) >>> ((2 : Int32) &&& 31)).toInt.toNat)).toUInt32 >>> (((24 : Int32) - ((8 : Int32) * (((w.1 99 12) + x27_2) &&& (3 : Int32)))).toUInt32 &&& Int32.toUInt32 31)).toInt32); have := ti_lo (((w.1 99 12) + x27_2) &&& (3 : Int32)); have := ti_hi (((w.1 99 12) + x27_2) &&& (3 : Int32)); have := nb_and ((w.1 99 12) + x27_2) (3 : Int32) 3 rfl (by decide); have := nb_and (((w.1 2 ((((w.1 99 12) + x27_2) >>> ((2 : Int32) &&& 31)).toInt.toNat)).toUInt32 >>> (((24 : Int32) - ((8 : Int32) * (((w.1 99 12) + x27_2) &&& (3 : Int32)))).toUInt32 &&& Int32.toUInt32 31)).toInt32) (255 : Int32) 255 rfl (by decide); have := nb_ch 13 x27_2; have := ti_add2 (Eq.refl x27_2.toInt) (by decide : ((1 : Int32)).toInt = 1) (by omega) (by omega); have := ti_add2 (Eq.refl (w.1 99 12).toInt) (Eq.refl x27_2.toInt) (by omega) (by omega); have := ti_mul2 (by decide : ((4 : Int32)).toInt = 4) (by decide : ((1005 : Int32)).toInt = 1005) (by omega) (by omega); have := ti_mul2 (by decide : ((8 : Int32)).toInt = 8) (Eq.refl (((w.1 99 12) + x27_2) &&& (3 : Int32)).toInt) (by omega) (by omega); have := ti_sub2 (by decide : ((24 : Int32)).toInt = 24) (Eq.refl ((8 : Int32) * (((w.1 99 12) + x27_2) &&& (3 : Int32))).toInt) (by omega) (by omega); omega) (by have := (by decide : ((3 : Int32)).toInt = 3); have := bd_99_12 hI; have := (by decide : ((0 : Int32)).toInt = 0); have := bd_1_2 hI; have := ti_lo ((((w.1 2 ((((w.1 99 12) + x27_2) >>> ((2 : Int32) &&& 31)).toInt.toNat)).toUInt32 >>> (((24 : Int32) - ((8 : Int32) * (((w.1 99 12) + x27_2) &&& (3 : Int32)))).toUInt32 &&& Int32.toUInt32 31)).toInt32) &&& (255 : Int32)); have := ti_hi ((((w.1 2 ((((w.1 99 12) + x27_2) >>> ((2 : Int32) &&& 31)).toInt.toNat)).toUInt32 >>> (((24 : Int32) - ((8 : Int32) * (((w.1 99 12) + x27_2) &&& (3 : Int32)))).toUInt32 &&& Int32.toUInt32 31)).toInt32) &&& (255 : Int32)); have := ti_lo (((w.1 2 ((((w.1 99 12) + x27_2) >>> ((2 : Int32) &&& 31)).toInt.toNat)).toUInt32 >>> (((24 : Int32) - ((8 : Int32) * (((w.1 99 12) + x27_2) &&& (3 : Int32)))).toUInt32 &&& Int32.toUInt32 31)).toInt32); have := ti_hi (((w.1 2 ((((w.1 99 12) + x27_2) >>> ((2 : Int32) &&& 31)).toInt.toNat)).toUInt32 >>> (((24 : Int32) - ((8 : Int32) * (((w.1 99 12) + x27_2) &&& (3 : Int32)))).toUInt32 &&& Int32.toUInt32 31)).toInt32); have := ti_lo (((w.1 99 12) + x27_2) &&& (3 : Int32)); have := ti_hi (((w.1 99 12) + x27_2) &&& (3 : Int32)); have := nb_and ((w.1 99 12) + x27_2) (3 : Int32) 3 rfl (by decide); have := nb_and (((w.1 2 ((((w.1 99 12) + x27_2) >>> ((2 : Int32) &&& 31)).toInt.toNat)).toUInt32 >>> (((24 : Int32) - ((8 : Int32) * (((w.1 99 12) + x27_2) &&& (3 : Int32)))).toUInt32 &&& Int32.toUInt32 31)).toInt32) (255 : Int32) 255 rfl (by decide); have := nb_ch 13 x27_2; have := ti_add2 (Eq.refl x27_2.toInt) (by decide : ((1 : Int32)).toInt = 1) (by omega) (by omega); have := ti_add2 (Eq.refl (w.1 99 12).toInt) (Eq.refl x27_2.toInt) (by omega) (by omega); have := ti_mul2 (by decide : ((4 : Int32)).toInt = 4) (by decide : ((1005 : Int32)).toInt = 1005) (by omega) (by omega); have := ti_mul2 (by decide : ((8 : Int32)).toInt = 8) (Eq.refl (((w.1 99 12) + x27_2) &&& (3 : Int32)).toInt) (by omega) (by omega); have := ti_sub2 (by decide : ((24 : Int32)).toInt = 24) (Eq.refl ((8 : Int32) * (((w.1 99 12) + x27_2) &&& (3 : Int32))).toInt) (by omega) (by omega); omega))
            · have o2884 : (0 ≤ (0 : Int32).toInt) ∧ ((0 : Int32).toInt ≤ 0) := by have := (by decide : ((0 : Int32)).toInt = 0); exact ⟨by omega, by omega⟩
              exact hQ _ _ hI (FR.refl _ w)  o2884.1 o2884.2
          · exfalso; have := (by decide : ((3 : Int32)).toInt = 3); have := bd_99_12 hI; have := (by decide : ((0 : Int32)).toInt = 0); have := bd_1_2 hI; have := ti_add2 (Eq.refl (w.1 99 12).toInt) (Eq.refl x27_2.toInt) (by omega) (by omega); have := ti_mul2 (by decide : ((4 : Int32)).toInt = 4) (by decide : ((1005 : Int32)).toInt = 1005) (by omega) (by omega); omega
set_option maxRecDepth 20000 in
set_option maxHeartbeats 2000000 in
theorem h_Ro_iss99_2013 {w : MW} {Q : Int32 → MW → Prop} (hI : BND w) (hr_99_11 : w.2.2 99 11 = some 1)  (hQ : ∀ (r : Int32) (w' : MW), BND w' → FR l_Ro_iss99_2013 w w' → 0 ≤ r.toInt → r.toInt ≤ 1 → Q r w') : p_Ro_iss99_2013 w Q := by
  refine Eq.mpr (p_Ro_iss99_2013.eq_1 _ _) ?_
  refine ⟨fun h2885 => ?_, fun h2885 => ?_⟩
  · have o2886 : (0 ≤ (0 : Int32).toInt) ∧ ((0 : Int32).toInt ≤ 1) := by have := (by decide : ((0 : Int32)).toInt = 0); exact ⟨by omega, by omega⟩
    exact hQ _ _ hI (FR.refl _ w)  o2886.1 o2886.2
  · refine ⟨fun h2887 => ?_, fun h2887 => ?_⟩
    · have o2888 : (0 ≤ (0 : Int32).toInt) ∧ ((0 : Int32).toInt ≤ 3) := by have := (by decide : ((0 : Int32)).toInt = 0); exact ⟨by omega, by omega⟩
      refine hq_Ro_iss99_2013_27 FU _ w hI hr_99_11 o2888.1 o2888.2 (fu_lt (by have := (by decide : ((0 : Int32)).toInt = 0); omega)) (fun w2889 hI2890 hL2891  => ?_) (fun r w9 hI9 hF9 q0 q1 => hQ r w9 hI9 (((FR.refl _ w)).tr hF9 rfl) (by have := (by decide : ((0 : Int32)).toInt = 0); omega) (by have := (by decide : ((0 : Int32)).toInt = 0); omega))
      have hF2892 : FR l_Ro_iss99_2013 w w2889 := (FR.refl _ w).tr hL2891 rfl
      have o2893 : (0 ≤ (1 : Int32).toInt) ∧ ((1 : Int32).toInt ≤ 1) := by have := (by decide : ((1 : Int32)).toInt = 1); exact ⟨by omega, by omega⟩
      exact hQ _ _ hI2890 hF2892  o2893.1 o2893.2
    · have o2894 : (0 ≤ (0 : Int32).toInt) ∧ ((0 : Int32).toInt ≤ 1) := by have := (by decide : ((0 : Int32)).toInt = 0); exact ⟨by omega, by omega⟩
      exact hQ _ _ hI (FR.refl _ w)  o2894.1 o2894.2
def l_Ro_iss99_2014_27 : Pl := []
def l_Ro_iss99_2014 : Pl := []
set_option maxRecDepth 20000 in
set_option maxHeartbeats 2000000 in
theorem hq_Ro_iss99_2014_27 {E : MW → Prop} {Q : Int32 → MW → Prop} (n : Nat) : ∀ (x27_2 : Int32) (w : MW), BND w → w.2.2 99 11 = some 1 → 0 ≤ x27_2.toInt → x27_2.toInt ≤ 7 → (7 - x27_2.toInt).toNat < n → (∀ (w' : MW), BND w' → FR l_Ro_iss99_2014_27 w w' → E w') → (∀ (r : Int32) (w' : MW), BND w' → FR l_Ro_iss99_2014_27 w w' → 0 ≤ r.toInt → r.toInt ≤ 0 → Q r w') → q_Ro_iss99_2014_27 E Q n x27_2 w := by
  induction n with
  | zero => intros; omega
  | succ n ih =>
    intro x27_2 w hI hr_99_11 hp0 hp1 hm hE hQ
    rw [q_Ro_iss99_2014_27.eq_2]
    refine ⟨fun h2895 => ?_, fun h2895 => ?_⟩
    · exact hE _ hI (FR.refl _ w)
    · refine ⟨hr_99_11, ?_⟩
      refine Eq.mpr (p_Tp_at.eq_1 _ _ _) ?_
      refine ⟨fun h2896 => ?_, fun h2896 => ?_⟩
      · exfalso; have := (by decide : ((7 : Int32)).toInt = 7); have := bd_99_12 hI; have := (by decide : ((0 : Int32)).toInt = 0); have := ti_add2 (Eq.refl (w.1 99 12).toInt) (Eq.refl x27_2.toInt) (by omega) (by omega); omega
      · refine ⟨fun h2897 => ?_, fun h2897 => ?_⟩
        · have o2898 : 0 ≤ x27_2.toInt ∧ x27_2.toInt < 7 := by have := (by decide : ((7 : Int32)).toInt = 7); have := bd_99_12 hI; have := (by decide : ((0 : Int32)).toInt = 0); have := bd_1_2 hI; have := ti_add2 (Eq.refl (w.1 99 12).toInt) (Eq.refl x27_2.toInt) (by omega) (by omega); omega
          refine ⟨o2898, ?_⟩
          refine ⟨fun h2899 => ?_, fun h2899 => ?_⟩
          · replace h2899 : (-1) = (chT 14 x27_2).toInt := h2899
            exfalso; have := (by decide : ((7 : Int32)).toInt = 7); have := bd_99_12 hI; have := (by decide : ((0 : Int32)).toInt = 0); have := bd_1_2 hI; have := (by decide : (((-1) : Int32)).toInt = (-1)); have := nb_ch 14 x27_2; have := ti_add2 (Eq.refl (w.1 99 12).toInt) (Eq.refl x27_2.toInt) (by omega) (by omega); omega
          · replace h2899 : ¬ ((-1) = (chT 14 x27_2).toInt) := h2899
            have o2900 : (0 ≤ (0 : Int32).toInt) ∧ ((0 : Int32).toInt ≤ 0) := by have := (by decide : ((0 : Int32)).toInt = 0); exact ⟨by omega, by omega⟩
            exact hQ _ _ hI (FR.refl _ w)  o2900.1 o2900.2
        · refine ⟨fun h2901 => ?_, fun h2901 => ?_⟩
          · have o2902 : 0 ≤ (((w.1 99 12) + x27_2) >>> ((2 : Int32) &&& 31)).toInt ∧ (((w.1 99 12) + x27_2) >>> ((2 : Int32) &&& 31)).toInt < 1005 := by have := bd_99_12 hI; have := (by decide : ((7 : Int32)).toInt = 7); have := (by decide : ((0 : Int32)).toInt = 0); have := bd_1_2 hI; have := ti_add2 (Eq.refl (w.1 99 12).toInt) (Eq.refl x27_2.toInt) (by omega) (by omega); have := nb_shr ((w.1 99 12) + x27_2) ((2 : Int32) &&& 31) 2 4 rfl rfl; have := ti_mul2 (by decide : ((4 : Int32)).toInt = 4) (by decide : ((1005 : Int32)).toInt = 1005) (by omega) (by omega); omega
            refine ⟨o2902, ?_⟩
            have o2903 : 0 ≤ x27_2.toInt ∧ x27_2.toInt < 7 := by have := (by decide : ((7 : Int32)).toInt = 7); have := bd_99_12 hI; have := (by decide : ((0 : Int32)).toInt = 0); have := bd_1_2 hI; have := ti_add2 (Eq.refl (w.1 99 12).toInt) (Eq.refl x27_2.toInt) (by omega) (by omega); have := ti_mul2 (by decide : ((4 : Int32)).toInt = 4) (by decide : ((1005 : Int32)).toInt = 1005) (by omega) (by omega); omega
            refine ⟨o2903, ?_⟩
            refine ⟨fun h2904 => ?_, fun h2904 => ?_⟩
            · have o2905 : (0 ≤ (x27_2 + (1 : Int32)).toInt) ∧ ((x27_2 + (1 : Int32)).toInt ≤ 7) := by have := (by decide : ((7 : Int32)).toInt = 7); have := bd_99_12 hI; have := (by decide : ((0 : Int32)).toInt = 0); have := bd_1_2 hI; have := ti_lo ((((w.1 2 ((((w.1 99 12) + x27_2) >>> ((2 : Int32) &&& 31)).toInt.toNat)).toUInt32 >>> (((24 : Int32) - ((8 : Int32) * (((w.1 99 12) + x27_2) &&& (3 : Int32)))).toUInt32 &&& Int32.toUInt32 31)).toInt32) &&& (255 : Int32)); have := ti_hi ((((w.1 2 ((((w.1 99 12) + x27_2) >>> ((2 : Int32) &&& 31)).toInt.toNat)).toUInt32 >>> (((24 : Int32) - ((8 : Int32) * (((w.1 99 12) + x27_2) &&& (3 : Int32)))).toUInt32 &&& Int32.toUInt32 31)).toInt32) &&& (255 : Int32)); have := ti_lo (((w.1 2 ((((w.1 99 12) + x27_2) >>> ((2 : Int32) &&& 31)).toInt.toNat)).toUInt32 >>> (((24 : Int32) - ((8 : Int32) * (((w.1 99 12) + x27_2) &&& (3 : Int32)))).toUInt32 &&& Int32.toUInt32 31)).toInt32); have := ti_hi (((w.1 2 ((((w.1 99 12) + x27_2) >>> ((2 : Int32) &&& 31)).toInt.toNat)).toUInt32 >>> (((24 : Int32) - ((8 : Int32) * (((w.1 99 12) + x27_2) &&& (3 : Int32)))).toUInt32 &&& Int32.toUInt32 31)).toInt32); have := ti_lo (((w.1 99 12) + x27_2) &&& (3 : Int32)); have := ti_hi (((w.1 99 12) + x27_2) &&& (3 : Int32)); have := nb_and ((w.1 99 12) + x27_2) (3 : Int32) 3 rfl (by decide); have := nb_and (((w.1 2 ((((w.1 99 12) + x27_2) >>> ((2 : Int32) &&& 31)).toInt.toNat)).toUInt32 >>> (((24 : Int32) - ((8 : Int32) * (((w.1 99 12) + x27_2) &&& (3 : Int32)))).toUInt32 &&& Int32.toUInt32 31)).toInt32) (255 : Int32) 255 rfl (by decide); have := nb_ch 14 x27_2; have := ti_add2 (Eq.refl x27_2.toInt) (by decide : ((1 : Int32)).toInt = 1) (by omega) (by omega); have := ti_add2 (Eq.refl (w.1 99 12).toInt) (Eq.refl x27_2.toInt) (by omega) (by omega); have := ti_mul2 (by decide : ((4 : Int32)).toInt = 4) (by decide : ((1005 : Int32)).toInt = 1005) (by omega) (by omega); have := ti_mul2 (by decide : ((8 : Int32)).toInt = 8) (Eq.refl (((w.1 99 12) + x27_2) &&& (3 : Int32)).toInt) (by omega) (by omega); have := ti_sub2 (by decide : ((24 : Int32)).toInt = 24) (Eq.refl ((8 : Int32) * (((w.1 99 12) + x27_2) &&& (3 : Int32))).toInt) (by omega) (by omega); exact ⟨by omega, by omega⟩
              exact ih _ w hI hr_99_11 o2905.1 o2905.2 (by have := (by decide : ((7 : Int32)).toInt = 7); have := bd_99_12 hI; have := (by decide : ((0 : Int32)).toInt = 0); have := bd_1_2 hI; have := ti_lo ((((w.1 2 ((((w.1 99 12) + x27_2) >>> ((2 : Int32) &&& 31)).toInt.toNat)).toUInt32 >>> (((24 : Int32) - ((8 : Int32) * (((w.1 99 12) + x27_2) &&& (3 : Int32)))).toUInt32 &&& Int32.toUInt32 31)).toInt32) &&& (255 : Int32)); have := ti_hi ((((w.1 2 ((((w.1 99 12) + x27_2) >>> ((2 : Int32) &&& 31)).toInt.toNat)).toUInt32 >>> (((24 : Int32) - ((8 : Int32) * (((w.1 99 12) + x27_2) &&& (3 : Int32)))).toUInt32 &&& Int32.toUInt32 31)).toInt32) &&& (255 : Int32)); have := ti_lo (((w.1 2 ((((w.1 99 12) + x27_2) >>> ((2 : Int32) &&& 31)).toInt.toNat)).toUInt32 >>> (((24 : Int32) - ((8 : Int32) * (((w.1 99 12) + x27_2) &&& (3 : Int32)))).toUInt32 &&& Int32.toUInt32 31)).toInt32); have := ti_hi (((w.1 2 ((((w.1 99 12) + x27_2) >>> ((2 : Int32) &&& 31)).toInt.toNat)).toUInt32 >>> (((24 : Int32) - ((8 : Int32) * (((w.1 99 12) + x27_2) &&& (3 : Int32)))).toUInt32 &&& Int32.toUInt32 31)).toInt32); have := ti_lo (((w.1 99 12) + x27_2) &&& (3 : Int32)); have := ti_hi (((w.1 99 12) + x27_2) &&& (3 : Int32)); have := nb_and ((w.1 99 12) + x27_2) (3 : Int32) 3 rfl (by decide); have := nb_and (((w.1 2 ((((w.1 99 12) + x27_2) >>> ((2 : Int32) &&& 31)).toInt.toNat)).toUInt32 >>> (((24 : Int32) - ((8 : Int32) * (((w.1 99 12) + x27_2) &&& (3 : Int32)))).toUInt32 &&& Int32.toUInt32 31)).toInt32) (255 : Int32) 255 rfl (by decide); have := nb_ch 14 x27_2; have := ti_add2 (Eq.refl x27_2.toInt) (by decide : ((1 : Int32)).toInt = 1) (by omega) (by omega); have := ti_add2 (Eq.refl (w.1 99 12).toInt) (Eq.refl x27_2.toInt) (by omega) (by omega); have := ti_mul2 (by decide : ((4 : Int32)).toInt = 4) (by decide : ((1005 : Int32)).toInt = 1005) (by omega) (by omega); have := ti_mul2 (by decide : ((8 : Int32)).toInt = 8) (Eq.refl (((w.1 99 12) + x27_2) &&& (3 : Int32)).toInt) (by omega) (by omega); have := ti_sub2 (by decide : ((24 : Int32)).toInt = 24) (Eq.refl ((8 : Int32) * (((w.1 99 12) + x27_2) &&& (3 : Int32))).toInt) (by omega) (by omega); omega) (fun w9 hI9 hF9 => hE w9 hI9 ((FR.refl _ w).tr hF9 rfl) ) (fun r w9 hI9 hF9 q0 q1 => hQ r w9 hI9 ((FR.refl _ w).tr hF9 rfl) (by have := (by decide : ((7 : Int32)).toInt = 7); have := bd_99_12 hI; have := (by decide : ((0 : Int32)).toInt = 0); have := bd_1_2 hI; have := ti_lo ((((w.1 2 ((((w.1 99 12) + x27_2) >>> ((2 : Int32) &&& 31)).toInt.toNat)).toUInt32 >>> (((24 : Int32) - ((8 : Int32) * (((w.1 99 12) + x27_2) &&& (3 : Int32)))).toUInt32 &&& Int32.toUInt32 31)).toInt32) &&& (255 : Int32)); have := ti_hi ((((w.1 2 ((((w.1 99 12) + x27_2) >>> ((2 : Int32) &&& 31)).toInt.toNat)).toUInt32 >>> (((24 : Int32) - ((8 : Int32) * (((w.1 99 12) + x27_2) &&& (3 : Int32)))).toUInt32 &&& Int32.toUInt32 31)).toInt32) &&& (255 : Int32)); have := ti_lo (((w.1 2 ((((w.1 99 12) + x27_2) >>> ((2 : Int32) &&& 31)).toInt.toNat)).toUInt32 >>> (((24 : Int32) - ((8 : Int32) * (((w.1 99 12) + x27_2) &&& (3 : Int32)))).toUInt32 &&& Int32.toUInt32 31)).toInt32); have := ti_hi (((w.1 2 ((((w.1 99 12) + x27_2) >>> ((2 : Int32) &&& 31)).toInt.toNat)).toUInt32 >>> (((24 : Int32) - ((8 : Int32) * (((w.1 99 12) + x27_2) &&& (3 : Int32)))).toUInt32 &&& Int32.toUInt32 31)).toInt32); have := ti_lo (((w.1 99 12) + x27_2) &&& (3 : Int32)); have := ti_hi (((w.1 99 12) + x27_2) &&& (3 : Int32)); have := nb_and ((w.1 99 12) + x27_2) (3 : Int32) 3 rfl (by decide); have := nb_and (((w.1 2 ((((w.1 99 12) + x27_2) >>> ((2 : Int32) &&& 31)).toInt.toNat)).toUInt32 >>> (((24 : Int32) - ((8 : Int32) * (((w.1 99 12) + x27_2) &&& (3 : Int32)))).toUInt32 &&& Int32.toUInt32 31)).toInt32) (255 : Int32) 255 rfl (by decide); have := nb_ch 14 x27_2; have := ti_add2 (Eq.refl x27_2.toInt) (by decide : ((1 : Int32)).toInt = 1) (by omega) (by omega); have := ti_add2 (Eq.refl (w.1 99 12).toInt) (Eq.refl x27_2.toInt) (by omega) (by omega); have := ti_mul2 (by decide : ((4 : Int32)).toInt = 4) (by decide : ((1005 : Int32)).toInt = 1005) (by omega) (by omega); have := ti_mul2 (by decide : ((8 : Int32)).toInt = 8) (Eq.refl (((w.1 99 12) + x27_2) &&& (3 : Int32)).toInt) (by omega) (by omega); have := ti_sub2 (by decide : ((24 : Int32)).toInt = 24) (Eq.refl ((8 : Int32) * (((w.1 99 12) + x27_2) &&& (3 : Int32))).toInt) (by omega) (by omega); omega) (by have := (by decide : ((7 : Int32)).toInt = 7); have := bd_99_12 hI; have := (by decide : ((0 : Int32)).toInt = 0); have := bd_1_2 hI; have := ti_lo ((((w.1 2 ((((w.1 99 12) + x27_2) >>> ((2 : Int32) &&& 31)).toInt.toNat)).toUInt32 >>> (((24 : Int32) - ((8 : Int32) * (((w.1 99 12) + x27_2) &&& (3 : Int32)))).toUInt32 &&& Int32.toUInt32 31)).toInt32) &&& (255 : Int32)); have := ti_hi ((((w.1 2 ((((w.1 99 12) + x27_2) >>> ((2 : Int32) &&& 31)).toInt.toNat)).toUInt32 >>> (((24 : Int32) - ((8 : Int32) * (((w.1 99 12) + x27_2) &&& (3 : Int32)))).toUInt32 &&& Int32.toUInt32 31)).toInt32) &&& (255 : Int32)); have := ti_lo (((w.1 2 ((((w.1 99 12) + x27_2) >>> ((2 : Int32) &&& 31)).toInt.toNat)).toUInt32 >>> (((24 : Int32) - ((8 : Int32) * (((w.1 99 12) + x27_2) &&& (3 : Int32)))).toUInt32 &&& Int32.toUInt32 31)).toInt32); have := ti_hi (((w.1 2 ((((w.1 99 12) + x27_2) >>> ((2 : Int32) &&& 31)).toInt.toNat)).toUInt32 >>> (((24 : Int32) - ((8 : Int32) * (((w.1 99 12) + x27_2) &&& (3 : Int32)))).toUInt32 &&& Int32.toUInt32 31)).toInt32); have := ti_lo (((w.1 99 12) + x27_2) &&& (3 : Int32)); have := ti_hi (((w.1 99 12) + x27_2) &&& (3 : Int32)); have := nb_and ((w.1 99 12) + x27_2) (3 : Int32) 3 rfl (by decide); have := nb_and (((w.1 2 ((((w.1 99 12) + x27_2) >>> ((2 : Int32) &&& 31)).toInt.toNat)).toUInt32 >>> (((24 : Int32) - ((8 : Int32) * (((w.1 99 12) + x27_2) &&& (3 : Int32)))).toUInt32 &&& Int32.toUInt32 31)).toInt32) (255 : Int32) 255 rfl (by decide); have := nb_ch 14 x27_2; have := ti_add2 (Eq.refl x27_2.toInt) (by decide : ((1 : Int32)).toInt = 1) (by omega) (by omega); have := ti_add2 (Eq.refl (w.1 99 12).toInt) (Eq.refl x27_2.toInt) (by omega) (by omega); have := ti_mul2 (by decide : ((4 : Int32)).toInt = 4) (by decide : ((1005 : Int32)).toInt = 1005) (by omega) (by omega); have := ti_mul2 (by decide : ((8 : Int32)).toInt = 8) (Eq.refl (((w.1 99 12) + x27_2) &&& (3 : Int32)).toInt) (by omega) (by omega); have := ti_sub2 (by decide : ((24 : Int32)).toInt = 24) (Eq.refl ((8 : Int32) * (((w.1 99 12) + x27_2) &&& (3 : Int32))).toInt) (by omega) (by omega); omega))
            · have o2906 : (0 ≤ (0 : Int32).toInt) ∧ ((0 : Int32).toInt ≤ 0) := by have := (by decide : ((0 : Int32)).toInt = 0); exact ⟨by omega, by omega⟩
              exact hQ _ _ hI (FR.refl _ w)  o2906.1 o2906.2
          · exfalso; have := (by decide : ((7 : Int32)).toInt = 7); have := bd_99_12 hI; have := (by decide : ((0 : Int32)).toInt = 0); have := bd_1_2 hI; have := ti_add2 (Eq.refl (w.1 99 12).toInt) (Eq.refl x27_2.toInt) (by omega) (by omega); have := ti_mul2 (by decide : ((4 : Int32)).toInt = 4) (by decide : ((1005 : Int32)).toInt = 1005) (by omega) (by omega); omega
set_option maxRecDepth 20000 in
set_option maxHeartbeats 2000000 in
theorem h_Ro_iss99_2014 {w : MW} {Q : Int32 → MW → Prop} (hI : BND w) (hr_99_11 : w.2.2 99 11 = some 1)  (hQ : ∀ (r : Int32) (w' : MW), BND w' → FR l_Ro_iss99_2014 w w' → 0 ≤ r.toInt → r.toInt ≤ 1 → Q r w') : p_Ro_iss99_2014 w Q := by
  refine Eq.mpr (p_Ro_iss99_2014.eq_1 _ _) ?_
  refine ⟨fun h2907 => ?_, fun h2907 => ?_⟩
  · have o2908 : (0 ≤ (0 : Int32).toInt) ∧ ((0 : Int32).toInt ≤ 1) := by have := (by decide : ((0 : Int32)).toInt = 0); exact ⟨by omega, by omega⟩
    exact hQ _ _ hI (FR.refl _ w)  o2908.1 o2908.2
  · refine ⟨fun h2909 => ?_, fun h2909 => ?_⟩
    · have o2910 : (0 ≤ (0 : Int32).toInt) ∧ ((0 : Int32).toInt ≤ 7) := by have := (by decide : ((0 : Int32)).toInt = 0); exact ⟨by omega, by omega⟩
      refine hq_Ro_iss99_2014_27 FU _ w hI hr_99_11 o2910.1 o2910.2 (fu_lt (by have := (by decide : ((0 : Int32)).toInt = 0); omega)) (fun w2911 hI2912 hL2913  => ?_) (fun r w9 hI9 hF9 q0 q1 => hQ r w9 hI9 (((FR.refl _ w)).tr hF9 rfl) (by have := (by decide : ((0 : Int32)).toInt = 0); omega) (by have := (by decide : ((0 : Int32)).toInt = 0); omega))
      have hF2914 : FR l_Ro_iss99_2014 w w2911 := (FR.refl _ w).tr hL2913 rfl
      have o2915 : (0 ≤ (1 : Int32).toInt) ∧ ((1 : Int32).toInt ≤ 1) := by have := (by decide : ((1 : Int32)).toInt = 1); exact ⟨by omega, by omega⟩
      exact hQ _ _ hI2912 hF2914  o2915.1 o2915.2
    · have o2916 : (0 ≤ (0 : Int32).toInt) ∧ ((0 : Int32).toInt ≤ 1) := by have := (by decide : ((0 : Int32)).toInt = 0); exact ⟨by omega, by omega⟩
      exact hQ _ _ hI (FR.refl _ w)  o2916.1 o2916.2
