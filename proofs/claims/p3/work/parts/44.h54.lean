def l_Mo_hold_24 : Pl := [(127, some 26), (127, some 59), (167, none), (181, none), (182, none), (183, none), (184, none), (185, none), (186, none), (187, none)]
def l_Mo_hold : Pl := [(127, some 26), (127, some 59), (167, none), (181, none), (182, none), (183, none), (184, none), (185, none), (186, none), (187, none)]
set_option maxRecDepth 20000 in
set_option maxHeartbeats 2000000 in
theorem h_Mo_hold {w : MW} {a0 : Int32} {Q : Int32 → MW → Prop} (hI : BND w) (hf_FT : FT w) (hf_HW : HW w)  (hQ : ∀ (r : Int32) (w' : MW), BND w' → FR l_Mo_hold w w' → FT w' → HW w' → 0 ≤ r.toInt → r.toInt ≤ 1 → Q r w') : p_Mo_hold w a0 Q := by
  refine Eq.mpr (p_Mo_hold.eq_1 _ _ _) ?_
  refine ⟨fun h15089 => ?_, fun h15089 => ?_⟩
  · refine ⟨fun h15090 => ?_, fun h15090 => ?_⟩
    · refine Eq.mpr (q_Mo_hold_24.eq_1 _ _ _) ?_
      refine ⟨fun _ => ?_, fun h => absurd h15089 h⟩
      have hI15091 : BND (sI w 127 59 0) := wbd_127_59 hI (by decide) (by decide)
      have hW15092 : FT (sI w 127 59 0) := (FT_fr (l := [(127, some 59)]) (FR.I (FR.refl _ w) (k := 127) (j := 59) (v := 0) rfl) rfl hf_FT)
      have hW15093 : HW (sI w 127 59 0) := (HW_fr (l := [(127, some 59)]) (FR.I (FR.refl _ w) (k := 127) (j := 59) (v := 0) rfl) rfl hf_HW)
      have o15094 : (0 ≤ (1 : Int32).toInt) ∧ ((1 : Int32).toInt ≤ 1) := by have := (by decide : ((1 : Int32)).toInt = 1); exact ⟨by omega, by omega⟩
      exact hQ _ _ hI15091 (FR.I (FR.refl _ w) (k := 127) (j := 59) (v := 0) rfl) hW15092 hW15093  o15094.1 o15094.2
    · have o15095 : (0 ≤ (0 : Int32).toInt) ∧ ((0 : Int32).toInt ≤ 1) := by have := (by decide : ((0 : Int32)).toInt = 0); exact ⟨by omega, by omega⟩
      exact hQ _ _ hI (FR.refl _ w) hf_FT hf_HW  o15095.1 o15095.2
  · refine ⟨fun h15096 => ?_, fun h15096 => ?_⟩
    · refine Eq.mpr (q_Mo_hold_24.eq_1 _ _ _) ?_
      refine ⟨fun h => absurd h h15089, fun _ => ?_⟩
      have hI15097 : BND (sI w 127 59 2) := wbd_127_59 hI (by decide) (by decide)
      have hW15098 : FT (sI w 127 59 2) := (FT_fr (l := [(127, some 59)]) (FR.I (FR.refl _ w) (k := 127) (j := 59) (v := 2) rfl) rfl hf_FT)
      have hW15099 : HW (sI w 127 59 2) := (HW_fr (l := [(127, some 59)]) (FR.I (FR.refl _ w) (k := 127) (j := 59) (v := 2) rfl) rfl hf_HW)
      refine h_Mo_closeAll hI15097 hW15098 hW15099  (fun w15100 hI15101 hL15102 hlw15100_FT hlw15100_HW  => ?_)
      have hF15104 : FR l_Mo_hold w w15100 := (FR.I (FR.refl _ w) (k := 127) (j := 59) (v := 2) rfl).tr hL15102 rfl
      have o15105 : (0 ≤ (1 : Int32).toInt) ∧ ((1 : Int32).toInt ≤ 1) := by have := (by decide : ((1 : Int32)).toInt = 1); exact ⟨by omega, by omega⟩
      exact hQ _ _ hI15101 hF15104 hlw15100_FT hlw15100_HW  o15105.1 o15105.2
    · have o15106 : (0 ≤ (0 : Int32).toInt) ∧ ((0 : Int32).toInt ≤ 1) := by have := (by decide : ((0 : Int32)).toInt = 0); exact ⟨by omega, by omega⟩
      exact hQ _ _ hI (FR.refl _ w) hf_FT hf_HW  o15106.1 o15106.2
