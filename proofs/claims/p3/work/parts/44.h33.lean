def l_Ru_giveAnswer_23 : Pl := [(74, none), (82, none)]
def l_Ru_giveAnswer : Pl := [(61, some 15), (74, none), (82, none)]
set_option maxRecDepth 20000 in
set_option maxHeartbeats 2000000 in
theorem h_Ru_giveAnswer {w : MW} {a0 : Int64} {Q : Int32 → MW → Prop} (hI : BND w) (hf_PA : PA w) (hf_RC : RC w) (hf_RF : RF w) (hf_RK : RK w) (hf_RO : RO w) (hf_RS : RS w) (hf_RX : RX w) (hr_61_3 : w.2.2 61 3 = some 62)  (hQ : ∀ (r : Int32) (w' : MW), BND w' → FR l_Ru_giveAnswer w w' → 0 ≤ r.toInt → r.toInt ≤ 1 → Q r w') : p_Ru_giveAnswer w a0 Q := by
  refine Eq.mpr (p_Ru_giveAnswer.eq_1 _ _ _) ?_
  refine ⟨fun h8575 => ?_, fun h8575 => ?_⟩
  · refine Eq.mpr (q_Ru_giveAnswer_23.eq_1 _ _ _ _) ?_
    refine ⟨fun h => absurd h (by decide), fun _ => ?_⟩
    have hI8576 : BND (sI w 61 15 0) := wbd_61_15 hI
    have o8577 : (0 ≤ (0 : Int32).toInt) ∧ ((0 : Int32).toInt ≤ 1) := by have := (by decide : ((0 : Int32)).toInt = 0); exact ⟨by omega, by omega⟩
    exact hQ _ _ hI8576 (FR.I (FR.refl _ w) (k := 61) (j := 15) (v := 0) rfl)  o8577.1 o8577.2
  · have hI8578 : BND (sI w 61 15 0) := wbd_61_15 hI
    have hW8579 : RC (sI w 61 15 0) := (RC_fr (l := [(61, some 15)]) (FR.I (FR.refl _ w) (k := 61) (j := 15) (v := 0) rfl) rfl hf_RC)
    have o8580 : (0 ≤ (0 : Int32).toInt) ∧ ((0 : Int32).toInt ≤ 500) ∧ (0 ≤ (1 : Int32).toInt) ∧ ((1 : Int32).toInt ≤ 1) ∧ (0 ≤ (0 : Int32).toInt) ∧ ((0 : Int32).toInt ≤ 100) := by have := (by decide : ((0 : Int32)).toInt = 0); have := (by decide : ((1 : Int32)).toInt = 1); exact ⟨by omega, by omega, by omega, by omega, by omega, by omega⟩
    have hW8581 : ZL (0 : Int32) (sI w 61 15 0) := (zl_ro (RO_fr (l := [(61, some 15)]) (FR.I (FR.refl _ w) (k := 61) (j := 15) (v := 0) rfl) rfl hf_RO) (by have := bd_80 hI 0; have : ((sI w 61 15 0).1 80 0).toInt = (w.1 80 0).toInt := rfl; have := bd_62_2 hI; have : ((sI w 61 15 0).1 62 2).toInt = (w.1 62 2).toInt := rfl; have := bd_61_4 hI; have : ((sI w 61 15 0).1 61 4).toInt = (w.1 61 4).toInt := rfl; have := (by decide : ((0 : Int32)).toInt = 0); have := RS_ex (RS_fr (l := [(61, some 15)]) (FR.I (FR.refl _ w) (k := 61) (j := 15) (v := 0) rfl) rfl hf_RS); have := RS_ex hf_RS; omega))
    refine h_Ru_seek hI8578 hW8579 (RF_fr (l := [(61, some 15)]) (FR.I (FR.refl _ w) (k := 61) (j := 15) (v := 0) rfl) rfl hf_RF) (RK_fr (l := [(61, some 15)]) (FR.I (FR.refl _ w) (k := 61) (j := 15) (v := 0) rfl) rfl hf_RK) (RX_fr (l := [(61, some 15)]) (FR.I (FR.refl _ w) (k := 61) (j := 15) (v := 0) rfl) rfl hf_RX) hr_61_3 o8580.1 o8580.2.1 o8580.2.2.1 o8580.2.2.2.1 o8580.2.2.2.2.1 o8580.2.2.2.2.2 hW8581 (fun r8585 w8582 hI8583 hL8584 p8586 p8587 p8588 p8589 p8590 => ?_)
    have hF8591 : FR l_Ru_giveAnswer w w8582 := (FR.I (FR.refl _ w) (k := 61) (j := 15) (v := 0) rfl).tr hL8584 rfl
    refine Eq.mpr (q_Ru_giveAnswer_23.eq_1 _ _ _ _) ?_
    refine ⟨fun h8592 => ?_, fun h8592 => ?_⟩
    · have o8593 : 0 ≤ r8585.toInt ∧ r8585.toInt < 501 := by have := bd_77 hI r8585.toInt.toNat; have : ((sI w 61 15 0).1 77 r8585.toInt.toNat).toInt = (w.1 77 r8585.toInt.toNat).toInt := rfl; have : ((sI w 61 15 0).1 63 (((sI w 61 15 0).1 77 r8585.toInt.toNat).toInt.toNat)).toInt = (w.1 63 ((w.1 77 r8585.toInt.toNat).toInt.toNat)).toInt := rfl; have : ((sI w 61 15 0).1 63 (((sI w 61 15 0).1 77 r8585.toInt.toNat).toInt.toNat)).toInt = (w.1 63 (((sI w 61 15 0).1 77 r8585.toInt.toNat).toInt.toNat)).toInt := rfl; have := (by decide : ((1 : Int32)).toInt = 1); have := (by decide : ((0 : Int32)).toInt = 0); omega
      refine ⟨o8593, ?_⟩
      have o8594 : 0 ≤ r8585.toInt ∧ r8585.toInt < 501 := by have := bd_77 hI r8585.toInt.toNat; have : ((sI w 61 15 0).1 77 r8585.toInt.toNat).toInt = (w.1 77 r8585.toInt.toNat).toInt := rfl; have : ((sI w 61 15 0).1 63 (((sI w 61 15 0).1 77 r8585.toInt.toNat).toInt.toNat)).toInt = (w.1 63 ((w.1 77 r8585.toInt.toNat).toInt.toNat)).toInt := rfl; have : ((sI w 61 15 0).1 63 (((sI w 61 15 0).1 77 r8585.toInt.toNat).toInt.toNat)).toInt = (w.1 63 (((sI w 61 15 0).1 77 r8585.toInt.toNat).toInt.toNat)).toInt := rfl; have := (by decide : ((1 : Int32)).toInt = 1); have := (by decide : ((0 : Int32)).toInt = 0); omega
      refine ⟨o8594, ?_⟩
      refine Eq.mpr (p_Ru_setValue.eq_1 _ _ _ _) ?_
      refine ⟨((hL8584 61 3 rfl).2.2.trans hr_61_3), ?_⟩
      refine ⟨((hL8584 61 3 rfl).2.2.trans hr_61_3), ?_⟩
      have hW8596 : ZL r8585 w8582 := (p8588.resolve_left (by have := bd_77 hI r8585.toInt.toNat; have : ((sI w 61 15 0).1 77 r8585.toInt.toNat).toInt = (w.1 77 r8585.toInt.toNat).toInt := rfl; have : ((sI w 61 15 0).1 63 (((sI w 61 15 0).1 77 r8585.toInt.toNat).toInt.toNat)).toInt = (w.1 63 ((w.1 77 r8585.toInt.toNat).toInt.toNat)).toInt := rfl; have : ((sI w 61 15 0).1 63 (((sI w 61 15 0).1 77 r8585.toInt.toNat).toInt.toNat)).toInt = (w.1 63 (((sI w 61 15 0).1 77 r8585.toInt.toNat).toInt.toNat)).toInt := rfl; have := (by decide : ((1 : Int32)).toInt = 1); have := (by decide : ((0 : Int32)).toInt = 0); omega))
      have o8595 : 0 ≤ (w8582.1 77 r8585.toInt.toNat).toInt ∧ (w8582.1 77 r8585.toInt.toNat).toInt < 301 := by have := bd_77 hI8583 r8585.toInt.toNat; have := bd_77 hI r8585.toInt.toNat; have : ((sI w 61 15 0).1 77 r8585.toInt.toNat).toInt = (w.1 77 r8585.toInt.toNat).toInt := rfl; have := (congrArg Int32.toInt (hL8584 77 r8585.toInt.toNat rfl).1); have : ((sI w 61 15 0).1 63 (((sI w 61 15 0).1 77 r8585.toInt.toNat).toInt.toNat)).toInt = (w.1 63 ((w.1 77 r8585.toInt.toNat).toInt.toNat)).toInt := rfl; have : ((sI w 61 15 0).1 63 (((sI w 61 15 0).1 77 r8585.toInt.toNat).toInt.toNat)).toInt = (w.1 63 (((sI w 61 15 0).1 77 r8585.toInt.toNat).toInt.toNat)).toInt := rfl; have := (by decide : ((1 : Int32)).toInt = 1); have := (by decide : ((0 : Int32)).toInt = 0); (try have := rk_use (RK_fr hL8584 rfl (RK_fr (l := [(61, some 15)]) (FR.I (FR.refl _ w) (k := 61) (j := 15) (v := 0) rfl) rfl hf_RK)) hW8596 (by omega)); omega
      refine ⟨o8595, ?_⟩
      have o8597 : 0 ≤ ((sJ w8582 82 r8585.toInt.toNat 1).1 64 ((w8582.1 77 r8585.toInt.toNat).toInt.toNat)).toInt ∧ ((sJ w8582 82 r8585.toInt.toNat 1).1 64 ((w8582.1 77 r8585.toInt.toNat).toInt.toNat)).toInt < 40 := by have := bd_77 hI8583 r8585.toInt.toNat; have := bd_77 hI r8585.toInt.toNat; have : ((sI w 61 15 0).1 77 r8585.toInt.toNat).toInt = (w.1 77 r8585.toInt.toNat).toInt := rfl; have := (congrArg Int32.toInt (hL8584 77 r8585.toInt.toNat rfl).1); have := bd_62_1 hI8583; have := bd_62_1 hI; have : ((sI w 61 15 0).1 62 1).toInt = (w.1 62 1).toInt := rfl; have := (congrArg Int32.toInt (hL8584 62 1 rfl).1); have : ((sJ w8582 82 r8585.toInt.toNat 1).1 62 1).toInt = (w8582.1 62 1).toInt := rfl; have : ((sI w 61 15 0).1 63 (((sI w 61 15 0).1 77 r8585.toInt.toNat).toInt.toNat)).toInt = (w.1 63 ((w.1 77 r8585.toInt.toNat).toInt.toNat)).toInt := rfl; have : ((sI w 61 15 0).1 63 (((sI w 61 15 0).1 77 r8585.toInt.toNat).toInt.toNat)).toInt = (w.1 63 (((sI w 61 15 0).1 77 r8585.toInt.toNat).toInt.toNat)).toInt := rfl; have : ((sI w 61 15 0).1 63 ((w8582.1 77 r8585.toInt.toNat).toInt.toNat)).toInt = (w.1 63 ((w8582.1 77 r8585.toInt.toNat).toInt.toNat)).toInt := rfl; have := (congrArg Int32.toInt (hL8584 63 ((w8582.1 77 r8585.toInt.toNat).toInt.toNat) rfl).1); have : ((sJ w8582 82 r8585.toInt.toNat 1).1 63 ((w8582.1 77 r8585.toInt.toNat).toInt.toNat)).toInt = (w8582.1 63 ((w8582.1 77 r8585.toInt.toNat).toInt.toNat)).toInt := rfl; have : ((sI w 61 15 0).1 64 (((sI w 61 15 0).1 77 r8585.toInt.toNat).toInt.toNat)).toInt = (w.1 64 ((w.1 77 r8585.toInt.toNat).toInt.toNat)).toInt := rfl; have : ((sI w 61 15 0).1 64 (((sI w 61 15 0).1 77 r8585.toInt.toNat).toInt.toNat)).toInt = (w.1 64 (((sI w 61 15 0).1 77 r8585.toInt.toNat).toInt.toNat)).toInt := rfl; have : ((sI w 61 15 0).1 64 ((w8582.1 77 r8585.toInt.toNat).toInt.toNat)).toInt = (w.1 64 ((w8582.1 77 r8585.toInt.toNat).toInt.toNat)).toInt := rfl; have := (congrArg Int32.toInt (hL8584 64 ((w8582.1 77 r8585.toInt.toNat).toInt.toNat) rfl).1); have : ((sJ w8582 82 r8585.toInt.toNat 1).1 64 ((w8582.1 77 r8585.toInt.toNat).toInt.toNat)).toInt = (w8582.1 64 ((w8582.1 77 r8585.toInt.toNat).toInt.toNat)).toInt := rfl; have := (by decide : ((1 : Int32)).toInt = 1); have := (by decide : ((0 : Int32)).toInt = 0); (try have := rk_use (RK_fr hL8584 rfl (RK_fr (l := [(61, some 15)]) (FR.I (FR.refl _ w) (k := 61) (j := 15) (v := 0) rfl) rfl hf_RK)) hW8596 (by omega)); have := (by rw [(hL8584 63 _ rfl).1, (hL8584 77 _ rfl).1] : (w8582.1 63 ((w8582.1 77 r8585.toInt.toNat).toInt.toNat)).toInt = ((sI w 61 15 0).1 63 (((sI w 61 15 0).1 77 r8585.toInt.toNat).toInt.toNat)).toInt); (try have := (PA_fr (l := [(82, none)]) (FR.J (FR.refl _ w8582) (k := 82) (j := r8585.toInt.toNat) (v := 1) rfl) rfl (PA_fr hL8584 rfl (PA_fr (l := [(61, some 15)]) (FR.I (FR.refl _ w) (k := 61) (j := 15) (v := 0) rfl) rfl hf_PA))) (w8582.1 77 r8585.toInt.toNat) (by omega) (by omega)); (try have := (PA_fr hL8584 rfl (PA_fr (l := [(61, some 15)]) (FR.I (FR.refl _ w) (k := 61) (j := 15) (v := 0) rfl) rfl hf_PA)) (w8582.1 77 r8585.toInt.toNat) (by omega) (by omega)); (try have := (PA_fr (l := [(61, some 15)]) (FR.I (FR.refl _ w) (k := 61) (j := 15) (v := 0) rfl) rfl hf_PA) ((sI w 61 15 0).1 77 r8585.toInt.toNat) (by omega) (by omega)); (try have := hf_PA (w.1 77 r8585.toInt.toNat) (by omega) (by omega)); (try have := hf_PA ((sI w 61 15 0).1 77 r8585.toInt.toNat) (by omega) (by omega)); have := (by rw [(hL8584 64 _ rfl).1, (hL8584 77 _ rfl).1] : (w8582.1 64 ((w8582.1 77 r8585.toInt.toNat).toInt.toNat)).toInt = ((sI w 61 15 0).1 64 (((sI w 61 15 0).1 77 r8585.toInt.toNat).toInt.toNat)).toInt); (try have := (PA_fr (l := [(61, some 15)]) (FR.I (FR.refl _ w) (k := 61) (j := 15) (v := 0) rfl) rfl hf_PA) (w8582.1 77 r8585.toInt.toNat) (by omega) (by omega)); (try have := hf_PA (w8582.1 77 r8585.toInt.toNat) (by omega) (by omega)); omega
      refine ⟨o8597, ?_⟩
      have o8598 : (0 ≤ (1 : Int32).toInt) ∧ ((1 : Int32).toInt ≤ 1) := by have := (by decide : ((1 : Int32)).toInt = 1); exact ⟨by omega, by omega⟩
      exact hQ _ _ (bnd_J (bnd_J hI8583 (k := 82) (j := r8585.toInt.toNat) (v := 1)) (k := 74) (j := ((sJ w8582 82 r8585.toInt.toNat 1).1 64 ((w8582.1 77 r8585.toInt.toNat).toInt.toNat)).toInt.toNat) (v := a0)) (FR.J (FR.J hF8591 (k := 82) (j := r8585.toInt.toNat) (v := 1) rfl) (k := 74) (j := ((sJ w8582 82 r8585.toInt.toNat 1).1 64 ((w8582.1 77 r8585.toInt.toNat).toInt.toNat)).toInt.toNat) (v := a0) rfl)  o8598.1 o8598.2
    · have o8599 : (0 ≤ (0 : Int32).toInt) ∧ ((0 : Int32).toInt ≤ 1) := by have := (by decide : ((0 : Int32)).toInt = 0); exact ⟨by omega, by omega⟩
      exact hQ _ _ hI8583 hF8591  o8599.1 o8599.2
def l_Bh_hold_16 : Pl := [(16, none), (26, some 1), (27, none), (28, none), (29, none), (30, none), (31, none), (32, none), (33, none), (36, none), (37, none), (61, some 4)]
def l_Bh_hold : Pl := [(16, none), (26, some 1), (27, none), (28, none), (29, none), (30, none), (31, none), (32, none), (33, none), (36, none), (37, none), (61, some 4)]
set_option maxRecDepth 20000 in
set_option maxHeartbeats 2000000 in
theorem h_Bh_hold {w : MW} {a0 : Int32} {Q : Int32 → MW → Prop} (hI : BND w) (hf_PL : PL w) (hf_RO : RO w) (hf_RS : RS w) (hf_WO : WO w) (hr_7_0 : w.2.2 7 0 = some 8)  (hQ : ∀ (r : Int32) (w' : MW), BND w' → FR l_Bh_hold w w' → RS w' → WO w' → 0 ≤ r.toInt → r.toInt ≤ 1 → Q r w') : p_Bh_hold w a0 Q := by
  refine Eq.mpr (p_Bh_hold.eq_1 _ _ _) ?_
  refine ⟨fun h8600 => ?_, fun h8600 => ?_⟩
  · refine Eq.mpr (q_Bh_hold_16.eq_1 _ _ _ _ _) ?_
    refine ⟨fun h8601 => ?_, fun h8601 => ?_⟩
    · replace h8601 : (w.1 61 4).toInt = 2 := h8601
      refine ⟨fun _ => ?_, fun h => absurd h8600 h⟩
      have hI8602 : BND (sI w 61 4 0) := wbd_61_4 hI (by decide) (by decide)
      have hW8603 : WO (sI w 61 4 0) := (WO_fr (l := [(61, some 4)]) (FR.I (FR.refl _ w) (k := 61) (j := 4) (v := 0) rfl) rfl hf_WO)
      have o8604 : (0 ≤ (1 : Int32).toInt) ∧ ((1 : Int32).toInt ≤ 1) := by have := (by decide : ((1 : Int32)).toInt = 1); exact ⟨by omega, by omega⟩
      exact hQ _ _ hI8602 (FR.I (FR.refl _ w) (k := 61) (j := 4) (v := 0) rfl) (by unfold RS; have := bd_80 hI 0; have : ((sI w 61 4 0).1 80 0).toInt = (w.1 80 0).toInt := rfl; have := bd_62_2 hI; have : ((sI w 61 4 0).1 62 2).toInt = (w.1 62 2).toInt := rfl; have : ((sI w 61 4 0).1 61 4).toInt = ((0 : Int32)).toInt := rfl; have := (by decide : ((0 : Int32)).toInt = 0); have := bd_61_4 hI; have := (by decide : ((2 : Int32)).toInt = 2); have := RS_ex hf_RS; omega) hW8603  o8604.1 o8604.2
    · replace h8601 : ¬ ((w.1 61 4).toInt = 2) := h8601
      have o8605 : (0 ≤ (0 : Int32).toInt) ∧ ((0 : Int32).toInt ≤ 1) := by have := (by decide : ((0 : Int32)).toInt = 0); exact ⟨by omega, by omega⟩
      exact hQ _ _ hI (FR.refl _ w) hf_RS hf_WO  o8605.1 o8605.2
  · refine Eq.mpr (q_Bh_hold_16.eq_1 _ _ _ _ _) ?_
    refine ⟨fun h8606 => ?_, fun h8606 => ?_⟩
    · replace h8606 : (w.1 61 4).toInt = 0 := h8606
      refine ⟨fun h => absurd h h8600, fun _ => ?_⟩
      have hI8607 : BND (sI w 61 4 2) := wbd_61_4 hI (by decide) (by decide)
      have hW8608 : WO (sI w 61 4 2) := (WO_fr (l := [(61, some 4)]) (FR.I (FR.refl _ w) (k := 61) (j := 4) (v := 2) rfl) rfl hf_WO)
      refine h_Wa_closeAll hI8607 (PL_fr (l := [(61, some 4)]) (FR.I (FR.refl _ w) (k := 61) (j := 4) (v := 2) rfl) rfl hf_PL) hW8608 hr_7_0  (fun w8609 hI8610 hL8611 hlw8609_WO  => ?_)
      have hF8613 : FR l_Bh_hold w w8609 := (FR.I (FR.refl _ w) (k := 61) (j := 4) (v := 2) rfl).tr hL8611 rfl
      have o8614 : (0 ≤ (1 : Int32).toInt) ∧ ((1 : Int32).toInt ≤ 1) := by have := (by decide : ((1 : Int32)).toInt = 1); exact ⟨by omega, by omega⟩
      exact hQ _ _ hI8610 hF8613 (RS_fr hL8611 rfl (by unfold RS; have := bd_80 hI 0; have : ((sI w 61 4 2).1 80 0).toInt = (w.1 80 0).toInt := rfl; have := bd_62_2 hI; have : ((sI w 61 4 2).1 62 2).toInt = (w.1 62 2).toInt := rfl; have : ((sI w 61 4 2).1 61 4).toInt = ((2 : Int32)).toInt := rfl; have := (by decide : ((2 : Int32)).toInt = 2); have := bd_61_4 hI; have := (by decide : ((0 : Int32)).toInt = 0); have := RS_ex hf_RS; omega)) hlw8609_WO  o8614.1 o8614.2
    · replace h8606 : ¬ ((w.1 61 4).toInt = 0) := h8606
      have o8615 : (0 ≤ (0 : Int32).toInt) ∧ ((0 : Int32).toInt ≤ 1) := by have := (by decide : ((0 : Int32)).toInt = 0); exact ⟨by omega, by omega⟩
      exact hQ _ _ hI (FR.refl _ w) hf_RS hf_WO  o8615.1 o8615.2
def l_Bh_stop : Pl := [(16, none), (26, some 1), (27, none), (28, none), (29, none), (30, none), (31, none), (32, none), (33, none), (36, none), (37, none), (61, some 4)]
set_option maxRecDepth 20000 in
set_option maxHeartbeats 2000000 in
theorem h_Bh_stop {w : MW} {Q : Int32 → MW → Prop} (hI : BND w) (hf_PL : PL w) (hf_RO : RO w) (hf_RS : RS w) (hf_WO : WO w) (hr_7_0 : w.2.2 7 0 = some 8)  (hQ : ∀ (r : Int32) (w' : MW), BND w' → FR l_Bh_stop w w' → RS w' → WO w' → 0 ≤ r.toInt → r.toInt ≤ 1 → Q r w') : p_Bh_stop w Q := by
  refine Eq.mpr (p_Bh_stop.eq_1 _ _) ?_
  refine Eq.mpr (p_Ru_isAlive.eq_1 _ _) ?_
  refine ⟨fun h8616 => ?_, fun h8616 => ?_⟩
  · refine ⟨fun _ => ?_, fun h => absurd (by decide) h⟩
    have hI8617 : BND (sI w 61 4 3) := wbd_61_4 hI (by decide) (by decide)
    have hW8618 : WO (sI w 61 4 3) := (WO_fr (l := [(61, some 4)]) (FR.I (FR.refl _ w) (k := 61) (j := 4) (v := 3) rfl) rfl hf_WO)
    refine h_Wa_closeAll hI8617 (PL_fr (l := [(61, some 4)]) (FR.I (FR.refl _ w) (k := 61) (j := 4) (v := 3) rfl) rfl hf_PL) hW8618 hr_7_0  (fun w8619 hI8620 hL8621 hlw8619_WO  => ?_)
    have hF8623 : FR l_Bh_stop w w8619 := (FR.I (FR.refl _ w) (k := 61) (j := 4) (v := 3) rfl).tr hL8621 rfl
    have o8624 : (0 ≤ (1 : Int32).toInt) ∧ ((1 : Int32).toInt ≤ 1) := by have := (by decide : ((1 : Int32)).toInt = 1); exact ⟨by omega, by omega⟩
    exact hQ _ _ hI8620 hF8623 (RS_fr hL8621 rfl (by unfold RS; have := bd_80 hI 0; have : ((sI w 61 4 3).1 80 0).toInt = (w.1 80 0).toInt := rfl; have := bd_62_2 hI; have : ((sI w 61 4 3).1 62 2).toInt = (w.1 62 2).toInt := rfl; have : ((sI w 61 4 3).1 61 4).toInt = ((3 : Int32)).toInt := rfl; have := (by decide : ((3 : Int32)).toInt = 3); have := bd_61_4 hI; have := (by decide : ((0 : Int32)).toInt = 0); have := RS_ex hf_RS; omega)) hlw8619_WO  o8624.1 o8624.2
  · refine ⟨fun h8625 => ?_, fun h8625 => ?_⟩
    · refine ⟨fun h => absurd h (by decide), fun _ => ?_⟩
      have o8626 : (0 ≤ (0 : Int32).toInt) ∧ ((0 : Int32).toInt ≤ 1) := by have := (by decide : ((0 : Int32)).toInt = 0); exact ⟨by omega, by omega⟩
      exact hQ _ _ hI (FR.refl _ w) hf_RS hf_WO  o8626.1 o8626.2
    · refine ⟨fun _ => ?_, fun h => absurd (by decide) h⟩
      have hI8627 : BND (sI w 61 4 3) := wbd_61_4 hI (by decide) (by decide)
      have hW8628 : WO (sI w 61 4 3) := (WO_fr (l := [(61, some 4)]) (FR.I (FR.refl _ w) (k := 61) (j := 4) (v := 3) rfl) rfl hf_WO)
      refine h_Wa_closeAll hI8627 (PL_fr (l := [(61, some 4)]) (FR.I (FR.refl _ w) (k := 61) (j := 4) (v := 3) rfl) rfl hf_PL) hW8628 hr_7_0  (fun w8629 hI8630 hL8631 hlw8629_WO  => ?_)
      have hF8633 : FR l_Bh_stop w w8629 := (FR.I (FR.refl _ w) (k := 61) (j := 4) (v := 3) rfl).tr hL8631 rfl
      have o8634 : (0 ≤ (1 : Int32).toInt) ∧ ((1 : Int32).toInt ≤ 1) := by have := (by decide : ((1 : Int32)).toInt = 1); exact ⟨by omega, by omega⟩
      exact hQ _ _ hI8630 hF8633 (RS_fr hL8631 rfl (by unfold RS; have := bd_80 hI 0; have : ((sI w 61 4 3).1 80 0).toInt = (w.1 80 0).toInt := rfl; have := bd_62_2 hI; have : ((sI w 61 4 3).1 62 2).toInt = (w.1 62 2).toInt := rfl; have : ((sI w 61 4 3).1 61 4).toInt = ((3 : Int32)).toInt := rfl; have := (by decide : ((3 : Int32)).toInt = 3); have := bd_61_4 hI; have := (by decide : ((0 : Int32)).toInt = 0); have := (by decide : ((2 : Int32)).toInt = 2); have := RS_ex hf_RS; omega)) hlw8629_WO  o8634.1 o8634.2
def l_Bh_pass : Pl := [(51, none)]
set_option maxRecDepth 20000 in
set_option maxHeartbeats 2000000 in
theorem h_Bh_pass {w : MW} {a0 : Int32} {b0 : Int32} {c0 : Int32} {e0 : Int32} {Q : Int32 → MW → Prop} (hI : BND w) (hr_47_3 : w.2.2 47 3 = some 48)  (hQ : ∀ (r : Int32) (w' : MW), BND w' → FR l_Bh_pass w w' → (-4) ≤ r.toInt → r.toInt ≤ 0 → Q r w') : p_Bh_pass w a0 b0 c0 e0 Q := by
  refine Eq.mpr (p_Bh_pass.eq_1 _ _ _ _ _ _) ?_
  refine ⟨hr_47_3, ?_⟩
  refine Eq.mpr (p_Ro_has.eq_1 _ _ _) ?_
  refine ⟨fun h8635 => ?_, fun h8635 => ?_⟩
  · refine ⟨fun h => absurd h (by decide), fun _ => ?_⟩
    have o8636 : ((-4) ≤ ((-1) : Int32).toInt) ∧ (((-1) : Int32).toInt ≤ 0) := by have := (by decide : (((-1) : Int32)).toInt = (-1)); exact ⟨by omega, by omega⟩
    exact hQ _ _ hI (FR.refl _ w)  o8636.1 o8636.2
  · refine ⟨fun h8637 => ?_, fun h8637 => ?_⟩
    · refine ⟨fun h => absurd h (by decide), fun _ => ?_⟩
      have o8638 : ((-4) ≤ ((-1) : Int32).toInt) ∧ (((-1) : Int32).toInt ≤ 0) := by have := (by decide : (((-1) : Int32)).toInt = (-1)); exact ⟨by omega, by omega⟩
      exact hQ _ _ hI (FR.refl _ w)  o8638.1 o8638.2
    · refine ⟨fun _ => ?_, fun h => absurd (by decide) h⟩
      refine Eq.mpr (p_Bh_isPerson.eq_1 _ _ _) ?_
      refine ⟨fun h8639 => ?_, fun h8639 => ?_⟩
      · refine ⟨fun _ => ?_, fun h => absurd (by decide) h⟩
        have o8640 : ((-4) ≤ ((-2) : Int32).toInt) ∧ (((-2) : Int32).toInt ≤ 0) := by have := (by decide : (((-2) : Int32)).toInt = (-2)); exact ⟨by omega, by omega⟩
        exact hQ _ _ hI (FR.refl _ w)  o8640.1 o8640.2
      · refine ⟨fun h8641 => ?_, fun h8641 => ?_⟩
        · refine ⟨fun _ => ?_, fun h => absurd (by decide) h⟩
          have o8642 : ((-4) ≤ ((-2) : Int32).toInt) ∧ (((-2) : Int32).toInt ≤ 0) := by have := (by decide : (((-2) : Int32)).toInt = (-2)); exact ⟨by omega, by omega⟩
          exact hQ _ _ hI (FR.refl _ w)  o8642.1 o8642.2
        · refine ⟨fun h => absurd h (by decide), fun _ => ?_⟩
          refine Eq.mpr (p_Bh_isPerson.eq_1 _ _ _) ?_
          refine ⟨fun h8643 => ?_, fun h8643 => ?_⟩
          · refine ⟨fun _ => ?_, fun h => absurd (by decide) h⟩
            have o8644 : ((-4) ≤ ((-2) : Int32).toInt) ∧ (((-2) : Int32).toInt ≤ 0) := by have := (by decide : (((-2) : Int32)).toInt = (-2)); exact ⟨by omega, by omega⟩
            exact hQ _ _ hI (FR.refl _ w)  o8644.1 o8644.2
          · refine ⟨fun h8645 => ?_, fun h8645 => ?_⟩
            · refine ⟨fun _ => ?_, fun h => absurd (by decide) h⟩
              have o8646 : ((-4) ≤ ((-2) : Int32).toInt) ∧ (((-2) : Int32).toInt ≤ 0) := by have := (by decide : (((-2) : Int32)).toInt = (-2)); exact ⟨by omega, by omega⟩
              exact hQ _ _ hI (FR.refl _ w)  o8646.1 o8646.2
            · refine ⟨fun h => absurd h (by decide), fun _ => ?_⟩
              refine ⟨fun h8647 => ?_, fun h8647 => ?_⟩
              · refine ⟨fun h8648 => ?_, fun h8648 => ?_⟩
                · have o8649 : ((-4) ≤ ((-3) : Int32).toInt) ∧ (((-3) : Int32).toInt ≤ 0) := by have := (by decide : (((-3) : Int32)).toInt = (-3)); exact ⟨by omega, by omega⟩
                  exact hQ _ _ hI (FR.refl _ w)  o8649.1 o8649.2
                · refine ⟨fun h8650 => ?_, fun h8650 => ?_⟩
                  · refine ⟨hr_47_3, ?_⟩
                    have o8651 : 0 ≤ (a0 - (1 : Int32)).toInt ∧ (a0 - (1 : Int32)).toInt < 40 := by have := (by decide : ((1 : Int32)).toInt = 1); have := bd_48_0 hI; have := ti_sub2 (Eq.refl a0.toInt) (by decide : ((1 : Int32)).toInt = 1) (by omega) (by omega); omega
                    refine ⟨o8651, ?_⟩
                    refine ⟨fun h8652 => ?_, fun h8652 => ?_⟩
                    · refine ⟨hr_47_3, ?_⟩
                      have o8653 : 0 ≤ (a0 - (1 : Int32)).toInt ∧ (a0 - (1 : Int32)).toInt < 40 := by have := (by decide : ((1 : Int32)).toInt = 1); have := bd_48_0 hI; have := ti_sub2 (Eq.refl a0.toInt) (by decide : ((1 : Int32)).toInt = 1) (by omega) (by omega); omega
                      refine ⟨o8653, ?_⟩
                      have o8655 : 0 ≤ e0.toInt ∧ e0.toInt ≤ 3600 := by have := (by decide : ((1 : Int32)).toInt = 1); have := (by decide : ((3600 : Int32)).toInt = 3600); omega
                      have hI8654 : BND (sI w 51 ((a0 - (1 : Int32)).toInt.toNat) e0) := wbd_51 hI ((a0 - (1 : Int32)).toInt.toNat) o8655.1 o8655.2
                      have o8656 : ((-4) ≤ (0 : Int32).toInt) ∧ ((0 : Int32).toInt ≤ 0) := by have := (by decide : ((0 : Int32)).toInt = 0); exact ⟨by omega, by omega⟩
                      exact hQ _ _ hI8654 (FR.I (FR.refl _ w) (k := 51) (j := (a0 - (1 : Int32)).toInt.toNat) (v := e0) rfl)  o8656.1 o8656.2
                    · have o8657 : ((-4) ≤ ((-4) : Int32).toInt) ∧ (((-4) : Int32).toInt ≤ 0) := by have := (by decide : (((-4) : Int32)).toInt = (-4)); exact ⟨by omega, by omega⟩
                      exact hQ _ _ hI (FR.refl _ w)  o8657.1 o8657.2
                  · have o8658 : ((-4) ≤ ((-3) : Int32).toInt) ∧ (((-3) : Int32).toInt ≤ 0) := by have := (by decide : (((-3) : Int32)).toInt = (-3)); exact ⟨by omega, by omega⟩
                    exact hQ _ _ hI (FR.refl _ w)  o8658.1 o8658.2
              · have o8659 : ((-4) ≤ ((-2) : Int32).toInt) ∧ (((-2) : Int32).toInt ≤ 0) := by have := (by decide : (((-2) : Int32)).toInt = (-2)); exact ⟨by omega, by omega⟩
                exact hQ _ _ hI (FR.refl _ w)  o8659.1 o8659.2
def l_Bh_reset : Pl := [(50, none)]
set_option maxRecDepth 20000 in
set_option maxHeartbeats 2000000 in
theorem h_Bh_reset {w : MW} {a0 : Int32} {Q : Int32 → MW → Prop} (hI : BND w) (hr_47_3 : w.2.2 47 3 = some 48)  (hQ : ∀ (r : Int32) (w' : MW), BND w' → FR l_Bh_reset w w' → 0 ≤ r.toInt → r.toInt ≤ 1 → Q r w') : p_Bh_reset w a0 Q := by
  refine Eq.mpr (p_Bh_reset.eq_1 _ _ _) ?_
  refine ⟨hr_47_3, ?_⟩
  refine Eq.mpr (p_Ro_has.eq_1 _ _ _) ?_
  refine ⟨fun h8660 => ?_, fun h8660 => ?_⟩
  · refine ⟨fun _ => ?_, fun h => absurd (by decide) h⟩
    have o8661 : (0 ≤ (0 : Int32).toInt) ∧ ((0 : Int32).toInt ≤ 1) := by have := (by decide : ((0 : Int32)).toInt = 0); exact ⟨by omega, by omega⟩
    exact hQ _ _ hI (FR.refl _ w)  o8661.1 o8661.2
  · refine ⟨fun h8662 => ?_, fun h8662 => ?_⟩
    · refine ⟨fun _ => ?_, fun h => absurd (by decide) h⟩
      have o8663 : (0 ≤ (0 : Int32).toInt) ∧ ((0 : Int32).toInt ≤ 1) := by have := (by decide : ((0 : Int32)).toInt = 0); exact ⟨by omega, by omega⟩
      exact hQ _ _ hI (FR.refl _ w)  o8663.1 o8663.2
    · refine ⟨fun h => absurd h (by decide), fun _ => ?_⟩
      have o8664 : 0 ≤ (a0 - (1 : Int32)).toInt ∧ (a0 - (1 : Int32)).toInt < 40 := by have := (by decide : ((1 : Int32)).toInt = 1); have := bd_48_0 hI; have := ti_sub2 (Eq.refl a0.toInt) (by decide : ((1 : Int32)).toInt = 1) (by omega) (by omega); omega
      refine ⟨o8664, ?_⟩
      refine ⟨fun h8665 => ?_, fun h8665 => ?_⟩
      · have o8666 : (0 ≤ (0 : Int32).toInt) ∧ ((0 : Int32).toInt ≤ 1) := by have := (by decide : ((0 : Int32)).toInt = 0); exact ⟨by omega, by omega⟩
        exact hQ _ _ hI (FR.refl _ w)  o8666.1 o8666.2
      · have o8667 : (0 ≤ (a0 - (1 : Int32)).toInt) ∧ ((a0 - (1 : Int32)).toInt ≤ 39) := by have := (by decide : ((1 : Int32)).toInt = 1); have := bd_48_0 hI; have := ti_sub2 (Eq.refl a0.toInt) (by decide : ((1 : Int32)).toInt = 1) (by omega) (by omega); exact ⟨by omega, by omega⟩
        refine h_Ro_isOn hI  o8667.1 o8667.2 (fun r8671 w8668 hI8669 hL8670 p8672 p8673 => ?_)
        have hF8674 : FR l_Bh_reset w w8668 := (FR.refl _ w).tr hL8670 rfl
        refine ⟨fun h8675 => ?_, fun h8675 => ?_⟩
        · have o8676 : 0 ≤ (a0 - (1 : Int32)).toInt ∧ (a0 - (1 : Int32)).toInt < 40 := by have := (by decide : ((1 : Int32)).toInt = 1); have := bd_48_0 hI; have := ti_sub2 (Eq.refl a0.toInt) (by decide : ((1 : Int32)).toInt = 1) (by omega) (by omega); omega
          refine ⟨o8676, ?_⟩
          have o8678 : 0 ≤ (vp_nar .boolean (0 : Int32)).toInt ∧ (vp_nar .boolean (0 : Int32)).toInt ≤ 1 := by have := nb_bool0; omega
          have hI8677 : BND (sI w8668 50 ((a0 - (1 : Int32)).toInt.toNat) (vp_nar .boolean (0 : Int32))) := wbd_50 hI8669 ((a0 - (1 : Int32)).toInt.toNat) o8678.1 o8678.2
          have o8679 : (0 ≤ (1 : Int32).toInt) ∧ ((1 : Int32).toInt ≤ 1) := by have := (by decide : ((1 : Int32)).toInt = 1); exact ⟨by omega, by omega⟩
          exact hQ _ _ hI8677 (FR.I hF8674 (k := 50) (j := (a0 - (1 : Int32)).toInt.toNat) (v := (vp_nar .boolean (0 : Int32))) rfl)  o8679.1 o8679.2
        · have o8680 : (0 ≤ (0 : Int32).toInt) ∧ ((0 : Int32).toInt ≤ 1) := by have := (by decide : ((0 : Int32)).toInt = 0); exact ⟨by omega, by omega⟩
          exact hQ _ _ hI8669 hF8674  o8680.1 o8680.2
def l_Bh_bars : Pl := []
set_option maxRecDepth 20000 in
set_option maxHeartbeats 2000000 in
theorem h_Bh_bars {w : MW} {a0 : Int32} {Q : Int32 → MW → Prop} (hI : BND w) (hr_47_3 : w.2.2 47 3 = some 48)  (hQ : ∀ (r : Int32) (w' : MW), BND w' → FR l_Bh_bars w w' → (-1) ≤ r.toInt → r.toInt ≤ 40 → Q r w') : p_Bh_bars w a0 Q := by
  refine Eq.mpr (p_Bh_bars.eq_1 _ _ _) ?_
  refine Eq.mpr (p_Ac_isAct.eq_1 _ _ _) ?_
  refine ⟨fun h8681 => ?_, fun h8681 => ?_⟩
  · refine ⟨fun _ => ?_, fun h => absurd (by decide) h⟩
    have o8682 : ((-1) ≤ ((-1) : Int32).toInt) ∧ (((-1) : Int32).toInt ≤ 40) := by have := (by decide : (((-1) : Int32)).toInt = (-1)); exact ⟨by omega, by omega⟩
    exact hQ _ _ hI (FR.refl _ w)  o8682.1 o8682.2
  · refine ⟨fun h8683 => ?_, fun h8683 => ?_⟩
    · refine ⟨fun _ => ?_, fun h => absurd (by decide) h⟩
      have o8684 : ((-1) ≤ ((-1) : Int32).toInt) ∧ (((-1) : Int32).toInt ≤ 40) := by have := (by decide : (((-1) : Int32)).toInt = (-1)); exact ⟨by omega, by omega⟩
      exact hQ _ _ hI (FR.refl _ w)  o8684.1 o8684.2
    · refine ⟨fun h => absurd h (by decide), fun _ => ?_⟩
      refine ⟨hr_47_3, ?_⟩
      have o8685 : (0 ≤ a0.toInt) ∧ (a0.toInt ≤ 31) := by have := (by decide : ((0 : Int32)).toInt = 0); have := (by decide : ((32 : Int32)).toInt = 32); exact ⟨by omega, by omega⟩
      refine h_Ro_barring hI  o8685.1 o8685.2 (fun r8689 w8686 hI8687 hL8688 p8690 p8691 => ?_)
      have hF8692 : FR l_Bh_bars w w8686 := (FR.refl _ w).tr hL8688 rfl
      have o8693 : ((-1) ≤ r8689.toInt) ∧ (r8689.toInt ≤ 40) := by exact ⟨by omega, by omega⟩
      exact hQ _ _ hI8687 hF8692  o8693.1 o8693.2
def l_Bh_row : Pl := []
set_option maxRecDepth 20000 in
set_option maxHeartbeats 2000000 in
theorem h_Bh_row {w : MW} {a0 : Int32} {b0 : Int32} {Q : Int32 → MW → Prop} (hI : BND w) (hr_47_3 : w.2.2 47 3 = some 48)  (hQ : ∀ (r : Int32) (w' : MW), BND w' → FR l_Bh_row w w' → (-1) ≤ r.toInt → r.toInt ≤ 1000000 → Q r w') : p_Bh_row w a0 b0 Q := by
  refine Eq.mpr (p_Bh_row.eq_1 _ _ _ _) ?_
  refine ⟨hr_47_3, ?_⟩
  refine Eq.mpr (p_Ro_has.eq_1 _ _ _) ?_
  refine ⟨fun h8694 => ?_, fun h8694 => ?_⟩
  · refine ⟨fun h => absurd h (by decide), fun _ => ?_⟩
    have o8695 : ((-1) ≤ ((-1) : Int32).toInt) ∧ (((-1) : Int32).toInt ≤ 1000000) := by have := (by decide : (((-1) : Int32)).toInt = (-1)); exact ⟨by omega, by omega⟩
    exact hQ _ _ hI (FR.refl _ w)  o8695.1 o8695.2
  · refine ⟨fun h8696 => ?_, fun h8696 => ?_⟩
    · refine ⟨fun h => absurd h (by decide), fun _ => ?_⟩
      have o8697 : ((-1) ≤ ((-1) : Int32).toInt) ∧ (((-1) : Int32).toInt ≤ 1000000) := by have := (by decide : (((-1) : Int32)).toInt = (-1)); exact ⟨by omega, by omega⟩
      exact hQ _ _ hI (FR.refl _ w)  o8697.1 o8697.2
    · refine ⟨fun _ => ?_, fun h => absurd (by decide) h⟩
      refine ⟨fun h8698 => ?_, fun h8698 => ?_⟩
      · have o8699 : 0 ≤ (a0 - (1 : Int32)).toInt ∧ (a0 - (1 : Int32)).toInt < 40 := by have := (by decide : ((1 : Int32)).toInt = 1); have := bd_48_0 hI; have := ti_sub2 (Eq.refl a0.toInt) (by decide : ((1 : Int32)).toInt = 1) (by omega) (by omega); omega
        refine ⟨o8699, ?_⟩
        have o8700 : ((-1) ≤ (w.1 49 ((a0 - (1 : Int32)).toInt.toNat)).toInt) ∧ ((w.1 49 ((a0 - (1 : Int32)).toInt.toNat)).toInt ≤ 1000000) := by have := bd_49 hI ((a0 - (1 : Int32)).toInt.toNat); exact ⟨by omega, by omega⟩
        exact hQ _ _ hI (FR.refl _ w)  o8700.1 o8700.2
      · refine ⟨fun h8701 => ?_, fun h8701 => ?_⟩
        · have o8702 : 0 ≤ (a0 - (1 : Int32)).toInt ∧ (a0 - (1 : Int32)).toInt < 40 := by have := (by decide : ((1 : Int32)).toInt = 1); have := bd_48_0 hI; have := ti_sub2 (Eq.refl a0.toInt) (by decide : ((1 : Int32)).toInt = 1) (by omega) (by omega); omega
          refine ⟨o8702, ?_⟩
          refine ⟨fun h8703 => ?_, fun h8703 => ?_⟩
          · have o8704 : ((-1) ≤ (0 : Int32).toInt) ∧ ((0 : Int32).toInt ≤ 1000000) := by have := (by decide : ((0 : Int32)).toInt = 0); exact ⟨by omega, by omega⟩
            exact hQ _ _ hI (FR.refl _ w)  o8704.1 o8704.2
          · have o8705 : ((-1) ≤ (1 : Int32).toInt) ∧ ((1 : Int32).toInt ≤ 1000000) := by have := (by decide : ((1 : Int32)).toInt = 1); exact ⟨by omega, by omega⟩
            exact hQ _ _ hI (FR.refl _ w)  o8705.1 o8705.2
        · refine ⟨fun h8706 => ?_, fun h8706 => ?_⟩
          · have o8707 : 0 ≤ (a0 - (1 : Int32)).toInt ∧ (a0 - (1 : Int32)).toInt < 40 := by have := (by decide : ((1 : Int32)).toInt = 1); have := bd_48_0 hI; have := ti_sub2 (Eq.refl a0.toInt) (by decide : ((1 : Int32)).toInt = 1) (by omega) (by omega); omega
            refine ⟨o8707, ?_⟩
            have o8708 : ((-1) ≤ (w.1 51 ((a0 - (1 : Int32)).toInt.toNat)).toInt) ∧ ((w.1 51 ((a0 - (1 : Int32)).toInt.toNat)).toInt ≤ 1000000) := by have := bd_51 hI ((a0 - (1 : Int32)).toInt.toNat); exact ⟨by omega, by omega⟩
            exact hQ _ _ hI (FR.refl _ w)  o8708.1 o8708.2
          · refine ⟨fun h8709 => ?_, fun h8709 => ?_⟩
            · have o8710 : (0 ≤ (a0 - (1 : Int32)).toInt) ∧ ((a0 - (1 : Int32)).toInt ≤ 39) := by have := (by decide : ((1 : Int32)).toInt = 1); have := bd_48_0 hI; have := ti_sub2 (Eq.refl a0.toInt) (by decide : ((1 : Int32)).toInt = 1) (by omega) (by omega); exact ⟨by omega, by omega⟩
              refine h_Ro_isOn hI  o8710.1 o8710.2 (fun r8714 w8711 hI8712 hL8713 p8715 p8716 => ?_)
              have hF8717 : FR l_Bh_row w w8711 := (FR.refl _ w).tr hL8713 rfl
              refine ⟨fun h8718 => ?_, fun h8718 => ?_⟩
              · have o8719 : ((-1) ≤ (0 : Int32).toInt) ∧ ((0 : Int32).toInt ≤ 1000000) := by have := (by decide : ((0 : Int32)).toInt = 0); exact ⟨by omega, by omega⟩
                exact hQ _ _ hI8712 hF8717  o8719.1 o8719.2
              · have o8720 : ((-1) ≤ (1 : Int32).toInt) ∧ ((1 : Int32).toInt ≤ 1000000) := by have := (by decide : ((1 : Int32)).toInt = 1); exact ⟨by omega, by omega⟩
                exact hQ _ _ hI8712 hF8717  o8720.1 o8720.2
            · have o8721 : ((-1) ≤ ((-1) : Int32).toInt) ∧ (((-1) : Int32).toInt ≤ 1000000) := by have := (by decide : (((-1) : Int32)).toInt = (-1)); exact ⟨by omega, by omega⟩
              exact hQ _ _ hI (FR.refl _ w)  o8721.1 o8721.2
def l_Ru_standingNode : Pl := [(61, some 15)]
set_option maxRecDepth 20000 in
set_option maxHeartbeats 2000000 in
theorem h_Ru_standingNode {w : MW} {a0 : Int32} {Q : Int32 → MW → Prop} (hI : BND w) (hf_RC : RC w) (hf_RF : RF w) (hf_RK : RK w) (hf_RO : RO w) (hf_RS : RS w) (hf_RX : RX w) (hr_61_3 : w.2.2 61 3 = some 62)  (hQ : ∀ (r : Int32) (w' : MW), BND w' → FR l_Ru_standingNode w w' → (-1) ≤ r.toInt → r.toInt ≤ 300 → Q r w') : p_Ru_standingNode w a0 Q := by
  refine Eq.mpr (p_Ru_standingNode.eq_1 _ _ _) ?_
  refine Eq.mpr (p_Ru_isAlive.eq_1 _ _) ?_
  refine ⟨fun h8722 => ?_, fun h8722 => ?_⟩
  · refine ⟨fun h => absurd h (by decide), fun _ => ?_⟩
    refine ⟨fun h8723 => ?_, fun h8723 => ?_⟩
    · have hI8724 : BND (sI w 61 15 a0) := wbd_61_15 hI
      have o8725 : ((-1) ≤ ((-1) : Int32).toInt) ∧ (((-1) : Int32).toInt ≤ 300) := by have := (by decide : (((-1) : Int32)).toInt = (-1)); exact ⟨by omega, by omega⟩
      exact hQ _ _ hI8724 (FR.I (FR.refl _ w) (k := 61) (j := 15) (v := a0) rfl)  o8725.1 o8725.2
    · have hI8726 : BND (sI w 61 15 a0) := wbd_61_15 hI
      have hW8727 : RC (sI w 61 15 a0) := (RC_fr (l := [(61, some 15)]) (FR.I (FR.refl _ w) (k := 61) (j := 15) (v := a0) rfl) rfl hf_RC)
      have o8728 : (0 ≤ (0 : Int32).toInt) ∧ ((0 : Int32).toInt ≤ 500) ∧ (0 ≤ (0 : Int32).toInt) ∧ ((0 : Int32).toInt ≤ 1) ∧ (0 ≤ (0 : Int32).toInt) ∧ ((0 : Int32).toInt ≤ 100) := by have := (by decide : ((0 : Int32)).toInt = 0); exact ⟨by omega, by omega, by omega, by omega, by omega, by omega⟩
      have hW8729 : ZL (0 : Int32) (sI w 61 15 a0) := (zl_ro (RO_fr (l := [(61, some 15)]) (FR.I (FR.refl _ w) (k := 61) (j := 15) (v := a0) rfl) rfl hf_RO) (by have := bd_80 hI 0; have : ((sI w 61 15 a0).1 80 0).toInt = (w.1 80 0).toInt := rfl; have := bd_62_2 hI; have : ((sI w 61 15 a0).1 62 2).toInt = (w.1 62 2).toInt := rfl; have := bd_61_4 hI; have : ((sI w 61 15 a0).1 61 4).toInt = (w.1 61 4).toInt := rfl; have := (by decide : ((0 : Int32)).toInt = 0); have := RS_ex (RS_fr (l := [(61, some 15)]) (FR.I (FR.refl _ w) (k := 61) (j := 15) (v := a0) rfl) rfl hf_RS); have := RS_ex hf_RS; omega))
      refine h_Ru_seek hI8726 hW8727 (RF_fr (l := [(61, some 15)]) (FR.I (FR.refl _ w) (k := 61) (j := 15) (v := a0) rfl) rfl hf_RF) (RK_fr (l := [(61, some 15)]) (FR.I (FR.refl _ w) (k := 61) (j := 15) (v := a0) rfl) rfl hf_RK) (RX_fr (l := [(61, some 15)]) (FR.I (FR.refl _ w) (k := 61) (j := 15) (v := a0) rfl) rfl hf_RX) hr_61_3 o8728.1 o8728.2.1 o8728.2.2.1 o8728.2.2.2.1 o8728.2.2.2.2.1 o8728.2.2.2.2.2 hW8729 (fun r8733 w8730 hI8731 hL8732 p8734 p8735 p8736 p8737 p8738 => ?_)
      have hF8739 : FR l_Ru_standingNode w w8730 := (FR.I (FR.refl _ w) (k := 61) (j := 15) (v := a0) rfl).tr hL8732 rfl
      refine ⟨fun h8740 => ?_, fun h8740 => ?_⟩
      · have o8741 : 0 ≤ r8733.toInt ∧ r8733.toInt < 501 := by have := bd_77 hI r8733.toInt.toNat; have : ((sI w 61 15 a0).1 77 r8733.toInt.toNat).toInt = (w.1 77 r8733.toInt.toNat).toInt := rfl; have : ((sI w 61 15 a0).1 63 (((sI w 61 15 a0).1 77 r8733.toInt.toNat).toInt.toNat)).toInt = (w.1 63 ((w.1 77 r8733.toInt.toNat).toInt.toNat)).toInt := rfl; have : ((sI w 61 15 a0).1 63 (((sI w 61 15 a0).1 77 r8733.toInt.toNat).toInt.toNat)).toInt = (w.1 63 (((sI w 61 15 a0).1 77 r8733.toInt.toNat).toInt.toNat)).toInt := rfl; have := (by decide : ((0 : Int32)).toInt = 0); omega
        refine ⟨o8741, ?_⟩
        have hW8743 : ZL r8733 w8730 := (p8736.resolve_left (by have := bd_77 hI r8733.toInt.toNat; have : ((sI w 61 15 a0).1 77 r8733.toInt.toNat).toInt = (w.1 77 r8733.toInt.toNat).toInt := rfl; have : ((sI w 61 15 a0).1 63 (((sI w 61 15 a0).1 77 r8733.toInt.toNat).toInt.toNat)).toInt = (w.1 63 ((w.1 77 r8733.toInt.toNat).toInt.toNat)).toInt := rfl; have : ((sI w 61 15 a0).1 63 (((sI w 61 15 a0).1 77 r8733.toInt.toNat).toInt.toNat)).toInt = (w.1 63 (((sI w 61 15 a0).1 77 r8733.toInt.toNat).toInt.toNat)).toInt := rfl; have := (by decide : ((0 : Int32)).toInt = 0); omega))
        have o8742 : ((-1) ≤ (w8730.1 77 r8733.toInt.toNat).toInt) ∧ ((w8730.1 77 r8733.toInt.toNat).toInt ≤ 300) := by have := bd_77 hI8731 r8733.toInt.toNat; have := bd_77 hI r8733.toInt.toNat; have : ((sI w 61 15 a0).1 77 r8733.toInt.toNat).toInt = (w.1 77 r8733.toInt.toNat).toInt := rfl; have := (congrArg Int32.toInt (hL8732 77 r8733.toInt.toNat rfl).1); have : ((sI w 61 15 a0).1 63 (((sI w 61 15 a0).1 77 r8733.toInt.toNat).toInt.toNat)).toInt = (w.1 63 ((w.1 77 r8733.toInt.toNat).toInt.toNat)).toInt := rfl; have : ((sI w 61 15 a0).1 63 (((sI w 61 15 a0).1 77 r8733.toInt.toNat).toInt.toNat)).toInt = (w.1 63 (((sI w 61 15 a0).1 77 r8733.toInt.toNat).toInt.toNat)).toInt := rfl; have := (by decide : ((0 : Int32)).toInt = 0); (try have := rk_use (RK_fr hL8732 rfl (RK_fr (l := [(61, some 15)]) (FR.I (FR.refl _ w) (k := 61) (j := 15) (v := a0) rfl) rfl hf_RK)) hW8743 (by omega)); exact ⟨by omega, by omega⟩
        exact hQ _ _ hI8731 hF8739  o8742.1 o8742.2
      · have o8744 : ((-1) ≤ ((-1) : Int32).toInt) ∧ (((-1) : Int32).toInt ≤ 300) := by have := (by decide : (((-1) : Int32)).toInt = (-1)); exact ⟨by omega, by omega⟩
        exact hQ _ _ hI8731 hF8739  o8744.1 o8744.2
  · refine ⟨fun h8745 => ?_, fun h8745 => ?_⟩
    · refine ⟨fun _ => ?_, fun h => absurd (by decide) h⟩
      have hI8746 : BND (sI w 61 15 a0) := wbd_61_15 hI
      have o8747 : ((-1) ≤ ((-1) : Int32).toInt) ∧ (((-1) : Int32).toInt ≤ 300) := by have := (by decide : (((-1) : Int32)).toInt = (-1)); exact ⟨by omega, by omega⟩
      exact hQ _ _ hI8746 (FR.I (FR.refl _ w) (k := 61) (j := 15) (v := a0) rfl)  o8747.1 o8747.2
    · refine ⟨fun h => absurd h (by decide), fun _ => ?_⟩
      refine ⟨fun h8748 => ?_, fun h8748 => ?_⟩
      · have hI8749 : BND (sI w 61 15 a0) := wbd_61_15 hI
        have o8750 : ((-1) ≤ ((-1) : Int32).toInt) ∧ (((-1) : Int32).toInt ≤ 300) := by have := (by decide : (((-1) : Int32)).toInt = (-1)); exact ⟨by omega, by omega⟩
        exact hQ _ _ hI8749 (FR.I (FR.refl _ w) (k := 61) (j := 15) (v := a0) rfl)  o8750.1 o8750.2
      · have hI8751 : BND (sI w 61 15 a0) := wbd_61_15 hI
        have hW8752 : RC (sI w 61 15 a0) := (RC_fr (l := [(61, some 15)]) (FR.I (FR.refl _ w) (k := 61) (j := 15) (v := a0) rfl) rfl hf_RC)
        have o8753 : (0 ≤ (0 : Int32).toInt) ∧ ((0 : Int32).toInt ≤ 500) ∧ (0 ≤ (0 : Int32).toInt) ∧ ((0 : Int32).toInt ≤ 1) ∧ (0 ≤ (0 : Int32).toInt) ∧ ((0 : Int32).toInt ≤ 100) := by have := (by decide : ((0 : Int32)).toInt = 0); exact ⟨by omega, by omega, by omega, by omega, by omega, by omega⟩
        have hW8754 : ZL (0 : Int32) (sI w 61 15 a0) := (zl_ro (RO_fr (l := [(61, some 15)]) (FR.I (FR.refl _ w) (k := 61) (j := 15) (v := a0) rfl) rfl hf_RO) (by have := bd_80 hI 0; have : ((sI w 61 15 a0).1 80 0).toInt = (w.1 80 0).toInt := rfl; have := bd_62_2 hI; have : ((sI w 61 15 a0).1 62 2).toInt = (w.1 62 2).toInt := rfl; have := bd_61_4 hI; have : ((sI w 61 15 a0).1 61 4).toInt = (w.1 61 4).toInt := rfl; have := (by decide : ((0 : Int32)).toInt = 0); have := (by decide : ((2 : Int32)).toInt = 2); have := RS_ex (RS_fr (l := [(61, some 15)]) (FR.I (FR.refl _ w) (k := 61) (j := 15) (v := a0) rfl) rfl hf_RS); have := RS_ex hf_RS; omega))
        refine h_Ru_seek hI8751 hW8752 (RF_fr (l := [(61, some 15)]) (FR.I (FR.refl _ w) (k := 61) (j := 15) (v := a0) rfl) rfl hf_RF) (RK_fr (l := [(61, some 15)]) (FR.I (FR.refl _ w) (k := 61) (j := 15) (v := a0) rfl) rfl hf_RK) (RX_fr (l := [(61, some 15)]) (FR.I (FR.refl _ w) (k := 61) (j := 15) (v := a0) rfl) rfl hf_RX) hr_61_3 o8753.1 o8753.2.1 o8753.2.2.1 o8753.2.2.2.1 o8753.2.2.2.2.1 o8753.2.2.2.2.2 hW8754 (fun r8758 w8755 hI8756 hL8757 p8759 p8760 p8761 p8762 p8763 => ?_)
        have hF8764 : FR l_Ru_standingNode w w8755 := (FR.I (FR.refl _ w) (k := 61) (j := 15) (v := a0) rfl).tr hL8757 rfl
        refine ⟨fun h8765 => ?_, fun h8765 => ?_⟩
        · have o8766 : 0 ≤ r8758.toInt ∧ r8758.toInt < 501 := by have := bd_77 hI r8758.toInt.toNat; have : ((sI w 61 15 a0).1 77 r8758.toInt.toNat).toInt = (w.1 77 r8758.toInt.toNat).toInt := rfl; have : ((sI w 61 15 a0).1 63 (((sI w 61 15 a0).1 77 r8758.toInt.toNat).toInt.toNat)).toInt = (w.1 63 ((w.1 77 r8758.toInt.toNat).toInt.toNat)).toInt := rfl; have : ((sI w 61 15 a0).1 63 (((sI w 61 15 a0).1 77 r8758.toInt.toNat).toInt.toNat)).toInt = (w.1 63 (((sI w 61 15 a0).1 77 r8758.toInt.toNat).toInt.toNat)).toInt := rfl; have := (by decide : ((0 : Int32)).toInt = 0); omega
          refine ⟨o8766, ?_⟩
          have hW8768 : ZL r8758 w8755 := (p8761.resolve_left (by have := bd_77 hI r8758.toInt.toNat; have : ((sI w 61 15 a0).1 77 r8758.toInt.toNat).toInt = (w.1 77 r8758.toInt.toNat).toInt := rfl; have : ((sI w 61 15 a0).1 63 (((sI w 61 15 a0).1 77 r8758.toInt.toNat).toInt.toNat)).toInt = (w.1 63 ((w.1 77 r8758.toInt.toNat).toInt.toNat)).toInt := rfl; have : ((sI w 61 15 a0).1 63 (((sI w 61 15 a0).1 77 r8758.toInt.toNat).toInt.toNat)).toInt = (w.1 63 (((sI w 61 15 a0).1 77 r8758.toInt.toNat).toInt.toNat)).toInt := rfl; have := (by decide : ((0 : Int32)).toInt = 0); omega))
          have o8767 : ((-1) ≤ (w8755.1 77 r8758.toInt.toNat).toInt) ∧ ((w8755.1 77 r8758.toInt.toNat).toInt ≤ 300) := by have := bd_77 hI8756 r8758.toInt.toNat; have := bd_77 hI r8758.toInt.toNat; have : ((sI w 61 15 a0).1 77 r8758.toInt.toNat).toInt = (w.1 77 r8758.toInt.toNat).toInt := rfl; have := (congrArg Int32.toInt (hL8757 77 r8758.toInt.toNat rfl).1); have : ((sI w 61 15 a0).1 63 (((sI w 61 15 a0).1 77 r8758.toInt.toNat).toInt.toNat)).toInt = (w.1 63 ((w.1 77 r8758.toInt.toNat).toInt.toNat)).toInt := rfl; have : ((sI w 61 15 a0).1 63 (((sI w 61 15 a0).1 77 r8758.toInt.toNat).toInt.toNat)).toInt = (w.1 63 (((sI w 61 15 a0).1 77 r8758.toInt.toNat).toInt.toNat)).toInt := rfl; have := (by decide : ((0 : Int32)).toInt = 0); (try have := rk_use (RK_fr hL8757 rfl (RK_fr (l := [(61, some 15)]) (FR.I (FR.refl _ w) (k := 61) (j := 15) (v := a0) rfl) rfl hf_RK)) hW8768 (by omega)); exact ⟨by omega, by omega⟩
          exact hQ _ _ hI8756 hF8764  o8767.1 o8767.2
        · have o8769 : ((-1) ≤ ((-1) : Int32).toInt) ∧ (((-1) : Int32).toInt ≤ 300) := by have := (by decide : (((-1) : Int32)).toInt = (-1)); exact ⟨by omega, by omega⟩
          exact hQ _ _ hI8756 hF8764  o8769.1 o8769.2
def l_Wa_get_79 : Pl := []
def l_Wa_get : Pl := []
set_option maxRecDepth 20000 in
set_option maxHeartbeats 2000000 in
theorem hq_Wa_get_79 {x79_2 : Int32} {E : Int32 → MW → Prop} {Q : Int32 → MW → Prop} (n : Nat) : ∀ (x79_3 : Int32) (x79_4 : Int32) (w : MW), BND w → 3 ≤ x79_2.toInt → x79_2.toInt ≤ 26 → (-1) ≤ x79_3.toInt → x79_3.toInt ≤ 23 → 3 ≤ x79_4.toInt → x79_4.toInt ≤ 26 → (26 - x79_4.toInt).toNat < n → (∀ (e79_3 : Int32) (w' : MW), BND w' → FR l_Wa_get_79 w w' → (-1) ≤ e79_3.toInt → e79_3.toInt ≤ 23 → E e79_3 w') → (∀ (r : Int32) (w' : MW), BND w' → FR l_Wa_get_79 w w' → False → Q r w') → q_Wa_get_79 x79_2 E Q n x79_3 x79_4 w := by
  induction n with
  | zero => intros; omega
  | succ n ih =>
    intro x79_3 x79_4 w hI  hp0 hp1 hp2 hp3 hp4 hp5 hm hE hQ
    rw [q_Wa_get_79.eq_2]
    refine ⟨fun h8770 => ?_, fun h8770 => ?_⟩
    · have o8771 : ((-1) ≤ x79_3.toInt) ∧ (x79_3.toInt ≤ 23) := by exact ⟨by omega, by omega⟩
      exact hE _ _ hI (FR.refl _ w) o8771.1 o8771.2
    · refine ⟨fun h8772 => ?_, fun h8772 => ?_⟩
      · have o8773 : ((-1) ≤ x79_3.toInt) ∧ (x79_3.toInt ≤ 23) := by have := (by decide : ((0 : Int32)).toInt = 0); exact ⟨by omega, by omega⟩
        exact hE _ _ hI (FR.refl _ w) o8773.1 o8773.2
      · have o8774 : 0 ≤ x79_3.toInt ∧ x79_3.toInt < 24 := by have := (by decide : ((0 : Int32)).toInt = 0); omega
        refine ⟨o8774, ?_⟩
        have o8775 : (3 ≤ x79_2.toInt) ∧ (x79_2.toInt ≤ 26) ∧ ((-1) ≤ (w.1 35 x79_3.toInt.toNat).toInt) ∧ ((w.1 35 x79_3.toInt.toNat).toInt ≤ 23) ∧ (3 ≤ (x79_4 + (1 : Int32)).toInt) ∧ ((x79_4 + (1 : Int32)).toInt ≤ 26) := by have := bd_35 hI x79_3.toInt.toNat; have := ti_add2 (Eq.refl x79_4.toInt) (by decide : ((1 : Int32)).toInt = 1) (by omega) (by omega); exact ⟨by omega, by omega, by omega, by omega, by omega, by omega⟩
        exact ih _ _ w hI  o8775.1 o8775.2.1 o8775.2.2.1 o8775.2.2.2.1 o8775.2.2.2.2.1 o8775.2.2.2.2.2 (by have := bd_35 hI x79_3.toInt.toNat; have := ti_add2 (Eq.refl x79_4.toInt) (by decide : ((1 : Int32)).toInt = 1) (by omega) (by omega); omega) (fun e0 w9 hI9 hF9 p0 p1 => hE e0 w9 hI9 ((FR.refl _ w).tr hF9 rfl) p0 p1 ) (fun r w9 hI9 hF9 q0 => q0.elim)
set_option maxRecDepth 20000 in
set_option maxHeartbeats 2000000 in
theorem h_Wa_get {w : MW} {a0 : Int32} {b0 : Int32} {Q : Int32 → MW → Prop} (hI : BND w)  (hQ : ∀ (r : Int32) (w' : MW), BND w' → FR l_Wa_get w w' → (-1) ≤ r.toInt → r.toInt ≤ 24 → Q r w') : p_Wa_get w a0 b0 Q := by
  refine Eq.mpr (p_Wa_get.eq_1 _ _ _ _) ?_
  refine ⟨fun h8776 => ?_, fun h8776 => ?_⟩
  · have o8777 : ((-1) ≤ ((-1) : Int32).toInt) ∧ (((-1) : Int32).toInt ≤ 24) := by have := (by decide : (((-1) : Int32)).toInt = (-1)); exact ⟨by omega, by omega⟩
    exact hQ _ _ hI (FR.refl _ w)  o8777.1 o8777.2
  · refine ⟨fun h8778 => ?_, fun h8778 => ?_⟩
    · have o8779 : ((-1) ≤ ((-1) : Int32).toInt) ∧ (((-1) : Int32).toInt ≤ 24) := by have := (by decide : (((-1) : Int32)).toInt = (-1)); exact ⟨by omega, by omega⟩
      exact hQ _ _ hI (FR.refl _ w)  o8779.1 o8779.2
    · refine ⟨fun h8780 => ?_, fun h8780 => ?_⟩
      · have o8781 : ((-1) ≤ ((-1) : Int32).toInt) ∧ (((-1) : Int32).toInt ≤ 24) := by have := (by decide : (((-1) : Int32)).toInt = (-1)); exact ⟨by omega, by omega⟩
        exact hQ _ _ hI (FR.refl _ w)  o8781.1 o8781.2
      · have o8782 : 0 ≤ a0.toInt ∧ a0.toInt < 24 := by have := (by decide : ((0 : Int32)).toInt = 0); have := bd_26_1 hI; omega
        refine ⟨o8782, ?_⟩
        refine ⟨fun h8783 => ?_, fun h8783 => ?_⟩
        · refine ⟨fun h8784 => ?_, fun h8784 => ?_⟩
          · have o8785 : 0 ≤ a0.toInt ∧ a0.toInt < 24 := by have := (by decide : ((0 : Int32)).toInt = 0); have := bd_26_1 hI; omega
            refine ⟨o8785, ?_⟩
            have o8786 : (3 ≤ b0.toInt) ∧ (b0.toInt ≤ 26) ∧ ((-1) ≤ (w.1 32 a0.toInt.toNat).toInt) ∧ ((w.1 32 a0.toInt.toNat).toInt ≤ 23) ∧ (3 ≤ (3 : Int32).toInt) ∧ ((3 : Int32).toInt ≤ 26) := by have := bd_32 hI a0.toInt.toNat; have := (by decide : ((3 : Int32)).toInt = 3); have := (by decide : ((0 : Int32)).toInt = 0); have := bd_31 hI a0.toInt.toNat; have := ti_add2 (by decide : ((3 : Int32)).toInt = 3) (Eq.refl (w.1 31 a0.toInt.toNat).toInt) (by omega) (by omega); exact ⟨by omega, by omega, by omega, by omega, by omega, by omega⟩
            refine hq_Wa_get_79 FU _ _ w hI  o8786.1 o8786.2.1 o8786.2.2.1 o8786.2.2.2.1 o8786.2.2.2.2.1 o8786.2.2.2.2.2 (fu_lt (by have := bd_32 hI a0.toInt.toNat; have := (by decide : ((3 : Int32)).toInt = 3); have := (by decide : ((0 : Int32)).toInt = 0); have := bd_31 hI a0.toInt.toNat; have := ti_add2 (by decide : ((3 : Int32)).toInt = 3) (Eq.refl (w.1 31 a0.toInt.toNat).toInt) (by omega) (by omega); omega)) (fun e8790 w8787 hI8788 hL8789 p8791 p8792 => ?_) (fun r w9 hI9 hF9 q0 => q0.elim)
            have hF8793 : FR l_Wa_get w w8787 := (FR.refl _ w).tr hL8789 rfl
            have o8794 : ((-1) ≤ e8790.toInt) ∧ (e8790.toInt ≤ 24) := by exact ⟨by omega, by omega⟩
            exact hQ _ _ hI8788 hF8793  o8794.1 o8794.2
          · refine ⟨fun h8795 => ?_, fun h8795 => ?_⟩
            · refine ⟨fun h8796 => ?_, fun h8796 => ?_⟩
              · have o8797 : 0 ≤ a0.toInt ∧ a0.toInt < 24 := by have := (by decide : ((0 : Int32)).toInt = 0); have := bd_26_1 hI; omega
                refine ⟨o8797, ?_⟩
                have o8798 : ((-1) ≤ (w.1 31 a0.toInt.toNat).toInt) ∧ ((w.1 31 a0.toInt.toNat).toInt ≤ 24) := by have := bd_31 hI a0.toInt.toNat; have := (by decide : ((3 : Int32)).toInt = 3); have := (by decide : ((0 : Int32)).toInt = 0); have := (by decide : ((1 : Int32)).toInt = 1); have := ti_add2 (by decide : ((3 : Int32)).toInt = 3) (Eq.refl (w.1 31 a0.toInt.toNat).toInt) (by omega) (by omega); exact ⟨by omega, by omega⟩
                exact hQ _ _ hI (FR.refl _ w)  o8798.1 o8798.2
              · have o8799 : 0 ≤ a0.toInt ∧ a0.toInt < 24 := by have := (by decide : ((0 : Int32)).toInt = 0); have := bd_26_1 hI; omega
                refine ⟨o8799, ?_⟩
                have o8800 : ((-1) ≤ (w.1 28 a0.toInt.toNat).toInt) ∧ ((w.1 28 a0.toInt.toNat).toInt ≤ 24) := by have := bd_28 hI a0.toInt.toNat; exact ⟨by omega, by omega⟩
                exact hQ _ _ hI (FR.refl _ w)  o8800.1 o8800.2
            · have o8801 : 0 ≤ a0.toInt ∧ a0.toInt < 24 := by have := (by decide : ((0 : Int32)).toInt = 0); have := bd_26_1 hI; omega
              refine ⟨o8801, ?_⟩
              have o8802 : ((-1) ≤ (w.1 27 a0.toInt.toNat).toInt) ∧ ((w.1 27 a0.toInt.toNat).toInt ≤ 24) := by have := bd_27 hI a0.toInt.toNat; exact ⟨by omega, by omega⟩
              exact hQ _ _ hI (FR.refl _ w)  o8802.1 o8802.2
        · have o8803 : ((-1) ≤ ((-1) : Int32).toInt) ∧ (((-1) : Int32).toInt ≤ 24) := by have := (by decide : (((-1) : Int32)).toInt = (-1)); exact ⟨by omega, by omega⟩
          exact hQ _ _ hI (FR.refl _ w)  o8803.1 o8803.2
def l_Bh_space : Pl := []
set_option maxRecDepth 20000 in
set_option maxHeartbeats 2000000 in
theorem h_Bh_space {w : MW} {a0 : Int32} {b0 : Int32} {Q : Int32 → MW → Prop} (hI : BND w) (hr_7_0 : w.2.2 7 0 = some 8)  (hQ : ∀ (r : Int32) (w' : MW), BND w' → FR l_Bh_space w w' → Q r w') : p_Bh_space w a0 b0 Q := by
  refine Eq.mpr (p_Bh_space.eq_1 _ _ _ _) ?_
  refine ⟨fun h8804 => ?_, fun h8804 => ?_⟩
  · refine h_St_isHolder hI hr_7_0  (fun r8808 w8805 hI8806 hL8807 p8809 p8810 p8811 => ?_)
    have hF8812 : FR l_Bh_space w w8805 := (FR.refl _ w).tr hL8807 rfl
    refine ⟨fun h8813 => ?_, fun h8813 => ?_⟩
    · refine ⟨fun h8814 => ?_, fun h8814 => ?_⟩
      · have o8815 : 0 ≤ a0.toInt ∧ a0.toInt < 44 := by have := ti_lo a0; have := ti_hi a0; have := bd_8_0 hI; have := bd_8_1 hI; have := (by decide : ((0 : Int32)).toInt = 0); omega
        refine ⟨o8815, ?_⟩
        exact hQ _ _ hI8806 hF8812 
      · refine ⟨fun h8816 => ?_, fun h8816 => ?_⟩
        · have o8817 : 0 ≤ a0.toInt ∧ a0.toInt < 44 := by have := ti_lo a0; have := ti_hi a0; have := bd_8_0 hI; have := bd_8_1 hI; have := (by decide : ((0 : Int32)).toInt = 0); omega
          refine ⟨o8817, ?_⟩
          exact hQ _ _ hI8806 hF8812 
        · refine ⟨fun h8818 => ?_, fun h8818 => ?_⟩
          · have o8819 : 0 ≤ a0.toInt ∧ a0.toInt < 44 := by have := ti_lo a0; have := ti_hi a0; have := bd_8_0 hI; have := bd_8_1 hI; have := (by decide : ((0 : Int32)).toInt = 0); omega
            refine ⟨o8819, ?_⟩
            refine ⟨fun h8820 => ?_, fun h8820 => ?_⟩
            · have o8821 : 0 ≤ a0.toInt ∧ a0.toInt < 44 := by have := bd_8_0 hI; have := bd_8_1 hI; have := (by decide : ((0 : Int32)).toInt = 0); omega
              refine ⟨o8821, ?_⟩
              exact hQ _ _ hI8806 hF8812 
            · have o8822 : 0 ≤ a0.toInt ∧ a0.toInt < 44 := by have := bd_8_0 hI; have := bd_8_1 hI; have := (by decide : ((0 : Int32)).toInt = 0); omega
              refine ⟨o8822, ?_⟩
              exact hQ _ _ hI8806 hF8812 
          · refine ⟨fun h8823 => ?_, fun h8823 => ?_⟩
            · refine Eq.mpr (p_St_levelOf.eq_1 _ _ _) ?_
              have o8824 : 0 ≤ a0.toInt ∧ a0.toInt < 44 := by have := ti_lo a0; have := ti_hi a0; have := bd_8_0 hI; have := bd_8_1 hI; have := (by decide : ((0 : Int32)).toInt = 0); omega
              refine ⟨o8824, ?_⟩
              refine ⟨fun h8825 => ?_, fun h8825 => ?_⟩
              · exact hQ _ _ hI8806 hF8812
              · have o8826 : 0 ≤ a0.toInt ∧ a0.toInt < 44 := by have := bd_8_0 hI; have := bd_8_1 hI; have := (by decide : ((0 : Int32)).toInt = 0); omega
                refine ⟨o8826, ?_⟩
                refine ⟨fun h8827 => ?_, fun h8827 => ?_⟩
                · have o8828 : (0 ≤ a0.toInt) ∧ (a0.toInt ≤ 43) := by have := bd_8_0 hI; have := bd_8_1 hI; have := (by decide : ((0 : Int32)).toInt = 0); exact ⟨by omega, by omega⟩
                  refine h_St_heldLevel hI8806  o8828.1 o8828.2 (fun r8832 w8829 hI8830 hL8831 p8833 p8834 => ?_)
                  have hF8835 : FR l_Bh_space w w8829 := hF8812.tr hL8831 rfl
                  exact hQ _ _ hI8830 hF8835 
                · exact hQ _ _ hI8806 hF8812
            · exact hQ _ _ hI8806 hF8812
    · exact hQ _ _ hI8806 hF8812
  · refine Eq.mpr (p_St_isValve.eq_1 _ _ _) ?_
    refine ⟨fun h8836 => ?_, fun h8836 => ?_⟩
    · refine ⟨fun _ => ?_, fun h => absurd (by decide) h⟩
      exact hQ _ _ hI (FR.refl _ w) 
    · refine ⟨hr_7_0, ?_⟩
      refine ⟨fun h8837 => ?_, fun h8837 => ?_⟩
      · refine ⟨fun _ => ?_, fun h => absurd (by decide) h⟩
        exact hQ _ _ hI (FR.refl _ w) 
      · refine ⟨hr_7_0, ?_⟩
        have o8838 : 0 ≤ a0.toInt ∧ a0.toInt < 20 := by have := (by decide : ((0 : Int32)).toInt = 0); have := bd_8_0 hI; omega
        refine ⟨o8838, ?_⟩
        refine ⟨fun h8839 => ?_, fun h8839 => ?_⟩
        · refine ⟨fun _ => ?_, fun h => absurd (by decide) h⟩
          exact hQ _ _ hI (FR.refl _ w) 
        · refine ⟨fun h => absurd h (by decide), fun _ => ?_⟩
          have o8840 : 0 ≤ a0.toInt ∧ a0.toInt < 20 := by have := (by decide : ((0 : Int32)).toInt = 0); have := bd_8_0 hI; omega
          refine ⟨o8840, ?_⟩
          exact hQ _ _ hI (FR.refl _ w) 
def l_Bh_danger : Pl := [(42, some 6), (42, some 7), (42, some 8), (42, some 9), (43, none), (44, none), (45, none), (46, none)]
set_option maxRecDepth 20000 in
set_option maxHeartbeats 2000000 in
theorem h_Bh_danger {w : MW} {a0 : Int32} {Q : Int32 → MW → Prop} (hI : BND w) (hf_PE : PE w) (hf_PL : PL w) (hr_7_0 : w.2.2 7 0 = some 8)  (hQ : ∀ (r : Int32) (w' : MW), BND w' → FR l_Bh_danger w w' → Q r w') : p_Bh_danger w a0 Q := by
  refine Eq.mpr (p_Bh_danger.eq_1 _ _ _) ?_
  refine h_Sf_isSafe hI hf_PE hf_PL hr_7_0  (fun r8844 w8841 hI8842 hL8843 p8845 p8846 => ?_)
  have hF8847 : FR l_Bh_danger w w8841 := (FR.refl _ w).tr hL8843 rfl
  refine ⟨fun h8848 => ?_, fun h8848 => ?_⟩
  · refine ⟨fun h8849 => ?_, fun h8849 => ?_⟩
    · refine ⟨fun h8850 => ?_, fun h8850 => ?_⟩
      · exact hQ _ _ hI8842 hF8847
      · refine ⟨fun h8851 => ?_, fun h8851 => ?_⟩
        · exact hQ _ _ hI8842 hF8847
        · refine ⟨fun h8852 => ?_, fun h8852 => ?_⟩
          · exact hQ _ _ hI8842 hF8847
          · exact hQ _ _ hI8842 hF8847
    · exact hQ _ _ hI8842 hF8847
  · exact hQ _ _ hI8842 hF8847
def l_Mo_feed_72 : Pl := [(127, some 1), (128, none)]
def l_Mo_feed_19 : Pl := [(127, some 1), (128, none)]
def l_Mo_feed : Pl := [(127, some 1), (128, none)]
set_option maxRecDepth 20000 in
set_option maxHeartbeats 2000000 in
theorem hq_Mo_feed_19 {x19_1 : Int32} {x19_2 : Int32} {x19_3 : Int32} {x19_4 : Int32} {x19_5 : Int32} {E : MW → Prop} {Q : Int32 → MW → Prop} (n : Nat) : ∀ (x19_6 : Int32) (w : MW), BND w → 0 ≤ x19_6.toInt → x19_6.toInt ≤ 20 → (w.1 127 1).toInt + 20 - x19_6.toInt ≤ 4020 → (20 - x19_6.toInt).toNat < n → (∀ (w' : MW), BND w' → FR l_Mo_feed_19 w w' → E w') → (∀ (r : Int32) (w' : MW), BND w' → FR l_Mo_feed_19 w w' → False → Q r w') → q_Mo_feed_19 x19_1 x19_2 x19_3 x19_4 x19_5 E Q n x19_6 w := by
  induction n with
  | zero => intros; omega
  | succ n ih =>
    intro x19_6 w hI  hp0 hp1 hp2 hm hE hQ
    rw [q_Mo_feed_19.eq_2]
    refine ⟨fun h8853 => ?_, fun h8853 => ?_⟩
    · exact hE _ hI (FR.refl _ w)
    · refine ⟨fun h8854 => ?_, fun h8854 => ?_⟩
      · refine ⟨fun h8855 => ?_, fun h8855 => ?_⟩
        · refine ⟨fun h8856 => ?_, fun h8856 => ?_⟩
          · refine ⟨fun h8857 => ?_, fun h8857 => ?_⟩
            · refine Eq.mpr (q_Mo_feed_72.eq_1 _ _ _ _ _ _ _ _ _ _ _) ?_
              have o8858 : 0 ≤ (w.1 127 1).toInt ∧ (w.1 127 1).toInt < 4020 := by have := bd_127_1 hI; have := (by decide : ((20 : Int32)).toInt = 20); have := (by decide : ((4 : Int32)).toInt = 4); have := (by decide : ((8 : Int32)).toInt = 8); have := (by decide : ((12 : Int32)).toInt = 12); have := (by decide : ((16 : Int32)).toInt = 16); omega
              refine ⟨o8858, ?_⟩
              have o8860 : (-128) ≤ (vp_nar .byte ((Int32.toInt8 ((x19_5.toUInt32 >>> (((24 : Int32) - ((8 : Int32) * (x19_6 - x19_6 / (4 : Int32) * (4 : Int32)))).toUInt32 &&& Int32.toUInt32 31)).toInt32)).toInt32)).toInt ∧ (vp_nar .byte ((Int32.toInt8 ((x19_5.toUInt32 >>> (((24 : Int32) - ((8 : Int32) * (x19_6 - x19_6 / (4 : Int32) * (4 : Int32)))).toUInt32 &&& Int32.toUInt32 31)).toInt32)).toInt32)).toInt ≤ 127 := by have := ti_lo ((x19_5.toUInt32 >>> (((24 : Int32) - ((8 : Int32) * (x19_6 - x19_6 / (4 : Int32) * (4 : Int32)))).toUInt32 &&& Int32.toUInt32 31)).toInt32); have := ti_hi ((x19_5.toUInt32 >>> (((24 : Int32) - ((8 : Int32) * (x19_6 - x19_6 / (4 : Int32) * (4 : Int32)))).toUInt32 &&& Int32.toUInt32 31)).toInt32); have := ti_lo x19_5; have := ti_hi x19_5; have := bd_127_1 hI; have := (by decide : ((20 : Int32)).toInt = 20); have := (by decide : ((4 : Int32)).toInt = 4); have := (by decide : ((8 : Int32)).toInt = 8); have := (by decide : ((12 : Int32)).toInt = 12); have := (by decide : ((16 : Int32)).toInt = 16); have := nb_rem (x := x19_6) (by omega) (by decide : ((4 : Int32)).toInt = 4) (by decide); have := ti_mul2 (by decide : ((8 : Int32)).toInt = 8) (Eq.refl (x19_6 - x19_6 / (4 : Int32) * (4 : Int32)).toInt) (by omega) (by omega); have := ti_sub2 (by decide : ((24 : Int32)).toInt = 24) (Eq.refl ((8 : Int32) * (x19_6 - x19_6 / (4 : Int32) * (4 : Int32))).toInt) (by omega) (by omega); have := nb_i2b ((x19_5.toUInt32 >>> (((24 : Int32) - ((8 : Int32) * (x19_6 - x19_6 / (4 : Int32) * (4 : Int32)))).toUInt32 &&& Int32.toUInt32 31)).toInt32); have := nb_byteq (x := ((Int32.toInt8 ((x19_5.toUInt32 >>> (((24 : Int32) - ((8 : Int32) * (x19_6 - x19_6 / (4 : Int32) * (4 : Int32)))).toUInt32 &&& Int32.toUInt32 31)).toInt32)).toInt32)) (by omega) (by omega); omega
              have hI8859 : BND (sI w 128 ((w.1 127 1).toInt.toNat) (vp_nar .byte ((Int32.toInt8 ((x19_5.toUInt32 >>> (((24 : Int32) - ((8 : Int32) * (x19_6 - x19_6 / (4 : Int32) * (4 : Int32)))).toUInt32 &&& Int32.toUInt32 31)).toInt32)).toInt32))) := wbd_128 hI ((w.1 127 1).toInt.toNat) o8860.1 o8860.2
              have o8862 : 0 ≤ ((w.1 127 1) + (1 : Int32)).toInt ∧ ((w.1 127 1) + (1 : Int32)).toInt ≤ 4020 := by have := bd_127_1 hI; have := (by decide : ((20 : Int32)).toInt = 20); have := (by decide : ((4 : Int32)).toInt = 4); have := (by decide : ((8 : Int32)).toInt = 8); have := (by decide : ((12 : Int32)).toInt = 12); have := (by decide : ((16 : Int32)).toInt = 16); have := ti_add2 (Eq.refl (w.1 127 1).toInt) (by decide : ((1 : Int32)).toInt = 1) (by omega) (by omega); omega
              have hI8861 : BND (sI (sI w 128 ((w.1 127 1).toInt.toNat) (vp_nar .byte ((Int32.toInt8 ((x19_5.toUInt32 >>> (((24 : Int32) - ((8 : Int32) * (x19_6 - x19_6 / (4 : Int32) * (4 : Int32)))).toUInt32 &&& Int32.toUInt32 31)).toInt32)).toInt32))) 127 1 ((w.1 127 1) + (1 : Int32))) := wbd_127_1 hI8859 o8862.1 o8862.2
              have o8863 : (0 ≤ (x19_6 + (1 : Int32)).toInt) ∧ ((x19_6 + (1 : Int32)).toInt ≤ 20) ∧ (((sI (sI w 128 ((w.1 127 1).toInt.toNat) (vp_nar .byte ((Int32.toInt8 ((x19_5.toUInt32 >>> (((24 : Int32) - ((8 : Int32) * (x19_6 - x19_6 / (4 : Int32) * (4 : Int32)))).toUInt32 &&& Int32.toUInt32 31)).toInt32)).toInt32))) 127 1 ((w.1 127 1) + (1 : Int32))).1 127 1).toInt + 20 - (x19_6 + (1 : Int32)).toInt ≤ 4020) := by have := bd_127_1 hI; have : ((sI (sI w 128 ((w.1 127 1).toInt.toNat) (vp_nar .byte ((Int32.toInt8 ((x19_5.toUInt32 >>> (((24 : Int32) - ((8 : Int32) * (x19_6 - x19_6 / (4 : Int32) * (4 : Int32)))).toUInt32 &&& Int32.toUInt32 31)).toInt32)).toInt32))) 127 1 ((w.1 127 1) + (1 : Int32))).1 127 1).toInt = ((w.1 127 1) + (1 : Int32)).toInt := rfl; have := (by decide : ((20 : Int32)).toInt = 20); have := (by decide : ((4 : Int32)).toInt = 4); have := (by decide : ((8 : Int32)).toInt = 8); have := (by decide : ((12 : Int32)).toInt = 12); have := (by decide : ((16 : Int32)).toInt = 16); have := ti_add2 (Eq.refl x19_6.toInt) (by decide : ((1 : Int32)).toInt = 1) (by omega) (by omega); have := ti_add2 (Eq.refl (w.1 127 1).toInt) (by decide : ((1 : Int32)).toInt = 1) (by omega) (by omega); exact ⟨by omega, by omega, by omega⟩
              exact ih _ (sI (sI w 128 ((w.1 127 1).toInt.toNat) (vp_nar .byte ((Int32.toInt8 ((x19_5.toUInt32 >>> (((24 : Int32) - ((8 : Int32) * (x19_6 - x19_6 / (4 : Int32) * (4 : Int32)))).toUInt32 &&& Int32.toUInt32 31)).toInt32)).toInt32))) 127 1 ((w.1 127 1) + (1 : Int32))) hI8861  o8863.1 o8863.2.1 o8863.2.2 (by have := bd_127_1 hI; have := (by decide : ((20 : Int32)).toInt = 20); have := (by decide : ((4 : Int32)).toInt = 4); have := (by decide : ((8 : Int32)).toInt = 8); have := (by decide : ((12 : Int32)).toInt = 12); have := (by decide : ((16 : Int32)).toInt = 16); have := ti_add2 (Eq.refl x19_6.toInt) (by decide : ((1 : Int32)).toInt = 1) (by omega) (by omega); omega) (fun w9 hI9 hF9 => hE w9 hI9 ((FR.I (FR.I (FR.refl _ w) (k := 128) (j := (w.1 127 1).toInt.toNat) (v := (vp_nar .byte ((Int32.toInt8 ((x19_5.toUInt32 >>> (((24 : Int32) - ((8 : Int32) * (x19_6 - x19_6 / (4 : Int32) * (4 : Int32)))).toUInt32 &&& Int32.toUInt32 31)).toInt32)).toInt32))) rfl) (k := 127) (j := 1) (v := ((w.1 127 1) + (1 : Int32))) rfl).tr hF9 rfl) ) (fun r w9 hI9 hF9 q0 => q0.elim)
            · refine Eq.mpr (q_Mo_feed_72.eq_1 _ _ _ _ _ _ _ _ _ _ _) ?_
              have o8864 : 0 ≤ (w.1 127 1).toInt ∧ (w.1 127 1).toInt < 4020 := by have := bd_127_1 hI; have := (by decide : ((20 : Int32)).toInt = 20); have := (by decide : ((4 : Int32)).toInt = 4); have := (by decide : ((8 : Int32)).toInt = 8); have := (by decide : ((12 : Int32)).toInt = 12); have := (by decide : ((16 : Int32)).toInt = 16); omega
              refine ⟨o8864, ?_⟩
              have o8866 : (-128) ≤ (vp_nar .byte ((Int32.toInt8 ((x19_4.toUInt32 >>> (((24 : Int32) - ((8 : Int32) * (x19_6 - x19_6 / (4 : Int32) * (4 : Int32)))).toUInt32 &&& Int32.toUInt32 31)).toInt32)).toInt32)).toInt ∧ (vp_nar .byte ((Int32.toInt8 ((x19_4.toUInt32 >>> (((24 : Int32) - ((8 : Int32) * (x19_6 - x19_6 / (4 : Int32) * (4 : Int32)))).toUInt32 &&& Int32.toUInt32 31)).toInt32)).toInt32)).toInt ≤ 127 := by have := ti_lo ((x19_4.toUInt32 >>> (((24 : Int32) - ((8 : Int32) * (x19_6 - x19_6 / (4 : Int32) * (4 : Int32)))).toUInt32 &&& Int32.toUInt32 31)).toInt32); have := ti_hi ((x19_4.toUInt32 >>> (((24 : Int32) - ((8 : Int32) * (x19_6 - x19_6 / (4 : Int32) * (4 : Int32)))).toUInt32 &&& Int32.toUInt32 31)).toInt32); have := ti_lo x19_4; have := ti_hi x19_4; have := bd_127_1 hI; have := (by decide : ((20 : Int32)).toInt = 20); have := (by decide : ((4 : Int32)).toInt = 4); have := (by decide : ((8 : Int32)).toInt = 8); have := (by decide : ((12 : Int32)).toInt = 12); have := (by decide : ((16 : Int32)).toInt = 16); have := nb_rem (x := x19_6) (by omega) (by decide : ((4 : Int32)).toInt = 4) (by decide); have := ti_mul2 (by decide : ((8 : Int32)).toInt = 8) (Eq.refl (x19_6 - x19_6 / (4 : Int32) * (4 : Int32)).toInt) (by omega) (by omega); have := ti_sub2 (by decide : ((24 : Int32)).toInt = 24) (Eq.refl ((8 : Int32) * (x19_6 - x19_6 / (4 : Int32) * (4 : Int32))).toInt) (by omega) (by omega); have := nb_i2b ((x19_4.toUInt32 >>> (((24 : Int32) - ((8 : Int32) * (x19_6 - x19_6 / (4 : Int32) * (4 : Int32)))).toUInt32 &&& Int32.toUInt32 31)).toInt32); have := nb_byteq (x := ((Int32.toInt8 ((x19_4.toUInt32 >>> (((24 : Int32) - ((8 : Int32) * (x19_6 - x19_6 / (4 : Int32) * (4 : Int32)))).toUInt32 &&& Int32.toUInt32 31)).toInt32)).toInt32)) (by omega) (by omega); omega
              have hI8865 : BND (sI w 128 ((w.1 127 1).toInt.toNat) (vp_nar .byte ((Int32.toInt8 ((x19_4.toUInt32 >>> (((24 : Int32) - ((8 : Int32) * (x19_6 - x19_6 / (4 : Int32) * (4 : Int32)))).toUInt32 &&& Int32.toUInt32 31)).toInt32)).toInt32))) := wbd_128 hI ((w.1 127 1).toInt.toNat) o8866.1 o8866.2
              have o8868 : 0 ≤ ((w.1 127 1) + (1 : Int32)).toInt ∧ ((w.1 127 1) + (1 : Int32)).toInt ≤ 4020 := by have := bd_127_1 hI; have := (by decide : ((20 : Int32)).toInt = 20); have := (by decide : ((4 : Int32)).toInt = 4); have := (by decide : ((8 : Int32)).toInt = 8); have := (by decide : ((12 : Int32)).toInt = 12); have := (by decide : ((16 : Int32)).toInt = 16); have := ti_add2 (Eq.refl (w.1 127 1).toInt) (by decide : ((1 : Int32)).toInt = 1) (by omega) (by omega); omega
              have hI8867 : BND (sI (sI w 128 ((w.1 127 1).toInt.toNat) (vp_nar .byte ((Int32.toInt8 ((x19_4.toUInt32 >>> (((24 : Int32) - ((8 : Int32) * (x19_6 - x19_6 / (4 : Int32) * (4 : Int32)))).toUInt32 &&& Int32.toUInt32 31)).toInt32)).toInt32))) 127 1 ((w.1 127 1) + (1 : Int32))) := wbd_127_1 hI8865 o8868.1 o8868.2
              have o8869 : (0 ≤ (x19_6 + (1 : Int32)).toInt) ∧ ((x19_6 + (1 : Int32)).toInt ≤ 20) ∧ (((sI (sI w 128 ((w.1 127 1).toInt.toNat) (vp_nar .byte ((Int32.toInt8 ((x19_4.toUInt32 >>> (((24 : Int32) - ((8 : Int32) * (x19_6 - x19_6 / (4 : Int32) * (4 : Int32)))).toUInt32 &&& Int32.toUInt32 31)).toInt32)).toInt32))) 127 1 ((w.1 127 1) + (1 : Int32))).1 127 1).toInt + 20 - (x19_6 + (1 : Int32)).toInt ≤ 4020) := by have := bd_127_1 hI; have : ((sI (sI w 128 ((w.1 127 1).toInt.toNat) (vp_nar .byte ((Int32.toInt8 ((x19_4.toUInt32 >>> (((24 : Int32) - ((8 : Int32) * (x19_6 - x19_6 / (4 : Int32) * (4 : Int32)))).toUInt32 &&& Int32.toUInt32 31)).toInt32)).toInt32))) 127 1 ((w.1 127 1) + (1 : Int32))).1 127 1).toInt = ((w.1 127 1) + (1 : Int32)).toInt := rfl; have := (by decide : ((20 : Int32)).toInt = 20); have := (by decide : ((4 : Int32)).toInt = 4); have := (by decide : ((8 : Int32)).toInt = 8); have := (by decide : ((12 : Int32)).toInt = 12); have := (by decide : ((16 : Int32)).toInt = 16); have := ti_add2 (Eq.refl x19_6.toInt) (by decide : ((1 : Int32)).toInt = 1) (by omega) (by omega); have := ti_add2 (Eq.refl (w.1 127 1).toInt) (by decide : ((1 : Int32)).toInt = 1) (by omega) (by omega); exact ⟨by omega, by omega, by omega⟩
              exact ih _ (sI (sI w 128 ((w.1 127 1).toInt.toNat) (vp_nar .byte ((Int32.toInt8 ((x19_4.toUInt32 >>> (((24 : Int32) - ((8 : Int32) * (x19_6 - x19_6 / (4 : Int32) * (4 : Int32)))).toUInt32 &&& Int32.toUInt32 31)).toInt32)).toInt32))) 127 1 ((w.1 127 1) + (1 : Int32))) hI8867  o8869.1 o8869.2.1 o8869.2.2 (by have := bd_127_1 hI; have := (by decide : ((20 : Int32)).toInt = 20); have := (by decide : ((4 : Int32)).toInt = 4); have := (by decide : ((8 : Int32)).toInt = 8); have := (by decide : ((12 : Int32)).toInt = 12); have := (by decide : ((16 : Int32)).toInt = 16); have := ti_add2 (Eq.refl x19_6.toInt) (by decide : ((1 : Int32)).toInt = 1) (by omega) (by omega); omega) (fun w9 hI9 hF9 => hE w9 hI9 ((FR.I (FR.I (FR.refl _ w) (k := 128) (j := (w.1 127 1).toInt.toNat) (v := (vp_nar .byte ((Int32.toInt8 ((x19_4.toUInt32 >>> (((24 : Int32) - ((8 : Int32) * (x19_6 - x19_6 / (4 : Int32) * (4 : Int32)))).toUInt32 &&& Int32.toUInt32 31)).toInt32)).toInt32))) rfl) (k := 127) (j := 1) (v := ((w.1 127 1) + (1 : Int32))) rfl).tr hF9 rfl) ) (fun r w9 hI9 hF9 q0 => q0.elim)
          · refine Eq.mpr (q_Mo_feed_72.eq_1 _ _ _ _ _ _ _ _ _ _ _) ?_
            have o8870 : 0 ≤ (w.1 127 1).toInt ∧ (w.1 127 1).toInt < 4020 := by have := bd_127_1 hI; have := (by decide : ((20 : Int32)).toInt = 20); have := (by decide : ((4 : Int32)).toInt = 4); have := (by decide : ((8 : Int32)).toInt = 8); have := (by decide : ((12 : Int32)).toInt = 12); omega
            refine ⟨o8870, ?_⟩
            have o8872 : (-128) ≤ (vp_nar .byte ((Int32.toInt8 ((x19_3.toUInt32 >>> (((24 : Int32) - ((8 : Int32) * (x19_6 - x19_6 / (4 : Int32) * (4 : Int32)))).toUInt32 &&& Int32.toUInt32 31)).toInt32)).toInt32)).toInt ∧ (vp_nar .byte ((Int32.toInt8 ((x19_3.toUInt32 >>> (((24 : Int32) - ((8 : Int32) * (x19_6 - x19_6 / (4 : Int32) * (4 : Int32)))).toUInt32 &&& Int32.toUInt32 31)).toInt32)).toInt32)).toInt ≤ 127 := by have := ti_lo ((x19_3.toUInt32 >>> (((24 : Int32) - ((8 : Int32) * (x19_6 - x19_6 / (4 : Int32) * (4 : Int32)))).toUInt32 &&& Int32.toUInt32 31)).toInt32); have := ti_hi ((x19_3.toUInt32 >>> (((24 : Int32) - ((8 : Int32) * (x19_6 - x19_6 / (4 : Int32) * (4 : Int32)))).toUInt32 &&& Int32.toUInt32 31)).toInt32); have := ti_lo x19_3; have := ti_hi x19_3; have := bd_127_1 hI; have := (by decide : ((20 : Int32)).toInt = 20); have := (by decide : ((4 : Int32)).toInt = 4); have := (by decide : ((8 : Int32)).toInt = 8); have := (by decide : ((12 : Int32)).toInt = 12); have := nb_rem (x := x19_6) (by omega) (by decide : ((4 : Int32)).toInt = 4) (by decide); have := ti_mul2 (by decide : ((8 : Int32)).toInt = 8) (Eq.refl (x19_6 - x19_6 / (4 : Int32) * (4 : Int32)).toInt) (by omega) (by omega); have := ti_sub2 (by decide : ((24 : Int32)).toInt = 24) (Eq.refl ((8 : Int32) * (x19_6 - x19_6 / (4 : Int32) * (4 : Int32))).toInt) (by omega) (by omega); have := nb_i2b ((x19_3.toUInt32 >>> (((24 : Int32) - ((8 : Int32) * (x19_6 - x19_6 / (4 : Int32) * (4 : Int32)))).toUInt32 &&& Int32.toUInt32 31)).toInt32); have := nb_byteq (x := ((Int32.toInt8 ((x19_3.toUInt32 >>> (((24 : Int32) - ((8 : Int32) * (x19_6 - x19_6 / (4 : Int32) * (4 : Int32)))).toUInt32 &&& Int32.toUInt32 31)).toInt32)).toInt32)) (by omega) (by omega); omega
            have hI8871 : BND (sI w 128 ((w.1 127 1).toInt.toNat) (vp_nar .byte ((Int32.toInt8 ((x19_3.toUInt32 >>> (((24 : Int32) - ((8 : Int32) * (x19_6 - x19_6 / (4 : Int32) * (4 : Int32)))).toUInt32 &&& Int32.toUInt32 31)).toInt32)).toInt32))) := wbd_128 hI ((w.1 127 1).toInt.toNat) o8872.1 o8872.2
            have o8874 : 0 ≤ ((w.1 127 1) + (1 : Int32)).toInt ∧ ((w.1 127 1) + (1 : Int32)).toInt ≤ 4020 := by have := bd_127_1 hI; have := (by decide : ((20 : Int32)).toInt = 20); have := (by decide : ((4 : Int32)).toInt = 4); have := (by decide : ((8 : Int32)).toInt = 8); have := (by decide : ((12 : Int32)).toInt = 12); have := ti_add2 (Eq.refl (w.1 127 1).toInt) (by decide : ((1 : Int32)).toInt = 1) (by omega) (by omega); omega
            have hI8873 : BND (sI (sI w 128 ((w.1 127 1).toInt.toNat) (vp_nar .byte ((Int32.toInt8 ((x19_3.toUInt32 >>> (((24 : Int32) - ((8 : Int32) * (x19_6 - x19_6 / (4 : Int32) * (4 : Int32)))).toUInt32 &&& Int32.toUInt32 31)).toInt32)).toInt32))) 127 1 ((w.1 127 1) + (1 : Int32))) := wbd_127_1 hI8871 o8874.1 o8874.2
            have o8875 : (0 ≤ (x19_6 + (1 : Int32)).toInt) ∧ ((x19_6 + (1 : Int32)).toInt ≤ 20) ∧ (((sI (sI w 128 ((w.1 127 1).toInt.toNat) (vp_nar .byte ((Int32.toInt8 ((x19_3.toUInt32 >>> (((24 : Int32) - ((8 : Int32) * (x19_6 - x19_6 / (4 : Int32) * (4 : Int32)))).toUInt32 &&& Int32.toUInt32 31)).toInt32)).toInt32))) 127 1 ((w.1 127 1) + (1 : Int32))).1 127 1).toInt + 20 - (x19_6 + (1 : Int32)).toInt ≤ 4020) := by have := bd_127_1 hI; have : ((sI (sI w 128 ((w.1 127 1).toInt.toNat) (vp_nar .byte ((Int32.toInt8 ((x19_3.toUInt32 >>> (((24 : Int32) - ((8 : Int32) * (x19_6 - x19_6 / (4 : Int32) * (4 : Int32)))).toUInt32 &&& Int32.toUInt32 31)).toInt32)).toInt32))) 127 1 ((w.1 127 1) + (1 : Int32))).1 127 1).toInt = ((w.1 127 1) + (1 : Int32)).toInt := rfl; have := (by decide : ((20 : Int32)).toInt = 20); have := (by decide : ((4 : Int32)).toInt = 4); have := (by decide : ((8 : Int32)).toInt = 8); have := (by decide : ((12 : Int32)).toInt = 12); have := ti_add2 (Eq.refl x19_6.toInt) (by decide : ((1 : Int32)).toInt = 1) (by omega) (by omega); have := ti_add2 (Eq.refl (w.1 127 1).toInt) (by decide : ((1 : Int32)).toInt = 1) (by omega) (by omega); exact ⟨by omega, by omega, by omega⟩
            exact ih _ (sI (sI w 128 ((w.1 127 1).toInt.toNat) (vp_nar .byte ((Int32.toInt8 ((x19_3.toUInt32 >>> (((24 : Int32) - ((8 : Int32) * (x19_6 - x19_6 / (4 : Int32) * (4 : Int32)))).toUInt32 &&& Int32.toUInt32 31)).toInt32)).toInt32))) 127 1 ((w.1 127 1) + (1 : Int32))) hI8873  o8875.1 o8875.2.1 o8875.2.2 (by have := bd_127_1 hI; have := (by decide : ((20 : Int32)).toInt = 20); have := (by decide : ((4 : Int32)).toInt = 4); have := (by decide : ((8 : Int32)).toInt = 8); have := (by decide : ((12 : Int32)).toInt = 12); have := ti_add2 (Eq.refl x19_6.toInt) (by decide : ((1 : Int32)).toInt = 1) (by omega) (by omega); omega) (fun w9 hI9 hF9 => hE w9 hI9 ((FR.I (FR.I (FR.refl _ w) (k := 128) (j := (w.1 127 1).toInt.toNat) (v := (vp_nar .byte ((Int32.toInt8 ((x19_3.toUInt32 >>> (((24 : Int32) - ((8 : Int32) * (x19_6 - x19_6 / (4 : Int32) * (4 : Int32)))).toUInt32 &&& Int32.toUInt32 31)).toInt32)).toInt32))) rfl) (k := 127) (j := 1) (v := ((w.1 127 1) + (1 : Int32))) rfl).tr hF9 rfl) ) (fun r w9 hI9 hF9 q0 => q0.elim)
        · refine Eq.mpr (q_Mo_feed_72.eq_1 _ _ _ _ _ _ _ _ _ _ _) ?_
          have o8876 : 0 ≤ (w.1 127 1).toInt ∧ (w.1 127 1).toInt < 4020 := by have := bd_127_1 hI; have := (by decide : ((20 : Int32)).toInt = 20); have := (by decide : ((4 : Int32)).toInt = 4); have := (by decide : ((8 : Int32)).toInt = 8); omega
          refine ⟨o8876, ?_⟩
          have o8878 : (-128) ≤ (vp_nar .byte ((Int32.toInt8 ((x19_2.toUInt32 >>> (((24 : Int32) - ((8 : Int32) * (x19_6 - x19_6 / (4 : Int32) * (4 : Int32)))).toUInt32 &&& Int32.toUInt32 31)).toInt32)).toInt32)).toInt ∧ (vp_nar .byte ((Int32.toInt8 ((x19_2.toUInt32 >>> (((24 : Int32) - ((8 : Int32) * (x19_6 - x19_6 / (4 : Int32) * (4 : Int32)))).toUInt32 &&& Int32.toUInt32 31)).toInt32)).toInt32)).toInt ≤ 127 := by have := ti_lo ((x19_2.toUInt32 >>> (((24 : Int32) - ((8 : Int32) * (x19_6 - x19_6 / (4 : Int32) * (4 : Int32)))).toUInt32 &&& Int32.toUInt32 31)).toInt32); have := ti_hi ((x19_2.toUInt32 >>> (((24 : Int32) - ((8 : Int32) * (x19_6 - x19_6 / (4 : Int32) * (4 : Int32)))).toUInt32 &&& Int32.toUInt32 31)).toInt32); have := ti_lo x19_2; have := ti_hi x19_2; have := bd_127_1 hI; have := (by decide : ((20 : Int32)).toInt = 20); have := (by decide : ((4 : Int32)).toInt = 4); have := (by decide : ((8 : Int32)).toInt = 8); have := nb_rem (x := x19_6) (by omega) (by decide : ((4 : Int32)).toInt = 4) (by decide); have := ti_mul2 (by decide : ((8 : Int32)).toInt = 8) (Eq.refl (x19_6 - x19_6 / (4 : Int32) * (4 : Int32)).toInt) (by omega) (by omega); have := ti_sub2 (by decide : ((24 : Int32)).toInt = 24) (Eq.refl ((8 : Int32) * (x19_6 - x19_6 / (4 : Int32) * (4 : Int32))).toInt) (by omega) (by omega); have := nb_i2b ((x19_2.toUInt32 >>> (((24 : Int32) - ((8 : Int32) * (x19_6 - x19_6 / (4 : Int32) * (4 : Int32)))).toUInt32 &&& Int32.toUInt32 31)).toInt32); have := nb_byteq (x := ((Int32.toInt8 ((x19_2.toUInt32 >>> (((24 : Int32) - ((8 : Int32) * (x19_6 - x19_6 / (4 : Int32) * (4 : Int32)))).toUInt32 &&& Int32.toUInt32 31)).toInt32)).toInt32)) (by omega) (by omega); omega
          have hI8877 : BND (sI w 128 ((w.1 127 1).toInt.toNat) (vp_nar .byte ((Int32.toInt8 ((x19_2.toUInt32 >>> (((24 : Int32) - ((8 : Int32) * (x19_6 - x19_6 / (4 : Int32) * (4 : Int32)))).toUInt32 &&& Int32.toUInt32 31)).toInt32)).toInt32))) := wbd_128 hI ((w.1 127 1).toInt.toNat) o8878.1 o8878.2
          have o8880 : 0 ≤ ((w.1 127 1) + (1 : Int32)).toInt ∧ ((w.1 127 1) + (1 : Int32)).toInt ≤ 4020 := by have := bd_127_1 hI; have := (by decide : ((20 : Int32)).toInt = 20); have := (by decide : ((4 : Int32)).toInt = 4); have := (by decide : ((8 : Int32)).toInt = 8); have := ti_add2 (Eq.refl (w.1 127 1).toInt) (by decide : ((1 : Int32)).toInt = 1) (by omega) (by omega); omega
          have hI8879 : BND (sI (sI w 128 ((w.1 127 1).toInt.toNat) (vp_nar .byte ((Int32.toInt8 ((x19_2.toUInt32 >>> (((24 : Int32) - ((8 : Int32) * (x19_6 - x19_6 / (4 : Int32) * (4 : Int32)))).toUInt32 &&& Int32.toUInt32 31)).toInt32)).toInt32))) 127 1 ((w.1 127 1) + (1 : Int32))) := wbd_127_1 hI8877 o8880.1 o8880.2
          have o8881 : (0 ≤ (x19_6 + (1 : Int32)).toInt) ∧ ((x19_6 + (1 : Int32)).toInt ≤ 20) ∧ (((sI (sI w 128 ((w.1 127 1).toInt.toNat) (vp_nar .byte ((Int32.toInt8 ((x19_2.toUInt32 >>> (((24 : Int32) - ((8 : Int32) * (x19_6 - x19_6 / (4 : Int32) * (4 : Int32)))).toUInt32 &&& Int32.toUInt32 31)).toInt32)).toInt32))) 127 1 ((w.1 127 1) + (1 : Int32))).1 127 1).toInt + 20 - (x19_6 + (1 : Int32)).toInt ≤ 4020) := by have := bd_127_1 hI; have : ((sI (sI w 128 ((w.1 127 1).toInt.toNat) (vp_nar .byte ((Int32.toInt8 ((x19_2.toUInt32 >>> (((24 : Int32) - ((8 : Int32) * (x19_6 - x19_6 / (4 : Int32) * (4 : Int32)))).toUInt32 &&& Int32.toUInt32 31)).toInt32)).toInt32))) 127 1 ((w.1 127 1) + (1 : Int32))).1 127 1).toInt = ((w.1 127 1) + (1 : Int32)).toInt := rfl; have := (by decide : ((20 : Int32)).toInt = 20); have := (by decide : ((4 : Int32)).toInt = 4); have := (by decide : ((8 : Int32)).toInt = 8); have := ti_add2 (Eq.refl x19_6.toInt) (by decide : ((1 : Int32)).toInt = 1) (by omega) (by omega); have := ti_add2 (Eq.refl (w.1 127 1).toInt) (by decide : ((1 : Int32)).toInt = 1) (by omega) (by omega); exact ⟨by omega, by omega, by omega⟩
          exact ih _ (sI (sI w 128 ((w.1 127 1).toInt.toNat) (vp_nar .byte ((Int32.toInt8 ((x19_2.toUInt32 >>> (((24 : Int32) - ((8 : Int32) * (x19_6 - x19_6 / (4 : Int32) * (4 : Int32)))).toUInt32 &&& Int32.toUInt32 31)).toInt32)).toInt32))) 127 1 ((w.1 127 1) + (1 : Int32))) hI8879  o8881.1 o8881.2.1 o8881.2.2 (by have := bd_127_1 hI; have := (by decide : ((20 : Int32)).toInt = 20); have := (by decide : ((4 : Int32)).toInt = 4); have := (by decide : ((8 : Int32)).toInt = 8); have := ti_add2 (Eq.refl x19_6.toInt) (by decide : ((1 : Int32)).toInt = 1) (by omega) (by omega); omega) (fun w9 hI9 hF9 => hE w9 hI9 ((FR.I (FR.I (FR.refl _ w) (k := 128) (j := (w.1 127 1).toInt.toNat) (v := (vp_nar .byte ((Int32.toInt8 ((x19_2.toUInt32 >>> (((24 : Int32) - ((8 : Int32) * (x19_6 - x19_6 / (4 : Int32) * (4 : Int32)))).toUInt32 &&& Int32.toUInt32 31)).toInt32)).toInt32))) rfl) (k := 127) (j := 1) (v := ((w.1 127 1) + (1 : Int32))) rfl).tr hF9 rfl) ) (fun r w9 hI9 hF9 q0 => q0.elim)
      · refine Eq.mpr (q_Mo_feed_72.eq_1 _ _ _ _ _ _ _ _ _ _ _) ?_
        have o8882 : 0 ≤ (w.1 127 1).toInt ∧ (w.1 127 1).toInt < 4020 := by have := bd_127_1 hI; have := (by decide : ((20 : Int32)).toInt = 20); have := (by decide : ((4 : Int32)).toInt = 4); omega
        refine ⟨o8882, ?_⟩
        have o8884 : (-128) ≤ (vp_nar .byte ((Int32.toInt8 ((x19_1.toUInt32 >>> (((24 : Int32) - ((8 : Int32) * (x19_6 - x19_6 / (4 : Int32) * (4 : Int32)))).toUInt32 &&& Int32.toUInt32 31)).toInt32)).toInt32)).toInt ∧ (vp_nar .byte ((Int32.toInt8 ((x19_1.toUInt32 >>> (((24 : Int32) - ((8 : Int32) * (x19_6 - x19_6 / (4 : Int32) * (4 : Int32)))).toUInt32 &&& Int32.toUInt32 31)).toInt32)).toInt32)).toInt ≤ 127 := by have := ti_lo ((x19_1.toUInt32 >>> (((24 : Int32) - ((8 : Int32) * (x19_6 - x19_6 / (4 : Int32) * (4 : Int32)))).toUInt32 &&& Int32.toUInt32 31)).toInt32); have := ti_hi ((x19_1.toUInt32 >>> (((24 : Int32) - ((8 : Int32) * (x19_6 - x19_6 / (4 : Int32) * (4 : Int32)))).toUInt32 &&& Int32.toUInt32 31)).toInt32); have := ti_lo x19_1; have := ti_hi x19_1; have := bd_127_1 hI; have := (by decide : ((20 : Int32)).toInt = 20); have := (by decide : ((4 : Int32)).toInt = 4); have := nb_rem (x := x19_6) (by omega) (by decide : ((4 : Int32)).toInt = 4) (by decide); have := ti_mul2 (by decide : ((8 : Int32)).toInt = 8) (Eq.refl (x19_6 - x19_6 / (4 : Int32) * (4 : Int32)).toInt) (by omega) (by omega); have := ti_sub2 (by decide : ((24 : Int32)).toInt = 24) (Eq.refl ((8 : Int32) * (x19_6 - x19_6 / (4 : Int32) * (4 : Int32))).toInt) (by omega) (by omega); have := nb_i2b ((x19_1.toUInt32 >>> (((24 : Int32) - ((8 : Int32) * (x19_6 - x19_6 / (4 : Int32) * (4 : Int32)))).toUInt32 &&& Int32.toUInt32 31)).toInt32); have := nb_byteq (x := ((Int32.toInt8 ((x19_1.toUInt32 >>> (((24 : Int32) - ((8 : Int32) * (x19_6 - x19_6 / (4 : Int32) * (4 : Int32)))).toUInt32 &&& Int32.toUInt32 31)).toInt32)).toInt32)) (by omega) (by omega); omega
        have hI8883 : BND (sI w 128 ((w.1 127 1).toInt.toNat) (vp_nar .byte ((Int32.toInt8 ((x19_1.toUInt32 >>> (((24 : Int32) - ((8 : Int32) * (x19_6 - x19_6 / (4 : Int32) * (4 : Int32)))).toUInt32 &&& Int32.toUInt32 31)).toInt32)).toInt32))) := wbd_128 hI ((w.1 127 1).toInt.toNat) o8884.1 o8884.2
        have o8886 : 0 ≤ ((w.1 127 1) + (1 : Int32)).toInt ∧ ((w.1 127 1) + (1 : Int32)).toInt ≤ 4020 := by have := bd_127_1 hI; have := (by decide : ((20 : Int32)).toInt = 20); have := (by decide : ((4 : Int32)).toInt = 4); have := ti_add2 (Eq.refl (w.1 127 1).toInt) (by decide : ((1 : Int32)).toInt = 1) (by omega) (by omega); omega
        have hI8885 : BND (sI (sI w 128 ((w.1 127 1).toInt.toNat) (vp_nar .byte ((Int32.toInt8 ((x19_1.toUInt32 >>> (((24 : Int32) - ((8 : Int32) * (x19_6 - x19_6 / (4 : Int32) * (4 : Int32)))).toUInt32 &&& Int32.toUInt32 31)).toInt32)).toInt32))) 127 1 ((w.1 127 1) + (1 : Int32))) := wbd_127_1 hI8883 o8886.1 o8886.2
        have o8887 : (0 ≤ (x19_6 + (1 : Int32)).toInt) ∧ ((x19_6 + (1 : Int32)).toInt ≤ 20) ∧ (((sI (sI w 128 ((w.1 127 1).toInt.toNat) (vp_nar .byte ((Int32.toInt8 ((x19_1.toUInt32 >>> (((24 : Int32) - ((8 : Int32) * (x19_6 - x19_6 / (4 : Int32) * (4 : Int32)))).toUInt32 &&& Int32.toUInt32 31)).toInt32)).toInt32))) 127 1 ((w.1 127 1) + (1 : Int32))).1 127 1).toInt + 20 - (x19_6 + (1 : Int32)).toInt ≤ 4020) := by have := bd_127_1 hI; have : ((sI (sI w 128 ((w.1 127 1).toInt.toNat) (vp_nar .byte ((Int32.toInt8 ((x19_1.toUInt32 >>> (((24 : Int32) - ((8 : Int32) * (x19_6 - x19_6 / (4 : Int32) * (4 : Int32)))).toUInt32 &&& Int32.toUInt32 31)).toInt32)).toInt32))) 127 1 ((w.1 127 1) + (1 : Int32))).1 127 1).toInt = ((w.1 127 1) + (1 : Int32)).toInt := rfl; have := (by decide : ((20 : Int32)).toInt = 20); have := (by decide : ((4 : Int32)).toInt = 4); have := ti_add2 (Eq.refl x19_6.toInt) (by decide : ((1 : Int32)).toInt = 1) (by omega) (by omega); have := ti_add2 (Eq.refl (w.1 127 1).toInt) (by decide : ((1 : Int32)).toInt = 1) (by omega) (by omega); exact ⟨by omega, by omega, by omega⟩
        exact ih _ (sI (sI w 128 ((w.1 127 1).toInt.toNat) (vp_nar .byte ((Int32.toInt8 ((x19_1.toUInt32 >>> (((24 : Int32) - ((8 : Int32) * (x19_6 - x19_6 / (4 : Int32) * (4 : Int32)))).toUInt32 &&& Int32.toUInt32 31)).toInt32)).toInt32))) 127 1 ((w.1 127 1) + (1 : Int32))) hI8885  o8887.1 o8887.2.1 o8887.2.2 (by have := bd_127_1 hI; have := (by decide : ((20 : Int32)).toInt = 20); have := (by decide : ((4 : Int32)).toInt = 4); have := ti_add2 (Eq.refl x19_6.toInt) (by decide : ((1 : Int32)).toInt = 1) (by omega) (by omega); omega) (fun w9 hI9 hF9 => hE w9 hI9 ((FR.I (FR.I (FR.refl _ w) (k := 128) (j := (w.1 127 1).toInt.toNat) (v := (vp_nar .byte ((Int32.toInt8 ((x19_1.toUInt32 >>> (((24 : Int32) - ((8 : Int32) * (x19_6 - x19_6 / (4 : Int32) * (4 : Int32)))).toUInt32 &&& Int32.toUInt32 31)).toInt32)).toInt32))) rfl) (k := 127) (j := 1) (v := ((w.1 127 1) + (1 : Int32))) rfl).tr hF9 rfl) ) (fun r w9 hI9 hF9 q0 => q0.elim)
set_option maxRecDepth 20000 in
set_option maxHeartbeats 2000000 in
theorem h_Mo_feed {w : MW} {a0 : Int32} {b0 : Int32} {c0 : Int32} {e0 : Int32} {f0 : Int32} {Q : Int32 → MW → Prop} (hI : BND w)  (hQ : ∀ (r : Int32) (w' : MW), BND w' → FR l_Mo_feed w w' → (-2) ≤ r.toInt → r.toInt ≤ 4020 → Q r w') : p_Mo_feed w a0 b0 c0 e0 f0 Q := by
  refine Eq.mpr (p_Mo_feed.eq_1 _ _ _ _ _ _ _) ?_
  refine ⟨fun h8888 => ?_, fun h8888 => ?_⟩
  · have o8889 : (0 ≤ (0 : Int32).toInt) ∧ ((0 : Int32).toInt ≤ 20) ∧ ((w.1 127 1).toInt + 20 - (0 : Int32).toInt ≤ 4020) := by have := ti_lo a0; have := ti_hi a0; have := ti_lo b0; have := ti_hi b0; have := ti_lo c0; have := ti_hi c0; have := ti_lo e0; have := ti_hi e0; have := ti_lo f0; have := ti_hi f0; have := (by decide : ((0 : Int32)).toInt = 0); have := bd_127_1 hI; have := (by decide : ((4020 : Int32)).toInt = 4020); have := ti_add2 (Eq.refl (w.1 127 1).toInt) (by decide : ((20 : Int32)).toInt = 20) (by omega) (by omega); exact ⟨by omega, by omega, by omega⟩
    refine hq_Mo_feed_19 FU _ w hI  o8889.1 o8889.2.1 o8889.2.2 (fu_lt (by have := ti_lo a0; have := ti_hi a0; have := ti_lo b0; have := ti_hi b0; have := ti_lo c0; have := ti_hi c0; have := ti_lo e0; have := ti_hi e0; have := ti_lo f0; have := ti_hi f0; have := (by decide : ((0 : Int32)).toInt = 0); omega)) (fun w8890 hI8891 hL8892  => ?_) (fun r w9 hI9 hF9 q0 => q0.elim)
    have hF8893 : FR l_Mo_feed w w8890 := (FR.refl _ w).tr hL8892 rfl
    have o8894 : ((-2) ≤ (w8890.1 127 1).toInt) ∧ ((w8890.1 127 1).toInt ≤ 4020) := by have := bd_127_1 hI8891; have := bd_127_1 hI; have := (by decide : ((4020 : Int32)).toInt = 4020); have := ti_add2 (Eq.refl (w.1 127 1).toInt) (by decide : ((20 : Int32)).toInt = 20) (by omega) (by omega); exact ⟨by omega, by omega⟩
    exact hQ _ _ hI8891 hF8893  o8894.1 o8894.2
  · have o8895 : ((-2) ≤ ((-2) : Int32).toInt) ∧ (((-2) : Int32).toInt ≤ 4020) := by have := (by decide : (((-2) : Int32)).toInt = (-2)); exact ⟨by omega, by omega⟩
    exact hQ _ _ hI (FR.refl _ w)  o8895.1 o8895.2
