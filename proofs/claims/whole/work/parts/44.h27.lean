def l_Ru_giveAnswer_23 : Pl := [(74, none), (82, none)]
def l_Ru_giveAnswer : Pl := [(61, some 15), (74, none), (82, none)]
set_option maxRecDepth 20000 in
set_option maxHeartbeats 2000000 in
theorem h_Ru_giveAnswer {w : MW} {a0 : Int64} {Q : Int32 → MW → Prop} (hI : BND w) (hf_PA : PA w) (hf_RC : RC w) (hf_RF : RF w) (hf_RK : RK w) (hf_RO : RO w) (hf_RS : RS w) (hf_RX : RX w) (hr_61_3 : w.2.2 61 3 = some 62)  (hQ : ∀ (r : Int32) (w' : MW), BND w' → FR l_Ru_giveAnswer w w' → 0 ≤ r.toInt → r.toInt ≤ 1 → Q r w') : p_Ru_giveAnswer w a0 Q := by
  refine Eq.mpr (p_Ru_giveAnswer.eq_1 _ _ _) ?_
  refine ⟨fun h6284 => ?_, fun h6284 => ?_⟩
  · refine Eq.mpr (q_Ru_giveAnswer_23.eq_1 _ _ _ _) ?_
    refine ⟨fun h => absurd h (by decide), fun _ => ?_⟩
    have hI6285 : BND (sI w 61 15 0) := wbd_61_15 hI
    have o6286 : (0 ≤ (0 : Int32).toInt) ∧ ((0 : Int32).toInt ≤ 1) := by have := (by decide : ((0 : Int32)).toInt = 0); exact ⟨by omega, by omega⟩
    exact hQ _ _ hI6285 (FR.I (FR.refl _ w) (k := 61) (j := 15) (v := 0) rfl)  o6286.1 o6286.2
  · have hI6287 : BND (sI w 61 15 0) := wbd_61_15 hI
    have hW6288 : RC (sI w 61 15 0) := (RC_fr (l := [(61, some 15)]) (FR.I (FR.refl _ w) (k := 61) (j := 15) (v := 0) rfl) rfl hf_RC)
    have o6289 : (0 ≤ (0 : Int32).toInt) ∧ ((0 : Int32).toInt ≤ 500) ∧ (0 ≤ (1 : Int32).toInt) ∧ ((1 : Int32).toInt ≤ 1) ∧ (0 ≤ (0 : Int32).toInt) ∧ ((0 : Int32).toInt ≤ 100) := by have := (by decide : ((0 : Int32)).toInt = 0); have := (by decide : ((1 : Int32)).toInt = 1); exact ⟨by omega, by omega, by omega, by omega, by omega, by omega⟩
    have hW6290 : ZL (0 : Int32) (sI w 61 15 0) := (zl_ro (RO_fr (l := [(61, some 15)]) (FR.I (FR.refl _ w) (k := 61) (j := 15) (v := 0) rfl) rfl hf_RO) (by have := bd_80 hI 0; have : ((sI w 61 15 0).1 80 0).toInt = (w.1 80 0).toInt := rfl; have := bd_62_2 hI; have : ((sI w 61 15 0).1 62 2).toInt = (w.1 62 2).toInt := rfl; have := bd_61_4 hI; have : ((sI w 61 15 0).1 61 4).toInt = (w.1 61 4).toInt := rfl; have := (by decide : ((0 : Int32)).toInt = 0); have := RS_ex (RS_fr (l := [(61, some 15)]) (FR.I (FR.refl _ w) (k := 61) (j := 15) (v := 0) rfl) rfl hf_RS); have := RS_ex hf_RS; omega))
    refine h_Ru_seek hI6287 hW6288 (RF_fr (l := [(61, some 15)]) (FR.I (FR.refl _ w) (k := 61) (j := 15) (v := 0) rfl) rfl hf_RF) (RK_fr (l := [(61, some 15)]) (FR.I (FR.refl _ w) (k := 61) (j := 15) (v := 0) rfl) rfl hf_RK) (RX_fr (l := [(61, some 15)]) (FR.I (FR.refl _ w) (k := 61) (j := 15) (v := 0) rfl) rfl hf_RX) hr_61_3 o6289.1 o6289.2.1 o6289.2.2.1 o6289.2.2.2.1 o6289.2.2.2.2.1 o6289.2.2.2.2.2 hW6290 (fun r6294 w6291 hI6292 hL6293 p6295 p6296 p6297 p6298 p6299 => ?_)
    have hF6300 : FR l_Ru_giveAnswer w w6291 := (FR.I (FR.refl _ w) (k := 61) (j := 15) (v := 0) rfl).tr hL6293 rfl
    refine Eq.mpr (q_Ru_giveAnswer_23.eq_1 _ _ _ _) ?_
    refine ⟨fun h6301 => ?_, fun h6301 => ?_⟩
    · have o6302 : 0 ≤ r6294.toInt ∧ r6294.toInt < 501 := by have := bd_77 hI r6294.toInt.toNat; have : ((sI w 61 15 0).1 77 r6294.toInt.toNat).toInt = (w.1 77 r6294.toInt.toNat).toInt := rfl; have : ((sI w 61 15 0).1 63 (((sI w 61 15 0).1 77 r6294.toInt.toNat).toInt.toNat)).toInt = (w.1 63 ((w.1 77 r6294.toInt.toNat).toInt.toNat)).toInt := rfl; have : ((sI w 61 15 0).1 63 (((sI w 61 15 0).1 77 r6294.toInt.toNat).toInt.toNat)).toInt = (w.1 63 (((sI w 61 15 0).1 77 r6294.toInt.toNat).toInt.toNat)).toInt := rfl; have := (by decide : ((1 : Int32)).toInt = 1); have := (by decide : ((0 : Int32)).toInt = 0); omega
      refine ⟨o6302, ?_⟩
      have o6303 : 0 ≤ r6294.toInt ∧ r6294.toInt < 501 := by have := bd_77 hI r6294.toInt.toNat; have : ((sI w 61 15 0).1 77 r6294.toInt.toNat).toInt = (w.1 77 r6294.toInt.toNat).toInt := rfl; have : ((sI w 61 15 0).1 63 (((sI w 61 15 0).1 77 r6294.toInt.toNat).toInt.toNat)).toInt = (w.1 63 ((w.1 77 r6294.toInt.toNat).toInt.toNat)).toInt := rfl; have : ((sI w 61 15 0).1 63 (((sI w 61 15 0).1 77 r6294.toInt.toNat).toInt.toNat)).toInt = (w.1 63 (((sI w 61 15 0).1 77 r6294.toInt.toNat).toInt.toNat)).toInt := rfl; have := (by decide : ((1 : Int32)).toInt = 1); have := (by decide : ((0 : Int32)).toInt = 0); omega
      refine ⟨o6303, ?_⟩
      refine Eq.mpr (p_Ru_setValue.eq_1 _ _ _ _) ?_
      refine ⟨((hL6293 61 3 rfl).2.2.trans hr_61_3), ?_⟩
      refine ⟨((hL6293 61 3 rfl).2.2.trans hr_61_3), ?_⟩
      have hW6305 : ZL r6294 w6291 := (p6297.resolve_left (by have := bd_77 hI r6294.toInt.toNat; have : ((sI w 61 15 0).1 77 r6294.toInt.toNat).toInt = (w.1 77 r6294.toInt.toNat).toInt := rfl; have : ((sI w 61 15 0).1 63 (((sI w 61 15 0).1 77 r6294.toInt.toNat).toInt.toNat)).toInt = (w.1 63 ((w.1 77 r6294.toInt.toNat).toInt.toNat)).toInt := rfl; have : ((sI w 61 15 0).1 63 (((sI w 61 15 0).1 77 r6294.toInt.toNat).toInt.toNat)).toInt = (w.1 63 (((sI w 61 15 0).1 77 r6294.toInt.toNat).toInt.toNat)).toInt := rfl; have := (by decide : ((1 : Int32)).toInt = 1); have := (by decide : ((0 : Int32)).toInt = 0); omega))
      have o6304 : 0 ≤ (w6291.1 77 r6294.toInt.toNat).toInt ∧ (w6291.1 77 r6294.toInt.toNat).toInt < 301 := by have := bd_77 hI6292 r6294.toInt.toNat; have := bd_77 hI r6294.toInt.toNat; have : ((sI w 61 15 0).1 77 r6294.toInt.toNat).toInt = (w.1 77 r6294.toInt.toNat).toInt := rfl; have := (congrArg Int32.toInt (hL6293 77 r6294.toInt.toNat rfl).1); have : ((sI w 61 15 0).1 63 (((sI w 61 15 0).1 77 r6294.toInt.toNat).toInt.toNat)).toInt = (w.1 63 ((w.1 77 r6294.toInt.toNat).toInt.toNat)).toInt := rfl; have : ((sI w 61 15 0).1 63 (((sI w 61 15 0).1 77 r6294.toInt.toNat).toInt.toNat)).toInt = (w.1 63 (((sI w 61 15 0).1 77 r6294.toInt.toNat).toInt.toNat)).toInt := rfl; have := (by decide : ((1 : Int32)).toInt = 1); have := (by decide : ((0 : Int32)).toInt = 0); (try have := rk_use (RK_fr hL6293 rfl (RK_fr (l := [(61, some 15)]) (FR.I (FR.refl _ w) (k := 61) (j := 15) (v := 0) rfl) rfl hf_RK)) hW6305 (by omega)); omega
      refine ⟨o6304, ?_⟩
      have o6306 : 0 ≤ ((sJ w6291 82 r6294.toInt.toNat 1).1 64 ((w6291.1 77 r6294.toInt.toNat).toInt.toNat)).toInt ∧ ((sJ w6291 82 r6294.toInt.toNat 1).1 64 ((w6291.1 77 r6294.toInt.toNat).toInt.toNat)).toInt < 40 := by have := bd_77 hI6292 r6294.toInt.toNat; have := bd_77 hI r6294.toInt.toNat; have : ((sI w 61 15 0).1 77 r6294.toInt.toNat).toInt = (w.1 77 r6294.toInt.toNat).toInt := rfl; have := (congrArg Int32.toInt (hL6293 77 r6294.toInt.toNat rfl).1); have := bd_62_1 hI6292; have := bd_62_1 hI; have : ((sI w 61 15 0).1 62 1).toInt = (w.1 62 1).toInt := rfl; have := (congrArg Int32.toInt (hL6293 62 1 rfl).1); have : ((sJ w6291 82 r6294.toInt.toNat 1).1 62 1).toInt = (w6291.1 62 1).toInt := rfl; have : ((sI w 61 15 0).1 63 (((sI w 61 15 0).1 77 r6294.toInt.toNat).toInt.toNat)).toInt = (w.1 63 ((w.1 77 r6294.toInt.toNat).toInt.toNat)).toInt := rfl; have : ((sI w 61 15 0).1 63 (((sI w 61 15 0).1 77 r6294.toInt.toNat).toInt.toNat)).toInt = (w.1 63 (((sI w 61 15 0).1 77 r6294.toInt.toNat).toInt.toNat)).toInt := rfl; have : ((sI w 61 15 0).1 63 ((w6291.1 77 r6294.toInt.toNat).toInt.toNat)).toInt = (w.1 63 ((w6291.1 77 r6294.toInt.toNat).toInt.toNat)).toInt := rfl; have := (congrArg Int32.toInt (hL6293 63 ((w6291.1 77 r6294.toInt.toNat).toInt.toNat) rfl).1); have : ((sJ w6291 82 r6294.toInt.toNat 1).1 63 ((w6291.1 77 r6294.toInt.toNat).toInt.toNat)).toInt = (w6291.1 63 ((w6291.1 77 r6294.toInt.toNat).toInt.toNat)).toInt := rfl; have : ((sI w 61 15 0).1 64 (((sI w 61 15 0).1 77 r6294.toInt.toNat).toInt.toNat)).toInt = (w.1 64 ((w.1 77 r6294.toInt.toNat).toInt.toNat)).toInt := rfl; have : ((sI w 61 15 0).1 64 (((sI w 61 15 0).1 77 r6294.toInt.toNat).toInt.toNat)).toInt = (w.1 64 (((sI w 61 15 0).1 77 r6294.toInt.toNat).toInt.toNat)).toInt := rfl; have : ((sI w 61 15 0).1 64 ((w6291.1 77 r6294.toInt.toNat).toInt.toNat)).toInt = (w.1 64 ((w6291.1 77 r6294.toInt.toNat).toInt.toNat)).toInt := rfl; have := (congrArg Int32.toInt (hL6293 64 ((w6291.1 77 r6294.toInt.toNat).toInt.toNat) rfl).1); have : ((sJ w6291 82 r6294.toInt.toNat 1).1 64 ((w6291.1 77 r6294.toInt.toNat).toInt.toNat)).toInt = (w6291.1 64 ((w6291.1 77 r6294.toInt.toNat).toInt.toNat)).toInt := rfl; have := (by decide : ((1 : Int32)).toInt = 1); have := (by decide : ((0 : Int32)).toInt = 0); (try have := rk_use (RK_fr hL6293 rfl (RK_fr (l := [(61, some 15)]) (FR.I (FR.refl _ w) (k := 61) (j := 15) (v := 0) rfl) rfl hf_RK)) hW6305 (by omega)); have := (by rw [(hL6293 63 _ rfl).1, (hL6293 77 _ rfl).1] : (w6291.1 63 ((w6291.1 77 r6294.toInt.toNat).toInt.toNat)).toInt = ((sI w 61 15 0).1 63 (((sI w 61 15 0).1 77 r6294.toInt.toNat).toInt.toNat)).toInt); (try have := (PA_fr (l := [(82, none)]) (FR.J (FR.refl _ w6291) (k := 82) (j := r6294.toInt.toNat) (v := 1) rfl) rfl (PA_fr hL6293 rfl (PA_fr (l := [(61, some 15)]) (FR.I (FR.refl _ w) (k := 61) (j := 15) (v := 0) rfl) rfl hf_PA))) (w6291.1 77 r6294.toInt.toNat) (by omega) (by omega)); (try have := (PA_fr hL6293 rfl (PA_fr (l := [(61, some 15)]) (FR.I (FR.refl _ w) (k := 61) (j := 15) (v := 0) rfl) rfl hf_PA)) (w6291.1 77 r6294.toInt.toNat) (by omega) (by omega)); (try have := (PA_fr (l := [(61, some 15)]) (FR.I (FR.refl _ w) (k := 61) (j := 15) (v := 0) rfl) rfl hf_PA) ((sI w 61 15 0).1 77 r6294.toInt.toNat) (by omega) (by omega)); (try have := hf_PA (w.1 77 r6294.toInt.toNat) (by omega) (by omega)); (try have := hf_PA ((sI w 61 15 0).1 77 r6294.toInt.toNat) (by omega) (by omega)); have := (by rw [(hL6293 64 _ rfl).1, (hL6293 77 _ rfl).1] : (w6291.1 64 ((w6291.1 77 r6294.toInt.toNat).toInt.toNat)).toInt = ((sI w 61 15 0).1 64 (((sI w 61 15 0).1 77 r6294.toInt.toNat).toInt.toNat)).toInt); (try have := (PA_fr (l := [(61, some 15)]) (FR.I (FR.refl _ w) (k := 61) (j := 15) (v := 0) rfl) rfl hf_PA) (w6291.1 77 r6294.toInt.toNat) (by omega) (by omega)); (try have := hf_PA (w6291.1 77 r6294.toInt.toNat) (by omega) (by omega)); omega
      refine ⟨o6306, ?_⟩
      have o6307 : (0 ≤ (1 : Int32).toInt) ∧ ((1 : Int32).toInt ≤ 1) := by have := (by decide : ((1 : Int32)).toInt = 1); exact ⟨by omega, by omega⟩
      exact hQ _ _ (bnd_J (bnd_J hI6292 (k := 82) (j := r6294.toInt.toNat) (v := 1)) (k := 74) (j := ((sJ w6291 82 r6294.toInt.toNat 1).1 64 ((w6291.1 77 r6294.toInt.toNat).toInt.toNat)).toInt.toNat) (v := a0)) (FR.J (FR.J hF6300 (k := 82) (j := r6294.toInt.toNat) (v := 1) rfl) (k := 74) (j := ((sJ w6291 82 r6294.toInt.toNat 1).1 64 ((w6291.1 77 r6294.toInt.toNat).toInt.toNat)).toInt.toNat) (v := a0) rfl)  o6307.1 o6307.2
    · have o6308 : (0 ≤ (0 : Int32).toInt) ∧ ((0 : Int32).toInt ≤ 1) := by have := (by decide : ((0 : Int32)).toInt = 0); exact ⟨by omega, by omega⟩
      exact hQ _ _ hI6292 hF6300  o6308.1 o6308.2
def l_Bh_pass : Pl := [(51, none)]
set_option maxRecDepth 20000 in
set_option maxHeartbeats 2000000 in
theorem h_Bh_pass {w : MW} {a0 : Int32} {b0 : Int32} {c0 : Int32} {e0 : Int32} {Q : Int32 → MW → Prop} (hI : BND w) (hr_47_3 : w.2.2 47 3 = some 48)  (hQ : ∀ (r : Int32) (w' : MW), BND w' → FR l_Bh_pass w w' → (-4) ≤ r.toInt → r.toInt ≤ 0 → Q r w') : p_Bh_pass w a0 b0 c0 e0 Q := by
  refine Eq.mpr (p_Bh_pass.eq_1 _ _ _ _ _ _) ?_
  refine ⟨hr_47_3, ?_⟩
  refine Eq.mpr (p_Ro_has.eq_1 _ _ _) ?_
  refine ⟨fun h6309 => ?_, fun h6309 => ?_⟩
  · refine ⟨fun h => absurd h (by decide), fun _ => ?_⟩
    have o6310 : ((-4) ≤ ((-1) : Int32).toInt) ∧ (((-1) : Int32).toInt ≤ 0) := by have := (by decide : (((-1) : Int32)).toInt = (-1)); exact ⟨by omega, by omega⟩
    exact hQ _ _ hI (FR.refl _ w)  o6310.1 o6310.2
  · refine ⟨fun h6311 => ?_, fun h6311 => ?_⟩
    · refine ⟨fun h => absurd h (by decide), fun _ => ?_⟩
      have o6312 : ((-4) ≤ ((-1) : Int32).toInt) ∧ (((-1) : Int32).toInt ≤ 0) := by have := (by decide : (((-1) : Int32)).toInt = (-1)); exact ⟨by omega, by omega⟩
      exact hQ _ _ hI (FR.refl _ w)  o6312.1 o6312.2
    · refine ⟨fun _ => ?_, fun h => absurd (by decide) h⟩
      refine Eq.mpr (p_Bh_isPerson.eq_1 _ _ _) ?_
      refine ⟨fun h6313 => ?_, fun h6313 => ?_⟩
      · refine ⟨fun _ => ?_, fun h => absurd (by decide) h⟩
        have o6314 : ((-4) ≤ ((-2) : Int32).toInt) ∧ (((-2) : Int32).toInt ≤ 0) := by have := (by decide : (((-2) : Int32)).toInt = (-2)); exact ⟨by omega, by omega⟩
        exact hQ _ _ hI (FR.refl _ w)  o6314.1 o6314.2
      · refine ⟨fun h6315 => ?_, fun h6315 => ?_⟩
        · refine ⟨fun _ => ?_, fun h => absurd (by decide) h⟩
          have o6316 : ((-4) ≤ ((-2) : Int32).toInt) ∧ (((-2) : Int32).toInt ≤ 0) := by have := (by decide : (((-2) : Int32)).toInt = (-2)); exact ⟨by omega, by omega⟩
          exact hQ _ _ hI (FR.refl _ w)  o6316.1 o6316.2
        · refine ⟨fun h => absurd h (by decide), fun _ => ?_⟩
          refine Eq.mpr (p_Bh_isPerson.eq_1 _ _ _) ?_
          refine ⟨fun h6317 => ?_, fun h6317 => ?_⟩
          · refine ⟨fun _ => ?_, fun h => absurd (by decide) h⟩
            have o6318 : ((-4) ≤ ((-2) : Int32).toInt) ∧ (((-2) : Int32).toInt ≤ 0) := by have := (by decide : (((-2) : Int32)).toInt = (-2)); exact ⟨by omega, by omega⟩
            exact hQ _ _ hI (FR.refl _ w)  o6318.1 o6318.2
          · refine ⟨fun h6319 => ?_, fun h6319 => ?_⟩
            · refine ⟨fun _ => ?_, fun h => absurd (by decide) h⟩
              have o6320 : ((-4) ≤ ((-2) : Int32).toInt) ∧ (((-2) : Int32).toInt ≤ 0) := by have := (by decide : (((-2) : Int32)).toInt = (-2)); exact ⟨by omega, by omega⟩
              exact hQ _ _ hI (FR.refl _ w)  o6320.1 o6320.2
            · refine ⟨fun h => absurd h (by decide), fun _ => ?_⟩
              refine ⟨fun h6321 => ?_, fun h6321 => ?_⟩
              · refine ⟨fun h6322 => ?_, fun h6322 => ?_⟩
                · have o6323 : ((-4) ≤ ((-3) : Int32).toInt) ∧ (((-3) : Int32).toInt ≤ 0) := by have := (by decide : (((-3) : Int32)).toInt = (-3)); exact ⟨by omega, by omega⟩
                  exact hQ _ _ hI (FR.refl _ w)  o6323.1 o6323.2
                · refine ⟨fun h6324 => ?_, fun h6324 => ?_⟩
                  · refine ⟨hr_47_3, ?_⟩
                    have o6325 : 0 ≤ (a0 - (1 : Int32)).toInt ∧ (a0 - (1 : Int32)).toInt < 40 := by have := (by decide : ((1 : Int32)).toInt = 1); have := bd_48_0 hI; have := ti_sub2 (Eq.refl a0.toInt) (by decide : ((1 : Int32)).toInt = 1) (by omega) (by omega); omega
                    refine ⟨o6325, ?_⟩
                    refine ⟨fun h6326 => ?_, fun h6326 => ?_⟩
                    · refine ⟨hr_47_3, ?_⟩
                      have o6327 : 0 ≤ (a0 - (1 : Int32)).toInt ∧ (a0 - (1 : Int32)).toInt < 40 := by have := (by decide : ((1 : Int32)).toInt = 1); have := bd_48_0 hI; have := ti_sub2 (Eq.refl a0.toInt) (by decide : ((1 : Int32)).toInt = 1) (by omega) (by omega); omega
                      refine ⟨o6327, ?_⟩
                      have o6329 : 0 ≤ e0.toInt ∧ e0.toInt ≤ 3600 := by have := (by decide : ((1 : Int32)).toInt = 1); have := (by decide : ((3600 : Int32)).toInt = 3600); omega
                      have hI6328 : BND (sI w 51 ((a0 - (1 : Int32)).toInt.toNat) e0) := wbd_51 hI ((a0 - (1 : Int32)).toInt.toNat) o6329.1 o6329.2
                      have o6330 : ((-4) ≤ (0 : Int32).toInt) ∧ ((0 : Int32).toInt ≤ 0) := by have := (by decide : ((0 : Int32)).toInt = 0); exact ⟨by omega, by omega⟩
                      exact hQ _ _ hI6328 (FR.I (FR.refl _ w) (k := 51) (j := (a0 - (1 : Int32)).toInt.toNat) (v := e0) rfl)  o6330.1 o6330.2
                    · have o6331 : ((-4) ≤ ((-4) : Int32).toInt) ∧ (((-4) : Int32).toInt ≤ 0) := by have := (by decide : (((-4) : Int32)).toInt = (-4)); exact ⟨by omega, by omega⟩
                      exact hQ _ _ hI (FR.refl _ w)  o6331.1 o6331.2
                  · have o6332 : ((-4) ≤ ((-3) : Int32).toInt) ∧ (((-3) : Int32).toInt ≤ 0) := by have := (by decide : (((-3) : Int32)).toInt = (-3)); exact ⟨by omega, by omega⟩
                    exact hQ _ _ hI (FR.refl _ w)  o6332.1 o6332.2
              · have o6333 : ((-4) ≤ ((-2) : Int32).toInt) ∧ (((-2) : Int32).toInt ≤ 0) := by have := (by decide : (((-2) : Int32)).toInt = (-2)); exact ⟨by omega, by omega⟩
                exact hQ _ _ hI (FR.refl _ w)  o6333.1 o6333.2
def l_Bh_reset : Pl := [(50, none)]
set_option maxRecDepth 20000 in
set_option maxHeartbeats 2000000 in
theorem h_Bh_reset {w : MW} {a0 : Int32} {Q : Int32 → MW → Prop} (hI : BND w) (hr_47_3 : w.2.2 47 3 = some 48)  (hQ : ∀ (r : Int32) (w' : MW), BND w' → FR l_Bh_reset w w' → 0 ≤ r.toInt → r.toInt ≤ 1 → Q r w') : p_Bh_reset w a0 Q := by
  refine Eq.mpr (p_Bh_reset.eq_1 _ _ _) ?_
  refine ⟨hr_47_3, ?_⟩
  refine Eq.mpr (p_Ro_has.eq_1 _ _ _) ?_
  refine ⟨fun h6334 => ?_, fun h6334 => ?_⟩
  · refine ⟨fun _ => ?_, fun h => absurd (by decide) h⟩
    have o6335 : (0 ≤ (0 : Int32).toInt) ∧ ((0 : Int32).toInt ≤ 1) := by have := (by decide : ((0 : Int32)).toInt = 0); exact ⟨by omega, by omega⟩
    exact hQ _ _ hI (FR.refl _ w)  o6335.1 o6335.2
  · refine ⟨fun h6336 => ?_, fun h6336 => ?_⟩
    · refine ⟨fun _ => ?_, fun h => absurd (by decide) h⟩
      have o6337 : (0 ≤ (0 : Int32).toInt) ∧ ((0 : Int32).toInt ≤ 1) := by have := (by decide : ((0 : Int32)).toInt = 0); exact ⟨by omega, by omega⟩
      exact hQ _ _ hI (FR.refl _ w)  o6337.1 o6337.2
    · refine ⟨fun h => absurd h (by decide), fun _ => ?_⟩
      have o6338 : 0 ≤ (a0 - (1 : Int32)).toInt ∧ (a0 - (1 : Int32)).toInt < 40 := by have := (by decide : ((1 : Int32)).toInt = 1); have := bd_48_0 hI; have := ti_sub2 (Eq.refl a0.toInt) (by decide : ((1 : Int32)).toInt = 1) (by omega) (by omega); omega
      refine ⟨o6338, ?_⟩
      refine ⟨fun h6339 => ?_, fun h6339 => ?_⟩
      · have o6340 : (0 ≤ (0 : Int32).toInt) ∧ ((0 : Int32).toInt ≤ 1) := by have := (by decide : ((0 : Int32)).toInt = 0); exact ⟨by omega, by omega⟩
        exact hQ _ _ hI (FR.refl _ w)  o6340.1 o6340.2
      · have o6341 : (0 ≤ (a0 - (1 : Int32)).toInt) ∧ ((a0 - (1 : Int32)).toInt ≤ 39) := by have := (by decide : ((1 : Int32)).toInt = 1); have := bd_48_0 hI; have := ti_sub2 (Eq.refl a0.toInt) (by decide : ((1 : Int32)).toInt = 1) (by omega) (by omega); exact ⟨by omega, by omega⟩
        refine h_Ro_isOn hI  o6341.1 o6341.2 (fun r6345 w6342 hI6343 hL6344 p6346 p6347 => ?_)
        have hF6348 : FR l_Bh_reset w w6342 := (FR.refl _ w).tr hL6344 rfl
        refine ⟨fun h6349 => ?_, fun h6349 => ?_⟩
        · have o6350 : 0 ≤ (a0 - (1 : Int32)).toInt ∧ (a0 - (1 : Int32)).toInt < 40 := by have := (by decide : ((1 : Int32)).toInt = 1); have := bd_48_0 hI; have := ti_sub2 (Eq.refl a0.toInt) (by decide : ((1 : Int32)).toInt = 1) (by omega) (by omega); omega
          refine ⟨o6350, ?_⟩
          have o6352 : 0 ≤ (vp_nar .boolean (0 : Int32)).toInt ∧ (vp_nar .boolean (0 : Int32)).toInt ≤ 1 := by have := nb_bool0; omega
          have hI6351 : BND (sI w6342 50 ((a0 - (1 : Int32)).toInt.toNat) (vp_nar .boolean (0 : Int32))) := wbd_50 hI6343 ((a0 - (1 : Int32)).toInt.toNat) o6352.1 o6352.2
          have o6353 : (0 ≤ (1 : Int32).toInt) ∧ ((1 : Int32).toInt ≤ 1) := by have := (by decide : ((1 : Int32)).toInt = 1); exact ⟨by omega, by omega⟩
          exact hQ _ _ hI6351 (FR.I hF6348 (k := 50) (j := (a0 - (1 : Int32)).toInt.toNat) (v := (vp_nar .boolean (0 : Int32))) rfl)  o6353.1 o6353.2
        · have o6354 : (0 ≤ (0 : Int32).toInt) ∧ ((0 : Int32).toInt ≤ 1) := by have := (by decide : ((0 : Int32)).toInt = 0); exact ⟨by omega, by omega⟩
          exact hQ _ _ hI6343 hF6348  o6354.1 o6354.2
def l_Bh_bars : Pl := []
set_option maxRecDepth 20000 in
set_option maxHeartbeats 2000000 in
theorem h_Bh_bars {w : MW} {a0 : Int32} {Q : Int32 → MW → Prop} (hI : BND w) (hr_47_3 : w.2.2 47 3 = some 48)  (hQ : ∀ (r : Int32) (w' : MW), BND w' → FR l_Bh_bars w w' → (-1) ≤ r.toInt → r.toInt ≤ 40 → Q r w') : p_Bh_bars w a0 Q := by
  refine Eq.mpr (p_Bh_bars.eq_1 _ _ _) ?_
  refine Eq.mpr (p_Ac_isAct.eq_1 _ _ _) ?_
  refine ⟨fun h6355 => ?_, fun h6355 => ?_⟩
  · refine ⟨fun _ => ?_, fun h => absurd (by decide) h⟩
    have o6356 : ((-1) ≤ ((-1) : Int32).toInt) ∧ (((-1) : Int32).toInt ≤ 40) := by have := (by decide : (((-1) : Int32)).toInt = (-1)); exact ⟨by omega, by omega⟩
    exact hQ _ _ hI (FR.refl _ w)  o6356.1 o6356.2
  · refine ⟨fun h6357 => ?_, fun h6357 => ?_⟩
    · refine ⟨fun _ => ?_, fun h => absurd (by decide) h⟩
      have o6358 : ((-1) ≤ ((-1) : Int32).toInt) ∧ (((-1) : Int32).toInt ≤ 40) := by have := (by decide : (((-1) : Int32)).toInt = (-1)); exact ⟨by omega, by omega⟩
      exact hQ _ _ hI (FR.refl _ w)  o6358.1 o6358.2
    · refine ⟨fun h => absurd h (by decide), fun _ => ?_⟩
      refine ⟨hr_47_3, ?_⟩
      have o6359 : (0 ≤ a0.toInt) ∧ (a0.toInt ≤ 31) := by have := (by decide : ((0 : Int32)).toInt = 0); have := (by decide : ((32 : Int32)).toInt = 32); exact ⟨by omega, by omega⟩
      refine h_Ro_barring hI  o6359.1 o6359.2 (fun r6363 w6360 hI6361 hL6362 p6364 p6365 => ?_)
      have hF6366 : FR l_Bh_bars w w6360 := (FR.refl _ w).tr hL6362 rfl
      have o6367 : ((-1) ≤ r6363.toInt) ∧ (r6363.toInt ≤ 40) := by exact ⟨by omega, by omega⟩
      exact hQ _ _ hI6361 hF6366  o6367.1 o6367.2
def l_Bh_row : Pl := []
set_option maxRecDepth 20000 in
set_option maxHeartbeats 2000000 in
theorem h_Bh_row {w : MW} {a0 : Int32} {b0 : Int32} {Q : Int32 → MW → Prop} (hI : BND w) (hr_47_3 : w.2.2 47 3 = some 48)  (hQ : ∀ (r : Int32) (w' : MW), BND w' → FR l_Bh_row w w' → (-1) ≤ r.toInt → r.toInt ≤ 1000000 → Q r w') : p_Bh_row w a0 b0 Q := by
  refine Eq.mpr (p_Bh_row.eq_1 _ _ _ _) ?_
  refine ⟨hr_47_3, ?_⟩
  refine Eq.mpr (p_Ro_has.eq_1 _ _ _) ?_
  refine ⟨fun h6368 => ?_, fun h6368 => ?_⟩
  · refine ⟨fun h => absurd h (by decide), fun _ => ?_⟩
    have o6369 : ((-1) ≤ ((-1) : Int32).toInt) ∧ (((-1) : Int32).toInt ≤ 1000000) := by have := (by decide : (((-1) : Int32)).toInt = (-1)); exact ⟨by omega, by omega⟩
    exact hQ _ _ hI (FR.refl _ w)  o6369.1 o6369.2
  · refine ⟨fun h6370 => ?_, fun h6370 => ?_⟩
    · refine ⟨fun h => absurd h (by decide), fun _ => ?_⟩
      have o6371 : ((-1) ≤ ((-1) : Int32).toInt) ∧ (((-1) : Int32).toInt ≤ 1000000) := by have := (by decide : (((-1) : Int32)).toInt = (-1)); exact ⟨by omega, by omega⟩
      exact hQ _ _ hI (FR.refl _ w)  o6371.1 o6371.2
    · refine ⟨fun _ => ?_, fun h => absurd (by decide) h⟩
      refine ⟨fun h6372 => ?_, fun h6372 => ?_⟩
      · have o6373 : 0 ≤ (a0 - (1 : Int32)).toInt ∧ (a0 - (1 : Int32)).toInt < 40 := by have := (by decide : ((1 : Int32)).toInt = 1); have := bd_48_0 hI; have := ti_sub2 (Eq.refl a0.toInt) (by decide : ((1 : Int32)).toInt = 1) (by omega) (by omega); omega
        refine ⟨o6373, ?_⟩
        have o6374 : ((-1) ≤ (w.1 49 ((a0 - (1 : Int32)).toInt.toNat)).toInt) ∧ ((w.1 49 ((a0 - (1 : Int32)).toInt.toNat)).toInt ≤ 1000000) := by have := bd_49 hI ((a0 - (1 : Int32)).toInt.toNat); exact ⟨by omega, by omega⟩
        exact hQ _ _ hI (FR.refl _ w)  o6374.1 o6374.2
      · refine ⟨fun h6375 => ?_, fun h6375 => ?_⟩
        · have o6376 : 0 ≤ (a0 - (1 : Int32)).toInt ∧ (a0 - (1 : Int32)).toInt < 40 := by have := (by decide : ((1 : Int32)).toInt = 1); have := bd_48_0 hI; have := ti_sub2 (Eq.refl a0.toInt) (by decide : ((1 : Int32)).toInt = 1) (by omega) (by omega); omega
          refine ⟨o6376, ?_⟩
          refine ⟨fun h6377 => ?_, fun h6377 => ?_⟩
          · have o6378 : ((-1) ≤ (0 : Int32).toInt) ∧ ((0 : Int32).toInt ≤ 1000000) := by have := (by decide : ((0 : Int32)).toInt = 0); exact ⟨by omega, by omega⟩
            exact hQ _ _ hI (FR.refl _ w)  o6378.1 o6378.2
          · have o6379 : ((-1) ≤ (1 : Int32).toInt) ∧ ((1 : Int32).toInt ≤ 1000000) := by have := (by decide : ((1 : Int32)).toInt = 1); exact ⟨by omega, by omega⟩
            exact hQ _ _ hI (FR.refl _ w)  o6379.1 o6379.2
        · refine ⟨fun h6380 => ?_, fun h6380 => ?_⟩
          · have o6381 : 0 ≤ (a0 - (1 : Int32)).toInt ∧ (a0 - (1 : Int32)).toInt < 40 := by have := (by decide : ((1 : Int32)).toInt = 1); have := bd_48_0 hI; have := ti_sub2 (Eq.refl a0.toInt) (by decide : ((1 : Int32)).toInt = 1) (by omega) (by omega); omega
            refine ⟨o6381, ?_⟩
            have o6382 : ((-1) ≤ (w.1 51 ((a0 - (1 : Int32)).toInt.toNat)).toInt) ∧ ((w.1 51 ((a0 - (1 : Int32)).toInt.toNat)).toInt ≤ 1000000) := by have := bd_51 hI ((a0 - (1 : Int32)).toInt.toNat); exact ⟨by omega, by omega⟩
            exact hQ _ _ hI (FR.refl _ w)  o6382.1 o6382.2
          · refine ⟨fun h6383 => ?_, fun h6383 => ?_⟩
            · have o6384 : (0 ≤ (a0 - (1 : Int32)).toInt) ∧ ((a0 - (1 : Int32)).toInt ≤ 39) := by have := (by decide : ((1 : Int32)).toInt = 1); have := bd_48_0 hI; have := ti_sub2 (Eq.refl a0.toInt) (by decide : ((1 : Int32)).toInt = 1) (by omega) (by omega); exact ⟨by omega, by omega⟩
              refine h_Ro_isOn hI  o6384.1 o6384.2 (fun r6388 w6385 hI6386 hL6387 p6389 p6390 => ?_)
              have hF6391 : FR l_Bh_row w w6385 := (FR.refl _ w).tr hL6387 rfl
              refine ⟨fun h6392 => ?_, fun h6392 => ?_⟩
              · have o6393 : ((-1) ≤ (0 : Int32).toInt) ∧ ((0 : Int32).toInt ≤ 1000000) := by have := (by decide : ((0 : Int32)).toInt = 0); exact ⟨by omega, by omega⟩
                exact hQ _ _ hI6386 hF6391  o6393.1 o6393.2
              · have o6394 : ((-1) ≤ (1 : Int32).toInt) ∧ ((1 : Int32).toInt ≤ 1000000) := by have := (by decide : ((1 : Int32)).toInt = 1); exact ⟨by omega, by omega⟩
                exact hQ _ _ hI6386 hF6391  o6394.1 o6394.2
            · have o6395 : ((-1) ≤ ((-1) : Int32).toInt) ∧ (((-1) : Int32).toInt ≤ 1000000) := by have := (by decide : (((-1) : Int32)).toInt = (-1)); exact ⟨by omega, by omega⟩
              exact hQ _ _ hI (FR.refl _ w)  o6395.1 o6395.2
def l_Ru_standingNode : Pl := [(61, some 15)]
set_option maxRecDepth 20000 in
set_option maxHeartbeats 2000000 in
theorem h_Ru_standingNode {w : MW} {a0 : Int32} {Q : Int32 → MW → Prop} (hI : BND w) (hf_RC : RC w) (hf_RF : RF w) (hf_RK : RK w) (hf_RO : RO w) (hf_RS : RS w) (hf_RX : RX w) (hr_61_3 : w.2.2 61 3 = some 62)  (hQ : ∀ (r : Int32) (w' : MW), BND w' → FR l_Ru_standingNode w w' → (-1) ≤ r.toInt → r.toInt ≤ 300 → Q r w') : p_Ru_standingNode w a0 Q := by
  refine Eq.mpr (p_Ru_standingNode.eq_1 _ _ _) ?_
  refine Eq.mpr (p_Ru_isAlive.eq_1 _ _) ?_
  refine ⟨fun h6396 => ?_, fun h6396 => ?_⟩
  · refine ⟨fun h => absurd h (by decide), fun _ => ?_⟩
    refine ⟨fun h6397 => ?_, fun h6397 => ?_⟩
    · have hI6398 : BND (sI w 61 15 a0) := wbd_61_15 hI
      have o6399 : ((-1) ≤ ((-1) : Int32).toInt) ∧ (((-1) : Int32).toInt ≤ 300) := by have := (by decide : (((-1) : Int32)).toInt = (-1)); exact ⟨by omega, by omega⟩
      exact hQ _ _ hI6398 (FR.I (FR.refl _ w) (k := 61) (j := 15) (v := a0) rfl)  o6399.1 o6399.2
    · have hI6400 : BND (sI w 61 15 a0) := wbd_61_15 hI
      have hW6401 : RC (sI w 61 15 a0) := (RC_fr (l := [(61, some 15)]) (FR.I (FR.refl _ w) (k := 61) (j := 15) (v := a0) rfl) rfl hf_RC)
      have o6402 : (0 ≤ (0 : Int32).toInt) ∧ ((0 : Int32).toInt ≤ 500) ∧ (0 ≤ (0 : Int32).toInt) ∧ ((0 : Int32).toInt ≤ 1) ∧ (0 ≤ (0 : Int32).toInt) ∧ ((0 : Int32).toInt ≤ 100) := by have := (by decide : ((0 : Int32)).toInt = 0); exact ⟨by omega, by omega, by omega, by omega, by omega, by omega⟩
      have hW6403 : ZL (0 : Int32) (sI w 61 15 a0) := (zl_ro (RO_fr (l := [(61, some 15)]) (FR.I (FR.refl _ w) (k := 61) (j := 15) (v := a0) rfl) rfl hf_RO) (by have := bd_80 hI 0; have : ((sI w 61 15 a0).1 80 0).toInt = (w.1 80 0).toInt := rfl; have := bd_62_2 hI; have : ((sI w 61 15 a0).1 62 2).toInt = (w.1 62 2).toInt := rfl; have := bd_61_4 hI; have : ((sI w 61 15 a0).1 61 4).toInt = (w.1 61 4).toInt := rfl; have := (by decide : ((0 : Int32)).toInt = 0); have := RS_ex (RS_fr (l := [(61, some 15)]) (FR.I (FR.refl _ w) (k := 61) (j := 15) (v := a0) rfl) rfl hf_RS); have := RS_ex hf_RS; omega))
      refine h_Ru_seek hI6400 hW6401 (RF_fr (l := [(61, some 15)]) (FR.I (FR.refl _ w) (k := 61) (j := 15) (v := a0) rfl) rfl hf_RF) (RK_fr (l := [(61, some 15)]) (FR.I (FR.refl _ w) (k := 61) (j := 15) (v := a0) rfl) rfl hf_RK) (RX_fr (l := [(61, some 15)]) (FR.I (FR.refl _ w) (k := 61) (j := 15) (v := a0) rfl) rfl hf_RX) hr_61_3 o6402.1 o6402.2.1 o6402.2.2.1 o6402.2.2.2.1 o6402.2.2.2.2.1 o6402.2.2.2.2.2 hW6403 (fun r6407 w6404 hI6405 hL6406 p6408 p6409 p6410 p6411 p6412 => ?_)
      have hF6413 : FR l_Ru_standingNode w w6404 := (FR.I (FR.refl _ w) (k := 61) (j := 15) (v := a0) rfl).tr hL6406 rfl
      refine ⟨fun h6414 => ?_, fun h6414 => ?_⟩
      · have o6415 : 0 ≤ r6407.toInt ∧ r6407.toInt < 501 := by have := bd_77 hI r6407.toInt.toNat; have : ((sI w 61 15 a0).1 77 r6407.toInt.toNat).toInt = (w.1 77 r6407.toInt.toNat).toInt := rfl; have : ((sI w 61 15 a0).1 63 (((sI w 61 15 a0).1 77 r6407.toInt.toNat).toInt.toNat)).toInt = (w.1 63 ((w.1 77 r6407.toInt.toNat).toInt.toNat)).toInt := rfl; have : ((sI w 61 15 a0).1 63 (((sI w 61 15 a0).1 77 r6407.toInt.toNat).toInt.toNat)).toInt = (w.1 63 (((sI w 61 15 a0).1 77 r6407.toInt.toNat).toInt.toNat)).toInt := rfl; have := (by decide : ((0 : Int32)).toInt = 0); omega
        refine ⟨o6415, ?_⟩
        have hW6417 : ZL r6407 w6404 := (p6410.resolve_left (by have := bd_77 hI r6407.toInt.toNat; have : ((sI w 61 15 a0).1 77 r6407.toInt.toNat).toInt = (w.1 77 r6407.toInt.toNat).toInt := rfl; have : ((sI w 61 15 a0).1 63 (((sI w 61 15 a0).1 77 r6407.toInt.toNat).toInt.toNat)).toInt = (w.1 63 ((w.1 77 r6407.toInt.toNat).toInt.toNat)).toInt := rfl; have : ((sI w 61 15 a0).1 63 (((sI w 61 15 a0).1 77 r6407.toInt.toNat).toInt.toNat)).toInt = (w.1 63 (((sI w 61 15 a0).1 77 r6407.toInt.toNat).toInt.toNat)).toInt := rfl; have := (by decide : ((0 : Int32)).toInt = 0); omega))
        have o6416 : ((-1) ≤ (w6404.1 77 r6407.toInt.toNat).toInt) ∧ ((w6404.1 77 r6407.toInt.toNat).toInt ≤ 300) := by have := bd_77 hI6405 r6407.toInt.toNat; have := bd_77 hI r6407.toInt.toNat; have : ((sI w 61 15 a0).1 77 r6407.toInt.toNat).toInt = (w.1 77 r6407.toInt.toNat).toInt := rfl; have := (congrArg Int32.toInt (hL6406 77 r6407.toInt.toNat rfl).1); have : ((sI w 61 15 a0).1 63 (((sI w 61 15 a0).1 77 r6407.toInt.toNat).toInt.toNat)).toInt = (w.1 63 ((w.1 77 r6407.toInt.toNat).toInt.toNat)).toInt := rfl; have : ((sI w 61 15 a0).1 63 (((sI w 61 15 a0).1 77 r6407.toInt.toNat).toInt.toNat)).toInt = (w.1 63 (((sI w 61 15 a0).1 77 r6407.toInt.toNat).toInt.toNat)).toInt := rfl; have := (by decide : ((0 : Int32)).toInt = 0); (try have := rk_use (RK_fr hL6406 rfl (RK_fr (l := [(61, some 15)]) (FR.I (FR.refl _ w) (k := 61) (j := 15) (v := a0) rfl) rfl hf_RK)) hW6417 (by omega)); exact ⟨by omega, by omega⟩
        exact hQ _ _ hI6405 hF6413  o6416.1 o6416.2
      · have o6418 : ((-1) ≤ ((-1) : Int32).toInt) ∧ (((-1) : Int32).toInt ≤ 300) := by have := (by decide : (((-1) : Int32)).toInt = (-1)); exact ⟨by omega, by omega⟩
        exact hQ _ _ hI6405 hF6413  o6418.1 o6418.2
  · refine ⟨fun h6419 => ?_, fun h6419 => ?_⟩
    · refine ⟨fun _ => ?_, fun h => absurd (by decide) h⟩
      have hI6420 : BND (sI w 61 15 a0) := wbd_61_15 hI
      have o6421 : ((-1) ≤ ((-1) : Int32).toInt) ∧ (((-1) : Int32).toInt ≤ 300) := by have := (by decide : (((-1) : Int32)).toInt = (-1)); exact ⟨by omega, by omega⟩
      exact hQ _ _ hI6420 (FR.I (FR.refl _ w) (k := 61) (j := 15) (v := a0) rfl)  o6421.1 o6421.2
    · refine ⟨fun h => absurd h (by decide), fun _ => ?_⟩
      refine ⟨fun h6422 => ?_, fun h6422 => ?_⟩
      · have hI6423 : BND (sI w 61 15 a0) := wbd_61_15 hI
        have o6424 : ((-1) ≤ ((-1) : Int32).toInt) ∧ (((-1) : Int32).toInt ≤ 300) := by have := (by decide : (((-1) : Int32)).toInt = (-1)); exact ⟨by omega, by omega⟩
        exact hQ _ _ hI6423 (FR.I (FR.refl _ w) (k := 61) (j := 15) (v := a0) rfl)  o6424.1 o6424.2
      · have hI6425 : BND (sI w 61 15 a0) := wbd_61_15 hI
        have hW6426 : RC (sI w 61 15 a0) := (RC_fr (l := [(61, some 15)]) (FR.I (FR.refl _ w) (k := 61) (j := 15) (v := a0) rfl) rfl hf_RC)
        have o6427 : (0 ≤ (0 : Int32).toInt) ∧ ((0 : Int32).toInt ≤ 500) ∧ (0 ≤ (0 : Int32).toInt) ∧ ((0 : Int32).toInt ≤ 1) ∧ (0 ≤ (0 : Int32).toInt) ∧ ((0 : Int32).toInt ≤ 100) := by have := (by decide : ((0 : Int32)).toInt = 0); exact ⟨by omega, by omega, by omega, by omega, by omega, by omega⟩
        have hW6428 : ZL (0 : Int32) (sI w 61 15 a0) := (zl_ro (RO_fr (l := [(61, some 15)]) (FR.I (FR.refl _ w) (k := 61) (j := 15) (v := a0) rfl) rfl hf_RO) (by have := bd_80 hI 0; have : ((sI w 61 15 a0).1 80 0).toInt = (w.1 80 0).toInt := rfl; have := bd_62_2 hI; have : ((sI w 61 15 a0).1 62 2).toInt = (w.1 62 2).toInt := rfl; have := bd_61_4 hI; have : ((sI w 61 15 a0).1 61 4).toInt = (w.1 61 4).toInt := rfl; have := (by decide : ((0 : Int32)).toInt = 0); have := (by decide : ((2 : Int32)).toInt = 2); have := RS_ex (RS_fr (l := [(61, some 15)]) (FR.I (FR.refl _ w) (k := 61) (j := 15) (v := a0) rfl) rfl hf_RS); have := RS_ex hf_RS; omega))
        refine h_Ru_seek hI6425 hW6426 (RF_fr (l := [(61, some 15)]) (FR.I (FR.refl _ w) (k := 61) (j := 15) (v := a0) rfl) rfl hf_RF) (RK_fr (l := [(61, some 15)]) (FR.I (FR.refl _ w) (k := 61) (j := 15) (v := a0) rfl) rfl hf_RK) (RX_fr (l := [(61, some 15)]) (FR.I (FR.refl _ w) (k := 61) (j := 15) (v := a0) rfl) rfl hf_RX) hr_61_3 o6427.1 o6427.2.1 o6427.2.2.1 o6427.2.2.2.1 o6427.2.2.2.2.1 o6427.2.2.2.2.2 hW6428 (fun r6432 w6429 hI6430 hL6431 p6433 p6434 p6435 p6436 p6437 => ?_)
        have hF6438 : FR l_Ru_standingNode w w6429 := (FR.I (FR.refl _ w) (k := 61) (j := 15) (v := a0) rfl).tr hL6431 rfl
        refine ⟨fun h6439 => ?_, fun h6439 => ?_⟩
        · have o6440 : 0 ≤ r6432.toInt ∧ r6432.toInt < 501 := by have := bd_77 hI r6432.toInt.toNat; have : ((sI w 61 15 a0).1 77 r6432.toInt.toNat).toInt = (w.1 77 r6432.toInt.toNat).toInt := rfl; have : ((sI w 61 15 a0).1 63 (((sI w 61 15 a0).1 77 r6432.toInt.toNat).toInt.toNat)).toInt = (w.1 63 ((w.1 77 r6432.toInt.toNat).toInt.toNat)).toInt := rfl; have : ((sI w 61 15 a0).1 63 (((sI w 61 15 a0).1 77 r6432.toInt.toNat).toInt.toNat)).toInt = (w.1 63 (((sI w 61 15 a0).1 77 r6432.toInt.toNat).toInt.toNat)).toInt := rfl; have := (by decide : ((0 : Int32)).toInt = 0); omega
          refine ⟨o6440, ?_⟩
          have hW6442 : ZL r6432 w6429 := (p6435.resolve_left (by have := bd_77 hI r6432.toInt.toNat; have : ((sI w 61 15 a0).1 77 r6432.toInt.toNat).toInt = (w.1 77 r6432.toInt.toNat).toInt := rfl; have : ((sI w 61 15 a0).1 63 (((sI w 61 15 a0).1 77 r6432.toInt.toNat).toInt.toNat)).toInt = (w.1 63 ((w.1 77 r6432.toInt.toNat).toInt.toNat)).toInt := rfl; have : ((sI w 61 15 a0).1 63 (((sI w 61 15 a0).1 77 r6432.toInt.toNat).toInt.toNat)).toInt = (w.1 63 (((sI w 61 15 a0).1 77 r6432.toInt.toNat).toInt.toNat)).toInt := rfl; have := (by decide : ((0 : Int32)).toInt = 0); omega))
          have o6441 : ((-1) ≤ (w6429.1 77 r6432.toInt.toNat).toInt) ∧ ((w6429.1 77 r6432.toInt.toNat).toInt ≤ 300) := by have := bd_77 hI6430 r6432.toInt.toNat; have := bd_77 hI r6432.toInt.toNat; have : ((sI w 61 15 a0).1 77 r6432.toInt.toNat).toInt = (w.1 77 r6432.toInt.toNat).toInt := rfl; have := (congrArg Int32.toInt (hL6431 77 r6432.toInt.toNat rfl).1); have : ((sI w 61 15 a0).1 63 (((sI w 61 15 a0).1 77 r6432.toInt.toNat).toInt.toNat)).toInt = (w.1 63 ((w.1 77 r6432.toInt.toNat).toInt.toNat)).toInt := rfl; have : ((sI w 61 15 a0).1 63 (((sI w 61 15 a0).1 77 r6432.toInt.toNat).toInt.toNat)).toInt = (w.1 63 (((sI w 61 15 a0).1 77 r6432.toInt.toNat).toInt.toNat)).toInt := rfl; have := (by decide : ((0 : Int32)).toInt = 0); (try have := rk_use (RK_fr hL6431 rfl (RK_fr (l := [(61, some 15)]) (FR.I (FR.refl _ w) (k := 61) (j := 15) (v := a0) rfl) rfl hf_RK)) hW6442 (by omega)); exact ⟨by omega, by omega⟩
          exact hQ _ _ hI6430 hF6438  o6441.1 o6441.2
        · have o6443 : ((-1) ≤ ((-1) : Int32).toInt) ∧ (((-1) : Int32).toInt ≤ 300) := by have := (by decide : (((-1) : Int32)).toInt = (-1)); exact ⟨by omega, by omega⟩
          exact hQ _ _ hI6430 hF6438  o6443.1 o6443.2
def l_Wa_get_79 : Pl := []
def l_Wa_get : Pl := []
set_option maxRecDepth 20000 in
set_option maxHeartbeats 2000000 in
theorem hq_Wa_get_79 {x79_2 : Int32} {E : Int32 → MW → Prop} {Q : Int32 → MW → Prop} (n : Nat) : ∀ (x79_3 : Int32) (x79_4 : Int32) (w : MW), BND w → 3 ≤ x79_2.toInt → x79_2.toInt ≤ 26 → (-1) ≤ x79_3.toInt → x79_3.toInt ≤ 23 → 3 ≤ x79_4.toInt → x79_4.toInt ≤ 26 → (26 - x79_4.toInt).toNat < n → (∀ (e79_3 : Int32) (w' : MW), BND w' → FR l_Wa_get_79 w w' → (-1) ≤ e79_3.toInt → e79_3.toInt ≤ 23 → E e79_3 w') → (∀ (r : Int32) (w' : MW), BND w' → FR l_Wa_get_79 w w' → False → Q r w') → q_Wa_get_79 x79_2 E Q n x79_3 x79_4 w := by
  induction n with
  | zero => intros; omega
  | succ n ih =>
    intro x79_3 x79_4 w hI  hp0 hp1 hp2 hp3 hp4 hp5 hm hE hQ
    rw [q_Wa_get_79.eq_2]
    refine ⟨fun h6444 => ?_, fun h6444 => ?_⟩
    · have o6445 : ((-1) ≤ x79_3.toInt) ∧ (x79_3.toInt ≤ 23) := by exact ⟨by omega, by omega⟩
      exact hE _ _ hI (FR.refl _ w) o6445.1 o6445.2
    · refine ⟨fun h6446 => ?_, fun h6446 => ?_⟩
      · have o6447 : ((-1) ≤ x79_3.toInt) ∧ (x79_3.toInt ≤ 23) := by have := (by decide : ((0 : Int32)).toInt = 0); exact ⟨by omega, by omega⟩
        exact hE _ _ hI (FR.refl _ w) o6447.1 o6447.2
      · have o6448 : 0 ≤ x79_3.toInt ∧ x79_3.toInt < 24 := by have := (by decide : ((0 : Int32)).toInt = 0); omega
        refine ⟨o6448, ?_⟩
        have o6449 : (3 ≤ x79_2.toInt) ∧ (x79_2.toInt ≤ 26) ∧ ((-1) ≤ (w.1 35 x79_3.toInt.toNat).toInt) ∧ ((w.1 35 x79_3.toInt.toNat).toInt ≤ 23) ∧ (3 ≤ (x79_4 + (1 : Int32)).toInt) ∧ ((x79_4 + (1 : Int32)).toInt ≤ 26) := by have := bd_35 hI x79_3.toInt.toNat; have := ti_add2 (Eq.refl x79_4.toInt) (by decide : ((1 : Int32)).toInt = 1) (by omega) (by omega); exact ⟨by omega, by omega, by omega, by omega, by omega, by omega⟩
        exact ih _ _ w hI  o6449.1 o6449.2.1 o6449.2.2.1 o6449.2.2.2.1 o6449.2.2.2.2.1 o6449.2.2.2.2.2 (by have := bd_35 hI x79_3.toInt.toNat; have := ti_add2 (Eq.refl x79_4.toInt) (by decide : ((1 : Int32)).toInt = 1) (by omega) (by omega); omega) (fun e0 w9 hI9 hF9 p0 p1 => hE e0 w9 hI9 ((FR.refl _ w).tr hF9 rfl) p0 p1 ) (fun r w9 hI9 hF9 q0 => q0.elim)
set_option maxRecDepth 20000 in
set_option maxHeartbeats 2000000 in
theorem h_Wa_get {w : MW} {a0 : Int32} {b0 : Int32} {Q : Int32 → MW → Prop} (hI : BND w)  (hQ : ∀ (r : Int32) (w' : MW), BND w' → FR l_Wa_get w w' → (-1) ≤ r.toInt → r.toInt ≤ 24 → Q r w') : p_Wa_get w a0 b0 Q := by
  refine Eq.mpr (p_Wa_get.eq_1 _ _ _ _) ?_
  refine ⟨fun h6450 => ?_, fun h6450 => ?_⟩
  · have o6451 : ((-1) ≤ ((-1) : Int32).toInt) ∧ (((-1) : Int32).toInt ≤ 24) := by have := (by decide : (((-1) : Int32)).toInt = (-1)); exact ⟨by omega, by omega⟩
    exact hQ _ _ hI (FR.refl _ w)  o6451.1 o6451.2
  · refine ⟨fun h6452 => ?_, fun h6452 => ?_⟩
    · have o6453 : ((-1) ≤ ((-1) : Int32).toInt) ∧ (((-1) : Int32).toInt ≤ 24) := by have := (by decide : (((-1) : Int32)).toInt = (-1)); exact ⟨by omega, by omega⟩
      exact hQ _ _ hI (FR.refl _ w)  o6453.1 o6453.2
    · refine ⟨fun h6454 => ?_, fun h6454 => ?_⟩
      · have o6455 : ((-1) ≤ ((-1) : Int32).toInt) ∧ (((-1) : Int32).toInt ≤ 24) := by have := (by decide : (((-1) : Int32)).toInt = (-1)); exact ⟨by omega, by omega⟩
        exact hQ _ _ hI (FR.refl _ w)  o6455.1 o6455.2
      · have o6456 : 0 ≤ a0.toInt ∧ a0.toInt < 24 := by have := (by decide : ((0 : Int32)).toInt = 0); have := bd_26_1 hI; omega
        refine ⟨o6456, ?_⟩
        refine ⟨fun h6457 => ?_, fun h6457 => ?_⟩
        · refine ⟨fun h6458 => ?_, fun h6458 => ?_⟩
          · have o6459 : 0 ≤ a0.toInt ∧ a0.toInt < 24 := by have := (by decide : ((0 : Int32)).toInt = 0); have := bd_26_1 hI; omega
            refine ⟨o6459, ?_⟩
            have o6460 : (3 ≤ b0.toInt) ∧ (b0.toInt ≤ 26) ∧ ((-1) ≤ (w.1 32 a0.toInt.toNat).toInt) ∧ ((w.1 32 a0.toInt.toNat).toInt ≤ 23) ∧ (3 ≤ (3 : Int32).toInt) ∧ ((3 : Int32).toInt ≤ 26) := by have := bd_32 hI a0.toInt.toNat; have := (by decide : ((3 : Int32)).toInt = 3); have := (by decide : ((0 : Int32)).toInt = 0); have := bd_31 hI a0.toInt.toNat; have := ti_add2 (by decide : ((3 : Int32)).toInt = 3) (Eq.refl (w.1 31 a0.toInt.toNat).toInt) (by omega) (by omega); exact ⟨by omega, by omega, by omega, by omega, by omega, by omega⟩
            refine hq_Wa_get_79 FU _ _ w hI  o6460.1 o6460.2.1 o6460.2.2.1 o6460.2.2.2.1 o6460.2.2.2.2.1 o6460.2.2.2.2.2 (fu_lt (by have := bd_32 hI a0.toInt.toNat; have := (by decide : ((3 : Int32)).toInt = 3); have := (by decide : ((0 : Int32)).toInt = 0); have := bd_31 hI a0.toInt.toNat; have := ti_add2 (by decide : ((3 : Int32)).toInt = 3) (Eq.refl (w.1 31 a0.toInt.toNat).toInt) (by omega) (by omega); omega)) (fun e6464 w6461 hI6462 hL6463 p6465 p6466 => ?_) (fun r w9 hI9 hF9 q0 => q0.elim)
            have hF6467 : FR l_Wa_get w w6461 := (FR.refl _ w).tr hL6463 rfl
            have o6468 : ((-1) ≤ e6464.toInt) ∧ (e6464.toInt ≤ 24) := by exact ⟨by omega, by omega⟩
            exact hQ _ _ hI6462 hF6467  o6468.1 o6468.2
          · refine ⟨fun h6469 => ?_, fun h6469 => ?_⟩
            · refine ⟨fun h6470 => ?_, fun h6470 => ?_⟩
              · have o6471 : 0 ≤ a0.toInt ∧ a0.toInt < 24 := by have := (by decide : ((0 : Int32)).toInt = 0); have := bd_26_1 hI; omega
                refine ⟨o6471, ?_⟩
                have o6472 : ((-1) ≤ (w.1 31 a0.toInt.toNat).toInt) ∧ ((w.1 31 a0.toInt.toNat).toInt ≤ 24) := by have := bd_31 hI a0.toInt.toNat; have := (by decide : ((3 : Int32)).toInt = 3); have := (by decide : ((0 : Int32)).toInt = 0); have := (by decide : ((1 : Int32)).toInt = 1); have := ti_add2 (by decide : ((3 : Int32)).toInt = 3) (Eq.refl (w.1 31 a0.toInt.toNat).toInt) (by omega) (by omega); exact ⟨by omega, by omega⟩
                exact hQ _ _ hI (FR.refl _ w)  o6472.1 o6472.2
              · have o6473 : 0 ≤ a0.toInt ∧ a0.toInt < 24 := by have := (by decide : ((0 : Int32)).toInt = 0); have := bd_26_1 hI; omega
                refine ⟨o6473, ?_⟩
                have o6474 : ((-1) ≤ (w.1 28 a0.toInt.toNat).toInt) ∧ ((w.1 28 a0.toInt.toNat).toInt ≤ 24) := by have := bd_28 hI a0.toInt.toNat; exact ⟨by omega, by omega⟩
                exact hQ _ _ hI (FR.refl _ w)  o6474.1 o6474.2
            · have o6475 : 0 ≤ a0.toInt ∧ a0.toInt < 24 := by have := (by decide : ((0 : Int32)).toInt = 0); have := bd_26_1 hI; omega
              refine ⟨o6475, ?_⟩
              have o6476 : ((-1) ≤ (w.1 27 a0.toInt.toNat).toInt) ∧ ((w.1 27 a0.toInt.toNat).toInt ≤ 24) := by have := bd_27 hI a0.toInt.toNat; exact ⟨by omega, by omega⟩
              exact hQ _ _ hI (FR.refl _ w)  o6476.1 o6476.2
        · have o6477 : ((-1) ≤ ((-1) : Int32).toInt) ∧ (((-1) : Int32).toInt ≤ 24) := by have := (by decide : (((-1) : Int32)).toInt = (-1)); exact ⟨by omega, by omega⟩
          exact hQ _ _ hI (FR.refl _ w)  o6477.1 o6477.2
def l_Bh_danger : Pl := [(42, some 6), (42, some 7), (42, some 8), (42, some 9), (43, none), (44, none), (45, none), (46, none)]
set_option maxRecDepth 20000 in
set_option maxHeartbeats 2000000 in
theorem h_Bh_danger {w : MW} {a0 : Int32} {Q : Int32 → MW → Prop} (hI : BND w) (hf_PE : PE w) (hf_PL : PL w) (hr_7_0 : w.2.2 7 0 = some 8)  (hQ : ∀ (r : Int32) (w' : MW), BND w' → FR l_Bh_danger w w' → Q r w') : p_Bh_danger w a0 Q := by
  refine Eq.mpr (p_Bh_danger.eq_1 _ _ _) ?_
  refine h_Sf_isSafe hI hf_PE hf_PL hr_7_0  (fun r6481 w6478 hI6479 hL6480 p6482 p6483 => ?_)
  have hF6484 : FR l_Bh_danger w w6478 := (FR.refl _ w).tr hL6480 rfl
  refine ⟨fun h6485 => ?_, fun h6485 => ?_⟩
  · refine ⟨fun h6486 => ?_, fun h6486 => ?_⟩
    · refine ⟨fun h6487 => ?_, fun h6487 => ?_⟩
      · exact hQ _ _ hI6479 hF6484
      · refine ⟨fun h6488 => ?_, fun h6488 => ?_⟩
        · exact hQ _ _ hI6479 hF6484
        · refine ⟨fun h6489 => ?_, fun h6489 => ?_⟩
          · exact hQ _ _ hI6479 hF6484
          · exact hQ _ _ hI6479 hF6484
    · exact hQ _ _ hI6479 hF6484
  · exact hQ _ _ hI6479 hF6484
def l_Mo_feed_72 : Pl := [(127, some 1), (128, none)]
def l_Mo_feed_19 : Pl := [(127, some 1), (128, none)]
def l_Mo_feed : Pl := [(127, some 1), (128, none)]
set_option maxRecDepth 20000 in
set_option maxHeartbeats 2000000 in
theorem hq_Mo_feed_19 {x19_1 : Int32} {x19_2 : Int32} {x19_3 : Int32} {x19_4 : Int32} {x19_5 : Int32} {E : MW → Prop} {Q : Int32 → MW → Prop} (n : Nat) : ∀ (x19_6 : Int32) (w : MW), BND w → 0 ≤ x19_6.toInt → x19_6.toInt ≤ 20 → (w.1 127 1).toInt + 20 - x19_6.toInt ≤ 4020 → (20 - x19_6.toInt).toNat < n → (∀ (w' : MW), BND w' → FR l_Mo_feed_19 w w' → E w') → (∀ (r : Int32) (w' : MW), BND w' → FR l_Mo_feed_19 w w' → False → Q r w') → q_Mo_feed_19 x19_1 x19_2 x19_3 x19_4 x19_5 E Q n x19_6 w := by
  induction n with
  | zero => intros; omega
  | succ n ih =>
    intro x19_6 w hI  hp0 hp1 hp2 hm hE hQ
    rw [q_Mo_feed_19.eq_2]
    refine ⟨fun h6490 => ?_, fun h6490 => ?_⟩
    · exact hE _ hI (FR.refl _ w)
    · refine ⟨fun h6491 => ?_, fun h6491 => ?_⟩
      · refine ⟨fun h6492 => ?_, fun h6492 => ?_⟩
        · refine ⟨fun h6493 => ?_, fun h6493 => ?_⟩
          · refine ⟨fun h6494 => ?_, fun h6494 => ?_⟩
            · refine Eq.mpr (q_Mo_feed_72.eq_1 _ _ _ _ _ _ _ _ _ _ _) ?_
              have o6495 : 0 ≤ (w.1 127 1).toInt ∧ (w.1 127 1).toInt < 4020 := by have := bd_127_1 hI; have := (by decide : ((20 : Int32)).toInt = 20); have := (by decide : ((4 : Int32)).toInt = 4); have := (by decide : ((8 : Int32)).toInt = 8); have := (by decide : ((12 : Int32)).toInt = 12); have := (by decide : ((16 : Int32)).toInt = 16); omega
              refine ⟨o6495, ?_⟩
              have o6497 : (-128) ≤ (vp_nar .byte ((Int32.toInt8 ((x19_5.toUInt32 >>> (((24 : Int32) - ((8 : Int32) * (x19_6 - x19_6 / (4 : Int32) * (4 : Int32)))).toUInt32 &&& Int32.toUInt32 31)).toInt32)).toInt32)).toInt ∧ (vp_nar .byte ((Int32.toInt8 ((x19_5.toUInt32 >>> (((24 : Int32) - ((8 : Int32) * (x19_6 - x19_6 / (4 : Int32) * (4 : Int32)))).toUInt32 &&& Int32.toUInt32 31)).toInt32)).toInt32)).toInt ≤ 127 := by have := ti_lo ((x19_5.toUInt32 >>> (((24 : Int32) - ((8 : Int32) * (x19_6 - x19_6 / (4 : Int32) * (4 : Int32)))).toUInt32 &&& Int32.toUInt32 31)).toInt32); have := ti_hi ((x19_5.toUInt32 >>> (((24 : Int32) - ((8 : Int32) * (x19_6 - x19_6 / (4 : Int32) * (4 : Int32)))).toUInt32 &&& Int32.toUInt32 31)).toInt32); have := ti_lo x19_5; have := ti_hi x19_5; have := bd_127_1 hI; have := (by decide : ((20 : Int32)).toInt = 20); have := (by decide : ((4 : Int32)).toInt = 4); have := (by decide : ((8 : Int32)).toInt = 8); have := (by decide : ((12 : Int32)).toInt = 12); have := (by decide : ((16 : Int32)).toInt = 16); have := nb_rem (x := x19_6) (by omega) (by decide : ((4 : Int32)).toInt = 4) (by decide); have := ti_mul2 (by decide : ((8 : Int32)).toInt = 8) (Eq.refl (x19_6 - x19_6 / (4 : Int32) * (4 : Int32)).toInt) (by omega) (by omega); have := ti_sub2 (by decide : ((24 : Int32)).toInt = 24) (Eq.refl ((8 : Int32) * (x19_6 - x19_6 / (4 : Int32) * (4 : Int32))).toInt) (by omega) (by omega); have := nb_i2b ((x19_5.toUInt32 >>> (((24 : Int32) - ((8 : Int32) * (x19_6 - x19_6 / (4 : Int32) * (4 : Int32)))).toUInt32 &&& Int32.toUInt32 31)).toInt32); have := nb_byteq (x := ((Int32.toInt8 ((x19_5.toUInt32 >>> (((24 : Int32) - ((8 : Int32) * (x19_6 - x19_6 / (4 : Int32) * (4 : Int32)))).toUInt32 &&& Int32.toUInt32 31)).toInt32)).toInt32)) (by omega) (by omega); omega
              have hI6496 : BND (sI w 128 ((w.1 127 1).toInt.toNat) (vp_nar .byte ((Int32.toInt8 ((x19_5.toUInt32 >>> (((24 : Int32) - ((8 : Int32) * (x19_6 - x19_6 / (4 : Int32) * (4 : Int32)))).toUInt32 &&& Int32.toUInt32 31)).toInt32)).toInt32))) := wbd_128 hI ((w.1 127 1).toInt.toNat) o6497.1 o6497.2
              have o6499 : 0 ≤ ((w.1 127 1) + (1 : Int32)).toInt ∧ ((w.1 127 1) + (1 : Int32)).toInt ≤ 4020 := by have := bd_127_1 hI; have := (by decide : ((20 : Int32)).toInt = 20); have := (by decide : ((4 : Int32)).toInt = 4); have := (by decide : ((8 : Int32)).toInt = 8); have := (by decide : ((12 : Int32)).toInt = 12); have := (by decide : ((16 : Int32)).toInt = 16); have := ti_add2 (Eq.refl (w.1 127 1).toInt) (by decide : ((1 : Int32)).toInt = 1) (by omega) (by omega); omega
              have hI6498 : BND (sI (sI w 128 ((w.1 127 1).toInt.toNat) (vp_nar .byte ((Int32.toInt8 ((x19_5.toUInt32 >>> (((24 : Int32) - ((8 : Int32) * (x19_6 - x19_6 / (4 : Int32) * (4 : Int32)))).toUInt32 &&& Int32.toUInt32 31)).toInt32)).toInt32))) 127 1 ((w.1 127 1) + (1 : Int32))) := wbd_127_1 hI6496 o6499.1 o6499.2
              have o6500 : (0 ≤ (x19_6 + (1 : Int32)).toInt) ∧ ((x19_6 + (1 : Int32)).toInt ≤ 20) ∧ (((sI (sI w 128 ((w.1 127 1).toInt.toNat) (vp_nar .byte ((Int32.toInt8 ((x19_5.toUInt32 >>> (((24 : Int32) - ((8 : Int32) * (x19_6 - x19_6 / (4 : Int32) * (4 : Int32)))).toUInt32 &&& Int32.toUInt32 31)).toInt32)).toInt32))) 127 1 ((w.1 127 1) + (1 : Int32))).1 127 1).toInt + 20 - (x19_6 + (1 : Int32)).toInt ≤ 4020) := by have := bd_127_1 hI; have : ((sI (sI w 128 ((w.1 127 1).toInt.toNat) (vp_nar .byte ((Int32.toInt8 ((x19_5.toUInt32 >>> (((24 : Int32) - ((8 : Int32) * (x19_6 - x19_6 / (4 : Int32) * (4 : Int32)))).toUInt32 &&& Int32.toUInt32 31)).toInt32)).toInt32))) 127 1 ((w.1 127 1) + (1 : Int32))).1 127 1).toInt = ((w.1 127 1) + (1 : Int32)).toInt := rfl; have := (by decide : ((20 : Int32)).toInt = 20); have := (by decide : ((4 : Int32)).toInt = 4); have := (by decide : ((8 : Int32)).toInt = 8); have := (by decide : ((12 : Int32)).toInt = 12); have := (by decide : ((16 : Int32)).toInt = 16); have := ti_add2 (Eq.refl x19_6.toInt) (by decide : ((1 : Int32)).toInt = 1) (by omega) (by omega); have := ti_add2 (Eq.refl (w.1 127 1).toInt) (by decide : ((1 : Int32)).toInt = 1) (by omega) (by omega); exact ⟨by omega, by omega, by omega⟩
              exact ih _ (sI (sI w 128 ((w.1 127 1).toInt.toNat) (vp_nar .byte ((Int32.toInt8 ((x19_5.toUInt32 >>> (((24 : Int32) - ((8 : Int32) * (x19_6 - x19_6 / (4 : Int32) * (4 : Int32)))).toUInt32 &&& Int32.toUInt32 31)).toInt32)).toInt32))) 127 1 ((w.1 127 1) + (1 : Int32))) hI6498  o6500.1 o6500.2.1 o6500.2.2 (by have := bd_127_1 hI; have := (by decide : ((20 : Int32)).toInt = 20); have := (by decide : ((4 : Int32)).toInt = 4); have := (by decide : ((8 : Int32)).toInt = 8); have := (by decide : ((12 : Int32)).toInt = 12); have := (by decide : ((16 : Int32)).toInt = 16); have := ti_add2 (Eq.refl x19_6.toInt) (by decide : ((1 : Int32)).toInt = 1) (by omega) (by omega); omega) (fun w9 hI9 hF9 => hE w9 hI9 ((FR.I (FR.I (FR.refl _ w) (k := 128) (j := (w.1 127 1).toInt.toNat) (v := (vp_nar .byte ((Int32.toInt8 ((x19_5.toUInt32 >>> (((24 : Int32) - ((8 : Int32) * (x19_6 - x19_6 / (4 : Int32) * (4 : Int32)))).toUInt32 &&& Int32.toUInt32 31)).toInt32)).toInt32))) rfl) (k := 127) (j := 1) (v := ((w.1 127 1) + (1 : Int32))) rfl).tr hF9 rfl) ) (fun r w9 hI9 hF9 q0 => q0.elim)
            · refine Eq.mpr (q_Mo_feed_72.eq_1 _ _ _ _ _ _ _ _ _ _ _) ?_
              have o6501 : 0 ≤ (w.1 127 1).toInt ∧ (w.1 127 1).toInt < 4020 := by have := bd_127_1 hI; have := (by decide : ((20 : Int32)).toInt = 20); have := (by decide : ((4 : Int32)).toInt = 4); have := (by decide : ((8 : Int32)).toInt = 8); have := (by decide : ((12 : Int32)).toInt = 12); have := (by decide : ((16 : Int32)).toInt = 16); omega
              refine ⟨o6501, ?_⟩
              have o6503 : (-128) ≤ (vp_nar .byte ((Int32.toInt8 ((x19_4.toUInt32 >>> (((24 : Int32) - ((8 : Int32) * (x19_6 - x19_6 / (4 : Int32) * (4 : Int32)))).toUInt32 &&& Int32.toUInt32 31)).toInt32)).toInt32)).toInt ∧ (vp_nar .byte ((Int32.toInt8 ((x19_4.toUInt32 >>> (((24 : Int32) - ((8 : Int32) * (x19_6 - x19_6 / (4 : Int32) * (4 : Int32)))).toUInt32 &&& Int32.toUInt32 31)).toInt32)).toInt32)).toInt ≤ 127 := by have := ti_lo ((x19_4.toUInt32 >>> (((24 : Int32) - ((8 : Int32) * (x19_6 - x19_6 / (4 : Int32) * (4 : Int32)))).toUInt32 &&& Int32.toUInt32 31)).toInt32); have := ti_hi ((x19_4.toUInt32 >>> (((24 : Int32) - ((8 : Int32) * (x19_6 - x19_6 / (4 : Int32) * (4 : Int32)))).toUInt32 &&& Int32.toUInt32 31)).toInt32); have := ti_lo x19_4; have := ti_hi x19_4; have := bd_127_1 hI; have := (by decide : ((20 : Int32)).toInt = 20); have := (by decide : ((4 : Int32)).toInt = 4); have := (by decide : ((8 : Int32)).toInt = 8); have := (by decide : ((12 : Int32)).toInt = 12); have := (by decide : ((16 : Int32)).toInt = 16); have := nb_rem (x := x19_6) (by omega) (by decide : ((4 : Int32)).toInt = 4) (by decide); have := ti_mul2 (by decide : ((8 : Int32)).toInt = 8) (Eq.refl (x19_6 - x19_6 / (4 : Int32) * (4 : Int32)).toInt) (by omega) (by omega); have := ti_sub2 (by decide : ((24 : Int32)).toInt = 24) (Eq.refl ((8 : Int32) * (x19_6 - x19_6 / (4 : Int32) * (4 : Int32))).toInt) (by omega) (by omega); have := nb_i2b ((x19_4.toUInt32 >>> (((24 : Int32) - ((8 : Int32) * (x19_6 - x19_6 / (4 : Int32) * (4 : Int32)))).toUInt32 &&& Int32.toUInt32 31)).toInt32); have := nb_byteq (x := ((Int32.toInt8 ((x19_4.toUInt32 >>> (((24 : Int32) - ((8 : Int32) * (x19_6 - x19_6 / (4 : Int32) * (4 : Int32)))).toUInt32 &&& Int32.toUInt32 31)).toInt32)).toInt32)) (by omega) (by omega); omega
              have hI6502 : BND (sI w 128 ((w.1 127 1).toInt.toNat) (vp_nar .byte ((Int32.toInt8 ((x19_4.toUInt32 >>> (((24 : Int32) - ((8 : Int32) * (x19_6 - x19_6 / (4 : Int32) * (4 : Int32)))).toUInt32 &&& Int32.toUInt32 31)).toInt32)).toInt32))) := wbd_128 hI ((w.1 127 1).toInt.toNat) o6503.1 o6503.2
              have o6505 : 0 ≤ ((w.1 127 1) + (1 : Int32)).toInt ∧ ((w.1 127 1) + (1 : Int32)).toInt ≤ 4020 := by have := bd_127_1 hI; have := (by decide : ((20 : Int32)).toInt = 20); have := (by decide : ((4 : Int32)).toInt = 4); have := (by decide : ((8 : Int32)).toInt = 8); have := (by decide : ((12 : Int32)).toInt = 12); have := (by decide : ((16 : Int32)).toInt = 16); have := ti_add2 (Eq.refl (w.1 127 1).toInt) (by decide : ((1 : Int32)).toInt = 1) (by omega) (by omega); omega
              have hI6504 : BND (sI (sI w 128 ((w.1 127 1).toInt.toNat) (vp_nar .byte ((Int32.toInt8 ((x19_4.toUInt32 >>> (((24 : Int32) - ((8 : Int32) * (x19_6 - x19_6 / (4 : Int32) * (4 : Int32)))).toUInt32 &&& Int32.toUInt32 31)).toInt32)).toInt32))) 127 1 ((w.1 127 1) + (1 : Int32))) := wbd_127_1 hI6502 o6505.1 o6505.2
              have o6506 : (0 ≤ (x19_6 + (1 : Int32)).toInt) ∧ ((x19_6 + (1 : Int32)).toInt ≤ 20) ∧ (((sI (sI w 128 ((w.1 127 1).toInt.toNat) (vp_nar .byte ((Int32.toInt8 ((x19_4.toUInt32 >>> (((24 : Int32) - ((8 : Int32) * (x19_6 - x19_6 / (4 : Int32) * (4 : Int32)))).toUInt32 &&& Int32.toUInt32 31)).toInt32)).toInt32))) 127 1 ((w.1 127 1) + (1 : Int32))).1 127 1).toInt + 20 - (x19_6 + (1 : Int32)).toInt ≤ 4020) := by have := bd_127_1 hI; have : ((sI (sI w 128 ((w.1 127 1).toInt.toNat) (vp_nar .byte ((Int32.toInt8 ((x19_4.toUInt32 >>> (((24 : Int32) - ((8 : Int32) * (x19_6 - x19_6 / (4 : Int32) * (4 : Int32)))).toUInt32 &&& Int32.toUInt32 31)).toInt32)).toInt32))) 127 1 ((w.1 127 1) + (1 : Int32))).1 127 1).toInt = ((w.1 127 1) + (1 : Int32)).toInt := rfl; have := (by decide : ((20 : Int32)).toInt = 20); have := (by decide : ((4 : Int32)).toInt = 4); have := (by decide : ((8 : Int32)).toInt = 8); have := (by decide : ((12 : Int32)).toInt = 12); have := (by decide : ((16 : Int32)).toInt = 16); have := ti_add2 (Eq.refl x19_6.toInt) (by decide : ((1 : Int32)).toInt = 1) (by omega) (by omega); have := ti_add2 (Eq.refl (w.1 127 1).toInt) (by decide : ((1 : Int32)).toInt = 1) (by omega) (by omega); exact ⟨by omega, by omega, by omega⟩
              exact ih _ (sI (sI w 128 ((w.1 127 1).toInt.toNat) (vp_nar .byte ((Int32.toInt8 ((x19_4.toUInt32 >>> (((24 : Int32) - ((8 : Int32) * (x19_6 - x19_6 / (4 : Int32) * (4 : Int32)))).toUInt32 &&& Int32.toUInt32 31)).toInt32)).toInt32))) 127 1 ((w.1 127 1) + (1 : Int32))) hI6504  o6506.1 o6506.2.1 o6506.2.2 (by have := bd_127_1 hI; have := (by decide : ((20 : Int32)).toInt = 20); have := (by decide : ((4 : Int32)).toInt = 4); have := (by decide : ((8 : Int32)).toInt = 8); have := (by decide : ((12 : Int32)).toInt = 12); have := (by decide : ((16 : Int32)).toInt = 16); have := ti_add2 (Eq.refl x19_6.toInt) (by decide : ((1 : Int32)).toInt = 1) (by omega) (by omega); omega) (fun w9 hI9 hF9 => hE w9 hI9 ((FR.I (FR.I (FR.refl _ w) (k := 128) (j := (w.1 127 1).toInt.toNat) (v := (vp_nar .byte ((Int32.toInt8 ((x19_4.toUInt32 >>> (((24 : Int32) - ((8 : Int32) * (x19_6 - x19_6 / (4 : Int32) * (4 : Int32)))).toUInt32 &&& Int32.toUInt32 31)).toInt32)).toInt32))) rfl) (k := 127) (j := 1) (v := ((w.1 127 1) + (1 : Int32))) rfl).tr hF9 rfl) ) (fun r w9 hI9 hF9 q0 => q0.elim)
          · refine Eq.mpr (q_Mo_feed_72.eq_1 _ _ _ _ _ _ _ _ _ _ _) ?_
            have o6507 : 0 ≤ (w.1 127 1).toInt ∧ (w.1 127 1).toInt < 4020 := by have := bd_127_1 hI; have := (by decide : ((20 : Int32)).toInt = 20); have := (by decide : ((4 : Int32)).toInt = 4); have := (by decide : ((8 : Int32)).toInt = 8); have := (by decide : ((12 : Int32)).toInt = 12); omega
            refine ⟨o6507, ?_⟩
            have o6509 : (-128) ≤ (vp_nar .byte ((Int32.toInt8 ((x19_3.toUInt32 >>> (((24 : Int32) - ((8 : Int32) * (x19_6 - x19_6 / (4 : Int32) * (4 : Int32)))).toUInt32 &&& Int32.toUInt32 31)).toInt32)).toInt32)).toInt ∧ (vp_nar .byte ((Int32.toInt8 ((x19_3.toUInt32 >>> (((24 : Int32) - ((8 : Int32) * (x19_6 - x19_6 / (4 : Int32) * (4 : Int32)))).toUInt32 &&& Int32.toUInt32 31)).toInt32)).toInt32)).toInt ≤ 127 := by have := ti_lo ((x19_3.toUInt32 >>> (((24 : Int32) - ((8 : Int32) * (x19_6 - x19_6 / (4 : Int32) * (4 : Int32)))).toUInt32 &&& Int32.toUInt32 31)).toInt32); have := ti_hi ((x19_3.toUInt32 >>> (((24 : Int32) - ((8 : Int32) * (x19_6 - x19_6 / (4 : Int32) * (4 : Int32)))).toUInt32 &&& Int32.toUInt32 31)).toInt32); have := ti_lo x19_3; have := ti_hi x19_3; have := bd_127_1 hI; have := (by decide : ((20 : Int32)).toInt = 20); have := (by decide : ((4 : Int32)).toInt = 4); have := (by decide : ((8 : Int32)).toInt = 8); have := (by decide : ((12 : Int32)).toInt = 12); have := nb_rem (x := x19_6) (by omega) (by decide : ((4 : Int32)).toInt = 4) (by decide); have := ti_mul2 (by decide : ((8 : Int32)).toInt = 8) (Eq.refl (x19_6 - x19_6 / (4 : Int32) * (4 : Int32)).toInt) (by omega) (by omega); have := ti_sub2 (by decide : ((24 : Int32)).toInt = 24) (Eq.refl ((8 : Int32) * (x19_6 - x19_6 / (4 : Int32) * (4 : Int32))).toInt) (by omega) (by omega); have := nb_i2b ((x19_3.toUInt32 >>> (((24 : Int32) - ((8 : Int32) * (x19_6 - x19_6 / (4 : Int32) * (4 : Int32)))).toUInt32 &&& Int32.toUInt32 31)).toInt32); have := nb_byteq (x := ((Int32.toInt8 ((x19_3.toUInt32 >>> (((24 : Int32) - ((8 : Int32) * (x19_6 - x19_6 / (4 : Int32) * (4 : Int32)))).toUInt32 &&& Int32.toUInt32 31)).toInt32)).toInt32)) (by omega) (by omega); omega
            have hI6508 : BND (sI w 128 ((w.1 127 1).toInt.toNat) (vp_nar .byte ((Int32.toInt8 ((x19_3.toUInt32 >>> (((24 : Int32) - ((8 : Int32) * (x19_6 - x19_6 / (4 : Int32) * (4 : Int32)))).toUInt32 &&& Int32.toUInt32 31)).toInt32)).toInt32))) := wbd_128 hI ((w.1 127 1).toInt.toNat) o6509.1 o6509.2
            have o6511 : 0 ≤ ((w.1 127 1) + (1 : Int32)).toInt ∧ ((w.1 127 1) + (1 : Int32)).toInt ≤ 4020 := by have := bd_127_1 hI; have := (by decide : ((20 : Int32)).toInt = 20); have := (by decide : ((4 : Int32)).toInt = 4); have := (by decide : ((8 : Int32)).toInt = 8); have := (by decide : ((12 : Int32)).toInt = 12); have := ti_add2 (Eq.refl (w.1 127 1).toInt) (by decide : ((1 : Int32)).toInt = 1) (by omega) (by omega); omega
            have hI6510 : BND (sI (sI w 128 ((w.1 127 1).toInt.toNat) (vp_nar .byte ((Int32.toInt8 ((x19_3.toUInt32 >>> (((24 : Int32) - ((8 : Int32) * (x19_6 - x19_6 / (4 : Int32) * (4 : Int32)))).toUInt32 &&& Int32.toUInt32 31)).toInt32)).toInt32))) 127 1 ((w.1 127 1) + (1 : Int32))) := wbd_127_1 hI6508 o6511.1 o6511.2
            have o6512 : (0 ≤ (x19_6 + (1 : Int32)).toInt) ∧ ((x19_6 + (1 : Int32)).toInt ≤ 20) ∧ (((sI (sI w 128 ((w.1 127 1).toInt.toNat) (vp_nar .byte ((Int32.toInt8 ((x19_3.toUInt32 >>> (((24 : Int32) - ((8 : Int32) * (x19_6 - x19_6 / (4 : Int32) * (4 : Int32)))).toUInt32 &&& Int32.toUInt32 31)).toInt32)).toInt32))) 127 1 ((w.1 127 1) + (1 : Int32))).1 127 1).toInt + 20 - (x19_6 + (1 : Int32)).toInt ≤ 4020) := by have := bd_127_1 hI; have : ((sI (sI w 128 ((w.1 127 1).toInt.toNat) (vp_nar .byte ((Int32.toInt8 ((x19_3.toUInt32 >>> (((24 : Int32) - ((8 : Int32) * (x19_6 - x19_6 / (4 : Int32) * (4 : Int32)))).toUInt32 &&& Int32.toUInt32 31)).toInt32)).toInt32))) 127 1 ((w.1 127 1) + (1 : Int32))).1 127 1).toInt = ((w.1 127 1) + (1 : Int32)).toInt := rfl; have := (by decide : ((20 : Int32)).toInt = 20); have := (by decide : ((4 : Int32)).toInt = 4); have := (by decide : ((8 : Int32)).toInt = 8); have := (by decide : ((12 : Int32)).toInt = 12); have := ti_add2 (Eq.refl x19_6.toInt) (by decide : ((1 : Int32)).toInt = 1) (by omega) (by omega); have := ti_add2 (Eq.refl (w.1 127 1).toInt) (by decide : ((1 : Int32)).toInt = 1) (by omega) (by omega); exact ⟨by omega, by omega, by omega⟩
            exact ih _ (sI (sI w 128 ((w.1 127 1).toInt.toNat) (vp_nar .byte ((Int32.toInt8 ((x19_3.toUInt32 >>> (((24 : Int32) - ((8 : Int32) * (x19_6 - x19_6 / (4 : Int32) * (4 : Int32)))).toUInt32 &&& Int32.toUInt32 31)).toInt32)).toInt32))) 127 1 ((w.1 127 1) + (1 : Int32))) hI6510  o6512.1 o6512.2.1 o6512.2.2 (by have := bd_127_1 hI; have := (by decide : ((20 : Int32)).toInt = 20); have := (by decide : ((4 : Int32)).toInt = 4); have := (by decide : ((8 : Int32)).toInt = 8); have := (by decide : ((12 : Int32)).toInt = 12); have := ti_add2 (Eq.refl x19_6.toInt) (by decide : ((1 : Int32)).toInt = 1) (by omega) (by omega); omega) (fun w9 hI9 hF9 => hE w9 hI9 ((FR.I (FR.I (FR.refl _ w) (k := 128) (j := (w.1 127 1).toInt.toNat) (v := (vp_nar .byte ((Int32.toInt8 ((x19_3.toUInt32 >>> (((24 : Int32) - ((8 : Int32) * (x19_6 - x19_6 / (4 : Int32) * (4 : Int32)))).toUInt32 &&& Int32.toUInt32 31)).toInt32)).toInt32))) rfl) (k := 127) (j := 1) (v := ((w.1 127 1) + (1 : Int32))) rfl).tr hF9 rfl) ) (fun r w9 hI9 hF9 q0 => q0.elim)
        · refine Eq.mpr (q_Mo_feed_72.eq_1 _ _ _ _ _ _ _ _ _ _ _) ?_
          have o6513 : 0 ≤ (w.1 127 1).toInt ∧ (w.1 127 1).toInt < 4020 := by have := bd_127_1 hI; have := (by decide : ((20 : Int32)).toInt = 20); have := (by decide : ((4 : Int32)).toInt = 4); have := (by decide : ((8 : Int32)).toInt = 8); omega
          refine ⟨o6513, ?_⟩
          have o6515 : (-128) ≤ (vp_nar .byte ((Int32.toInt8 ((x19_2.toUInt32 >>> (((24 : Int32) - ((8 : Int32) * (x19_6 - x19_6 / (4 : Int32) * (4 : Int32)))).toUInt32 &&& Int32.toUInt32 31)).toInt32)).toInt32)).toInt ∧ (vp_nar .byte ((Int32.toInt8 ((x19_2.toUInt32 >>> (((24 : Int32) - ((8 : Int32) * (x19_6 - x19_6 / (4 : Int32) * (4 : Int32)))).toUInt32 &&& Int32.toUInt32 31)).toInt32)).toInt32)).toInt ≤ 127 := by have := ti_lo ((x19_2.toUInt32 >>> (((24 : Int32) - ((8 : Int32) * (x19_6 - x19_6 / (4 : Int32) * (4 : Int32)))).toUInt32 &&& Int32.toUInt32 31)).toInt32); have := ti_hi ((x19_2.toUInt32 >>> (((24 : Int32) - ((8 : Int32) * (x19_6 - x19_6 / (4 : Int32) * (4 : Int32)))).toUInt32 &&& Int32.toUInt32 31)).toInt32); have := ti_lo x19_2; have := ti_hi x19_2; have := bd_127_1 hI; have := (by decide : ((20 : Int32)).toInt = 20); have := (by decide : ((4 : Int32)).toInt = 4); have := (by decide : ((8 : Int32)).toInt = 8); have := nb_rem (x := x19_6) (by omega) (by decide : ((4 : Int32)).toInt = 4) (by decide); have := ti_mul2 (by decide : ((8 : Int32)).toInt = 8) (Eq.refl (x19_6 - x19_6 / (4 : Int32) * (4 : Int32)).toInt) (by omega) (by omega); have := ti_sub2 (by decide : ((24 : Int32)).toInt = 24) (Eq.refl ((8 : Int32) * (x19_6 - x19_6 / (4 : Int32) * (4 : Int32))).toInt) (by omega) (by omega); have := nb_i2b ((x19_2.toUInt32 >>> (((24 : Int32) - ((8 : Int32) * (x19_6 - x19_6 / (4 : Int32) * (4 : Int32)))).toUInt32 &&& Int32.toUInt32 31)).toInt32); have := nb_byteq (x := ((Int32.toInt8 ((x19_2.toUInt32 >>> (((24 : Int32) - ((8 : Int32) * (x19_6 - x19_6 / (4 : Int32) * (4 : Int32)))).toUInt32 &&& Int32.toUInt32 31)).toInt32)).toInt32)) (by omega) (by omega); omega
          have hI6514 : BND (sI w 128 ((w.1 127 1).toInt.toNat) (vp_nar .byte ((Int32.toInt8 ((x19_2.toUInt32 >>> (((24 : Int32) - ((8 : Int32) * (x19_6 - x19_6 / (4 : Int32) * (4 : Int32)))).toUInt32 &&& Int32.toUInt32 31)).toInt32)).toInt32))) := wbd_128 hI ((w.1 127 1).toInt.toNat) o6515.1 o6515.2
          have o6517 : 0 ≤ ((w.1 127 1) + (1 : Int32)).toInt ∧ ((w.1 127 1) + (1 : Int32)).toInt ≤ 4020 := by have := bd_127_1 hI; have := (by decide : ((20 : Int32)).toInt = 20); have := (by decide : ((4 : Int32)).toInt = 4); have := (by decide : ((8 : Int32)).toInt = 8); have := ti_add2 (Eq.refl (w.1 127 1).toInt) (by decide : ((1 : Int32)).toInt = 1) (by omega) (by omega); omega
          have hI6516 : BND (sI (sI w 128 ((w.1 127 1).toInt.toNat) (vp_nar .byte ((Int32.toInt8 ((x19_2.toUInt32 >>> (((24 : Int32) - ((8 : Int32) * (x19_6 - x19_6 / (4 : Int32) * (4 : Int32)))).toUInt32 &&& Int32.toUInt32 31)).toInt32)).toInt32))) 127 1 ((w.1 127 1) + (1 : Int32))) := wbd_127_1 hI6514 o6517.1 o6517.2
          have o6518 : (0 ≤ (x19_6 + (1 : Int32)).toInt) ∧ ((x19_6 + (1 : Int32)).toInt ≤ 20) ∧ (((sI (sI w 128 ((w.1 127 1).toInt.toNat) (vp_nar .byte ((Int32.toInt8 ((x19_2.toUInt32 >>> (((24 : Int32) - ((8 : Int32) * (x19_6 - x19_6 / (4 : Int32) * (4 : Int32)))).toUInt32 &&& Int32.toUInt32 31)).toInt32)).toInt32))) 127 1 ((w.1 127 1) + (1 : Int32))).1 127 1).toInt + 20 - (x19_6 + (1 : Int32)).toInt ≤ 4020) := by have := bd_127_1 hI; have : ((sI (sI w 128 ((w.1 127 1).toInt.toNat) (vp_nar .byte ((Int32.toInt8 ((x19_2.toUInt32 >>> (((24 : Int32) - ((8 : Int32) * (x19_6 - x19_6 / (4 : Int32) * (4 : Int32)))).toUInt32 &&& Int32.toUInt32 31)).toInt32)).toInt32))) 127 1 ((w.1 127 1) + (1 : Int32))).1 127 1).toInt = ((w.1 127 1) + (1 : Int32)).toInt := rfl; have := (by decide : ((20 : Int32)).toInt = 20); have := (by decide : ((4 : Int32)).toInt = 4); have := (by decide : ((8 : Int32)).toInt = 8); have := ti_add2 (Eq.refl x19_6.toInt) (by decide : ((1 : Int32)).toInt = 1) (by omega) (by omega); have := ti_add2 (Eq.refl (w.1 127 1).toInt) (by decide : ((1 : Int32)).toInt = 1) (by omega) (by omega); exact ⟨by omega, by omega, by omega⟩
          exact ih _ (sI (sI w 128 ((w.1 127 1).toInt.toNat) (vp_nar .byte ((Int32.toInt8 ((x19_2.toUInt32 >>> (((24 : Int32) - ((8 : Int32) * (x19_6 - x19_6 / (4 : Int32) * (4 : Int32)))).toUInt32 &&& Int32.toUInt32 31)).toInt32)).toInt32))) 127 1 ((w.1 127 1) + (1 : Int32))) hI6516  o6518.1 o6518.2.1 o6518.2.2 (by have := bd_127_1 hI; have := (by decide : ((20 : Int32)).toInt = 20); have := (by decide : ((4 : Int32)).toInt = 4); have := (by decide : ((8 : Int32)).toInt = 8); have := ti_add2 (Eq.refl x19_6.toInt) (by decide : ((1 : Int32)).toInt = 1) (by omega) (by omega); omega) (fun w9 hI9 hF9 => hE w9 hI9 ((FR.I (FR.I (FR.refl _ w) (k := 128) (j := (w.1 127 1).toInt.toNat) (v := (vp_nar .byte ((Int32.toInt8 ((x19_2.toUInt32 >>> (((24 : Int32) - ((8 : Int32) * (x19_6 - x19_6 / (4 : Int32) * (4 : Int32)))).toUInt32 &&& Int32.toUInt32 31)).toInt32)).toInt32))) rfl) (k := 127) (j := 1) (v := ((w.1 127 1) + (1 : Int32))) rfl).tr hF9 rfl) ) (fun r w9 hI9 hF9 q0 => q0.elim)
      · refine Eq.mpr (q_Mo_feed_72.eq_1 _ _ _ _ _ _ _ _ _ _ _) ?_
        have o6519 : 0 ≤ (w.1 127 1).toInt ∧ (w.1 127 1).toInt < 4020 := by have := bd_127_1 hI; have := (by decide : ((20 : Int32)).toInt = 20); have := (by decide : ((4 : Int32)).toInt = 4); omega
        refine ⟨o6519, ?_⟩
        have o6521 : (-128) ≤ (vp_nar .byte ((Int32.toInt8 ((x19_1.toUInt32 >>> (((24 : Int32) - ((8 : Int32) * (x19_6 - x19_6 / (4 : Int32) * (4 : Int32)))).toUInt32 &&& Int32.toUInt32 31)).toInt32)).toInt32)).toInt ∧ (vp_nar .byte ((Int32.toInt8 ((x19_1.toUInt32 >>> (((24 : Int32) - ((8 : Int32) * (x19_6 - x19_6 / (4 : Int32) * (4 : Int32)))).toUInt32 &&& Int32.toUInt32 31)).toInt32)).toInt32)).toInt ≤ 127 := by have := ti_lo ((x19_1.toUInt32 >>> (((24 : Int32) - ((8 : Int32) * (x19_6 - x19_6 / (4 : Int32) * (4 : Int32)))).toUInt32 &&& Int32.toUInt32 31)).toInt32); have := ti_hi ((x19_1.toUInt32 >>> (((24 : Int32) - ((8 : Int32) * (x19_6 - x19_6 / (4 : Int32) * (4 : Int32)))).toUInt32 &&& Int32.toUInt32 31)).toInt32); have := ti_lo x19_1; have := ti_hi x19_1; have := bd_127_1 hI; have := (by decide : ((20 : Int32)).toInt = 20); have := (by decide : ((4 : Int32)).toInt = 4); have := nb_rem (x := x19_6) (by omega) (by decide : ((4 : Int32)).toInt = 4) (by decide); have := ti_mul2 (by decide : ((8 : Int32)).toInt = 8) (Eq.refl (x19_6 - x19_6 / (4 : Int32) * (4 : Int32)).toInt) (by omega) (by omega); have := ti_sub2 (by decide : ((24 : Int32)).toInt = 24) (Eq.refl ((8 : Int32) * (x19_6 - x19_6 / (4 : Int32) * (4 : Int32))).toInt) (by omega) (by omega); have := nb_i2b ((x19_1.toUInt32 >>> (((24 : Int32) - ((8 : Int32) * (x19_6 - x19_6 / (4 : Int32) * (4 : Int32)))).toUInt32 &&& Int32.toUInt32 31)).toInt32); have := nb_byteq (x := ((Int32.toInt8 ((x19_1.toUInt32 >>> (((24 : Int32) - ((8 : Int32) * (x19_6 - x19_6 / (4 : Int32) * (4 : Int32)))).toUInt32 &&& Int32.toUInt32 31)).toInt32)).toInt32)) (by omega) (by omega); omega
        have hI6520 : BND (sI w 128 ((w.1 127 1).toInt.toNat) (vp_nar .byte ((Int32.toInt8 ((x19_1.toUInt32 >>> (((24 : Int32) - ((8 : Int32) * (x19_6 - x19_6 / (4 : Int32) * (4 : Int32)))).toUInt32 &&& Int32.toUInt32 31)).toInt32)).toInt32))) := wbd_128 hI ((w.1 127 1).toInt.toNat) o6521.1 o6521.2
        have o6523 : 0 ≤ ((w.1 127 1) + (1 : Int32)).toInt ∧ ((w.1 127 1) + (1 : Int32)).toInt ≤ 4020 := by have := bd_127_1 hI; have := (by decide : ((20 : Int32)).toInt = 20); have := (by decide : ((4 : Int32)).toInt = 4); have := ti_add2 (Eq.refl (w.1 127 1).toInt) (by decide : ((1 : Int32)).toInt = 1) (by omega) (by omega); omega
        have hI6522 : BND (sI (sI w 128 ((w.1 127 1).toInt.toNat) (vp_nar .byte ((Int32.toInt8 ((x19_1.toUInt32 >>> (((24 : Int32) - ((8 : Int32) * (x19_6 - x19_6 / (4 : Int32) * (4 : Int32)))).toUInt32 &&& Int32.toUInt32 31)).toInt32)).toInt32))) 127 1 ((w.1 127 1) + (1 : Int32))) := wbd_127_1 hI6520 o6523.1 o6523.2
        have o6524 : (0 ≤ (x19_6 + (1 : Int32)).toInt) ∧ ((x19_6 + (1 : Int32)).toInt ≤ 20) ∧ (((sI (sI w 128 ((w.1 127 1).toInt.toNat) (vp_nar .byte ((Int32.toInt8 ((x19_1.toUInt32 >>> (((24 : Int32) - ((8 : Int32) * (x19_6 - x19_6 / (4 : Int32) * (4 : Int32)))).toUInt32 &&& Int32.toUInt32 31)).toInt32)).toInt32))) 127 1 ((w.1 127 1) + (1 : Int32))).1 127 1).toInt + 20 - (x19_6 + (1 : Int32)).toInt ≤ 4020) := by have := bd_127_1 hI; have : ((sI (sI w 128 ((w.1 127 1).toInt.toNat) (vp_nar .byte ((Int32.toInt8 ((x19_1.toUInt32 >>> (((24 : Int32) - ((8 : Int32) * (x19_6 - x19_6 / (4 : Int32) * (4 : Int32)))).toUInt32 &&& Int32.toUInt32 31)).toInt32)).toInt32))) 127 1 ((w.1 127 1) + (1 : Int32))).1 127 1).toInt = ((w.1 127 1) + (1 : Int32)).toInt := rfl; have := (by decide : ((20 : Int32)).toInt = 20); have := (by decide : ((4 : Int32)).toInt = 4); have := ti_add2 (Eq.refl x19_6.toInt) (by decide : ((1 : Int32)).toInt = 1) (by omega) (by omega); have := ti_add2 (Eq.refl (w.1 127 1).toInt) (by decide : ((1 : Int32)).toInt = 1) (by omega) (by omega); exact ⟨by omega, by omega, by omega⟩
        exact ih _ (sI (sI w 128 ((w.1 127 1).toInt.toNat) (vp_nar .byte ((Int32.toInt8 ((x19_1.toUInt32 >>> (((24 : Int32) - ((8 : Int32) * (x19_6 - x19_6 / (4 : Int32) * (4 : Int32)))).toUInt32 &&& Int32.toUInt32 31)).toInt32)).toInt32))) 127 1 ((w.1 127 1) + (1 : Int32))) hI6522  o6524.1 o6524.2.1 o6524.2.2 (by have := bd_127_1 hI; have := (by decide : ((20 : Int32)).toInt = 20); have := (by decide : ((4 : Int32)).toInt = 4); have := ti_add2 (Eq.refl x19_6.toInt) (by decide : ((1 : Int32)).toInt = 1) (by omega) (by omega); omega) (fun w9 hI9 hF9 => hE w9 hI9 ((FR.I (FR.I (FR.refl _ w) (k := 128) (j := (w.1 127 1).toInt.toNat) (v := (vp_nar .byte ((Int32.toInt8 ((x19_1.toUInt32 >>> (((24 : Int32) - ((8 : Int32) * (x19_6 - x19_6 / (4 : Int32) * (4 : Int32)))).toUInt32 &&& Int32.toUInt32 31)).toInt32)).toInt32))) rfl) (k := 127) (j := 1) (v := ((w.1 127 1) + (1 : Int32))) rfl).tr hF9 rfl) ) (fun r w9 hI9 hF9 q0 => q0.elim)
set_option maxRecDepth 20000 in
set_option maxHeartbeats 2000000 in
theorem h_Mo_feed {w : MW} {a0 : Int32} {b0 : Int32} {c0 : Int32} {e0 : Int32} {f0 : Int32} {Q : Int32 → MW → Prop} (hI : BND w)  (hQ : ∀ (r : Int32) (w' : MW), BND w' → FR l_Mo_feed w w' → (-2) ≤ r.toInt → r.toInt ≤ 4020 → Q r w') : p_Mo_feed w a0 b0 c0 e0 f0 Q := by
  refine Eq.mpr (p_Mo_feed.eq_1 _ _ _ _ _ _ _) ?_
  refine ⟨fun h6525 => ?_, fun h6525 => ?_⟩
  · have o6526 : (0 ≤ (0 : Int32).toInt) ∧ ((0 : Int32).toInt ≤ 20) ∧ ((w.1 127 1).toInt + 20 - (0 : Int32).toInt ≤ 4020) := by have := ti_lo a0; have := ti_hi a0; have := ti_lo b0; have := ti_hi b0; have := ti_lo c0; have := ti_hi c0; have := ti_lo e0; have := ti_hi e0; have := ti_lo f0; have := ti_hi f0; have := (by decide : ((0 : Int32)).toInt = 0); have := bd_127_1 hI; have := (by decide : ((4020 : Int32)).toInt = 4020); have := ti_add2 (Eq.refl (w.1 127 1).toInt) (by decide : ((20 : Int32)).toInt = 20) (by omega) (by omega); exact ⟨by omega, by omega, by omega⟩
    refine hq_Mo_feed_19 FU _ w hI  o6526.1 o6526.2.1 o6526.2.2 (fu_lt (by have := ti_lo a0; have := ti_hi a0; have := ti_lo b0; have := ti_hi b0; have := ti_lo c0; have := ti_hi c0; have := ti_lo e0; have := ti_hi e0; have := ti_lo f0; have := ti_hi f0; have := (by decide : ((0 : Int32)).toInt = 0); omega)) (fun w6527 hI6528 hL6529  => ?_) (fun r w9 hI9 hF9 q0 => q0.elim)
    have hF6530 : FR l_Mo_feed w w6527 := (FR.refl _ w).tr hL6529 rfl
    have o6531 : ((-2) ≤ (w6527.1 127 1).toInt) ∧ ((w6527.1 127 1).toInt ≤ 4020) := by have := bd_127_1 hI6528; have := bd_127_1 hI; have := (by decide : ((4020 : Int32)).toInt = 4020); have := ti_add2 (Eq.refl (w.1 127 1).toInt) (by decide : ((20 : Int32)).toInt = 20) (by omega) (by omega); exact ⟨by omega, by omega⟩
    exact hQ _ _ hI6528 hF6530  o6531.1 o6531.2
  · have o6532 : ((-2) ≤ ((-2) : Int32).toInt) ∧ (((-2) : Int32).toInt ≤ 4020) := by have := (by decide : (((-2) : Int32)).toInt = (-2)); exact ⟨by omega, by omega⟩
    exact hQ _ _ hI (FR.refl _ w)  o6532.1 o6532.2
