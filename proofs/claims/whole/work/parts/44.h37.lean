def l_Mo_passes_122 : Pl := []
def l_Mo_passes_166 : Pl := []
def l_Mo_passes_45 : Pl := []
def l_Mo_passes_22 : Pl := []
def l_Mo_passes : Pl := []
set_option maxRecDepth 20000 in
set_option maxHeartbeats 2000000 in
theorem hq_Mo_passes_45 {y45_0 : Int32} {y45_1 : Int32} {y45_2 : Int32} {y45_4 : Int32} {y45_5 : Int32} {ys45_0 : Int32} {w : MW} {Q : Int32 → MW → Prop} (hI : BND w) (hp0 : 0 ≤ y45_0.toInt) (hp1 : y45_0.toInt ≤ 7) (hp2 : 0 ≤ y45_1.toInt) (hp3 : y45_1.toInt ≤ 9) (hp4 : 0 ≤ ys45_0.toInt) (hp5 : ys45_0.toInt ≤ 1) (hQ : ∀ (r : Int32) (w' : MW), BND w' → FR l_Mo_passes_45 w w' → 0 ≤ r.toInt → r.toInt ≤ 1 → Q r w') : q_Mo_passes_45 y45_0 y45_1 y45_2 y45_4 y45_5 ys45_0 w Q := by
  refine Eq.mpr (q_Mo_passes_45.eq_1 _ _ _ _ _ _ _ _) ?_
  refine ⟨fun h9317 => ?_, fun h9317 => ?_⟩
  · refine ⟨fun h9318 => ?_, fun h9318 => ?_⟩
    · have o9319 : (0 ≤ (0 : Int32).toInt) ∧ ((0 : Int32).toInt ≤ 1) := by have := (by decide : ((0 : Int32)).toInt = 0); exact ⟨by omega, by omega⟩
      exact hQ _ _ hI (FR.refl _ w)  o9319.1 o9319.2
    · have o9320 : (0 ≤ (1 : Int32).toInt) ∧ ((1 : Int32).toInt ≤ 1) := by have := (by decide : ((1 : Int32)).toInt = 1); exact ⟨by omega, by omega⟩
      exact hQ _ _ hI (FR.refl _ w)  o9320.1 o9320.2
  · refine ⟨fun h9321 => ?_, fun h9321 => ?_⟩
    · refine ⟨fun h9322 => ?_, fun h9322 => ?_⟩
      · refine ⟨fun h9323 => ?_, fun h9323 => ?_⟩
        · have o9324 : (0 ≤ (0 : Int32).toInt) ∧ ((0 : Int32).toInt ≤ 1) := by have := (by decide : ((0 : Int32)).toInt = 0); exact ⟨by omega, by omega⟩
          exact hQ _ _ hI (FR.refl _ w)  o9324.1 o9324.2
        · refine ⟨fun h9325 => ?_, fun h9325 => ?_⟩
          · have o9326 : (0 ≤ (0 : Int32).toInt) ∧ ((0 : Int32).toInt ≤ 1) := by have := (by decide : ((0 : Int32)).toInt = 0); exact ⟨by omega, by omega⟩
            exact hQ _ _ hI (FR.refl _ w)  o9326.1 o9326.2
          · have o9327 : (0 ≤ (1 : Int32).toInt) ∧ ((1 : Int32).toInt ≤ 1) := by have := (by decide : ((1 : Int32)).toInt = 1); exact ⟨by omega, by omega⟩
            exact hQ _ _ hI (FR.refl _ w)  o9327.1 o9327.2
      · refine ⟨fun h9328 => ?_, fun h9328 => ?_⟩
        · refine Eq.mpr (q_Mo_passes_122.eq_1 _ _ _ _ _) ?_
          refine ⟨fun h9329 => ?_, fun h9329 => ?_⟩
          · refine ⟨fun h9330 => ?_, fun h9330 => ?_⟩
            · have o9331 : (0 ≤ (0 : Int32).toInt) ∧ ((0 : Int32).toInt ≤ 1) := by have := (by decide : ((0 : Int32)).toInt = 0); exact ⟨by omega, by omega⟩
              exact hQ _ _ hI (FR.refl _ w)  o9331.1 o9331.2
            · refine ⟨fun h9332 => ?_, fun h9332 => ?_⟩
              · have o9333 : (0 ≤ (0 : Int32).toInt) ∧ ((0 : Int32).toInt ≤ 1) := by have := (by decide : ((0 : Int32)).toInt = 0); exact ⟨by omega, by omega⟩
                exact hQ _ _ hI (FR.refl _ w)  o9333.1 o9333.2
              · exfalso; have := ti_lo y45_0; have := ti_hi y45_0; have := (by decide : ((0 : Int32)).toInt = 0); have := (by decide : ((1 : Int32)).toInt = 1); have := ti_lo y45_4; have := ti_hi y45_4; have := ti_lo y45_1; have := ti_hi y45_1; have := (by decide : ((3 : Int32)).toInt = 3); omega
          · refine ⟨fun h9334 => ?_, fun h9334 => ?_⟩
            · have o9335 : (0 ≤ (1 : Int32).toInt) ∧ ((1 : Int32).toInt ≤ 1) := by have := (by decide : ((1 : Int32)).toInt = 1); exact ⟨by omega, by omega⟩
              exact hQ _ _ hI (FR.refl _ w)  o9335.1 o9335.2
            · refine ⟨fun h9336 => ?_, fun h9336 => ?_⟩
              · have o9337 : (0 ≤ (0 : Int32).toInt) ∧ ((0 : Int32).toInt ≤ 1) := by have := (by decide : ((0 : Int32)).toInt = 0); exact ⟨by omega, by omega⟩
                exact hQ _ _ hI (FR.refl _ w)  o9337.1 o9337.2
              · exfalso; have := ti_lo y45_0; have := ti_hi y45_0; have := (by decide : ((0 : Int32)).toInt = 0); have := (by decide : ((1 : Int32)).toInt = 1); have := ti_lo y45_4; have := ti_hi y45_4; have := ti_lo y45_1; have := ti_hi y45_1; have := ti_lo y45_5; have := ti_hi y45_5; have := (by decide : ((2 : Int32)).toInt = 2); have := (by decide : ((3 : Int32)).toInt = 3); omega
        · refine ⟨fun h9338 => ?_, fun h9338 => ?_⟩
          · have o9339 : (0 ≤ (1 : Int32).toInt) ∧ ((1 : Int32).toInt ≤ 1) := by have := (by decide : ((1 : Int32)).toInt = 1); exact ⟨by omega, by omega⟩
            exact hQ _ _ hI (FR.refl _ w)  o9339.1 o9339.2
          · refine Eq.mpr (q_Mo_passes_122.eq_1 _ _ _ _ _) ?_
            refine ⟨fun h9340 => ?_, fun h9340 => ?_⟩
            · refine ⟨fun h9341 => ?_, fun h9341 => ?_⟩
              · have o9342 : (0 ≤ (0 : Int32).toInt) ∧ ((0 : Int32).toInt ≤ 1) := by have := (by decide : ((0 : Int32)).toInt = 0); exact ⟨by omega, by omega⟩
                exact hQ _ _ hI (FR.refl _ w)  o9342.1 o9342.2
              · exfalso; have := ti_lo y45_0; have := ti_hi y45_0; have := (by decide : ((0 : Int32)).toInt = 0); have := (by decide : ((1 : Int32)).toInt = 1); have := ti_lo y45_4; have := ti_hi y45_4; have := ti_lo y45_1; have := ti_hi y45_1; have := ti_lo y45_5; have := ti_hi y45_5; have := (by decide : ((3 : Int32)).toInt = 3); omega
            · exfalso; have := ti_lo y45_0; have := ti_hi y45_0; have := (by decide : ((0 : Int32)).toInt = 0); have := (by decide : ((1 : Int32)).toInt = 1); have := ti_lo y45_4; have := ti_hi y45_4; have := ti_lo y45_1; have := ti_hi y45_1; have := ti_lo y45_5; have := ti_hi y45_5; omega
    · refine ⟨fun h9343 => ?_, fun h9343 => ?_⟩
      · refine ⟨fun h9344 => ?_, fun h9344 => ?_⟩
        · have o9345 : (0 ≤ (1 : Int32).toInt) ∧ ((1 : Int32).toInt ≤ 1) := by have := (by decide : ((1 : Int32)).toInt = 1); exact ⟨by omega, by omega⟩
          exact hQ _ _ hI (FR.refl _ w)  o9345.1 o9345.2
        · refine ⟨fun h9346 => ?_, fun h9346 => ?_⟩
          · refine Eq.mpr (q_Mo_passes_166.eq_1 _ _ _ _ _) ?_
            refine ⟨fun h9347 => ?_, fun h9347 => ?_⟩
            · refine ⟨fun h9348 => ?_, fun h9348 => ?_⟩
              · have o9349 : (0 ≤ (0 : Int32).toInt) ∧ ((0 : Int32).toInt ≤ 1) := by have := (by decide : ((0 : Int32)).toInt = 0); exact ⟨by omega, by omega⟩
                exact hQ _ _ hI (FR.refl _ w)  o9349.1 o9349.2
              · refine ⟨fun h9350 => ?_, fun h9350 => ?_⟩
                · have o9351 : (0 ≤ (0 : Int32).toInt) ∧ ((0 : Int32).toInt ≤ 1) := by have := (by decide : ((0 : Int32)).toInt = 0); exact ⟨by omega, by omega⟩
                  exact hQ _ _ hI (FR.refl _ w)  o9351.1 o9351.2
                · have o9352 : (0 ≤ (1 : Int32).toInt) ∧ ((1 : Int32).toInt ≤ 1) := by have := (by decide : ((1 : Int32)).toInt = 1); exact ⟨by omega, by omega⟩
                  exact hQ _ _ hI (FR.refl _ w)  o9352.1 o9352.2
            · refine ⟨fun h9353 => ?_, fun h9353 => ?_⟩
              · refine ⟨fun h9354 => ?_, fun h9354 => ?_⟩
                · have o9355 : (0 ≤ (0 : Int32).toInt) ∧ ((0 : Int32).toInt ≤ 1) := by have := (by decide : ((0 : Int32)).toInt = 0); exact ⟨by omega, by omega⟩
                  exact hQ _ _ hI (FR.refl _ w)  o9355.1 o9355.2
                · exfalso; have := ti_lo y45_0; have := ti_hi y45_0; have := (by decide : ((0 : Int32)).toInt = 0); have := (by decide : ((1 : Int32)).toInt = 1); have := (by decide : ((2 : Int32)).toInt = 2); have := ti_lo y45_1; have := ti_hi y45_1; have := (by decide : ((4 : Int32)).toInt = 4); have := ti_lo y45_4; have := ti_hi y45_4; have := (by decide : ((3 : Int32)).toInt = 3); omega
              · refine ⟨fun h9356 => ?_, fun h9356 => ?_⟩
                · have o9357 : (0 ≤ (1 : Int32).toInt) ∧ ((1 : Int32).toInt ≤ 1) := by have := (by decide : ((1 : Int32)).toInt = 1); exact ⟨by omega, by omega⟩
                  exact hQ _ _ hI (FR.refl _ w)  o9357.1 o9357.2
                · refine ⟨fun h9358 => ?_, fun h9358 => ?_⟩
                  · have o9359 : (0 ≤ (0 : Int32).toInt) ∧ ((0 : Int32).toInt ≤ 1) := by have := (by decide : ((0 : Int32)).toInt = 0); exact ⟨by omega, by omega⟩
                    exact hQ _ _ hI (FR.refl _ w)  o9359.1 o9359.2
                  · exfalso; have := ti_lo y45_0; have := ti_hi y45_0; have := (by decide : ((0 : Int32)).toInt = 0); have := (by decide : ((1 : Int32)).toInt = 1); have := (by decide : ((2 : Int32)).toInt = 2); have := ti_lo y45_1; have := ti_hi y45_1; have := (by decide : ((4 : Int32)).toInt = 4); have := ti_lo y45_4; have := ti_hi y45_4; have := ti_lo y45_5; have := ti_hi y45_5; have := (by decide : ((3 : Int32)).toInt = 3); omega
          · refine ⟨fun h9360 => ?_, fun h9360 => ?_⟩
            · have o9361 : (0 ≤ (1 : Int32).toInt) ∧ ((1 : Int32).toInt ≤ 1) := by have := (by decide : ((1 : Int32)).toInt = 1); exact ⟨by omega, by omega⟩
              exact hQ _ _ hI (FR.refl _ w)  o9361.1 o9361.2
            · refine Eq.mpr (q_Mo_passes_166.eq_1 _ _ _ _ _) ?_
              refine ⟨fun h9362 => ?_, fun h9362 => ?_⟩
              · refine ⟨fun h9363 => ?_, fun h9363 => ?_⟩
                · have o9364 : (0 ≤ (0 : Int32).toInt) ∧ ((0 : Int32).toInt ≤ 1) := by have := (by decide : ((0 : Int32)).toInt = 0); exact ⟨by omega, by omega⟩
                  exact hQ _ _ hI (FR.refl _ w)  o9364.1 o9364.2
                · exfalso; have := ti_lo y45_0; have := ti_hi y45_0; have := (by decide : ((0 : Int32)).toInt = 0); have := (by decide : ((1 : Int32)).toInt = 1); have := (by decide : ((2 : Int32)).toInt = 2); have := ti_lo y45_1; have := ti_hi y45_1; have := (by decide : ((4 : Int32)).toInt = 4); have := ti_lo y45_5; have := ti_hi y45_5; have := (by decide : ((3 : Int32)).toInt = 3); omega
              · exfalso; have := ti_lo y45_0; have := ti_hi y45_0; have := (by decide : ((0 : Int32)).toInt = 0); have := (by decide : ((1 : Int32)).toInt = 1); have := (by decide : ((2 : Int32)).toInt = 2); have := ti_lo y45_1; have := ti_hi y45_1; have := (by decide : ((4 : Int32)).toInt = 4); have := ti_lo y45_5; have := ti_hi y45_5; omega
      · refine ⟨fun h9365 => ?_, fun h9365 => ?_⟩
        · refine ⟨fun h9366 => ?_, fun h9366 => ?_⟩
          · have o9367 : (0 ≤ (0 : Int32).toInt) ∧ ((0 : Int32).toInt ≤ 1) := by have := (by decide : ((0 : Int32)).toInt = 0); exact ⟨by omega, by omega⟩
            exact hQ _ _ hI (FR.refl _ w)  o9367.1 o9367.2
          · have o9368 : (0 ≤ (1 : Int32).toInt) ∧ ((1 : Int32).toInt ≤ 1) := by have := (by decide : ((1 : Int32)).toInt = 1); exact ⟨by omega, by omega⟩
            exact hQ _ _ hI (FR.refl _ w)  o9368.1 o9368.2
        · refine ⟨fun h9369 => ?_, fun h9369 => ?_⟩
          · refine ⟨fun h9370 => ?_, fun h9370 => ?_⟩
            · refine ⟨fun h9371 => ?_, fun h9371 => ?_⟩
              · have o9372 : (0 ≤ (0 : Int32).toInt) ∧ ((0 : Int32).toInt ≤ 1) := by have := (by decide : ((0 : Int32)).toInt = 0); exact ⟨by omega, by omega⟩
                exact hQ _ _ hI (FR.refl _ w)  o9372.1 o9372.2
              · have o9373 : (0 ≤ (1 : Int32).toInt) ∧ ((1 : Int32).toInt ≤ 1) := by have := (by decide : ((1 : Int32)).toInt = 1); exact ⟨by omega, by omega⟩
                exact hQ _ _ hI (FR.refl _ w)  o9373.1 o9373.2
            · refine ⟨fun h9374 => ?_, fun h9374 => ?_⟩
              · have o9375 : (0 ≤ (1 : Int32).toInt) ∧ ((1 : Int32).toInt ≤ 1) := by have := (by decide : ((1 : Int32)).toInt = 1); exact ⟨by omega, by omega⟩
                exact hQ _ _ hI (FR.refl _ w)  o9375.1 o9375.2
              · refine ⟨fun h9376 => ?_, fun h9376 => ?_⟩
                · have o9377 : (0 ≤ (0 : Int32).toInt) ∧ ((0 : Int32).toInt ≤ 1) := by have := (by decide : ((0 : Int32)).toInt = 0); exact ⟨by omega, by omega⟩
                  exact hQ _ _ hI (FR.refl _ w)  o9377.1 o9377.2
                · exfalso; have := ti_lo y45_0; have := ti_hi y45_0; have := (by decide : ((0 : Int32)).toInt = 0); have := (by decide : ((1 : Int32)).toInt = 1); have := (by decide : ((2 : Int32)).toInt = 2); have := (by decide : ((3 : Int32)).toInt = 3); have := (by decide : ((4 : Int32)).toInt = 4); have := ti_lo y45_1; have := ti_hi y45_1; have := ti_lo ys45_0; have := ti_hi ys45_0; omega
          · refine ⟨fun h9378 => ?_, fun h9378 => ?_⟩
            · have o9379 : (0 ≤ (0 : Int32).toInt) ∧ ((0 : Int32).toInt ≤ 1) := by have := (by decide : ((0 : Int32)).toInt = 0); exact ⟨by omega, by omega⟩
              exact hQ _ _ hI (FR.refl _ w)  o9379.1 o9379.2
            · refine ⟨fun h9380 => ?_, fun h9380 => ?_⟩
              · refine ⟨fun h9381 => ?_, fun h9381 => ?_⟩
                · have o9382 : (0 ≤ (0 : Int32).toInt) ∧ ((0 : Int32).toInt ≤ 1) := by have := (by decide : ((0 : Int32)).toInt = 0); exact ⟨by omega, by omega⟩
                  exact hQ _ _ hI (FR.refl _ w)  o9382.1 o9382.2
                · have o9383 : (0 ≤ (1 : Int32).toInt) ∧ ((1 : Int32).toInt ≤ 1) := by have := (by decide : ((1 : Int32)).toInt = 1); exact ⟨by omega, by omega⟩
                  exact hQ _ _ hI (FR.refl _ w)  o9383.1 o9383.2
              · refine ⟨fun h9384 => ?_, fun h9384 => ?_⟩
                · refine ⟨fun h9385 => ?_, fun h9385 => ?_⟩
                  · have o9386 : (0 ≤ (0 : Int32).toInt) ∧ ((0 : Int32).toInt ≤ 1) := by have := (by decide : ((0 : Int32)).toInt = 0); exact ⟨by omega, by omega⟩
                    exact hQ _ _ hI (FR.refl _ w)  o9386.1 o9386.2
                  · refine ⟨fun h9387 => ?_, fun h9387 => ?_⟩
                    · have o9388 : (0 ≤ (0 : Int32).toInt) ∧ ((0 : Int32).toInt ≤ 1) := by have := (by decide : ((0 : Int32)).toInt = 0); exact ⟨by omega, by omega⟩
                      exact hQ _ _ hI (FR.refl _ w)  o9388.1 o9388.2
                    · have o9389 : (0 ≤ (1 : Int32).toInt) ∧ ((1 : Int32).toInt ≤ 1) := by have := (by decide : ((1 : Int32)).toInt = 1); exact ⟨by omega, by omega⟩
                      exact hQ _ _ hI (FR.refl _ w)  o9389.1 o9389.2
                · exfalso; have := ti_lo y45_0; have := ti_hi y45_0; have := (by decide : ((0 : Int32)).toInt = 0); have := (by decide : ((1 : Int32)).toInt = 1); have := (by decide : ((2 : Int32)).toInt = 2); have := (by decide : ((3 : Int32)).toInt = 3); have := (by decide : ((4 : Int32)).toInt = 4); have := (by decide : ((5 : Int32)).toInt = 5); have := (by decide : ((6 : Int32)).toInt = 6); have := (by decide : ((7 : Int32)).toInt = 7); omega
set_option maxRecDepth 20000 in
set_option maxHeartbeats 2000000 in
theorem h_Mo_passes {w : MW} {a0 : Int32} {b0 : Int32} {c0 : Int32} {e0 : Int32} {Q : Int32 → MW → Prop} (hI : BND w) (hp0 : 0 ≤ a0.toInt) (hp1 : a0.toInt ≤ 7) (hp2 : 0 ≤ b0.toInt) (hp3 : b0.toInt ≤ 9) (hQ : ∀ (r : Int32) (w' : MW), BND w' → FR l_Mo_passes w w' → 0 ≤ r.toInt → r.toInt ≤ 1 → Q r w') : p_Mo_passes w a0 b0 c0 e0 Q := by
  refine Eq.mpr (p_Mo_passes.eq_1 _ _ _ _ _ _) ?_
  refine ⟨fun h9390 => ?_, fun h9390 => ?_⟩
  · refine Eq.mpr (q_Mo_passes_22.eq_1 _ _ _ _ _ _ _) ?_
    refine ⟨fun h9391 => ?_, fun h9391 => ?_⟩
    · have o9392 : (0 ≤ a0.toInt) ∧ (a0.toInt ≤ 7) ∧ (0 ≤ b0.toInt) ∧ (b0.toInt ≤ 9) ∧ (0 ≤ (0 : Int32).toInt) ∧ ((0 : Int32).toInt ≤ 1) := by have := ti_lo a0; have := ti_hi a0; have := ti_lo b0; have := ti_hi b0; have := ti_lo c0; have := ti_hi c0; have := ti_lo e0; have := ti_hi e0; have := (by decide : ((0 : Int32)).toInt = 0); have := True.intro; exact ⟨by omega, by omega, by omega, by omega, by omega, by omega⟩
      exact hq_Mo_passes_45 hI  o9392.1 o9392.2.1 o9392.2.2.1 o9392.2.2.2.1 o9392.2.2.2.2.1 o9392.2.2.2.2.2 (fun r w9 hI9 hF9 q0 q1 => hQ r w9 hI9 ((FR.refl _ w).tr hF9 rfl) (by have := ti_lo a0; have := ti_hi a0; have := ti_lo b0; have := ti_hi b0; have := ti_lo c0; have := ti_hi c0; have := ti_lo e0; have := ti_hi e0; have := (by decide : ((0 : Int32)).toInt = 0); have := True.intro; omega) (by have := ti_lo a0; have := ti_hi a0; have := ti_lo b0; have := ti_hi b0; have := ti_lo c0; have := ti_hi c0; have := ti_lo e0; have := ti_hi e0; have := (by decide : ((0 : Int32)).toInt = 0); have := True.intro; omega))
    · refine ⟨fun h9393 => ?_, fun h9393 => ?_⟩
      · have o9394 : (0 ≤ a0.toInt) ∧ (a0.toInt ≤ 7) ∧ (0 ≤ b0.toInt) ∧ (b0.toInt ≤ 9) ∧ (0 ≤ (0 : Int32).toInt) ∧ ((0 : Int32).toInt ≤ 1) := by have := ti_lo a0; have := ti_hi a0; have := ti_lo b0; have := ti_hi b0; have := ti_lo c0; have := ti_hi c0; have := ti_lo e0; have := ti_hi e0; have := (by decide : ((0 : Int32)).toInt = 0); have := True.intro; exact ⟨by omega, by omega, by omega, by omega, by omega, by omega⟩
        exact hq_Mo_passes_45 hI  o9394.1 o9394.2.1 o9394.2.2.1 o9394.2.2.2.1 o9394.2.2.2.2.1 o9394.2.2.2.2.2 (fun r w9 hI9 hF9 q0 q1 => hQ r w9 hI9 ((FR.refl _ w).tr hF9 rfl) (by have := ti_lo a0; have := ti_hi a0; have := ti_lo b0; have := ti_hi b0; have := ti_lo c0; have := ti_hi c0; have := ti_lo e0; have := ti_hi e0; have := (by decide : ((0 : Int32)).toInt = 0); have := True.intro; omega) (by have := ti_lo a0; have := ti_hi a0; have := ti_lo b0; have := ti_hi b0; have := ti_lo c0; have := ti_hi c0; have := ti_lo e0; have := ti_hi e0; have := (by decide : ((0 : Int32)).toInt = 0); have := True.intro; omega))
      · have o9395 : (0 ≤ a0.toInt) ∧ (a0.toInt ≤ 7) ∧ (0 ≤ b0.toInt) ∧ (b0.toInt ≤ 9) ∧ (0 ≤ (1 : Int32).toInt) ∧ ((1 : Int32).toInt ≤ 1) := by have := ti_lo a0; have := ti_hi a0; have := ti_lo b0; have := ti_hi b0; have := ti_lo c0; have := ti_hi c0; have := ti_lo e0; have := ti_hi e0; have := (by decide : ((1 : Int32)).toInt = 1); have := (by decide : ((0 : Int32)).toInt = 0); have := True.intro; exact ⟨by omega, by omega, by omega, by omega, by omega, by omega⟩
        exact hq_Mo_passes_45 hI  o9395.1 o9395.2.1 o9395.2.2.1 o9395.2.2.2.1 o9395.2.2.2.2.1 o9395.2.2.2.2.2 (fun r w9 hI9 hF9 q0 q1 => hQ r w9 hI9 ((FR.refl _ w).tr hF9 rfl) (by have := ti_lo a0; have := ti_hi a0; have := ti_lo b0; have := ti_hi b0; have := ti_lo c0; have := ti_hi c0; have := ti_lo e0; have := ti_hi e0; have := (by decide : ((1 : Int32)).toInt = 1); have := (by decide : ((0 : Int32)).toInt = 0); have := True.intro; omega) (by have := ti_lo a0; have := ti_hi a0; have := ti_lo b0; have := ti_hi b0; have := ti_lo c0; have := ti_hi c0; have := ti_lo e0; have := ti_hi e0; have := (by decide : ((1 : Int32)).toInt = 1); have := (by decide : ((0 : Int32)).toInt = 0); have := True.intro; omega))
  · refine Eq.mpr (q_Mo_passes_22.eq_1 _ _ _ _ _ _ _) ?_
    refine ⟨fun h9396 => ?_, fun h9396 => ?_⟩
    · have o9397 : (0 ≤ a0.toInt) ∧ (a0.toInt ≤ 7) ∧ (0 ≤ b0.toInt) ∧ (b0.toInt ≤ 9) ∧ (0 ≤ (0 : Int32).toInt) ∧ ((0 : Int32).toInt ≤ 1) := by have := ti_lo a0; have := ti_hi a0; have := ti_lo b0; have := ti_hi b0; have := ti_lo c0; have := ti_hi c0; have := ti_lo e0; have := ti_hi e0; have := (by decide : ((0 : Int32)).toInt = 0); have := ti_add2 (Eq.refl c0.toInt) (by decide : ((1 : Int32)).toInt = 1) (by omega) (by omega); exact ⟨by omega, by omega, by omega, by omega, by omega, by omega⟩
      exact hq_Mo_passes_45 hI  o9397.1 o9397.2.1 o9397.2.2.1 o9397.2.2.2.1 o9397.2.2.2.2.1 o9397.2.2.2.2.2 (fun r w9 hI9 hF9 q0 q1 => hQ r w9 hI9 ((FR.refl _ w).tr hF9 rfl) (by have := ti_lo a0; have := ti_hi a0; have := ti_lo b0; have := ti_hi b0; have := ti_lo c0; have := ti_hi c0; have := ti_lo e0; have := ti_hi e0; have := (by decide : ((0 : Int32)).toInt = 0); have := ti_add2 (Eq.refl c0.toInt) (by decide : ((1 : Int32)).toInt = 1) (by omega) (by omega); omega) (by have := ti_lo a0; have := ti_hi a0; have := ti_lo b0; have := ti_hi b0; have := ti_lo c0; have := ti_hi c0; have := ti_lo e0; have := ti_hi e0; have := (by decide : ((0 : Int32)).toInt = 0); have := ti_add2 (Eq.refl c0.toInt) (by decide : ((1 : Int32)).toInt = 1) (by omega) (by omega); omega))
    · refine ⟨fun h9398 => ?_, fun h9398 => ?_⟩
      · have o9399 : (0 ≤ a0.toInt) ∧ (a0.toInt ≤ 7) ∧ (0 ≤ b0.toInt) ∧ (b0.toInt ≤ 9) ∧ (0 ≤ (0 : Int32).toInt) ∧ ((0 : Int32).toInt ≤ 1) := by have := ti_lo a0; have := ti_hi a0; have := ti_lo b0; have := ti_hi b0; have := ti_lo c0; have := ti_hi c0; have := ti_lo e0; have := ti_hi e0; have := (by decide : ((0 : Int32)).toInt = 0); have := ti_add2 (Eq.refl c0.toInt) (by decide : ((1 : Int32)).toInt = 1) (by omega) (by omega); exact ⟨by omega, by omega, by omega, by omega, by omega, by omega⟩
        exact hq_Mo_passes_45 hI  o9399.1 o9399.2.1 o9399.2.2.1 o9399.2.2.2.1 o9399.2.2.2.2.1 o9399.2.2.2.2.2 (fun r w9 hI9 hF9 q0 q1 => hQ r w9 hI9 ((FR.refl _ w).tr hF9 rfl) (by have := ti_lo a0; have := ti_hi a0; have := ti_lo b0; have := ti_hi b0; have := ti_lo c0; have := ti_hi c0; have := ti_lo e0; have := ti_hi e0; have := (by decide : ((0 : Int32)).toInt = 0); have := ti_add2 (Eq.refl c0.toInt) (by decide : ((1 : Int32)).toInt = 1) (by omega) (by omega); omega) (by have := ti_lo a0; have := ti_hi a0; have := ti_lo b0; have := ti_hi b0; have := ti_lo c0; have := ti_hi c0; have := ti_lo e0; have := ti_hi e0; have := (by decide : ((0 : Int32)).toInt = 0); have := ti_add2 (Eq.refl c0.toInt) (by decide : ((1 : Int32)).toInt = 1) (by omega) (by omega); omega))
      · have o9400 : (0 ≤ a0.toInt) ∧ (a0.toInt ≤ 7) ∧ (0 ≤ b0.toInt) ∧ (b0.toInt ≤ 9) ∧ (0 ≤ (1 : Int32).toInt) ∧ ((1 : Int32).toInt ≤ 1) := by have := ti_lo a0; have := ti_hi a0; have := ti_lo b0; have := ti_hi b0; have := ti_lo c0; have := ti_hi c0; have := ti_lo e0; have := ti_hi e0; have := (by decide : ((1 : Int32)).toInt = 1); have := (by decide : ((0 : Int32)).toInt = 0); have := ti_add2 (Eq.refl c0.toInt) (by decide : ((1 : Int32)).toInt = 1) (by omega) (by omega); exact ⟨by omega, by omega, by omega, by omega, by omega, by omega⟩
        exact hq_Mo_passes_45 hI  o9400.1 o9400.2.1 o9400.2.2.1 o9400.2.2.2.1 o9400.2.2.2.2.1 o9400.2.2.2.2.2 (fun r w9 hI9 hF9 q0 q1 => hQ r w9 hI9 ((FR.refl _ w).tr hF9 rfl) (by have := ti_lo a0; have := ti_hi a0; have := ti_lo b0; have := ti_hi b0; have := ti_lo c0; have := ti_hi c0; have := ti_lo e0; have := ti_hi e0; have := (by decide : ((1 : Int32)).toInt = 1); have := (by decide : ((0 : Int32)).toInt = 0); have := ti_add2 (Eq.refl c0.toInt) (by decide : ((1 : Int32)).toInt = 1) (by omega) (by omega); omega) (by have := ti_lo a0; have := ti_hi a0; have := ti_lo b0; have := ti_hi b0; have := ti_lo c0; have := ti_hi c0; have := ti_lo e0; have := ti_hi e0; have := (by decide : ((1 : Int32)).toInt = 1); have := (by decide : ((0 : Int32)).toInt = 0); have := ti_add2 (Eq.refl c0.toInt) (by decide : ((1 : Int32)).toInt = 1) (by omega) (by omega); omega))
def l_Mo_join_2 : Pl := [(195, none)]
def l_Mo_join_197 : Pl := [(195, none)]
def l_Mo_join_96 : Pl := [(195, none)]
def l_Mo_join_30 : Pl := [(195, none)]
def l_Mo_join : Pl := [(195, none)]
set_option maxRecDepth 20000 in
set_option maxHeartbeats 2000000 in
theorem hq_Mo_join_2 {E : MW → Prop} {Q : MW → Prop} (n : Nat) : ∀ (x2_1 : Int32) (w : MW), BND w → 0 ≤ x2_1.toInt → x2_1.toInt ≤ 44 → (44 - x2_1.toInt).toNat < n → (∀ (w' : MW), BND w' → FR l_Mo_join_2 w w' → E w') → (∀ (w' : MW), BND w' → FR l_Mo_join_2 w w' → False → Q w') → q_Mo_join_2 E Q n x2_1 w := by
  induction n with
  | zero => intros; omega
  | succ n ih =>
    intro x2_1 w hI  hp0 hp1 hm hE hQ
    rw [q_Mo_join_2.eq_2]
    refine ⟨fun h9401 => ?_, fun h9401 => ?_⟩
    · exact hE _ hI (FR.refl _ w)
    · have o9402 : 0 ≤ x2_1.toInt ∧ x2_1.toInt < 44 := by have := bd_127_4 hI; have := bd_127_11 hI; have := ti_add2 (Eq.refl (w.1 127 4).toInt) (Eq.refl (w.1 127 11).toInt) (by omega) (by omega); omega
      refine ⟨o9402, ?_⟩
      have o9403 : (0 ≤ (x2_1 + (1 : Int32)).toInt) ∧ ((x2_1 + (1 : Int32)).toInt ≤ 44) := by have := bd_127_4 hI; have := bd_127_11 hI; have := ti_add2 (Eq.refl x2_1.toInt) (by decide : ((1 : Int32)).toInt = 1) (by omega) (by omega); have := ti_add2 (Eq.refl (w.1 127 4).toInt) (Eq.refl (w.1 127 11).toInt) (by omega) (by omega); exact ⟨by omega, by omega⟩
      exact ih _ (sJ w 195 x2_1.toInt.toNat 0) (bnd_J hI (k := 195) (j := x2_1.toInt.toNat) (v := 0))  o9403.1 o9403.2 (by have := bd_127_4 hI; have := bd_127_11 hI; have := ti_add2 (Eq.refl x2_1.toInt) (by decide : ((1 : Int32)).toInt = 1) (by omega) (by omega); have := ti_add2 (Eq.refl (w.1 127 4).toInt) (Eq.refl (w.1 127 11).toInt) (by omega) (by omega); omega) (fun w9 hI9 hF9 => hE w9 hI9 ((FR.J (FR.refl _ w) (k := 195) (j := x2_1.toInt.toNat) (v := 0) rfl).tr hF9 rfl) ) (fun w9 hI9 hF9 q0 => q0.elim)
set_option maxRecDepth 20000 in
set_option maxHeartbeats 2000000 in
theorem hq_Mo_join_96 {x96_1 : Int32} {x96_2 : Int32} {x96_3 : Int32} {E : MW → Prop} {Q : MW → Prop} (n : Nat) : ∀ (x96_4 : Int32) (w : MW), BND w → 0 ≤ x96_1.toInt → x96_1.toInt ≤ 47 → (-1) ≤ x96_2.toInt → x96_2.toInt ≤ 19 → 0 ≤ x96_3.toInt → x96_3.toInt ≤ 43 → 0 ≤ x96_4.toInt → x96_4.toInt ≤ 48 → (48 - x96_4.toInt).toNat < n → (∀ (w' : MW), BND w' → FR l_Mo_join_96 w w' → E w') → (∀ (w' : MW), BND w' → FR l_Mo_join_96 w w' → False → Q w') → q_Mo_join_96 x96_1 x96_2 x96_3 E Q n x96_4 w := by
  induction n with
  | zero => intros; omega
  | succ n ih =>
    intro x96_4 w hI  hp0 hp1 hp2 hp3 hp4 hp5 hp6 hp7 hm hE hQ
    rw [q_Mo_join_96.eq_2]
    refine ⟨fun h9404 => ?_, fun h9404 => ?_⟩
    · exact hE _ hI (FR.refl _ w)
    · refine ⟨fun h9405 => ?_, fun h9405 => ?_⟩
      · exact hE _ hI (FR.refl _ w)
      · have o9406 : 0 ≤ x96_2.toInt ∧ x96_2.toInt < 20 := by have := (by decide : ((0 : Int32)).toInt = 0); omega
        refine ⟨o9406, ?_⟩
        refine ⟨fun h9407 => ?_, fun h9407 => ?_⟩
        · exact hE _ hI (FR.refl _ w)
        · have o9408 : 0 ≤ x96_4.toInt ∧ x96_4.toInt < 48 := by have := bd_127_11 hI; have := ti_mul2 (by decide : ((2 : Int32)).toInt = 2) (Eq.refl (w.1 127 11).toInt) (by omega) (by omega); omega
          refine ⟨o9408, ?_⟩
          refine ⟨fun h9409 => ?_, fun h9409 => ?_⟩
          · refine Eq.mpr (q_Mo_join_197.eq_1 _ _ _ _ _ _ _ _ _) ?_
            refine ⟨fun _ => ?_, fun h => absurd (by decide) h⟩
            have o9410 : (0 ≤ x96_1.toInt) ∧ (x96_1.toInt ≤ 47) ∧ ((-1) ≤ x96_2.toInt) ∧ (x96_2.toInt ≤ 19) ∧ (0 ≤ x96_3.toInt) ∧ (x96_3.toInt ≤ 43) ∧ (0 ≤ (x96_4 + (1 : Int32)).toInt) ∧ ((x96_4 + (1 : Int32)).toInt ≤ 48) := by have := bd_127_11 hI; have := ti_add2 (Eq.refl x96_4.toInt) (by decide : ((1 : Int32)).toInt = 1) (by omega) (by omega); have := ti_mul2 (by decide : ((2 : Int32)).toInt = 2) (Eq.refl (w.1 127 11).toInt) (by omega) (by omega); exact ⟨by omega, by omega, by omega, by omega, by omega, by omega, by omega, by omega⟩
            exact ih _ w hI  o9410.1 o9410.2.1 o9410.2.2.1 o9410.2.2.2.1 o9410.2.2.2.2.1 o9410.2.2.2.2.2.1 o9410.2.2.2.2.2.2.1 o9410.2.2.2.2.2.2.2 (by have := bd_127_11 hI; have := ti_add2 (Eq.refl x96_4.toInt) (by decide : ((1 : Int32)).toInt = 1) (by omega) (by omega); have := ti_mul2 (by decide : ((2 : Int32)).toInt = 2) (Eq.refl (w.1 127 11).toInt) (by omega) (by omega); omega) (fun w9 hI9 hF9 => hE w9 hI9 ((FR.refl _ w).tr hF9 rfl) ) (fun w9 hI9 hF9 q0 => q0.elim)
          · refine ⟨fun h9411 => ?_, fun h9411 => ?_⟩
            · refine Eq.mpr (q_Mo_join_197.eq_1 _ _ _ _ _ _ _ _ _) ?_
              refine ⟨fun _ => ?_, fun h => absurd (by decide) h⟩
              have o9412 : (0 ≤ x96_1.toInt) ∧ (x96_1.toInt ≤ 47) ∧ ((-1) ≤ x96_2.toInt) ∧ (x96_2.toInt ≤ 19) ∧ (0 ≤ x96_3.toInt) ∧ (x96_3.toInt ≤ 43) ∧ (0 ≤ (x96_4 + (1 : Int32)).toInt) ∧ ((x96_4 + (1 : Int32)).toInt ≤ 48) := by have := bd_127_11 hI; have := ti_add2 (Eq.refl x96_4.toInt) (by decide : ((1 : Int32)).toInt = 1) (by omega) (by omega); have := ti_mul2 (by decide : ((2 : Int32)).toInt = 2) (Eq.refl (w.1 127 11).toInt) (by omega) (by omega); exact ⟨by omega, by omega, by omega, by omega, by omega, by omega, by omega, by omega⟩
              exact ih _ w hI  o9412.1 o9412.2.1 o9412.2.2.1 o9412.2.2.2.1 o9412.2.2.2.2.1 o9412.2.2.2.2.2.1 o9412.2.2.2.2.2.2.1 o9412.2.2.2.2.2.2.2 (by have := bd_127_11 hI; have := ti_add2 (Eq.refl x96_4.toInt) (by decide : ((1 : Int32)).toInt = 1) (by omega) (by omega); have := ti_mul2 (by decide : ((2 : Int32)).toInt = 2) (Eq.refl (w.1 127 11).toInt) (by omega) (by omega); omega) (fun w9 hI9 hF9 => hE w9 hI9 ((FR.refl _ w).tr hF9 rfl) ) (fun w9 hI9 hF9 q0 => q0.elim)
            · have o9413 : 0 ≤ x96_2.toInt ∧ x96_2.toInt < 20 := by have := (by decide : ((0 : Int32)).toInt = 0); have := bd_170 hI x96_4.toInt.toNat; omega
              refine ⟨o9413, ?_⟩
              refine ⟨fun h9414 => ?_, fun h9414 => ?_⟩
              · have o9415 : 0 ≤ x96_2.toInt ∧ x96_2.toInt < 20 := by have := (by decide : ((0 : Int32)).toInt = 0); have := bd_170 hI x96_4.toInt.toNat; omega
                refine ⟨o9415, ?_⟩
                have o9416 : 0 ≤ x96_2.toInt ∧ x96_2.toInt < 20 := by have := (by decide : ((0 : Int32)).toInt = 0); have := bd_170 hI x96_4.toInt.toNat; omega
                refine ⟨o9416, ?_⟩
                have o9417 : 0 ≤ x96_1.toInt ∧ x96_1.toInt < 48 := by have := bd_127_11 hI; have := ti_mul2 (by decide : ((2 : Int32)).toInt = 2) (Eq.refl (w.1 127 11).toInt) (by omega) (by omega); omega
                refine ⟨o9417, ?_⟩
                have o9418 : 0 ≤ x96_4.toInt ∧ x96_4.toInt < 48 := by have := bd_127_11 hI; have := ti_mul2 (by decide : ((2 : Int32)).toInt = 2) (Eq.refl (w.1 127 11).toInt) (by omega) (by omega); omega
                refine ⟨o9418, ?_⟩
                have o9419 : (0 ≤ ((w.1 163 x96_2.toInt.toNat) - (2 : Int32)).toInt) ∧ (((w.1 163 x96_2.toInt.toNat) - (2 : Int32)).toInt ≤ 7) ∧ (0 ≤ (w.1 167 x96_2.toInt.toNat).toInt) ∧ ((w.1 167 x96_2.toInt.toNat).toInt ≤ 9) := by have := bd_163 hI x96_2.toInt.toNat; have := bd_167 hI x96_2.toInt.toNat; have := (by decide : ((0 : Int32)).toInt = 0); have := (by decide : ((1 : Int32)).toInt = 1); have := ti_sub2 (Eq.refl (w.1 163 x96_2.toInt.toNat).toInt) (by decide : ((2 : Int32)).toInt = 2) (by omega) (by omega); exact ⟨by omega, by omega, by omega, by omega⟩
                refine h_Mo_passes hI  o9419.1 o9419.2.1 o9419.2.2.1 o9419.2.2.2 (fun r9423 w9420 hI9421 hL9422 p9424 p9425 => ?_)
                have hF9426 : FR l_Mo_join_96 w w9420 := (FR.refl _ w).tr hL9422 rfl
                refine ⟨fun h9427 => ?_, fun h9427 => ?_⟩
                · refine Eq.mpr (q_Mo_join_197.eq_1 _ _ _ _ _ _ _ _ _) ?_
                  refine ⟨fun _ => ?_, fun h => absurd (by decide) h⟩
                  have o9428 : (0 ≤ x96_1.toInt) ∧ (x96_1.toInt ≤ 47) ∧ ((-1) ≤ x96_2.toInt) ∧ (x96_2.toInt ≤ 19) ∧ (0 ≤ x96_3.toInt) ∧ (x96_3.toInt ≤ 43) ∧ (0 ≤ (x96_4 + (1 : Int32)).toInt) ∧ ((x96_4 + (1 : Int32)).toInt ≤ 48) := by have := bd_127_11 hI; have := ti_add2 (Eq.refl x96_4.toInt) (by decide : ((1 : Int32)).toInt = 1) (by omega) (by omega); have := ti_mul2 (by decide : ((2 : Int32)).toInt = 2) (Eq.refl (w.1 127 11).toInt) (by omega) (by omega); exact ⟨by omega, by omega, by omega, by omega, by omega, by omega, by omega, by omega⟩
                  exact ih _ w9420 hI9421  o9428.1 o9428.2.1 o9428.2.2.1 o9428.2.2.2.1 o9428.2.2.2.2.1 o9428.2.2.2.2.2.1 o9428.2.2.2.2.2.2.1 o9428.2.2.2.2.2.2.2 (by have := bd_127_11 hI; have := ti_add2 (Eq.refl x96_4.toInt) (by decide : ((1 : Int32)).toInt = 1) (by omega) (by omega); have := ti_mul2 (by decide : ((2 : Int32)).toInt = 2) (Eq.refl (w.1 127 11).toInt) (by omega) (by omega); omega) (fun w9 hI9 hF9 => hE w9 hI9 (hF9426.tr hF9 rfl) ) (fun w9 hI9 hF9 q0 => q0.elim)
                · refine Eq.mpr (q_Mo_join_197.eq_1 _ _ _ _ _ _ _ _ _) ?_
                  refine ⟨fun h => absurd h (by decide), fun _ => ?_⟩
                  have o9429 : 0 ≤ x96_3.toInt ∧ x96_3.toInt < 44 := by omega
                  refine ⟨o9429, ?_⟩
                  have o9430 : 0 ≤ x96_3.toInt ∧ x96_3.toInt < 44 := by omega
                  refine ⟨o9430, ?_⟩
                  have o9431 : (0 ≤ x96_1.toInt) ∧ (x96_1.toInt ≤ 47) ∧ ((-1) ≤ x96_2.toInt) ∧ (x96_2.toInt ≤ 19) ∧ (0 ≤ x96_3.toInt) ∧ (x96_3.toInt ≤ 43) ∧ (0 ≤ (x96_4 + (1 : Int32)).toInt) ∧ ((x96_4 + (1 : Int32)).toInt ≤ 48) := by have := bd_127_11 hI; have := ti_add2 (Eq.refl x96_4.toInt) (by decide : ((1 : Int32)).toInt = 1) (by omega) (by omega); have := ti_mul2 (by decide : ((2 : Int32)).toInt = 2) (Eq.refl (w.1 127 11).toInt) (by omega) (by omega); exact ⟨by omega, by omega, by omega, by omega, by omega, by omega, by omega, by omega⟩
                  exact ih _ (sJ w9420 195 x96_3.toInt.toNat ((w9420.2.1 195 x96_3.toInt.toNat) ||| ((1 : Int64) <<< (((w9420.1 127 4) + (x96_4 / (2 : Int32))).toInt64 &&& 63)))) (bnd_J hI9421 (k := 195) (j := x96_3.toInt.toNat) (v := ((w9420.2.1 195 x96_3.toInt.toNat) ||| ((1 : Int64) <<< (((w9420.1 127 4) + (x96_4 / (2 : Int32))).toInt64 &&& 63)))))  o9431.1 o9431.2.1 o9431.2.2.1 o9431.2.2.2.1 o9431.2.2.2.2.1 o9431.2.2.2.2.2.1 o9431.2.2.2.2.2.2.1 o9431.2.2.2.2.2.2.2 (by have := bd_127_11 hI; have := ti_add2 (Eq.refl x96_4.toInt) (by decide : ((1 : Int32)).toInt = 1) (by omega) (by omega); have := ti_mul2 (by decide : ((2 : Int32)).toInt = 2) (Eq.refl (w.1 127 11).toInt) (by omega) (by omega); omega) (fun w9 hI9 hF9 => hE w9 hI9 ((FR.J hF9426 (k := 195) (j := x96_3.toInt.toNat) (v := ((w9420.2.1 195 x96_3.toInt.toNat) ||| ((1 : Int64) <<< (((w9420.1 127 4) + (x96_4 / (2 : Int32))).toInt64 &&& 63)))) rfl).tr hF9 rfl) ) (fun w9 hI9 hF9 q0 => q0.elim)
              · have o9432 : 0 ≤ x96_1.toInt ∧ x96_1.toInt < 48 := by have := bd_127_11 hI; have := ti_mul2 (by decide : ((2 : Int32)).toInt = 2) (Eq.refl (w.1 127 11).toInt) (by omega) (by omega); omega
                refine ⟨o9432, ?_⟩
                refine ⟨fun h9433 => ?_, fun h9433 => ?_⟩
                · refine Eq.mpr (q_Mo_join_197.eq_1 _ _ _ _ _ _ _ _ _) ?_
                  refine ⟨fun _ => ?_, fun h => absurd (by decide) h⟩
                  have o9434 : (0 ≤ x96_1.toInt) ∧ (x96_1.toInt ≤ 47) ∧ ((-1) ≤ x96_2.toInt) ∧ (x96_2.toInt ≤ 19) ∧ (0 ≤ x96_3.toInt) ∧ (x96_3.toInt ≤ 43) ∧ (0 ≤ (x96_4 + (1 : Int32)).toInt) ∧ ((x96_4 + (1 : Int32)).toInt ≤ 48) := by have := bd_127_11 hI; have := ti_add2 (Eq.refl x96_4.toInt) (by decide : ((1 : Int32)).toInt = 1) (by omega) (by omega); have := ti_mul2 (by decide : ((2 : Int32)).toInt = 2) (Eq.refl (w.1 127 11).toInt) (by omega) (by omega); exact ⟨by omega, by omega, by omega, by omega, by omega, by omega, by omega, by omega⟩
                  exact ih _ w hI  o9434.1 o9434.2.1 o9434.2.2.1 o9434.2.2.2.1 o9434.2.2.2.2.1 o9434.2.2.2.2.2.1 o9434.2.2.2.2.2.2.1 o9434.2.2.2.2.2.2.2 (by have := bd_127_11 hI; have := ti_add2 (Eq.refl x96_4.toInt) (by decide : ((1 : Int32)).toInt = 1) (by omega) (by omega); have := ti_mul2 (by decide : ((2 : Int32)).toInt = 2) (Eq.refl (w.1 127 11).toInt) (by omega) (by omega); omega) (fun w9 hI9 hF9 => hE w9 hI9 ((FR.refl _ w).tr hF9 rfl) ) (fun w9 hI9 hF9 q0 => q0.elim)
                · refine Eq.mpr (q_Mo_join_197.eq_1 _ _ _ _ _ _ _ _ _) ?_
                  refine ⟨fun h => absurd h (by decide), fun _ => ?_⟩
                  have o9435 : 0 ≤ x96_3.toInt ∧ x96_3.toInt < 44 := by omega
                  refine ⟨o9435, ?_⟩
                  have o9436 : 0 ≤ x96_3.toInt ∧ x96_3.toInt < 44 := by omega
                  refine ⟨o9436, ?_⟩
                  have o9437 : (0 ≤ x96_1.toInt) ∧ (x96_1.toInt ≤ 47) ∧ ((-1) ≤ x96_2.toInt) ∧ (x96_2.toInt ≤ 19) ∧ (0 ≤ x96_3.toInt) ∧ (x96_3.toInt ≤ 43) ∧ (0 ≤ (x96_4 + (1 : Int32)).toInt) ∧ ((x96_4 + (1 : Int32)).toInt ≤ 48) := by have := bd_127_11 hI; have := ti_add2 (Eq.refl x96_4.toInt) (by decide : ((1 : Int32)).toInt = 1) (by omega) (by omega); have := ti_mul2 (by decide : ((2 : Int32)).toInt = 2) (Eq.refl (w.1 127 11).toInt) (by omega) (by omega); exact ⟨by omega, by omega, by omega, by omega, by omega, by omega, by omega, by omega⟩
                  exact ih _ (sJ w 195 x96_3.toInt.toNat ((w.2.1 195 x96_3.toInt.toNat) ||| ((1 : Int64) <<< (((w.1 127 4) + (x96_4 / (2 : Int32))).toInt64 &&& 63)))) (bnd_J hI (k := 195) (j := x96_3.toInt.toNat) (v := ((w.2.1 195 x96_3.toInt.toNat) ||| ((1 : Int64) <<< (((w.1 127 4) + (x96_4 / (2 : Int32))).toInt64 &&& 63)))))  o9437.1 o9437.2.1 o9437.2.2.1 o9437.2.2.2.1 o9437.2.2.2.2.1 o9437.2.2.2.2.2.1 o9437.2.2.2.2.2.2.1 o9437.2.2.2.2.2.2.2 (by have := bd_127_11 hI; have := ti_add2 (Eq.refl x96_4.toInt) (by decide : ((1 : Int32)).toInt = 1) (by omega) (by omega); have := ti_mul2 (by decide : ((2 : Int32)).toInt = 2) (Eq.refl (w.1 127 11).toInt) (by omega) (by omega); omega) (fun w9 hI9 hF9 => hE w9 hI9 ((FR.J (FR.refl _ w) (k := 195) (j := x96_3.toInt.toNat) (v := ((w.2.1 195 x96_3.toInt.toNat) ||| ((1 : Int64) <<< (((w.1 127 4) + (x96_4 / (2 : Int32))).toInt64 &&& 63)))) rfl).tr hF9 rfl) ) (fun w9 hI9 hF9 q0 => q0.elim)
set_option maxRecDepth 20000 in
set_option maxHeartbeats 2000000 in
theorem hq_Mo_join_30 {E : MW → Prop} {Q : MW → Prop} (n : Nat) : ∀ (x30_1 : Int32) (w : MW), BND w → 0 ≤ x30_1.toInt → x30_1.toInt ≤ 48 → (48 - x30_1.toInt).toNat < n → (∀ (w' : MW), BND w' → FR l_Mo_join_30 w w' → E w') → (∀ (w' : MW), BND w' → FR l_Mo_join_30 w w' → False → Q w') → q_Mo_join_30 E Q n x30_1 w := by
  induction n with
  | zero => intros; omega
  | succ n ih =>
    intro x30_1 w hI  hp0 hp1 hm hE hQ
    rw [q_Mo_join_30.eq_2]
    refine ⟨fun h9438 => ?_, fun h9438 => ?_⟩
    · exact hE _ hI (FR.refl _ w)
    · have o9439 : 0 ≤ x30_1.toInt ∧ x30_1.toInt < 48 := by have := bd_127_11 hI; have := ti_mul2 (by decide : ((2 : Int32)).toInt = 2) (Eq.refl (w.1 127 11).toInt) (by omega) (by omega); omega
      refine ⟨o9439, ?_⟩
      refine ⟨fun h9440 => ?_, fun h9440 => ?_⟩
      · have o9441 : (0 ≤ x30_1.toInt) ∧ (x30_1.toInt ≤ 47) ∧ ((-1) ≤ (w.1 170 x30_1.toInt.toNat).toInt) ∧ ((w.1 170 x30_1.toInt.toNat).toInt ≤ 19) ∧ (0 ≤ ((w.1 127 4) + (x30_1 / (2 : Int32))).toInt) ∧ (((w.1 127 4) + (x30_1 / (2 : Int32))).toInt ≤ 43) ∧ (0 ≤ (0 : Int32).toInt) ∧ ((0 : Int32).toInt ≤ 48) := by have := bd_170 hI x30_1.toInt.toNat; have := bd_127_4 hI; have := (by decide : ((0 : Int32)).toInt = 0); have := bd_127_11 hI; have := nb_div (x := x30_1) (by omega) (by decide : ((2 : Int32)).toInt = 2) (by decide); have := ti_add2 (Eq.refl (w.1 127 4).toInt) (Eq.refl (x30_1 / (2 : Int32)).toInt) (by omega) (by omega); have := ti_mul2 (by decide : ((2 : Int32)).toInt = 2) (Eq.refl (w.1 127 11).toInt) (by omega) (by omega); exact ⟨by omega, by omega, by omega, by omega, by omega, by omega, by omega, by omega⟩
        refine hq_Mo_join_96 FU _ w hI  o9441.1 o9441.2.1 o9441.2.2.1 o9441.2.2.2.1 o9441.2.2.2.2.1 o9441.2.2.2.2.2.1 o9441.2.2.2.2.2.2.1 o9441.2.2.2.2.2.2.2 (fu_lt (by have := bd_170 hI x30_1.toInt.toNat; have := bd_127_4 hI; have := (by decide : ((0 : Int32)).toInt = 0); have := bd_127_11 hI; have := nb_div (x := x30_1) (by omega) (by decide : ((2 : Int32)).toInt = 2) (by decide); have := ti_add2 (Eq.refl (w.1 127 4).toInt) (Eq.refl (x30_1 / (2 : Int32)).toInt) (by omega) (by omega); have := ti_mul2 (by decide : ((2 : Int32)).toInt = 2) (Eq.refl (w.1 127 11).toInt) (by omega) (by omega); omega)) (fun w9442 hI9443 hL9444  => ?_) (fun w9 hI9 hF9 q0 => q0.elim)
        have hF9445 : FR l_Mo_join_30 w w9442 := (FR.refl _ w).tr hL9444 rfl
        have o9446 : (0 ≤ (x30_1 + (1 : Int32)).toInt) ∧ ((x30_1 + (1 : Int32)).toInt ≤ 48) := by have := bd_127_11 hI; have := ti_add2 (Eq.refl x30_1.toInt) (by decide : ((1 : Int32)).toInt = 1) (by omega) (by omega); have := ti_mul2 (by decide : ((2 : Int32)).toInt = 2) (Eq.refl (w.1 127 11).toInt) (by omega) (by omega); exact ⟨by omega, by omega⟩
        exact ih _ w9442 hI9443  o9446.1 o9446.2 (by have := bd_127_11 hI; have := ti_add2 (Eq.refl x30_1.toInt) (by decide : ((1 : Int32)).toInt = 1) (by omega) (by omega); have := ti_mul2 (by decide : ((2 : Int32)).toInt = 2) (Eq.refl (w.1 127 11).toInt) (by omega) (by omega); omega) (fun w9 hI9 hF9 => hE w9 hI9 (hF9445.tr hF9 rfl) ) (fun w9 hI9 hF9 q0 => q0.elim)
      · have o9447 : 0 ≤ (w.1 170 x30_1.toInt.toNat).toInt ∧ (w.1 170 x30_1.toInt.toNat).toInt < 20 := by have := bd_170 hI x30_1.toInt.toNat; have := (by decide : ((0 : Int32)).toInt = 0); omega
        refine ⟨o9447, ?_⟩
        refine ⟨fun h9448 => ?_, fun h9448 => ?_⟩
        · have o9449 : (0 ≤ x30_1.toInt) ∧ (x30_1.toInt ≤ 47) ∧ ((-1) ≤ (w.1 170 x30_1.toInt.toNat).toInt) ∧ ((w.1 170 x30_1.toInt.toNat).toInt ≤ 19) ∧ (0 ≤ ((w.1 127 4) + (x30_1 / (2 : Int32))).toInt) ∧ (((w.1 127 4) + (x30_1 / (2 : Int32))).toInt ≤ 43) ∧ (0 ≤ (0 : Int32).toInt) ∧ ((0 : Int32).toInt ≤ 48) := by have := bd_170 hI x30_1.toInt.toNat; have := bd_127_4 hI; have := (by decide : ((0 : Int32)).toInt = 0); have := bd_127_11 hI; have := nb_div (x := x30_1) (by omega) (by decide : ((2 : Int32)).toInt = 2) (by decide); have := ti_add2 (Eq.refl (w.1 127 4).toInt) (Eq.refl (x30_1 / (2 : Int32)).toInt) (by omega) (by omega); have := ti_mul2 (by decide : ((2 : Int32)).toInt = 2) (Eq.refl (w.1 127 11).toInt) (by omega) (by omega); exact ⟨by omega, by omega, by omega, by omega, by omega, by omega, by omega, by omega⟩
          refine hq_Mo_join_96 FU _ w hI  o9449.1 o9449.2.1 o9449.2.2.1 o9449.2.2.2.1 o9449.2.2.2.2.1 o9449.2.2.2.2.2.1 o9449.2.2.2.2.2.2.1 o9449.2.2.2.2.2.2.2 (fu_lt (by have := bd_170 hI x30_1.toInt.toNat; have := bd_127_4 hI; have := (by decide : ((0 : Int32)).toInt = 0); have := bd_127_11 hI; have := nb_div (x := x30_1) (by omega) (by decide : ((2 : Int32)).toInt = 2) (by decide); have := ti_add2 (Eq.refl (w.1 127 4).toInt) (Eq.refl (x30_1 / (2 : Int32)).toInt) (by omega) (by omega); have := ti_mul2 (by decide : ((2 : Int32)).toInt = 2) (Eq.refl (w.1 127 11).toInt) (by omega) (by omega); omega)) (fun w9450 hI9451 hL9452  => ?_) (fun w9 hI9 hF9 q0 => q0.elim)
          have hF9453 : FR l_Mo_join_30 w w9450 := (FR.refl _ w).tr hL9452 rfl
          have o9454 : (0 ≤ (x30_1 + (1 : Int32)).toInt) ∧ ((x30_1 + (1 : Int32)).toInt ≤ 48) := by have := bd_127_11 hI; have := ti_add2 (Eq.refl x30_1.toInt) (by decide : ((1 : Int32)).toInt = 1) (by omega) (by omega); have := ti_mul2 (by decide : ((2 : Int32)).toInt = 2) (Eq.refl (w.1 127 11).toInt) (by omega) (by omega); exact ⟨by omega, by omega⟩
          exact ih _ w9450 hI9451  o9454.1 o9454.2 (by have := bd_127_11 hI; have := ti_add2 (Eq.refl x30_1.toInt) (by decide : ((1 : Int32)).toInt = 1) (by omega) (by omega); have := ti_mul2 (by decide : ((2 : Int32)).toInt = 2) (Eq.refl (w.1 127 11).toInt) (by omega) (by omega); omega) (fun w9 hI9 hF9 => hE w9 hI9 (hF9453.tr hF9 rfl) ) (fun w9 hI9 hF9 q0 => q0.elim)
        · have o9455 : 0 ≤ ((w.1 127 4) + (x30_1 / (2 : Int32))).toInt ∧ ((w.1 127 4) + (x30_1 / (2 : Int32))).toInt < 44 := by have := bd_127_4 hI; have := bd_127_11 hI; have := nb_div (x := x30_1) (by omega) (by decide : ((2 : Int32)).toInt = 2) (by decide); have := ti_add2 (Eq.refl (w.1 127 4).toInt) (Eq.refl (x30_1 / (2 : Int32)).toInt) (by omega) (by omega); have := ti_mul2 (by decide : ((2 : Int32)).toInt = 2) (Eq.refl (w.1 127 11).toInt) (by omega) (by omega); omega
          refine ⟨o9455, ?_⟩
          have o9456 : 0 ≤ ((w.1 127 4) + (x30_1 / (2 : Int32))).toInt ∧ ((w.1 127 4) + (x30_1 / (2 : Int32))).toInt < 44 := by have := bd_127_4 hI; have := bd_127_11 hI; have := nb_div (x := x30_1) (by omega) (by decide : ((2 : Int32)).toInt = 2) (by decide); have := ti_add2 (Eq.refl (w.1 127 4).toInt) (Eq.refl (x30_1 / (2 : Int32)).toInt) (by omega) (by omega); have := ti_mul2 (by decide : ((2 : Int32)).toInt = 2) (Eq.refl (w.1 127 11).toInt) (by omega) (by omega); omega
          refine ⟨o9456, ?_⟩
          have o9457 : 0 ≤ (w.1 170 x30_1.toInt.toNat).toInt ∧ (w.1 170 x30_1.toInt.toNat).toInt < 44 := by have := bd_170 hI x30_1.toInt.toNat; have := (by decide : ((0 : Int32)).toInt = 0); omega
          refine ⟨o9457, ?_⟩
          have o9458 : 0 ≤ (w.1 170 x30_1.toInt.toNat).toInt ∧ (w.1 170 x30_1.toInt.toNat).toInt < 44 := by have := bd_170 hI x30_1.toInt.toNat; have := (by decide : ((0 : Int32)).toInt = 0); omega
          refine ⟨o9458, ?_⟩
          have o9459 : (0 ≤ x30_1.toInt) ∧ (x30_1.toInt ≤ 47) ∧ ((-1) ≤ (w.1 170 x30_1.toInt.toNat).toInt) ∧ ((w.1 170 x30_1.toInt.toNat).toInt ≤ 19) ∧ (0 ≤ ((w.1 127 4) + (x30_1 / (2 : Int32))).toInt) ∧ (((w.1 127 4) + (x30_1 / (2 : Int32))).toInt ≤ 43) ∧ (0 ≤ (0 : Int32).toInt) ∧ ((0 : Int32).toInt ≤ 48) := by have := bd_170 hI x30_1.toInt.toNat; have := bd_127_4 hI; have := (by decide : ((0 : Int32)).toInt = 0); have := bd_127_11 hI; have := nb_div (x := x30_1) (by omega) (by decide : ((2 : Int32)).toInt = 2) (by decide); have := ti_add2 (Eq.refl (w.1 127 4).toInt) (Eq.refl (x30_1 / (2 : Int32)).toInt) (by omega) (by omega); have := ti_mul2 (by decide : ((2 : Int32)).toInt = 2) (Eq.refl (w.1 127 11).toInt) (by omega) (by omega); exact ⟨by omega, by omega, by omega, by omega, by omega, by omega, by omega, by omega⟩
          refine hq_Mo_join_96 FU _ (sJ (sJ w 195 (((w.1 127 4) + (x30_1 / (2 : Int32))).toInt.toNat) ((w.2.1 195 (((w.1 127 4) + (x30_1 / (2 : Int32))).toInt.toNat)) ||| ((1 : Int64) <<< ((w.1 170 x30_1.toInt.toNat).toInt64 &&& 63)))) 195 ((w.1 170 x30_1.toInt.toNat).toInt.toNat) (((sJ w 195 (((w.1 127 4) + (x30_1 / (2 : Int32))).toInt.toNat) ((w.2.1 195 (((w.1 127 4) + (x30_1 / (2 : Int32))).toInt.toNat)) ||| ((1 : Int64) <<< ((w.1 170 x30_1.toInt.toNat).toInt64 &&& 63)))).2.1 195 ((w.1 170 x30_1.toInt.toNat).toInt.toNat)) ||| ((1 : Int64) <<< (((w.1 127 4) + (x30_1 / (2 : Int32))).toInt64 &&& 63)))) (bnd_J (bnd_J hI (k := 195) (j := ((w.1 127 4) + (x30_1 / (2 : Int32))).toInt.toNat) (v := ((w.2.1 195 (((w.1 127 4) + (x30_1 / (2 : Int32))).toInt.toNat)) ||| ((1 : Int64) <<< ((w.1 170 x30_1.toInt.toNat).toInt64 &&& 63))))) (k := 195) (j := (w.1 170 x30_1.toInt.toNat).toInt.toNat) (v := (((sJ w 195 (((w.1 127 4) + (x30_1 / (2 : Int32))).toInt.toNat) ((w.2.1 195 (((w.1 127 4) + (x30_1 / (2 : Int32))).toInt.toNat)) ||| ((1 : Int64) <<< ((w.1 170 x30_1.toInt.toNat).toInt64 &&& 63)))).2.1 195 ((w.1 170 x30_1.toInt.toNat).toInt.toNat)) ||| ((1 : Int64) <<< (((w.1 127 4) + (x30_1 / (2 : Int32))).toInt64 &&& 63)))))  o9459.1 o9459.2.1 o9459.2.2.1 o9459.2.2.2.1 o9459.2.2.2.2.1 o9459.2.2.2.2.2.1 o9459.2.2.2.2.2.2.1 o9459.2.2.2.2.2.2.2 (fu_lt (by have := bd_170 hI x30_1.toInt.toNat; have := bd_127_4 hI; have := (by decide : ((0 : Int32)).toInt = 0); have := bd_127_11 hI; have := nb_div (x := x30_1) (by omega) (by decide : ((2 : Int32)).toInt = 2) (by decide); have := ti_add2 (Eq.refl (w.1 127 4).toInt) (Eq.refl (x30_1 / (2 : Int32)).toInt) (by omega) (by omega); have := ti_mul2 (by decide : ((2 : Int32)).toInt = 2) (Eq.refl (w.1 127 11).toInt) (by omega) (by omega); omega)) (fun w9460 hI9461 hL9462  => ?_) (fun w9 hI9 hF9 q0 => q0.elim)
          have hF9463 : FR l_Mo_join_30 w w9460 := (FR.J (FR.J (FR.refl _ w) (k := 195) (j := ((w.1 127 4) + (x30_1 / (2 : Int32))).toInt.toNat) (v := ((w.2.1 195 (((w.1 127 4) + (x30_1 / (2 : Int32))).toInt.toNat)) ||| ((1 : Int64) <<< ((w.1 170 x30_1.toInt.toNat).toInt64 &&& 63)))) rfl) (k := 195) (j := (w.1 170 x30_1.toInt.toNat).toInt.toNat) (v := (((sJ w 195 (((w.1 127 4) + (x30_1 / (2 : Int32))).toInt.toNat) ((w.2.1 195 (((w.1 127 4) + (x30_1 / (2 : Int32))).toInt.toNat)) ||| ((1 : Int64) <<< ((w.1 170 x30_1.toInt.toNat).toInt64 &&& 63)))).2.1 195 ((w.1 170 x30_1.toInt.toNat).toInt.toNat)) ||| ((1 : Int64) <<< (((w.1 127 4) + (x30_1 / (2 : Int32))).toInt64 &&& 63)))) rfl).tr hL9462 rfl
          have o9464 : (0 ≤ (x30_1 + (1 : Int32)).toInt) ∧ ((x30_1 + (1 : Int32)).toInt ≤ 48) := by have := bd_127_11 hI; have := ti_add2 (Eq.refl x30_1.toInt) (by decide : ((1 : Int32)).toInt = 1) (by omega) (by omega); have := ti_mul2 (by decide : ((2 : Int32)).toInt = 2) (Eq.refl (w.1 127 11).toInt) (by omega) (by omega); exact ⟨by omega, by omega⟩
          exact ih _ w9460 hI9461  o9464.1 o9464.2 (by have := bd_127_11 hI; have := ti_add2 (Eq.refl x30_1.toInt) (by decide : ((1 : Int32)).toInt = 1) (by omega) (by omega); have := ti_mul2 (by decide : ((2 : Int32)).toInt = 2) (Eq.refl (w.1 127 11).toInt) (by omega) (by omega); omega) (fun w9 hI9 hF9 => hE w9 hI9 (hF9463.tr hF9 rfl) ) (fun w9 hI9 hF9 q0 => q0.elim)
set_option maxRecDepth 20000 in
set_option maxHeartbeats 2000000 in
theorem h_Mo_join {w : MW} {Q : MW → Prop} (hI : BND w)  (hQ : ∀ (w' : MW), BND w' → FR l_Mo_join w w' → Q w') : p_Mo_join w Q := by
  refine Eq.mpr (p_Mo_join.eq_1 _ _) ?_
  have o9465 : (0 ≤ (0 : Int32).toInt) ∧ ((0 : Int32).toInt ≤ 44) := by have := (by decide : ((0 : Int32)).toInt = 0); exact ⟨by omega, by omega⟩
  refine hq_Mo_join_2 FU _ w hI  o9465.1 o9465.2 (fu_lt (by have := (by decide : ((0 : Int32)).toInt = 0); omega)) (fun w9466 hI9467 hL9468  => ?_) (fun w9 hI9 hF9 q0 => q0.elim)
  have hF9469 : FR l_Mo_join w w9466 := (FR.refl _ w).tr hL9468 rfl
  have o9470 : (0 ≤ (0 : Int32).toInt) ∧ ((0 : Int32).toInt ≤ 48) := by have := (by decide : ((0 : Int32)).toInt = 0); exact ⟨by omega, by omega⟩
  refine hq_Mo_join_30 FU _ w9466 hI9467  o9470.1 o9470.2 (fu_lt (by have := (by decide : ((0 : Int32)).toInt = 0); omega)) (fun w9471 hI9472 hL9473  => ?_) (fun w9 hI9 hF9 q0 => q0.elim)
  have hF9474 : FR l_Mo_join w w9471 := hF9469.tr hL9473 rfl
  exact hQ _ hI9472 hF9474 
def l_Mo_liquidIn_49 : Pl := []
def l_Mo_liquidIn : Pl := []
set_option maxRecDepth 20000 in
set_option maxHeartbeats 2000000 in
theorem hq_Mo_liquidIn_49 {x49_2 : Int32} {E : Int32 → MW → Prop} {Q : Int32 → MW → Prop} (n : Nat) : ∀ (x49_3 : Int32) (x49_4 : Int32) (w : MW), BND w → 0 ≤ x49_2.toInt → x49_2.toInt ≤ 23 → 0 ≤ x49_3.toInt → x49_3.toInt ≤ 15 → 0 ≤ x49_4.toInt → x49_4.toInt ≤ 200 → (200 - x49_4.toInt).toNat < n → (∀ (e49_3 : Int32) (w' : MW), BND w' → FR l_Mo_liquidIn_49 w w' → 0 ≤ e49_3.toInt → e49_3.toInt ≤ 15 → E e49_3 w') → (∀ (r : Int32) (w' : MW), BND w' → FR l_Mo_liquidIn_49 w w' → False → Q r w') → q_Mo_liquidIn_49 x49_2 E Q n x49_3 x49_4 w := by
  induction n with
  | zero => intros; omega
  | succ n ih =>
    intro x49_3 x49_4 w hI  hp0 hp1 hp2 hp3 hp4 hp5 hm hE hQ
    rw [q_Mo_liquidIn_49.eq_2]
    have o9475 : 0 ≤ x49_2.toInt ∧ x49_2.toInt < 24 := by omega
    refine ⟨o9475, ?_⟩
    refine ⟨fun h9476 => ?_, fun h9476 => ?_⟩
    · have o9477 : (0 ≤ x49_3.toInt) ∧ (x49_3.toInt ≤ 15) := by exact ⟨by omega, by omega⟩
      exact hE _ _ hI (FR.refl _ w) o9477.1 o9477.2
    · have o9478 : 0 ≤ (((200 : Int32) * x49_2) + x49_4).toInt ∧ (((200 : Int32) * x49_2) + x49_4).toInt < 4800 := by have := bd_169 hI x49_2.toInt.toNat; have := ti_mul2 (by decide : ((200 : Int32)).toInt = 200) (Eq.refl x49_2.toInt) (by omega) (by omega); have := ti_add2 (Eq.refl ((200 : Int32) * x49_2).toInt) (Eq.refl x49_4.toInt) (by omega) (by omega); omega
      refine ⟨o9478, ?_⟩
      refine ⟨fun h9479 => ?_, fun h9479 => ?_⟩
      · have o9480 : (0 ≤ x49_2.toInt) ∧ (x49_2.toInt ≤ 23) ∧ (0 ≤ x49_3.toInt) ∧ (x49_3.toInt ≤ 15) ∧ (0 ≤ (x49_4 + (1 : Int32)).toInt) ∧ ((x49_4 + (1 : Int32)).toInt ≤ 200) := by have := bd_169 hI x49_2.toInt.toNat; have := ti_add2 (Eq.refl x49_4.toInt) (by decide : ((1 : Int32)).toInt = 1) (by omega) (by omega); exact ⟨by omega, by omega, by omega, by omega, by omega, by omega⟩
        exact ih _ _ w hI  o9480.1 o9480.2.1 o9480.2.2.1 o9480.2.2.2.1 o9480.2.2.2.2.1 o9480.2.2.2.2.2 (by have := bd_169 hI x49_2.toInt.toNat; have := ti_add2 (Eq.refl x49_4.toInt) (by decide : ((1 : Int32)).toInt = 1) (by omega) (by omega); omega) (fun e0 w9 hI9 hF9 p0 p1 => hE e0 w9 hI9 ((FR.refl _ w).tr hF9 rfl) p0 p1 ) (fun r w9 hI9 hF9 q0 => q0.elim)
      · refine ⟨fun h9481 => ?_, fun h9481 => ?_⟩
        · refine ⟨fun h9482 => ?_, fun h9482 => ?_⟩
          · have o9483 : (0 ≤ x49_2.toInt) ∧ (x49_2.toInt ≤ 23) ∧ (0 ≤ (15 : Int32).toInt) ∧ ((15 : Int32).toInt ≤ 15) ∧ (0 ≤ (x49_4 + (1 : Int32)).toInt) ∧ ((x49_4 + (1 : Int32)).toInt ≤ 200) := by have := (by decide : ((15 : Int32)).toInt = 15); have := bd_169 hI x49_2.toInt.toNat; have := ti_add2 (Eq.refl x49_4.toInt) (by decide : ((1 : Int32)).toInt = 1) (by omega) (by omega); exact ⟨by omega, by omega, by omega, by omega, by omega, by omega⟩
            exact ih _ _ w hI  o9483.1 o9483.2.1 o9483.2.2.1 o9483.2.2.2.1 o9483.2.2.2.2.1 o9483.2.2.2.2.2 (by have := (by decide : ((15 : Int32)).toInt = 15); have := bd_169 hI x49_2.toInt.toNat; have := ti_add2 (Eq.refl x49_4.toInt) (by decide : ((1 : Int32)).toInt = 1) (by omega) (by omega); omega) (fun e0 w9 hI9 hF9 p0 p1 => hE e0 w9 hI9 ((FR.refl _ w).tr hF9 rfl) p0 p1 ) (fun r w9 hI9 hF9 q0 => q0.elim)
          · have o9484 : (0 ≤ x49_2.toInt) ∧ (x49_2.toInt ≤ 23) ∧ (0 ≤ (w.1 172 ((((200 : Int32) * x49_2) + x49_4).toInt.toNat)).toInt) ∧ ((w.1 172 ((((200 : Int32) * x49_2) + x49_4).toInt.toNat)).toInt ≤ 15) ∧ (0 ≤ (x49_4 + (1 : Int32)).toInt) ∧ ((x49_4 + (1 : Int32)).toInt ≤ 200) := by have := bd_172 hI ((((200 : Int32) * x49_2) + x49_4).toInt.toNat); have := bd_169 hI x49_2.toInt.toNat; have := (by decide : ((0 : Int32)).toInt = 0); have := ti_add2 (Eq.refl x49_4.toInt) (by decide : ((1 : Int32)).toInt = 1) (by omega) (by omega); exact ⟨by omega, by omega, by omega, by omega, by omega, by omega⟩
            exact ih _ _ w hI  o9484.1 o9484.2.1 o9484.2.2.1 o9484.2.2.2.1 o9484.2.2.2.2.1 o9484.2.2.2.2.2 (by have := bd_172 hI ((((200 : Int32) * x49_2) + x49_4).toInt.toNat); have := bd_169 hI x49_2.toInt.toNat; have := (by decide : ((0 : Int32)).toInt = 0); have := ti_add2 (Eq.refl x49_4.toInt) (by decide : ((1 : Int32)).toInt = 1) (by omega) (by omega); omega) (fun e0 w9 hI9 hF9 p0 p1 => hE e0 w9 hI9 ((FR.refl _ w).tr hF9 rfl) p0 p1 ) (fun r w9 hI9 hF9 q0 => q0.elim)
        · have o9485 : (0 ≤ x49_2.toInt) ∧ (x49_2.toInt ≤ 23) ∧ (0 ≤ x49_3.toInt) ∧ (x49_3.toInt ≤ 15) ∧ (0 ≤ (x49_4 + (1 : Int32)).toInt) ∧ ((x49_4 + (1 : Int32)).toInt ≤ 200) := by have := bd_169 hI x49_2.toInt.toNat; have := bd_172 hI ((((200 : Int32) * x49_2) + x49_4).toInt.toNat); have := (by decide : ((0 : Int32)).toInt = 0); have := ti_add2 (Eq.refl x49_4.toInt) (by decide : ((1 : Int32)).toInt = 1) (by omega) (by omega); exact ⟨by omega, by omega, by omega, by omega, by omega, by omega⟩
          exact ih _ _ w hI  o9485.1 o9485.2.1 o9485.2.2.1 o9485.2.2.2.1 o9485.2.2.2.2.1 o9485.2.2.2.2.2 (by have := bd_169 hI x49_2.toInt.toNat; have := bd_172 hI ((((200 : Int32) * x49_2) + x49_4).toInt.toNat); have := (by decide : ((0 : Int32)).toInt = 0); have := ti_add2 (Eq.refl x49_4.toInt) (by decide : ((1 : Int32)).toInt = 1) (by omega) (by omega); omega) (fun e0 w9 hI9 hF9 p0 p1 => hE e0 w9 hI9 ((FR.refl _ w).tr hF9 rfl) p0 p1 ) (fun r w9 hI9 hF9 q0 => q0.elim)
set_option maxRecDepth 20000 in
set_option maxHeartbeats 2000000 in
theorem h_Mo_liquidIn {w : MW} {a0 : Int32} {Q : Int32 → MW → Prop} (hI : BND w) (hp0 : 0 ≤ a0.toInt) (hp1 : a0.toInt ≤ 43) (hp2 : a0.toInt < (w.1 127 4).toInt + (w.1 127 11).toInt) (hQ : ∀ (r : Int32) (w' : MW), BND w' → FR l_Mo_liquidIn w w' → 0 ≤ r.toInt → r.toInt ≤ 15 → Q r w') : p_Mo_liquidIn w a0 Q := by
  refine Eq.mpr (p_Mo_liquidIn.eq_1 _ _ _) ?_
  refine ⟨fun h9486 => ?_, fun h9486 => ?_⟩
  · have o9487 : (0 ≤ (a0 - (w.1 127 4)).toInt) ∧ ((a0 - (w.1 127 4)).toInt ≤ 23) ∧ (0 ≤ (0 : Int32).toInt) ∧ ((0 : Int32).toInt ≤ 15) ∧ (0 ≤ (0 : Int32).toInt) ∧ ((0 : Int32).toInt ≤ 200) := by have := bd_127_4 hI; have := (by decide : ((0 : Int32)).toInt = 0); have := bd_127_11 hI; have := ti_sub2 (Eq.refl a0.toInt) (Eq.refl (w.1 127 4).toInt) (by omega) (by omega); exact ⟨by omega, by omega, by omega, by omega, by omega, by omega⟩
    refine hq_Mo_liquidIn_49 FU _ _ w hI  o9487.1 o9487.2.1 o9487.2.2.1 o9487.2.2.2.1 o9487.2.2.2.2.1 o9487.2.2.2.2.2 (fu_lt (by have := bd_127_4 hI; have := (by decide : ((0 : Int32)).toInt = 0); have := bd_127_11 hI; have := ti_sub2 (Eq.refl a0.toInt) (Eq.refl (w.1 127 4).toInt) (by omega) (by omega); omega)) (fun e9491 w9488 hI9489 hL9490 p9492 p9493 => ?_) (fun r w9 hI9 hF9 q0 => q0.elim)
    have hF9494 : FR l_Mo_liquidIn w w9488 := (FR.refl _ w).tr hL9490 rfl
    have o9495 : (0 ≤ e9491.toInt) ∧ (e9491.toInt ≤ 15) := by exact ⟨by omega, by omega⟩
    exact hQ _ _ hI9489 hF9494  o9495.1 o9495.2
  · have o9496 : 0 ≤ a0.toInt ∧ a0.toInt < 20 := by have := bd_127_4 hI; have := bd_127_11 hI; omega
    refine ⟨o9496, ?_⟩
    refine ⟨fun h9497 => ?_, fun h9497 => ?_⟩
    · have o9498 : (0 ≤ (0 : Int32).toInt) ∧ ((0 : Int32).toInt ≤ 15) := by have := (by decide : ((0 : Int32)).toInt = 0); exact ⟨by omega, by omega⟩
      exact hQ _ _ hI (FR.refl _ w)  o9498.1 o9498.2
    · have o9499 : 0 ≤ a0.toInt ∧ a0.toInt < 20 := by have := bd_127_4 hI; have := bd_127_11 hI; omega
      refine ⟨o9499, ?_⟩
      refine ⟨fun h9500 => ?_, fun h9500 => ?_⟩
      · have o9501 : (0 ≤ (0 : Int32).toInt) ∧ ((0 : Int32).toInt ≤ 15) := by have := (by decide : ((0 : Int32)).toInt = 0); exact ⟨by omega, by omega⟩
        exact hQ _ _ hI (FR.refl _ w)  o9501.1 o9501.2
      · have o9502 : 0 ≤ a0.toInt ∧ a0.toInt < 20 := by have := bd_127_4 hI; have := bd_127_11 hI; omega
        refine ⟨o9502, ?_⟩
        have o9503 : (0 ≤ (w.1 166 a0.toInt.toNat).toInt) ∧ ((w.1 166 a0.toInt.toNat).toInt ≤ 15) := by have := bd_166 hI a0.toInt.toNat; exact ⟨by omega, by omega⟩
        exact hQ _ _ hI (FR.refl _ w)  o9503.1 o9503.2
def l_Mo_look_2 : Pl := [(194, none)]
def l_Mo_look_60 : Pl := [(194, none)]
def l_Mo_look_34 : Pl := [(194, none)]
def l_Mo_look : Pl := [(194, none)]
set_option maxRecDepth 20000 in
set_option maxHeartbeats 2000000 in
theorem hq_Mo_look_2 {E : MW → Prop} {Q : MW → Prop} (n : Nat) : ∀ (x2_1 : Int32) (w : MW), BND w → 0 ≤ x2_1.toInt → x2_1.toInt ≤ 44 → (44 - x2_1.toInt).toNat < n → (∀ (w' : MW), BND w' → FR l_Mo_look_2 w w' → E w') → (∀ (w' : MW), BND w' → FR l_Mo_look_2 w w' → False → Q w') → q_Mo_look_2 E Q n x2_1 w := by
  induction n with
  | zero => intros; omega
  | succ n ih =>
    intro x2_1 w hI  hp0 hp1 hm hE hQ
    rw [q_Mo_look_2.eq_2]
    refine ⟨fun h9504 => ?_, fun h9504 => ?_⟩
    · exact hE _ hI (FR.refl _ w)
    · have o9505 : (0 ≤ x2_1.toInt) ∧ (x2_1.toInt ≤ 43) ∧ (x2_1.toInt < (w.1 127 4).toInt + (w.1 127 11).toInt) := by have := bd_127_4 hI; have := bd_127_11 hI; have := ti_add2 (Eq.refl (w.1 127 4).toInt) (Eq.refl (w.1 127 11).toInt) (by omega) (by omega); exact ⟨by omega, by omega, by omega⟩
      refine h_Mo_liquidIn hI  o9505.1 o9505.2.1 o9505.2.2 (fun r9509 w9506 hI9507 hL9508 p9510 p9511 => ?_)
      have hF9512 : FR l_Mo_look_2 w w9506 := (FR.refl _ w).tr hL9508 rfl
      have o9513 : 0 ≤ x2_1.toInt ∧ x2_1.toInt < 44 := by have := bd_127_4 hI; have := bd_127_11 hI; have := ti_add2 (Eq.refl (w.1 127 4).toInt) (Eq.refl (w.1 127 11).toInt) (by omega) (by omega); omega
      refine ⟨o9513, ?_⟩
      have o9515 : 0 ≤ r9509.toInt ∧ r9509.toInt ≤ 15 := by omega
      have hI9514 : BND (sI w9506 194 x2_1.toInt.toNat r9509) := wbd_194 hI9507 x2_1.toInt.toNat o9515.1 o9515.2
      have o9516 : (0 ≤ (x2_1 + (1 : Int32)).toInt) ∧ ((x2_1 + (1 : Int32)).toInt ≤ 44) := by have := bd_127_4 hI; have := bd_127_11 hI; have := ti_add2 (Eq.refl x2_1.toInt) (by decide : ((1 : Int32)).toInt = 1) (by omega) (by omega); have := ti_add2 (Eq.refl (w.1 127 4).toInt) (Eq.refl (w.1 127 11).toInt) (by omega) (by omega); exact ⟨by omega, by omega⟩
      exact ih _ (sI w9506 194 x2_1.toInt.toNat r9509) hI9514  o9516.1 o9516.2 (by have := bd_127_4 hI; have := bd_127_11 hI; have := ti_add2 (Eq.refl x2_1.toInt) (by decide : ((1 : Int32)).toInt = 1) (by omega) (by omega); have := ti_add2 (Eq.refl (w.1 127 4).toInt) (Eq.refl (w.1 127 11).toInt) (by omega) (by omega); omega) (fun w9 hI9 hF9 => hE w9 hI9 ((FR.I hF9512 (k := 194) (j := x2_1.toInt.toNat) (v := r9509) rfl).tr hF9 rfl) ) (fun w9 hI9 hF9 q0 => q0.elim)
set_option maxRecDepth 20000 in
set_option maxHeartbeats 2000000 in
theorem hq_Mo_look_60 {x60_1 : Int32} {E : MW → Prop} {Q : MW → Prop} (n : Nat) : ∀ (x60_2 : Int32) (w : MW), BND w → 0 ≤ x60_1.toInt → x60_1.toInt ≤ 23 → 0 ≤ x60_2.toInt → x60_2.toInt ≤ 24 → (24 - x60_2.toInt).toNat < n → (∀ (w' : MW), BND w' → FR l_Mo_look_60 w w' → E w') → (∀ (w' : MW), BND w' → FR l_Mo_look_60 w w' → False → Q w') → q_Mo_look_60 x60_1 E Q n x60_2 w := by
  induction n with
  | zero => intros; omega
  | succ n ih =>
    intro x60_2 w hI  hp0 hp1 hp2 hp3 hm hE hQ
    rw [q_Mo_look_60.eq_2]
    have o9517 : 0 ≤ x60_1.toInt ∧ x60_1.toInt < 24 := by omega
    refine ⟨o9517, ?_⟩
    refine ⟨fun h9518 => ?_, fun h9518 => ?_⟩
    · exact hE _ hI (FR.refl _ w)
    · have o9519 : 0 ≤ (((24 : Int32) * x60_1) + x60_2).toInt ∧ (((24 : Int32) * x60_1) + x60_2).toInt < 576 := by have := bd_185 hI x60_1.toInt.toNat; have := ti_mul2 (by decide : ((24 : Int32)).toInt = 24) (Eq.refl x60_1.toInt) (by omega) (by omega); have := ti_add2 (Eq.refl ((24 : Int32) * x60_1).toInt) (Eq.refl x60_2.toInt) (by omega) (by omega); omega
      refine ⟨o9519, ?_⟩
      have o9520 : 0 ≤ x60_1.toInt ∧ x60_1.toInt < 24 := by omega
      refine ⟨o9520, ?_⟩
      refine Eq.mpr (p_Mo_carry.eq_1 _ _ _ _) ?_
      have o9521 : 0 ≤ ((w.1 127 4) + ((w.1 186 ((((24 : Int32) * x60_1) + x60_2).toInt.toNat)) / (2 : Int32))).toInt ∧ ((w.1 127 4) + ((w.1 186 ((((24 : Int32) * x60_1) + x60_2).toInt.toNat)) / (2 : Int32))).toInt < 44 := by have := bd_127_4 hI; have := bd_186 hI ((((24 : Int32) * x60_1) + x60_2).toInt.toNat); have := nb_div (x := (w.1 186 ((((24 : Int32) * x60_1) + x60_2).toInt.toNat))) (by omega) (by decide : ((2 : Int32)).toInt = 2) (by decide); have := ti_add2 (Eq.refl (w.1 127 4).toInt) (Eq.refl ((w.1 186 ((((24 : Int32) * x60_1) + x60_2).toInt.toNat)) / (2 : Int32)).toInt) (by omega) (by omega); omega
      refine ⟨o9521, ?_⟩
      refine ⟨fun h9522 => ?_, fun h9522 => ?_⟩
      · have o9523 : 0 ≤ ((w.1 127 4) + ((w.1 186 ((((24 : Int32) * x60_1) + x60_2).toInt.toNat)) / (2 : Int32))).toInt ∧ ((w.1 127 4) + ((w.1 186 ((((24 : Int32) * x60_1) + x60_2).toInt.toNat)) / (2 : Int32))).toInt < 44 := by have := bd_127_4 hI; have := bd_186 hI ((((24 : Int32) * x60_1) + x60_2).toInt.toNat); have := nb_div (x := (w.1 186 ((((24 : Int32) * x60_1) + x60_2).toInt.toNat))) (by omega) (by decide : ((2 : Int32)).toInt = 2) (by decide); have := ti_add2 (Eq.refl (w.1 127 4).toInt) (Eq.refl ((w.1 186 ((((24 : Int32) * x60_1) + x60_2).toInt.toNat)) / (2 : Int32)).toInt) (by omega) (by omega); omega
        refine ⟨o9523, ?_⟩
        have o9524 : 0 ≤ ((w.1 127 4) + ((w.1 186 ((((24 : Int32) * x60_1) + x60_2).toInt.toNat)) / (2 : Int32))).toInt ∧ ((w.1 127 4) + ((w.1 186 ((((24 : Int32) * x60_1) + x60_2).toInt.toNat)) / (2 : Int32))).toInt < 44 := by have := bd_127_4 hI; have := bd_186 hI ((((24 : Int32) * x60_1) + x60_2).toInt.toNat); have := nb_div (x := (w.1 186 ((((24 : Int32) * x60_1) + x60_2).toInt.toNat))) (by omega) (by decide : ((2 : Int32)).toInt = 2) (by decide); have := ti_add2 (Eq.refl (w.1 127 4).toInt) (Eq.refl ((w.1 186 ((((24 : Int32) * x60_1) + x60_2).toInt.toNat)) / (2 : Int32)).toInt) (by omega) (by omega); omega
        refine ⟨o9524, ?_⟩
        have o9526 : 0 ≤ (w.1 194 (((w.1 127 4) + ((w.1 186 ((((24 : Int32) * x60_1) + x60_2).toInt.toNat)) / (2 : Int32))).toInt.toNat)).toInt ∧ (w.1 194 (((w.1 127 4) + ((w.1 186 ((((24 : Int32) * x60_1) + x60_2).toInt.toNat)) / (2 : Int32))).toInt.toNat)).toInt ≤ 15 := by have := bd_194 hI (((w.1 127 4) + ((w.1 186 ((((24 : Int32) * x60_1) + x60_2).toInt.toNat)) / (2 : Int32))).toInt.toNat); have := (by decide : ((0 : Int32)).toInt = 0); omega
        have hI9525 : BND (sI w 194 (((w.1 127 4) + ((w.1 186 ((((24 : Int32) * x60_1) + x60_2).toInt.toNat)) / (2 : Int32))).toInt.toNat) (w.1 194 (((w.1 127 4) + ((w.1 186 ((((24 : Int32) * x60_1) + x60_2).toInt.toNat)) / (2 : Int32))).toInt.toNat))) := wbd_194 hI (((w.1 127 4) + ((w.1 186 ((((24 : Int32) * x60_1) + x60_2).toInt.toNat)) / (2 : Int32))).toInt.toNat) o9526.1 o9526.2
        have o9527 : (0 ≤ x60_1.toInt) ∧ (x60_1.toInt ≤ 23) ∧ (0 ≤ (x60_2 + (1 : Int32)).toInt) ∧ ((x60_2 + (1 : Int32)).toInt ≤ 24) := by have := bd_185 hI x60_1.toInt.toNat; have := ti_add2 (Eq.refl x60_2.toInt) (by decide : ((1 : Int32)).toInt = 1) (by omega) (by omega); exact ⟨by omega, by omega, by omega, by omega⟩
        exact ih _ (sI w 194 (((w.1 127 4) + ((w.1 186 ((((24 : Int32) * x60_1) + x60_2).toInt.toNat)) / (2 : Int32))).toInt.toNat) (w.1 194 (((w.1 127 4) + ((w.1 186 ((((24 : Int32) * x60_1) + x60_2).toInt.toNat)) / (2 : Int32))).toInt.toNat))) hI9525  o9527.1 o9527.2.1 o9527.2.2.1 o9527.2.2.2 (by have := bd_185 hI x60_1.toInt.toNat; have := ti_add2 (Eq.refl x60_2.toInt) (by decide : ((1 : Int32)).toInt = 1) (by omega) (by omega); omega) (fun w9 hI9 hF9 => hE w9 hI9 ((FR.I (FR.refl _ w) (k := 194) (j := ((w.1 127 4) + ((w.1 186 ((((24 : Int32) * x60_1) + x60_2).toInt.toNat)) / (2 : Int32))).toInt.toNat) (v := (w.1 194 (((w.1 127 4) + ((w.1 186 ((((24 : Int32) * x60_1) + x60_2).toInt.toNat)) / (2 : Int32))).toInt.toNat))) rfl).tr hF9 rfl) ) (fun w9 hI9 hF9 q0 => q0.elim)
      · have o9528 : 0 ≤ ((w.1 127 4) + ((w.1 186 ((((24 : Int32) * x60_1) + x60_2).toInt.toNat)) / (2 : Int32))).toInt ∧ ((w.1 127 4) + ((w.1 186 ((((24 : Int32) * x60_1) + x60_2).toInt.toNat)) / (2 : Int32))).toInt < 44 := by have := bd_127_4 hI; have := bd_186 hI ((((24 : Int32) * x60_1) + x60_2).toInt.toNat); have := nb_div (x := (w.1 186 ((((24 : Int32) * x60_1) + x60_2).toInt.toNat))) (by omega) (by decide : ((2 : Int32)).toInt = 2) (by decide); have := ti_add2 (Eq.refl (w.1 127 4).toInt) (Eq.refl ((w.1 186 ((((24 : Int32) * x60_1) + x60_2).toInt.toNat)) / (2 : Int32)).toInt) (by omega) (by omega); omega
        refine ⟨o9528, ?_⟩
        have o9530 : 0 ≤ (w.1 183 x60_1.toInt.toNat).toInt ∧ (w.1 183 x60_1.toInt.toNat).toInt ≤ 15 := by have := bd_183 hI x60_1.toInt.toNat; omega
        have hI9529 : BND (sI w 194 (((w.1 127 4) + ((w.1 186 ((((24 : Int32) * x60_1) + x60_2).toInt.toNat)) / (2 : Int32))).toInt.toNat) (w.1 183 x60_1.toInt.toNat)) := wbd_194 hI (((w.1 127 4) + ((w.1 186 ((((24 : Int32) * x60_1) + x60_2).toInt.toNat)) / (2 : Int32))).toInt.toNat) o9530.1 o9530.2
        have o9531 : (0 ≤ x60_1.toInt) ∧ (x60_1.toInt ≤ 23) ∧ (0 ≤ (x60_2 + (1 : Int32)).toInt) ∧ ((x60_2 + (1 : Int32)).toInt ≤ 24) := by have := bd_185 hI x60_1.toInt.toNat; have := ti_add2 (Eq.refl x60_2.toInt) (by decide : ((1 : Int32)).toInt = 1) (by omega) (by omega); exact ⟨by omega, by omega, by omega, by omega⟩
        exact ih _ (sI w 194 (((w.1 127 4) + ((w.1 186 ((((24 : Int32) * x60_1) + x60_2).toInt.toNat)) / (2 : Int32))).toInt.toNat) (w.1 183 x60_1.toInt.toNat)) hI9529  o9531.1 o9531.2.1 o9531.2.2.1 o9531.2.2.2 (by have := bd_185 hI x60_1.toInt.toNat; have := ti_add2 (Eq.refl x60_2.toInt) (by decide : ((1 : Int32)).toInt = 1) (by omega) (by omega); omega) (fun w9 hI9 hF9 => hE w9 hI9 ((FR.I (FR.refl _ w) (k := 194) (j := ((w.1 127 4) + ((w.1 186 ((((24 : Int32) * x60_1) + x60_2).toInt.toNat)) / (2 : Int32))).toInt.toNat) (v := (w.1 183 x60_1.toInt.toNat)) rfl).tr hF9 rfl) ) (fun w9 hI9 hF9 q0 => q0.elim)
set_option maxRecDepth 20000 in
set_option maxHeartbeats 2000000 in
theorem hq_Mo_look_34 {E : MW → Prop} {Q : MW → Prop} (n : Nat) : ∀ (x34_1 : Int32) (w : MW), BND w → 0 ≤ x34_1.toInt → x34_1.toInt ≤ 24 → (24 - x34_1.toInt).toNat < n → (∀ (w' : MW), BND w' → FR l_Mo_look_34 w w' → E w') → (∀ (w' : MW), BND w' → FR l_Mo_look_34 w w' → False → Q w') → q_Mo_look_34 E Q n x34_1 w := by
  induction n with
  | zero => intros; omega
  | succ n ih =>
    intro x34_1 w hI  hp0 hp1 hm hE hQ
    rw [q_Mo_look_34.eq_2]
    refine ⟨fun h9532 => ?_, fun h9532 => ?_⟩
    · exact hE _ hI (FR.refl _ w)
    · have o9533 : 0 ≤ x34_1.toInt ∧ x34_1.toInt < 24 := by have := bd_127_26 hI; omega
      refine ⟨o9533, ?_⟩
      have o9534 : 0 ≤ x34_1.toInt ∧ x34_1.toInt < 24 := by have := bd_127_26 hI; omega
      refine ⟨o9534, ?_⟩
      refine Eq.mpr (p_Mo_carry.eq_1 _ _ _ _) ?_
      have o9535 : 0 ≤ (w.1 182 x34_1.toInt.toNat).toInt ∧ (w.1 182 x34_1.toInt.toNat).toInt < 44 := by have := bd_182 hI x34_1.toInt.toNat; omega
      refine ⟨o9535, ?_⟩
      refine ⟨fun h9536 => ?_, fun h9536 => ?_⟩
      · have o9537 : 0 ≤ (w.1 182 x34_1.toInt.toNat).toInt ∧ (w.1 182 x34_1.toInt.toNat).toInt < 44 := by have := bd_182 hI x34_1.toInt.toNat; omega
        refine ⟨o9537, ?_⟩
        have o9538 : 0 ≤ (w.1 182 x34_1.toInt.toNat).toInt ∧ (w.1 182 x34_1.toInt.toNat).toInt < 44 := by have := bd_182 hI x34_1.toInt.toNat; omega
        refine ⟨o9538, ?_⟩
        have o9540 : 0 ≤ (w.1 194 ((w.1 182 x34_1.toInt.toNat).toInt.toNat)).toInt ∧ (w.1 194 ((w.1 182 x34_1.toInt.toNat).toInt.toNat)).toInt ≤ 15 := by have := bd_194 hI ((w.1 182 x34_1.toInt.toNat).toInt.toNat); have := (by decide : ((0 : Int32)).toInt = 0); omega
        have hI9539 : BND (sI w 194 ((w.1 182 x34_1.toInt.toNat).toInt.toNat) (w.1 194 ((w.1 182 x34_1.toInt.toNat).toInt.toNat))) := wbd_194 hI ((w.1 182 x34_1.toInt.toNat).toInt.toNat) o9540.1 o9540.2
        have o9541 : (0 ≤ x34_1.toInt) ∧ (x34_1.toInt ≤ 23) ∧ (0 ≤ (0 : Int32).toInt) ∧ ((0 : Int32).toInt ≤ 24) := by have := (by decide : ((0 : Int32)).toInt = 0); have := bd_127_26 hI; exact ⟨by omega, by omega, by omega, by omega⟩
        refine hq_Mo_look_60 FU _ (sI w 194 ((w.1 182 x34_1.toInt.toNat).toInt.toNat) (w.1 194 ((w.1 182 x34_1.toInt.toNat).toInt.toNat))) hI9539  o9541.1 o9541.2.1 o9541.2.2.1 o9541.2.2.2 (fu_lt (by have := (by decide : ((0 : Int32)).toInt = 0); have := bd_127_26 hI; omega)) (fun w9542 hI9543 hL9544  => ?_) (fun w9 hI9 hF9 q0 => q0.elim)
        have hF9545 : FR l_Mo_look_34 w w9542 := (FR.I (FR.refl _ w) (k := 194) (j := (w.1 182 x34_1.toInt.toNat).toInt.toNat) (v := (w.1 194 ((w.1 182 x34_1.toInt.toNat).toInt.toNat))) rfl).tr hL9544 rfl
        have o9546 : (0 ≤ (x34_1 + (1 : Int32)).toInt) ∧ ((x34_1 + (1 : Int32)).toInt ≤ 24) := by have := bd_127_26 hI; have := ti_add2 (Eq.refl x34_1.toInt) (by decide : ((1 : Int32)).toInt = 1) (by omega) (by omega); exact ⟨by omega, by omega⟩
        exact ih _ w9542 hI9543  o9546.1 o9546.2 (by have := bd_127_26 hI; have := ti_add2 (Eq.refl x34_1.toInt) (by decide : ((1 : Int32)).toInt = 1) (by omega) (by omega); omega) (fun w9 hI9 hF9 => hE w9 hI9 (hF9545.tr hF9 rfl) ) (fun w9 hI9 hF9 q0 => q0.elim)
      · have o9547 : 0 ≤ (w.1 182 x34_1.toInt.toNat).toInt ∧ (w.1 182 x34_1.toInt.toNat).toInt < 44 := by have := bd_182 hI x34_1.toInt.toNat; omega
        refine ⟨o9547, ?_⟩
        have o9549 : 0 ≤ (w.1 183 x34_1.toInt.toNat).toInt ∧ (w.1 183 x34_1.toInt.toNat).toInt ≤ 15 := by have := bd_183 hI x34_1.toInt.toNat; omega
        have hI9548 : BND (sI w 194 ((w.1 182 x34_1.toInt.toNat).toInt.toNat) (w.1 183 x34_1.toInt.toNat)) := wbd_194 hI ((w.1 182 x34_1.toInt.toNat).toInt.toNat) o9549.1 o9549.2
        have o9550 : (0 ≤ x34_1.toInt) ∧ (x34_1.toInt ≤ 23) ∧ (0 ≤ (0 : Int32).toInt) ∧ ((0 : Int32).toInt ≤ 24) := by have := (by decide : ((0 : Int32)).toInt = 0); have := bd_127_26 hI; exact ⟨by omega, by omega, by omega, by omega⟩
        refine hq_Mo_look_60 FU _ (sI w 194 ((w.1 182 x34_1.toInt.toNat).toInt.toNat) (w.1 183 x34_1.toInt.toNat)) hI9548  o9550.1 o9550.2.1 o9550.2.2.1 o9550.2.2.2 (fu_lt (by have := (by decide : ((0 : Int32)).toInt = 0); have := bd_127_26 hI; omega)) (fun w9551 hI9552 hL9553  => ?_) (fun w9 hI9 hF9 q0 => q0.elim)
        have hF9554 : FR l_Mo_look_34 w w9551 := (FR.I (FR.refl _ w) (k := 194) (j := (w.1 182 x34_1.toInt.toNat).toInt.toNat) (v := (w.1 183 x34_1.toInt.toNat)) rfl).tr hL9553 rfl
        have o9555 : (0 ≤ (x34_1 + (1 : Int32)).toInt) ∧ ((x34_1 + (1 : Int32)).toInt ≤ 24) := by have := bd_127_26 hI; have := ti_add2 (Eq.refl x34_1.toInt) (by decide : ((1 : Int32)).toInt = 1) (by omega) (by omega); exact ⟨by omega, by omega⟩
        exact ih _ w9551 hI9552  o9555.1 o9555.2 (by have := bd_127_26 hI; have := ti_add2 (Eq.refl x34_1.toInt) (by decide : ((1 : Int32)).toInt = 1) (by omega) (by omega); omega) (fun w9 hI9 hF9 => hE w9 hI9 (hF9554.tr hF9 rfl) ) (fun w9 hI9 hF9 q0 => q0.elim)
set_option maxRecDepth 20000 in
set_option maxHeartbeats 2000000 in
theorem h_Mo_look {w : MW} {Q : MW → Prop} (hI : BND w)  (hQ : ∀ (w' : MW), BND w' → FR l_Mo_look w w' → Q w') : p_Mo_look w Q := by
  refine Eq.mpr (p_Mo_look.eq_1 _ _) ?_
  have o9556 : (0 ≤ (0 : Int32).toInt) ∧ ((0 : Int32).toInt ≤ 44) := by have := (by decide : ((0 : Int32)).toInt = 0); exact ⟨by omega, by omega⟩
  refine hq_Mo_look_2 FU _ w hI  o9556.1 o9556.2 (fu_lt (by have := (by decide : ((0 : Int32)).toInt = 0); omega)) (fun w9557 hI9558 hL9559  => ?_) (fun w9 hI9 hF9 q0 => q0.elim)
  have hF9560 : FR l_Mo_look w w9557 := (FR.refl _ w).tr hL9559 rfl
  have o9561 : (0 ≤ (0 : Int32).toInt) ∧ ((0 : Int32).toInt ≤ 24) := by have := (by decide : ((0 : Int32)).toInt = 0); exact ⟨by omega, by omega⟩
  refine hq_Mo_look_34 FU _ w9557 hI9558  o9561.1 o9561.2 (fu_lt (by have := (by decide : ((0 : Int32)).toInt = 0); omega)) (fun w9562 hI9563 hL9564  => ?_) (fun w9 hI9 hF9 q0 => q0.elim)
  have hF9565 : FR l_Mo_look w w9562 := hF9560.tr hL9564 rfl
  exact hQ _ hI9563 hF9565 
