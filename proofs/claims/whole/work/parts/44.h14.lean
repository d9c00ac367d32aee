def l_Bh_sense : Pl := [(75, none), (76, none)]
set_option maxRecDepth 20000 in
set_option maxHeartbeats 2000000 in
theorem h_Bh_sense {w : MW} {a0 : Int32} {b0 : Int32} {c0 : Int32} {Q : Int32 → MW → Prop} (hI : BND w) (hr_61_3 : w.2.2 61 3 = some 62)  (hQ : ∀ (r : Int32) (w' : MW), BND w' → FR l_Bh_sense w w' → 0 ≤ r.toInt → r.toInt ≤ 1 → Q r w') : p_Bh_sense w a0 b0 c0 Q := by
  refine Eq.mpr (p_Bh_sense.eq_1 _ _ _ _ _) ?_
  refine ⟨hr_61_3, ?_⟩
  refine Eq.mpr (p_Pr_isSignal.eq_1 _ _ _) ?_
  refine ⟨fun h3220 => ?_, fun h3220 => ?_⟩
  · refine ⟨fun _ => ?_, fun h => absurd (by decide) h⟩
    have o3221 : (0 ≤ (0 : Int32).toInt) ∧ ((0 : Int32).toInt ≤ 1) := by have := (by decide : ((0 : Int32)).toInt = 0); exact ⟨by omega, by omega⟩
    exact hQ _ _ hI (FR.refl _ w)  o3221.1 o3221.2
  · refine ⟨fun h3222 => ?_, fun h3222 => ?_⟩
    · refine ⟨fun _ => ?_, fun h => absurd (by decide) h⟩
      have o3223 : (0 ≤ (0 : Int32).toInt) ∧ ((0 : Int32).toInt ≤ 1) := by have := (by decide : ((0 : Int32)).toInt = 0); exact ⟨by omega, by omega⟩
      exact hQ _ _ hI (FR.refl _ w)  o3223.1 o3223.2
    · have o3224 : 0 ≤ a0.toInt ∧ a0.toInt < 40 := by have := (by decide : ((0 : Int32)).toInt = 0); have := bd_62_10 hI; omega
      refine ⟨o3224, ?_⟩
      refine ⟨fun h3225 => ?_, fun h3225 => ?_⟩
      · refine ⟨fun _ => ?_, fun h => absurd (by decide) h⟩
        have o3226 : (0 ≤ (0 : Int32).toInt) ∧ ((0 : Int32).toInt ≤ 1) := by have := (by decide : ((0 : Int32)).toInt = 0); exact ⟨by omega, by omega⟩
        exact hQ _ _ hI (FR.refl _ w)  o3226.1 o3226.2
      · refine ⟨fun h => absurd h (by decide), fun _ => ?_⟩
        refine ⟨fun h3227 => ?_, fun h3227 => ?_⟩
        · have o3228 : (0 ≤ (0 : Int32).toInt) ∧ ((0 : Int32).toInt ≤ 1) := by have := (by decide : ((0 : Int32)).toInt = 0); exact ⟨by omega, by omega⟩
          exact hQ _ _ hI (FR.refl _ w)  o3228.1 o3228.2
        · refine ⟨fun h3229 => ?_, fun h3229 => ?_⟩
          · refine ⟨hr_61_3, ?_⟩
            have o3230 : 0 ≤ a0.toInt ∧ a0.toInt < 40 := by have := (by decide : ((0 : Int32)).toInt = 0); have := bd_62_10 hI; omega
            refine ⟨o3230, ?_⟩
            refine ⟨hr_61_3, ?_⟩
            have o3231 : 0 ≤ a0.toInt ∧ a0.toInt < 40 := by have := (by decide : ((0 : Int32)).toInt = 0); have := bd_62_10 hI; omega
            refine ⟨o3231, ?_⟩
            have o3233 : 0 ≤ b0.toInt ∧ b0.toInt ≤ 5 := by have := (by decide : ((0 : Int32)).toInt = 0); have := (by decide : ((5 : Int32)).toInt = 5); omega
            have hI3232 : BND (sI w 75 a0.toInt.toNat b0) := wbd_75 hI a0.toInt.toNat o3233.1 o3233.2
            have hI3234 : BND (sI (sI w 75 a0.toInt.toNat b0) 76 a0.toInt.toNat c0) := wbd_76 hI3232 a0.toInt.toNat
            have o3235 : (0 ≤ (1 : Int32).toInt) ∧ ((1 : Int32).toInt ≤ 1) := by have := (by decide : ((1 : Int32)).toInt = 1); exact ⟨by omega, by omega⟩
            exact hQ _ _ hI3234 (FR.I (FR.I (FR.refl _ w) (k := 75) (j := a0.toInt.toNat) (v := b0) rfl) (k := 76) (j := a0.toInt.toNat) (v := c0) rfl)  o3235.1 o3235.2
          · have o3236 : (0 ≤ (0 : Int32).toInt) ∧ ((0 : Int32).toInt ≤ 1) := by have := (by decide : ((0 : Int32)).toInt = 0); exact ⟨by omega, by omega⟩
            exact hQ _ _ hI (FR.refl _ w)  o3236.1 o3236.2
def l_Bh_watch : Pl := [(124, none), (125, none), (126, none)]
set_option maxRecDepth 20000 in
set_option maxHeartbeats 2000000 in
theorem h_Bh_watch {w : MW} {a0 : Int32} {b0 : Int32} {c0 : Int32} {e0 : Int64} {Q : Int32 → MW → Prop} (hI : BND w)  (hQ : ∀ (r : Int32) (w' : MW), BND w' → FR l_Bh_watch w w' → 0 ≤ r.toInt → r.toInt ≤ 1 → Q r w') : p_Bh_watch w a0 b0 c0 e0 Q := by
  refine Eq.mpr (p_Bh_watch.eq_1 _ _ _ _ _ _) ?_
  refine ⟨fun h3237 => ?_, fun h3237 => ?_⟩
  · have o3238 : (0 ≤ (0 : Int32).toInt) ∧ ((0 : Int32).toInt ≤ 1) := by have := (by decide : ((0 : Int32)).toInt = 0); exact ⟨by omega, by omega⟩
    exact hQ _ _ hI (FR.refl _ w)  o3238.1 o3238.2
  · refine ⟨fun h3239 => ?_, fun h3239 => ?_⟩
    · have o3240 : (0 ≤ (0 : Int32).toInt) ∧ ((0 : Int32).toInt ≤ 1) := by have := (by decide : ((0 : Int32)).toInt = 0); exact ⟨by omega, by omega⟩
      exact hQ _ _ hI (FR.refl _ w)  o3240.1 o3240.2
    · refine ⟨fun h3241 => ?_, fun h3241 => ?_⟩
      · have o3242 : (0 ≤ (0 : Int32).toInt) ∧ ((0 : Int32).toInt ≤ 1) := by have := (by decide : ((0 : Int32)).toInt = 0); exact ⟨by omega, by omega⟩
        exact hQ _ _ hI (FR.refl _ w)  o3242.1 o3242.2
      · refine ⟨fun h3243 => ?_, fun h3243 => ?_⟩
        · have o3244 : 0 ≤ a0.toInt ∧ a0.toInt < 16 := by have := (by decide : ((0 : Int32)).toInt = 0); have := (by decide : ((15 : Int32)).toInt = 15); omega
          refine ⟨o3244, ?_⟩
          have o3245 : 0 ≤ a0.toInt ∧ a0.toInt < 16 := by have := (by decide : ((0 : Int32)).toInt = 0); have := (by decide : ((15 : Int32)).toInt = 15); omega
          refine ⟨o3245, ?_⟩
          have o3246 : 0 ≤ a0.toInt ∧ a0.toInt < 16 := by have := (by decide : ((0 : Int32)).toInt = 0); have := (by decide : ((15 : Int32)).toInt = 15); omega
          refine ⟨o3246, ?_⟩
          have o3248 : 0 ≤ b0.toInt ∧ b0.toInt ≤ 5 := by have := (by decide : ((0 : Int32)).toInt = 0); have := (by decide : ((5 : Int32)).toInt = 5); omega
          have hI3247 : BND (sI w 126 a0.toInt.toNat b0) := wbd_126 hI a0.toInt.toNat o3248.1 o3248.2
          have hI3249 : BND (sI (sI w 126 a0.toInt.toNat b0) 124 a0.toInt.toNat c0) := wbd_124 hI3247 a0.toInt.toNat
          have o3250 : (0 ≤ (1 : Int32).toInt) ∧ ((1 : Int32).toInt ≤ 1) := by have := (by decide : ((1 : Int32)).toInt = 1); exact ⟨by omega, by omega⟩
          exact hQ _ _ (bnd_J hI3249 (k := 125) (j := a0.toInt.toNat) (v := e0)) (FR.J (FR.I (FR.I (FR.refl _ w) (k := 126) (j := a0.toInt.toNat) (v := b0) rfl) (k := 124) (j := a0.toInt.toNat) (v := c0) rfl) (k := 125) (j := a0.toInt.toNat) (v := e0) rfl)  o3250.1 o3250.2
        · have o3251 : (0 ≤ (0 : Int32).toInt) ∧ ((0 : Int32).toInt ≤ 1) := by have := (by decide : ((0 : Int32)).toInt = 0); exact ⟨by omega, by omega⟩
          exact hQ _ _ hI (FR.refl _ w)  o3251.1 o3251.2
def l_Bh_signal : Pl := [(74, none)]
set_option maxRecDepth 20000 in
set_option maxHeartbeats 2000000 in
theorem h_Bh_signal {w : MW} {a0 : Int32} {b0 : Int64} {Q : Int32 → MW → Prop} (hI : BND w) (hr_61_3 : w.2.2 61 3 = some 62)  (hQ : ∀ (r : Int32) (w' : MW), BND w' → FR l_Bh_signal w w' → 0 ≤ r.toInt → r.toInt ≤ 1 → Q r w') : p_Bh_signal w a0 b0 Q := by
  refine Eq.mpr (p_Bh_signal.eq_1 _ _ _ _) ?_
  refine ⟨hr_61_3, ?_⟩
  refine Eq.mpr (p_Pr_isSignal.eq_1 _ _ _) ?_
  refine ⟨fun h3252 => ?_, fun h3252 => ?_⟩
  · refine ⟨fun h => absurd h (by decide), fun _ => ?_⟩
    have o3253 : (0 ≤ (0 : Int32).toInt) ∧ ((0 : Int32).toInt ≤ 1) := by have := (by decide : ((0 : Int32)).toInt = 0); exact ⟨by omega, by omega⟩
    exact hQ _ _ hI (FR.refl _ w)  o3253.1 o3253.2
  · refine ⟨fun h3254 => ?_, fun h3254 => ?_⟩
    · refine ⟨fun h => absurd h (by decide), fun _ => ?_⟩
      have o3255 : (0 ≤ (0 : Int32).toInt) ∧ ((0 : Int32).toInt ≤ 1) := by have := (by decide : ((0 : Int32)).toInt = 0); exact ⟨by omega, by omega⟩
      exact hQ _ _ hI (FR.refl _ w)  o3255.1 o3255.2
    · have o3256 : 0 ≤ a0.toInt ∧ a0.toInt < 40 := by have := (by decide : ((0 : Int32)).toInt = 0); have := bd_62_10 hI; omega
      refine ⟨o3256, ?_⟩
      refine ⟨fun h3257 => ?_, fun h3257 => ?_⟩
      · refine ⟨fun h => absurd h (by decide), fun _ => ?_⟩
        have o3258 : (0 ≤ (0 : Int32).toInt) ∧ ((0 : Int32).toInt ≤ 1) := by have := (by decide : ((0 : Int32)).toInt = 0); exact ⟨by omega, by omega⟩
        exact hQ _ _ hI (FR.refl _ w)  o3258.1 o3258.2
      · refine ⟨fun _ => ?_, fun h => absurd (by decide) h⟩
        refine ⟨hr_61_3, ?_⟩
        have o3259 : 0 ≤ a0.toInt ∧ a0.toInt < 40 := by have := (by decide : ((0 : Int32)).toInt = 0); have := bd_62_10 hI; omega
        refine ⟨o3259, ?_⟩
        have o3260 : (0 ≤ (1 : Int32).toInt) ∧ ((1 : Int32).toInt ≤ 1) := by have := (by decide : ((1 : Int32)).toInt = 1); exact ⟨by omega, by omega⟩
        exact hQ _ _ (bnd_J hI (k := 74) (j := a0.toInt.toNat) (v := b0)) (FR.J (FR.refl _ w) (k := 74) (j := a0.toInt.toNat) (v := b0) rfl)  o3260.1 o3260.2
def l_Ac_tie_71 : Pl := [(57, none), (58, none), (59, none), (60, none)]
def l_Ac_tie_52 : Pl := [(57, none), (58, none), (59, none), (60, none)]
def l_Ac_tie_35 : Pl := [(57, none), (58, none), (59, none), (60, none)]
def l_Ac_tie : Pl := [(57, none), (58, none), (59, none), (60, none)]
set_option maxRecDepth 20000 in
set_option maxHeartbeats 2000000 in
theorem hq_Ac_tie_35 {y35_1 : Int32} {y35_2 : Int32} {y35_3 : Int32} {y35_4 : Int32} {y35_5 : Int32} {w : MW} {Q : Int32 → MW → Prop} (hI : BND w) (hp0 : 0 ≤ y35_1.toInt) (hp1 : y35_1.toInt ≤ 31) (hp2 : 0 ≤ y35_2.toInt) (hp3 : y35_2.toInt ≤ 4) (hQ : ∀ (r : Int32) (w' : MW), BND w' → FR l_Ac_tie_35 w w' → 0 ≤ r.toInt → r.toInt ≤ 1 → Q r w') : q_Ac_tie_35 y35_1 y35_2 y35_3 y35_4 y35_5 w Q := by
  refine Eq.mpr (q_Ac_tie_35.eq_1 _ _ _ _ _ _ _) ?_
  refine ⟨fun h3261 => ?_, fun h3261 => ?_⟩
  · refine Eq.mpr (q_Ac_tie_52.eq_1 _ _ _ _ _ _ _) ?_
    refine ⟨fun h3262 => ?_, fun h3262 => ?_⟩
    · refine Eq.mpr (q_Ac_tie_71.eq_1 _ _ _ _ _ _ _) ?_
      have o3263 : 0 ≤ y35_1.toInt ∧ y35_1.toInt < 32 := by omega
      refine ⟨o3263, ?_⟩
      have o3264 : 0 ≤ y35_1.toInt ∧ y35_1.toInt < 32 := by omega
      refine ⟨o3264, ?_⟩
      have o3265 : 0 ≤ y35_1.toInt ∧ y35_1.toInt < 32 := by omega
      refine ⟨o3265, ?_⟩
      have o3266 : 0 ≤ y35_1.toInt ∧ y35_1.toInt < 32 := by omega
      refine ⟨o3266, ?_⟩
      have o3268 : (-1) ≤ y35_2.toInt ∧ y35_2.toInt ≤ 4 := by have := (by decide : ((2 : Int32)).toInt = 2); have := (by decide : ((3 : Int32)).toInt = 3); omega
      have hI3267 : BND (sI w 60 y35_1.toInt.toNat y35_2) := wbd_60 hI y35_1.toInt.toNat o3268.1 o3268.2
      have hI3269 : BND (sI (sI w 60 y35_1.toInt.toNat y35_2) 57 y35_1.toInt.toNat y35_3) := wbd_57 hI3267 y35_1.toInt.toNat
      have hI3270 : BND (sI (sI (sI w 60 y35_1.toInt.toNat y35_2) 57 y35_1.toInt.toNat y35_3) 58 y35_1.toInt.toNat y35_4) := wbd_58 hI3269 y35_1.toInt.toNat
      have hI3271 : BND (sI (sI (sI (sI w 60 y35_1.toInt.toNat y35_2) 57 y35_1.toInt.toNat y35_3) 58 y35_1.toInt.toNat y35_4) 59 y35_1.toInt.toNat y35_5) := wbd_59 hI3270 y35_1.toInt.toNat
      have o3272 : (0 ≤ (1 : Int32).toInt) ∧ ((1 : Int32).toInt ≤ 1) := by have := (by decide : ((1 : Int32)).toInt = 1); exact ⟨by omega, by omega⟩
      exact hQ _ _ hI3271 (FR.I (FR.I (FR.I (FR.I (FR.refl _ w) (k := 60) (j := y35_1.toInt.toNat) (v := y35_2) rfl) (k := 57) (j := y35_1.toInt.toNat) (v := y35_3) rfl) (k := 58) (j := y35_1.toInt.toNat) (v := y35_4) rfl) (k := 59) (j := y35_1.toInt.toNat) (v := y35_5) rfl)  o3272.1 o3272.2
    · refine ⟨fun h3273 => ?_, fun h3273 => ?_⟩
      · have o3274 : (0 ≤ (0 : Int32).toInt) ∧ ((0 : Int32).toInt ≤ 1) := by have := (by decide : ((0 : Int32)).toInt = 0); exact ⟨by omega, by omega⟩
        exact hQ _ _ hI (FR.refl _ w)  o3274.1 o3274.2
      · refine ⟨fun h3275 => ?_, fun h3275 => ?_⟩
        · refine Eq.mpr (q_Ac_tie_71.eq_1 _ _ _ _ _ _ _) ?_
          have o3276 : 0 ≤ y35_1.toInt ∧ y35_1.toInt < 32 := by omega
          refine ⟨o3276, ?_⟩
          have o3277 : 0 ≤ y35_1.toInt ∧ y35_1.toInt < 32 := by omega
          refine ⟨o3277, ?_⟩
          have o3278 : 0 ≤ y35_1.toInt ∧ y35_1.toInt < 32 := by omega
          refine ⟨o3278, ?_⟩
          have o3279 : 0 ≤ y35_1.toInt ∧ y35_1.toInt < 32 := by omega
          refine ⟨o3279, ?_⟩
          have o3281 : (-1) ≤ y35_2.toInt ∧ y35_2.toInt ≤ 4 := by have := (by decide : ((2 : Int32)).toInt = 2); have := (by decide : ((3 : Int32)).toInt = 3); omega
          have hI3280 : BND (sI w 60 y35_1.toInt.toNat y35_2) := wbd_60 hI y35_1.toInt.toNat o3281.1 o3281.2
          have hI3282 : BND (sI (sI w 60 y35_1.toInt.toNat y35_2) 57 y35_1.toInt.toNat y35_3) := wbd_57 hI3280 y35_1.toInt.toNat
          have hI3283 : BND (sI (sI (sI w 60 y35_1.toInt.toNat y35_2) 57 y35_1.toInt.toNat y35_3) 58 y35_1.toInt.toNat y35_4) := wbd_58 hI3282 y35_1.toInt.toNat
          have hI3284 : BND (sI (sI (sI (sI w 60 y35_1.toInt.toNat y35_2) 57 y35_1.toInt.toNat y35_3) 58 y35_1.toInt.toNat y35_4) 59 y35_1.toInt.toNat y35_5) := wbd_59 hI3283 y35_1.toInt.toNat
          have o3285 : (0 ≤ (1 : Int32).toInt) ∧ ((1 : Int32).toInt ≤ 1) := by have := (by decide : ((1 : Int32)).toInt = 1); exact ⟨by omega, by omega⟩
          exact hQ _ _ hI3284 (FR.I (FR.I (FR.I (FR.I (FR.refl _ w) (k := 60) (j := y35_1.toInt.toNat) (v := y35_2) rfl) (k := 57) (j := y35_1.toInt.toNat) (v := y35_3) rfl) (k := 58) (j := y35_1.toInt.toNat) (v := y35_4) rfl) (k := 59) (j := y35_1.toInt.toNat) (v := y35_5) rfl)  o3285.1 o3285.2
        · have o3286 : (0 ≤ (0 : Int32).toInt) ∧ ((0 : Int32).toInt ≤ 1) := by have := (by decide : ((0 : Int32)).toInt = 0); exact ⟨by omega, by omega⟩
          exact hQ _ _ hI (FR.refl _ w)  o3286.1 o3286.2
  · refine ⟨fun h3287 => ?_, fun h3287 => ?_⟩
    · have o3288 : (0 ≤ (0 : Int32).toInt) ∧ ((0 : Int32).toInt ≤ 1) := by have := (by decide : ((0 : Int32)).toInt = 0); exact ⟨by omega, by omega⟩
      exact hQ _ _ hI (FR.refl _ w)  o3288.1 o3288.2
    · refine ⟨fun h3289 => ?_, fun h3289 => ?_⟩
      · have o3290 : (0 ≤ (0 : Int32).toInt) ∧ ((0 : Int32).toInt ≤ 1) := by have := (by decide : ((0 : Int32)).toInt = 0); exact ⟨by omega, by omega⟩
        exact hQ _ _ hI (FR.refl _ w)  o3290.1 o3290.2
      · refine Eq.mpr (q_Ac_tie_52.eq_1 _ _ _ _ _ _ _) ?_
        refine ⟨fun h3291 => ?_, fun h3291 => ?_⟩
        · refine Eq.mpr (q_Ac_tie_71.eq_1 _ _ _ _ _ _ _) ?_
          have o3292 : 0 ≤ y35_1.toInt ∧ y35_1.toInt < 32 := by omega
          refine ⟨o3292, ?_⟩
          have o3293 : 0 ≤ y35_1.toInt ∧ y35_1.toInt < 32 := by omega
          refine ⟨o3293, ?_⟩
          have o3294 : 0 ≤ y35_1.toInt ∧ y35_1.toInt < 32 := by omega
          refine ⟨o3294, ?_⟩
          have o3295 : 0 ≤ y35_1.toInt ∧ y35_1.toInt < 32 := by omega
          refine ⟨o3295, ?_⟩
          have o3297 : (-1) ≤ y35_2.toInt ∧ y35_2.toInt ≤ 4 := by have := (by decide : ((2 : Int32)).toInt = 2); have := (by decide : ((3 : Int32)).toInt = 3); omega
          have hI3296 : BND (sI w 60 y35_1.toInt.toNat y35_2) := wbd_60 hI y35_1.toInt.toNat o3297.1 o3297.2
          have hI3298 : BND (sI (sI w 60 y35_1.toInt.toNat y35_2) 57 y35_1.toInt.toNat y35_3) := wbd_57 hI3296 y35_1.toInt.toNat
          have hI3299 : BND (sI (sI (sI w 60 y35_1.toInt.toNat y35_2) 57 y35_1.toInt.toNat y35_3) 58 y35_1.toInt.toNat y35_4) := wbd_58 hI3298 y35_1.toInt.toNat
          have hI3300 : BND (sI (sI (sI (sI w 60 y35_1.toInt.toNat y35_2) 57 y35_1.toInt.toNat y35_3) 58 y35_1.toInt.toNat y35_4) 59 y35_1.toInt.toNat y35_5) := wbd_59 hI3299 y35_1.toInt.toNat
          have o3301 : (0 ≤ (1 : Int32).toInt) ∧ ((1 : Int32).toInt ≤ 1) := by have := (by decide : ((1 : Int32)).toInt = 1); exact ⟨by omega, by omega⟩
          exact hQ _ _ hI3300 (FR.I (FR.I (FR.I (FR.I (FR.refl _ w) (k := 60) (j := y35_1.toInt.toNat) (v := y35_2) rfl) (k := 57) (j := y35_1.toInt.toNat) (v := y35_3) rfl) (k := 58) (j := y35_1.toInt.toNat) (v := y35_4) rfl) (k := 59) (j := y35_1.toInt.toNat) (v := y35_5) rfl)  o3301.1 o3301.2
        · exfalso; have := (by decide : ((2 : Int32)).toInt = 2); have := (by decide : ((0 : Int32)).toInt = 0); have := (by decide : ((10 : Int32)).toInt = 10); have := (by decide : ((3 : Int32)).toInt = 3); omega
set_option maxRecDepth 20000 in
set_option maxHeartbeats 2000000 in
theorem h_Ac_tie {w : MW} {a0 : Int32} {b0 : Int32} {c0 : Int32} {e0 : Int32} {f0 : Int32} {Q : Int32 → MW → Prop} (hI : BND w)  (hQ : ∀ (r : Int32) (w' : MW), BND w' → FR l_Ac_tie w w' → 0 ≤ r.toInt → r.toInt ≤ 1 → Q r w') : p_Ac_tie w a0 b0 c0 e0 f0 Q := by
  refine Eq.mpr (p_Ac_tie.eq_1 _ _ _ _ _ _ _) ?_
  refine Eq.mpr (p_Ac_isAct.eq_1 _ _ _) ?_
  refine ⟨fun h3302 => ?_, fun h3302 => ?_⟩
  · refine ⟨fun _ => ?_, fun h => absurd (by decide) h⟩
    have o3303 : (0 ≤ (0 : Int32).toInt) ∧ ((0 : Int32).toInt ≤ 1) := by have := (by decide : ((0 : Int32)).toInt = 0); exact ⟨by omega, by omega⟩
    exact hQ _ _ hI (FR.refl _ w)  o3303.1 o3303.2
  · refine ⟨fun h3304 => ?_, fun h3304 => ?_⟩
    · refine ⟨fun _ => ?_, fun h => absurd (by decide) h⟩
      have o3305 : (0 ≤ (0 : Int32).toInt) ∧ ((0 : Int32).toInt ≤ 1) := by have := (by decide : ((0 : Int32)).toInt = 0); exact ⟨by omega, by omega⟩
      exact hQ _ _ hI (FR.refl _ w)  o3305.1 o3305.2
    · refine ⟨fun h => absurd h (by decide), fun _ => ?_⟩
      refine ⟨fun h3306 => ?_, fun h3306 => ?_⟩
      · have o3307 : (0 ≤ (0 : Int32).toInt) ∧ ((0 : Int32).toInt ≤ 1) := by have := (by decide : ((0 : Int32)).toInt = 0); exact ⟨by omega, by omega⟩
        exact hQ _ _ hI (FR.refl _ w)  o3307.1 o3307.2
      · refine ⟨fun h3308 => ?_, fun h3308 => ?_⟩
        · refine ⟨fun h3309 => ?_, fun h3309 => ?_⟩
          · have o3310 : (0 ≤ a0.toInt) ∧ (a0.toInt ≤ 31) ∧ (0 ≤ b0.toInt) ∧ (b0.toInt ≤ 4) := by have := ti_lo c0; have := ti_hi c0; have := ti_lo e0; have := ti_hi e0; have := ti_lo f0; have := ti_hi f0; have := (by decide : ((0 : Int32)).toInt = 0); have := (by decide : ((32 : Int32)).toInt = 32); have := (by decide : ((4 : Int32)).toInt = 4); exact ⟨by omega, by omega, by omega, by omega⟩
            exact hq_Ac_tie_35 hI  o3310.1 o3310.2.1 o3310.2.2.1 o3310.2.2.2 (fun r w9 hI9 hF9 q0 q1 => hQ r w9 hI9 ((FR.refl _ w).tr hF9 rfl) (by have := ti_lo c0; have := ti_hi c0; have := ti_lo e0; have := ti_hi e0; have := ti_lo f0; have := ti_hi f0; have := (by decide : ((0 : Int32)).toInt = 0); have := (by decide : ((32 : Int32)).toInt = 32); have := (by decide : ((4 : Int32)).toInt = 4); omega) (by have := ti_lo c0; have := ti_hi c0; have := ti_lo e0; have := ti_hi e0; have := ti_lo f0; have := ti_hi f0; have := (by decide : ((0 : Int32)).toInt = 0); have := (by decide : ((32 : Int32)).toInt = 32); have := (by decide : ((4 : Int32)).toInt = 4); omega))
          · refine ⟨fun h3311 => ?_, fun h3311 => ?_⟩
            · have o3312 : (0 ≤ (0 : Int32).toInt) ∧ ((0 : Int32).toInt ≤ 1) := by have := (by decide : ((0 : Int32)).toInt = 0); exact ⟨by omega, by omega⟩
              exact hQ _ _ hI (FR.refl _ w)  o3312.1 o3312.2
            · refine ⟨fun h3313 => ?_, fun h3313 => ?_⟩
              · have o3314 : (0 ≤ (0 : Int32).toInt) ∧ ((0 : Int32).toInt ≤ 1) := by have := (by decide : ((0 : Int32)).toInt = 0); exact ⟨by omega, by omega⟩
                exact hQ _ _ hI (FR.refl _ w)  o3314.1 o3314.2
              · have o3315 : (0 ≤ a0.toInt) ∧ (a0.toInt ≤ 31) ∧ (0 ≤ b0.toInt) ∧ (b0.toInt ≤ 4) := by have := ti_lo c0; have := ti_hi c0; have := ti_lo e0; have := ti_hi e0; have := (by decide : ((0 : Int32)).toInt = 0); have := (by decide : ((32 : Int32)).toInt = 32); have := (by decide : ((4 : Int32)).toInt = 4); have := (by decide : ((1 : Int32)).toInt = 1); have := (by decide : ((100 : Int32)).toInt = 100); exact ⟨by omega, by omega, by omega, by omega⟩
                exact hq_Ac_tie_35 hI  o3315.1 o3315.2.1 o3315.2.2.1 o3315.2.2.2 (fun r w9 hI9 hF9 q0 q1 => hQ r w9 hI9 ((FR.refl _ w).tr hF9 rfl) (by have := ti_lo c0; have := ti_hi c0; have := ti_lo e0; have := ti_hi e0; have := (by decide : ((0 : Int32)).toInt = 0); have := (by decide : ((32 : Int32)).toInt = 32); have := (by decide : ((4 : Int32)).toInt = 4); have := (by decide : ((1 : Int32)).toInt = 1); have := (by decide : ((100 : Int32)).toInt = 100); omega) (by have := ti_lo c0; have := ti_hi c0; have := ti_lo e0; have := ti_hi e0; have := (by decide : ((0 : Int32)).toInt = 0); have := (by decide : ((32 : Int32)).toInt = 32); have := (by decide : ((4 : Int32)).toInt = 4); have := (by decide : ((1 : Int32)).toInt = 1); have := (by decide : ((100 : Int32)).toInt = 100); omega))
        · have o3316 : (0 ≤ (0 : Int32).toInt) ∧ ((0 : Int32).toInt ≤ 1) := by have := (by decide : ((0 : Int32)).toInt = 0); exact ⟨by omega, by omega⟩
          exact hQ _ _ hI (FR.refl _ w)  o3316.1 o3316.2
def l_Wa_hasSpace_31 : Pl := []
def l_Wa_hasSpace : Pl := []
set_option maxRecDepth 20000 in
set_option maxHeartbeats 2000000 in
theorem hq_Wa_hasSpace_31 {x31_1 : Int32} {E : MW → Prop} {Q : Int32 → MW → Prop} (n : Nat) : ∀ (x31_2 : Int32) (w : MW), BND w → 0 ≤ x31_1.toInt → x31_1.toInt ≤ 43 → 0 ≤ x31_2.toInt → x31_2.toInt ≤ 24 → (24 - x31_2.toInt).toNat < n → (∀ (w' : MW), BND w' → FR l_Wa_hasSpace_31 w w' → E w') → (∀ (r : Int32) (w' : MW), BND w' → FR l_Wa_hasSpace_31 w w' → 1 ≤ r.toInt → r.toInt ≤ 1 → Q r w') → q_Wa_hasSpace_31 x31_1 E Q n x31_2 w := by
  induction n with
  | zero => intros; omega
  | succ n ih =>
    intro x31_2 w hI  hp0 hp1 hp2 hp3 hm hE hQ
    rw [q_Wa_hasSpace_31.eq_2]
    refine ⟨fun h3317 => ?_, fun h3317 => ?_⟩
    · exact hE _ hI (FR.refl _ w)
    · have o3318 : 0 ≤ x31_2.toInt ∧ x31_2.toInt < 24 := by have := bd_26_1 hI; omega
      refine ⟨o3318, ?_⟩
      refine ⟨fun h3319 => ?_, fun h3319 => ?_⟩
      · have o3320 : (1 ≤ (1 : Int32).toInt) ∧ ((1 : Int32).toInt ≤ 1) := by have := (by decide : ((1 : Int32)).toInt = 1); exact ⟨by omega, by omega⟩
        exact hQ _ _ hI (FR.refl _ w)  o3320.1 o3320.2
      · have o3321 : 0 ≤ x31_2.toInt ∧ x31_2.toInt < 24 := by have := bd_26_1 hI; omega
        refine ⟨o3321, ?_⟩
        refine ⟨fun h3322 => ?_, fun h3322 => ?_⟩
        · have o3323 : (0 ≤ x31_1.toInt) ∧ (x31_1.toInt ≤ 43) ∧ (0 ≤ (x31_2 + (1 : Int32)).toInt) ∧ ((x31_2 + (1 : Int32)).toInt ≤ 24) := by have := ti_add2 (Eq.refl x31_2.toInt) (by decide : ((1 : Int32)).toInt = 1) (by omega) (by omega); have := bd_26_1 hI; exact ⟨by omega, by omega, by omega, by omega⟩
          exact ih _ w hI  o3323.1 o3323.2.1 o3323.2.2.1 o3323.2.2.2 (by have := ti_add2 (Eq.refl x31_2.toInt) (by decide : ((1 : Int32)).toInt = 1) (by omega) (by omega); have := bd_26_1 hI; omega) (fun w9 hI9 hF9 => hE w9 hI9 ((FR.refl _ w).tr hF9 rfl) ) (fun r w9 hI9 hF9 q0 q1 => hQ r w9 hI9 ((FR.refl _ w).tr hF9 rfl) (by have := ti_add2 (Eq.refl x31_2.toInt) (by decide : ((1 : Int32)).toInt = 1) (by omega) (by omega); have := bd_26_1 hI; omega) (by have := ti_add2 (Eq.refl x31_2.toInt) (by decide : ((1 : Int32)).toInt = 1) (by omega) (by omega); have := bd_26_1 hI; omega))
        · have o3324 : (1 ≤ (1 : Int32).toInt) ∧ ((1 : Int32).toInt ≤ 1) := by have := (by decide : ((1 : Int32)).toInt = 1); exact ⟨by omega, by omega⟩
          exact hQ _ _ hI (FR.refl _ w)  o3324.1 o3324.2
set_option maxRecDepth 20000 in
set_option maxHeartbeats 2000000 in
theorem h_Wa_hasSpace {w : MW} {a0 : Int32} {Q : Int32 → MW → Prop} (hI : BND w) (hr_7_0 : w.2.2 7 0 = some 8) (hp0 : 0 ≤ a0.toInt) (hp1 : a0.toInt ≤ 43) (hQ : ∀ (r : Int32) (w' : MW), BND w' → FR l_Wa_hasSpace w w' → 0 ≤ r.toInt → r.toInt ≤ 1 → Q r w') : p_Wa_hasSpace w a0 Q := by
  refine Eq.mpr (p_Wa_hasSpace.eq_1 _ _ _) ?_
  refine Eq.mpr (p_St_isPipe.eq_1 _ _ _) ?_
  refine ⟨hr_7_0, ?_⟩
  refine ⟨fun h3325 => ?_, fun h3325 => ?_⟩
  · refine ⟨fun _ => ?_, fun h => absurd (by decide) h⟩
    have o3326 : (0 ≤ a0.toInt) ∧ (a0.toInt ≤ 43) ∧ (0 ≤ (0 : Int32).toInt) ∧ ((0 : Int32).toInt ≤ 24) := by have := (by decide : ((0 : Int32)).toInt = 0); have := bd_8_0 hI; exact ⟨by omega, by omega, by omega, by omega⟩
    refine hq_Wa_hasSpace_31 FU _ w hI  o3326.1 o3326.2.1 o3326.2.2.1 o3326.2.2.2 (fu_lt (by have := (by decide : ((0 : Int32)).toInt = 0); have := bd_8_0 hI; omega)) (fun w3327 hI3328 hL3329  => ?_) (fun r w9 hI9 hF9 q0 q1 => hQ r w9 hI9 (((FR.refl _ w)).tr hF9 rfl) (by have := (by decide : ((0 : Int32)).toInt = 0); have := bd_8_0 hI; omega) (by have := (by decide : ((0 : Int32)).toInt = 0); have := bd_8_0 hI; omega))
    have hF3330 : FR l_Wa_hasSpace w w3327 := (FR.refl _ w).tr hL3329 rfl
    have o3331 : (0 ≤ (0 : Int32).toInt) ∧ ((0 : Int32).toInt ≤ 1) := by have := (by decide : ((0 : Int32)).toInt = 0); exact ⟨by omega, by omega⟩
    exact hQ _ _ hI3328 hF3330  o3331.1 o3331.2
  · refine ⟨hr_7_0, ?_⟩
    refine ⟨hr_7_0, ?_⟩
    refine ⟨fun h3332 => ?_, fun h3332 => ?_⟩
    · refine ⟨fun _ => ?_, fun h => absurd (by decide) h⟩
      have o3333 : (0 ≤ a0.toInt) ∧ (a0.toInt ≤ 43) ∧ (0 ≤ (0 : Int32).toInt) ∧ ((0 : Int32).toInt ≤ 24) := by have := (by decide : ((0 : Int32)).toInt = 0); have := bd_8_0 hI; have := bd_8_1 hI; have := ti_add2 (Eq.refl (w.1 8 0).toInt) (Eq.refl (w.1 8 1).toInt) (by omega) (by omega); exact ⟨by omega, by omega, by omega, by omega⟩
      refine hq_Wa_hasSpace_31 FU _ w hI  o3333.1 o3333.2.1 o3333.2.2.1 o3333.2.2.2 (fu_lt (by have := (by decide : ((0 : Int32)).toInt = 0); have := bd_8_0 hI; have := bd_8_1 hI; have := ti_add2 (Eq.refl (w.1 8 0).toInt) (Eq.refl (w.1 8 1).toInt) (by omega) (by omega); omega)) (fun w3334 hI3335 hL3336  => ?_) (fun r w9 hI9 hF9 q0 q1 => hQ r w9 hI9 (((FR.refl _ w)).tr hF9 rfl) (by have := (by decide : ((0 : Int32)).toInt = 0); have := bd_8_0 hI; have := bd_8_1 hI; have := ti_add2 (Eq.refl (w.1 8 0).toInt) (Eq.refl (w.1 8 1).toInt) (by omega) (by omega); omega) (by have := (by decide : ((0 : Int32)).toInt = 0); have := bd_8_0 hI; have := bd_8_1 hI; have := ti_add2 (Eq.refl (w.1 8 0).toInt) (Eq.refl (w.1 8 1).toInt) (by omega) (by omega); omega))
      have hF3337 : FR l_Wa_hasSpace w w3334 := (FR.refl _ w).tr hL3336 rfl
      have o3338 : (0 ≤ (0 : Int32).toInt) ∧ ((0 : Int32).toInt ≤ 1) := by have := (by decide : ((0 : Int32)).toInt = 0); exact ⟨by omega, by omega⟩
      exact hQ _ _ hI3335 hF3337  o3338.1 o3338.2
    · refine ⟨fun h => absurd h (by decide), fun _ => ?_⟩
      refine ⟨hr_7_0, ?_⟩
      have o3339 : 0 ≤ (a0 - (w.1 8 0)).toInt ∧ (a0 - (w.1 8 0)).toInt < 24 := by have := bd_8_0 hI; have := ti_sub2 (Eq.refl a0.toInt) (Eq.refl (w.1 8 0).toInt) (by omega) (by omega); have := bd_8_1 hI; have := ti_add2 (Eq.refl (w.1 8 0).toInt) (Eq.refl (w.1 8 1).toInt) (by omega) (by omega); omega
      refine ⟨o3339, ?_⟩
      have o3340 : (w.1 36 ((a0 - (w.1 8 0)).toInt.toNat)).toInt = 0 ∨ (w.1 36 ((a0 - (w.1 8 0)).toInt.toNat)).toInt = 1 := by have := bd_36 hI ((a0 - (w.1 8 0)).toInt.toNat); omega
      refine ⟨o3340, ?_⟩
      have o3341 : (0 ≤ (w.1 36 ((a0 - (w.1 8 0)).toInt.toNat)).toInt) ∧ ((w.1 36 ((a0 - (w.1 8 0)).toInt.toNat)).toInt ≤ 1) := by have := bd_36 hI ((a0 - (w.1 8 0)).toInt.toNat); exact ⟨by omega, by omega⟩
      exact hQ _ _ hI (FR.refl _ w)  o3341.1 o3341.2
def l_Wa_indexOf_2 : Pl := []
def l_Wa_indexOf : Pl := []
set_option maxRecDepth 20000 in
set_option maxHeartbeats 2000000 in
theorem hq_Wa_indexOf_2 {x2_1 : Int32} {x2_2 : Int32} {E : MW → Prop} {Q : Int32 → MW → Prop} (n : Nat) : ∀ (x2_3 : Int32) (w : MW), BND w → 0 ≤ x2_3.toInt → x2_3.toInt ≤ 24 → (24 - x2_3.toInt).toNat < n → (∀ (w' : MW), BND w' → FR l_Wa_indexOf_2 w w' → E w') → (∀ (r : Int32) (w' : MW), BND w' → FR l_Wa_indexOf_2 w w' → 0 ≤ r.toInt → r.toInt ≤ 23 → Q r w') → q_Wa_indexOf_2 x2_1 x2_2 E Q n x2_3 w := by
  induction n with
  | zero => intros; omega
  | succ n ih =>
    intro x2_3 w hI  hp0 hp1 hm hE hQ
    rw [q_Wa_indexOf_2.eq_2]
    refine ⟨fun h3342 => ?_, fun h3342 => ?_⟩
    · exact hE _ hI (FR.refl _ w)
    · have o3343 : 0 ≤ x2_3.toInt ∧ x2_3.toInt < 24 := by have := bd_26_1 hI; omega
      refine ⟨o3343, ?_⟩
      refine ⟨fun h3344 => ?_, fun h3344 => ?_⟩
      · have o3345 : (0 ≤ (x2_3 + (1 : Int32)).toInt) ∧ ((x2_3 + (1 : Int32)).toInt ≤ 24) := by have := ti_add2 (Eq.refl x2_3.toInt) (by decide : ((1 : Int32)).toInt = 1) (by omega) (by omega); have := bd_26_1 hI; exact ⟨by omega, by omega⟩
        exact ih _ w hI  o3345.1 o3345.2 (by have := ti_add2 (Eq.refl x2_3.toInt) (by decide : ((1 : Int32)).toInt = 1) (by omega) (by omega); have := bd_26_1 hI; omega) (fun w9 hI9 hF9 => hE w9 hI9 ((FR.refl _ w).tr hF9 rfl) ) (fun r w9 hI9 hF9 q0 q1 => hQ r w9 hI9 ((FR.refl _ w).tr hF9 rfl) (by have := ti_add2 (Eq.refl x2_3.toInt) (by decide : ((1 : Int32)).toInt = 1) (by omega) (by omega); have := bd_26_1 hI; omega) (by have := ti_add2 (Eq.refl x2_3.toInt) (by decide : ((1 : Int32)).toInt = 1) (by omega) (by omega); have := bd_26_1 hI; omega))
      · have o3346 : 0 ≤ x2_3.toInt ∧ x2_3.toInt < 24 := by have := bd_26_1 hI; omega
        refine ⟨o3346, ?_⟩
        refine ⟨fun h3347 => ?_, fun h3347 => ?_⟩
        · have o3348 : (0 ≤ (x2_3 + (1 : Int32)).toInt) ∧ ((x2_3 + (1 : Int32)).toInt ≤ 24) := by have := ti_add2 (Eq.refl x2_3.toInt) (by decide : ((1 : Int32)).toInt = 1) (by omega) (by omega); have := bd_26_1 hI; exact ⟨by omega, by omega⟩
          exact ih _ w hI  o3348.1 o3348.2 (by have := ti_add2 (Eq.refl x2_3.toInt) (by decide : ((1 : Int32)).toInt = 1) (by omega) (by omega); have := bd_26_1 hI; omega) (fun w9 hI9 hF9 => hE w9 hI9 ((FR.refl _ w).tr hF9 rfl) ) (fun r w9 hI9 hF9 q0 q1 => hQ r w9 hI9 ((FR.refl _ w).tr hF9 rfl) (by have := ti_add2 (Eq.refl x2_3.toInt) (by decide : ((1 : Int32)).toInt = 1) (by omega) (by omega); have := bd_26_1 hI; omega) (by have := ti_add2 (Eq.refl x2_3.toInt) (by decide : ((1 : Int32)).toInt = 1) (by omega) (by omega); have := bd_26_1 hI; omega))
        · have o3349 : (0 ≤ x2_3.toInt) ∧ (x2_3.toInt ≤ 23) := by have := bd_26_1 hI; exact ⟨by omega, by omega⟩
          exact hQ _ _ hI (FR.refl _ w)  o3349.1 o3349.2
set_option maxRecDepth 20000 in
set_option maxHeartbeats 2000000 in
theorem h_Wa_indexOf {w : MW} {a0 : Int32} {b0 : Int32} {Q : Int32 → MW → Prop} (hI : BND w)  (hQ : ∀ (r : Int32) (w' : MW), BND w' → FR l_Wa_indexOf w w' → (-1) ≤ r.toInt → r.toInt ≤ 23 → Q r w') : p_Wa_indexOf w a0 b0 Q := by
  refine Eq.mpr (p_Wa_indexOf.eq_1 _ _ _ _) ?_
  have o3350 : (0 ≤ (0 : Int32).toInt) ∧ ((0 : Int32).toInt ≤ 24) := by have := ti_lo a0; have := ti_hi a0; have := ti_lo b0; have := ti_hi b0; have := (by decide : ((0 : Int32)).toInt = 0); exact ⟨by omega, by omega⟩
  refine hq_Wa_indexOf_2 FU _ w hI  o3350.1 o3350.2 (fu_lt (by have := ti_lo a0; have := ti_hi a0; have := ti_lo b0; have := ti_hi b0; have := (by decide : ((0 : Int32)).toInt = 0); omega)) (fun w3351 hI3352 hL3353  => ?_) (fun r w9 hI9 hF9 q0 q1 => hQ r w9 hI9 (((FR.refl _ w)).tr hF9 rfl) (by have := ti_lo a0; have := ti_hi a0; have := ti_lo b0; have := ti_hi b0; have := (by decide : ((0 : Int32)).toInt = 0); omega) (by have := ti_lo a0; have := ti_hi a0; have := ti_lo b0; have := ti_hi b0; have := (by decide : ((0 : Int32)).toInt = 0); omega))
  have hF3354 : FR l_Wa_indexOf w w3351 := (FR.refl _ w).tr hL3353 rfl
  have o3355 : ((-1) ≤ ((-1) : Int32).toInt) ∧ (((-1) : Int32).toInt ≤ 23) := by have := (by decide : (((-1) : Int32)).toInt = (-1)); exact ⟨by omega, by omega⟩
  exact hQ _ _ hI3352 hF3354  o3355.1 o3355.2
def l_St_emptyCells_12 : Pl := [(20, none)]
def l_St_emptyCells : Pl := [(20, none)]
set_option maxRecDepth 20000 in
set_option maxHeartbeats 2000000 in
theorem hq_St_emptyCells_12 {x12_2 : Int32} {E : MW → Prop} {Q : MW → Prop} (n : Nat) : ∀ (x12_3 : Int32) (w : MW), BND w → (-20) ≤ x12_2.toInt → x12_2.toInt ≤ 23 → 0 ≤ x12_3.toInt → x12_3.toInt ≤ 4 → (4 - x12_3.toInt).toNat < n → (∀ (w' : MW), BND w' → FR l_St_emptyCells_12 w w' → E w') → (∀ (w' : MW), BND w' → FR l_St_emptyCells_12 w w' → False → Q w') → q_St_emptyCells_12 x12_2 E Q n x12_3 w := by
  induction n with
  | zero => intros; omega
  | succ n ih =>
    intro x12_3 w hI  hp0 hp1 hp2 hp3 hm hE hQ
    rw [q_St_emptyCells_12.eq_2]
    refine ⟨fun h3356 => ?_, fun h3356 => ?_⟩
    · exact hE _ hI (FR.refl _ w)
    · refine ⟨fun h3357 => ?_, fun h3357 => ?_⟩
      · exact hE _ hI (FR.refl _ w)
      · have o3358 : 0 ≤ ((x12_2 * (4 : Int32)) + x12_3).toInt ∧ ((x12_2 * (4 : Int32)) + x12_3).toInt < 96 := by have := ti_mul2 (Eq.refl x12_2.toInt) (by decide : ((4 : Int32)).toInt = 4) (by omega) (by omega); have := ti_add2 (Eq.refl (x12_2 * (4 : Int32)).toInt) (Eq.refl x12_3.toInt) (by omega) (by omega); have := (by decide : ((0 : Int32)).toInt = 0); have := (by decide : ((4 : Int32)).toInt = 4); omega
        refine ⟨o3358, ?_⟩
        have o3359 : ((-20) ≤ x12_2.toInt) ∧ (x12_2.toInt ≤ 23) ∧ (0 ≤ (x12_3 + (1 : Int32)).toInt) ∧ ((x12_3 + (1 : Int32)).toInt ≤ 4) := by have := ti_add2 (Eq.refl x12_3.toInt) (by decide : ((1 : Int32)).toInt = 1) (by omega) (by omega); have := (by decide : ((4 : Int32)).toInt = 4); exact ⟨by omega, by omega, by omega, by omega⟩
        exact ih _ (sJ w 20 (((x12_2 * (4 : Int32)) + x12_3).toInt.toNat) 0) (bnd_J hI (k := 20) (j := ((x12_2 * (4 : Int32)) + x12_3).toInt.toNat) (v := 0))  o3359.1 o3359.2.1 o3359.2.2.1 o3359.2.2.2 (by have := ti_add2 (Eq.refl x12_3.toInt) (by decide : ((1 : Int32)).toInt = 1) (by omega) (by omega); have := (by decide : ((4 : Int32)).toInt = 4); omega) (fun w9 hI9 hF9 => hE w9 hI9 ((FR.J (FR.refl _ w) (k := 20) (j := ((x12_2 * (4 : Int32)) + x12_3).toInt.toNat) (v := 0) rfl).tr hF9 rfl) ) (fun w9 hI9 hF9 q0 => q0.elim)
set_option maxRecDepth 20000 in
set_option maxHeartbeats 2000000 in
theorem h_St_emptyCells {w : MW} {a0 : Int32} {Q : MW → Prop} (hI : BND w) (hr_7_0 : w.2.2 7 0 = some 8) (hp0 : 0 ≤ a0.toInt) (hp1 : a0.toInt ≤ 43) (hp2 : a0.toInt < (w.1 8 0).toInt + (w.1 8 1).toInt) (hQ : ∀ (w' : MW), BND w' → FR l_St_emptyCells w w' → Q w') : p_St_emptyCells w a0 Q := by
  refine Eq.mpr (p_St_emptyCells.eq_1 _ _ _) ?_
  refine ⟨hr_7_0, ?_⟩
  have o3360 : ((-20) ≤ (a0 - (w.1 8 0)).toInt) ∧ ((a0 - (w.1 8 0)).toInt ≤ 23) ∧ (0 ≤ (0 : Int32).toInt) ∧ ((0 : Int32).toInt ≤ 4) := by have := bd_8_0 hI; have := ti_sub2 (Eq.refl a0.toInt) (Eq.refl (w.1 8 0).toInt) (by omega) (by omega); have := (by decide : ((0 : Int32)).toInt = 0); have := bd_8_1 hI; exact ⟨by omega, by omega, by omega, by omega⟩
  refine hq_St_emptyCells_12 FU _ w hI  o3360.1 o3360.2.1 o3360.2.2.1 o3360.2.2.2 (fu_lt (by have := bd_8_0 hI; have := ti_sub2 (Eq.refl a0.toInt) (Eq.refl (w.1 8 0).toInt) (by omega) (by omega); have := (by decide : ((0 : Int32)).toInt = 0); have := bd_8_1 hI; omega)) (fun w3361 hI3362 hL3363  => ?_) (fun w9 hI9 hF9 q0 => q0.elim)
  have hF3364 : FR l_St_emptyCells w w3361 := (FR.refl _ w).tr hL3363 rfl
  exact hQ _ hI3362 hF3364 
def l_St_leave : Pl := [(17, none), (18, none), (19, none), (23, none)]
set_option maxRecDepth 20000 in
set_option maxHeartbeats 2000000 in
theorem h_St_leave {w : MW} {a0 : Int32} {b0 : Int32} {Q : MW → Prop} (hI : BND w) (hp0 : 0 ≤ a0.toInt) (hp1 : a0.toInt ≤ 43) (hQ : ∀ (w' : MW), BND w' → FR l_St_leave w w' → Q w') : p_St_leave w a0 b0 Q := by
  refine Eq.mpr (p_St_leave.eq_1 _ _ _ _) ?_
  have o3365 : 0 ≤ a0.toInt ∧ a0.toInt < 44 := by omega
  refine ⟨o3365, ?_⟩
  refine ⟨fun h3366 => ?_, fun h3366 => ?_⟩
  · have o3367 : 0 ≤ a0.toInt ∧ a0.toInt < 44 := by omega
    refine ⟨o3367, ?_⟩
    refine Eq.mpr (p_Ma_max.eq_1 _ _ _ _) ?_
    refine ⟨fun h3368 => ?_, fun h3368 => ?_⟩
    · replace h3368 : 0 < ((w.1 18 a0.toInt.toNat) - b0).toInt := h3368
      have o3369 : 0 ≤ a0.toInt ∧ a0.toInt < 44 := by omega
      refine ⟨o3369, ?_⟩
      have o3370 : 0 ≤ a0.toInt ∧ a0.toInt < 44 := by omega
      refine ⟨o3370, ?_⟩
      refine ⟨fun h3371 => ?_, fun h3371 => ?_⟩
      · have hI3372 : BND (sI w 18 a0.toInt.toNat ((w.1 18 a0.toInt.toNat) - b0)) := wbd_18 hI a0.toInt.toNat
        exact hQ _ hI3372 (FR.I (FR.refl _ w) (k := 18) (j := a0.toInt.toNat) (v := ((w.1 18 a0.toInt.toNat) - b0)) rfl) 
      · have o3373 : 0 ≤ a0.toInt ∧ a0.toInt < 44 := by omega
        refine ⟨o3373, ?_⟩
        have o3374 : 0 ≤ a0.toInt ∧ a0.toInt < 44 := by omega
        refine ⟨o3374, ?_⟩
        have o3375 : 0 ≤ a0.toInt ∧ a0.toInt < 44 := by omega
        refine ⟨o3375, ?_⟩
        have hI3376 : BND (sI w 18 a0.toInt.toNat ((w.1 18 a0.toInt.toNat) - b0)) := wbd_18 hI a0.toInt.toNat
        have o3378 : 0 ≤ (w.1 17 a0.toInt.toNat).toInt ∧ (w.1 17 a0.toInt.toNat).toInt ≤ 14 := by have := bd_17 hI a0.toInt.toNat; have := (by decide : ((0 : Int32)).toInt = 0); omega
        have hI3377 : BND (sI (sI w 18 a0.toInt.toNat ((w.1 18 a0.toInt.toNat) - b0)) 19 a0.toInt.toNat (w.1 17 a0.toInt.toNat)) := wbd_19 hI3376 a0.toInt.toNat o3378.1 o3378.2
        have hI3379 : BND (sI (sI (sI w 18 a0.toInt.toNat ((w.1 18 a0.toInt.toNat) - b0)) 19 a0.toInt.toNat (w.1 17 a0.toInt.toNat)) 17 a0.toInt.toNat 0) := wbd_17 hI3377 a0.toInt.toNat (by decide) (by decide)
        have o3380 : (0 ≤ a0.toInt) ∧ (a0.toInt ≤ 43) := by exact ⟨by omega, by omega⟩
        refine h_St_forgetCleanings hI3379  o3380.1 o3380.2 (fun w3381 hI3382 hL3383  => ?_)
        have hF3385 : FR l_St_leave w w3381 := (FR.I (FR.I (FR.I (FR.refl _ w) (k := 18) (j := a0.toInt.toNat) (v := ((w.1 18 a0.toInt.toNat) - b0)) rfl) (k := 19) (j := a0.toInt.toNat) (v := (w.1 17 a0.toInt.toNat)) rfl) (k := 17) (j := a0.toInt.toNat) (v := 0) rfl).tr hL3383 rfl
        exact hQ _ hI3382 hF3385 
    · replace h3368 : ¬ (0 < ((w.1 18 a0.toInt.toNat) - b0).toInt) := h3368
      have o3386 : 0 ≤ a0.toInt ∧ a0.toInt < 44 := by omega
      refine ⟨o3386, ?_⟩
      have o3387 : 0 ≤ a0.toInt ∧ a0.toInt < 44 := by omega
      refine ⟨o3387, ?_⟩
      refine ⟨fun h3388 => ?_, fun h3388 => ?_⟩
      · have hI3389 : BND (sI w 18 a0.toInt.toNat 0) := wbd_18 hI a0.toInt.toNat
        exact hQ _ hI3389 (FR.I (FR.refl _ w) (k := 18) (j := a0.toInt.toNat) (v := 0) rfl) 
      · have o3390 : 0 ≤ a0.toInt ∧ a0.toInt < 44 := by omega
        refine ⟨o3390, ?_⟩
        have o3391 : 0 ≤ a0.toInt ∧ a0.toInt < 44 := by omega
        refine ⟨o3391, ?_⟩
        have o3392 : 0 ≤ a0.toInt ∧ a0.toInt < 44 := by omega
        refine ⟨o3392, ?_⟩
        have hI3393 : BND (sI w 18 a0.toInt.toNat 0) := wbd_18 hI a0.toInt.toNat
        have o3395 : 0 ≤ (w.1 17 a0.toInt.toNat).toInt ∧ (w.1 17 a0.toInt.toNat).toInt ≤ 14 := by have := bd_17 hI a0.toInt.toNat; have := (by decide : ((0 : Int32)).toInt = 0); omega
        have hI3394 : BND (sI (sI w 18 a0.toInt.toNat 0) 19 a0.toInt.toNat (w.1 17 a0.toInt.toNat)) := wbd_19 hI3393 a0.toInt.toNat o3395.1 o3395.2
        have hI3396 : BND (sI (sI (sI w 18 a0.toInt.toNat 0) 19 a0.toInt.toNat (w.1 17 a0.toInt.toNat)) 17 a0.toInt.toNat 0) := wbd_17 hI3394 a0.toInt.toNat (by decide) (by decide)
        have o3397 : (0 ≤ a0.toInt) ∧ (a0.toInt ≤ 43) := by exact ⟨by omega, by omega⟩
        refine h_St_forgetCleanings hI3396  o3397.1 o3397.2 (fun w3398 hI3399 hL3400  => ?_)
        have hF3402 : FR l_St_leave w w3398 := (FR.I (FR.I (FR.I (FR.refl _ w) (k := 18) (j := a0.toInt.toNat) (v := 0) rfl) (k := 19) (j := a0.toInt.toNat) (v := (w.1 17 a0.toInt.toNat)) rfl) (k := 17) (j := a0.toInt.toNat) (v := 0) rfl).tr hL3400 rfl
        exact hQ _ hI3399 hF3402 
  · exact hQ _ hI (FR.refl _ w)
def l_St_isHolder : Pl := []
set_option maxRecDepth 20000 in
set_option maxHeartbeats 2000000 in
theorem h_St_isHolder {w : MW} {a0 : Int32} {Q : Int32 → MW → Prop} (hI : BND w) (hr_7_0 : w.2.2 7 0 = some 8)  (hQ : ∀ (r : Int32) (w' : MW), BND w' → FR l_St_isHolder w w' → 0 ≤ r.toInt → r.toInt ≤ 1 → r.toInt = 0 ∨ (0 ≤ a0.toInt ∧ a0.toInt < (w.1 8 0).toInt + (w.1 8 1).toInt) → Q r w') : p_St_isHolder w a0 Q := by
  refine Eq.mpr (p_St_isHolder.eq_1 _ _ _) ?_
  refine Eq.mpr (p_St_isTank.eq_1 _ _ _) ?_
  refine ⟨fun h3403 => ?_, fun h3403 => ?_⟩
  · refine ⟨fun h => absurd h (by decide), fun _ => ?_⟩
    refine Eq.mpr (p_St_isPipe.eq_1 _ _ _) ?_
    refine ⟨hr_7_0, ?_⟩
    refine ⟨fun h3404 => ?_, fun h3404 => ?_⟩
    · refine ⟨fun _ => ?_, fun h => absurd (by decide) h⟩
      have o3405 : (0 ≤ (0 : Int32).toInt) ∧ ((0 : Int32).toInt ≤ 1) ∧ ((0 : Int32).toInt = 0 ∨ (0 ≤ a0.toInt ∧ a0.toInt < (w.1 8 0).toInt + (w.1 8 1).toInt)) := by have := (by decide : ((0 : Int32)).toInt = 0); have := bd_8_0 hI; have := bd_8_1 hI; exact ⟨by omega, by omega, by omega⟩
      exact hQ _ _ hI (FR.refl _ w)  o3405.1 o3405.2.1 o3405.2.2
    · exfalso; have := (by decide : ((0 : Int32)).toInt = 0); have := bd_8_0 hI; omega
  · refine ⟨hr_7_0, ?_⟩
    refine ⟨fun h3406 => ?_, fun h3406 => ?_⟩
    · refine ⟨fun h => absurd h (by decide), fun _ => ?_⟩
      refine Eq.mpr (p_St_isPipe.eq_1 _ _ _) ?_
      refine ⟨hr_7_0, ?_⟩
      refine ⟨fun h3407 => ?_, fun h3407 => ?_⟩
      · refine ⟨fun _ => ?_, fun h => absurd (by decide) h⟩
        have o3408 : (0 ≤ (0 : Int32).toInt) ∧ ((0 : Int32).toInt ≤ 1) ∧ ((0 : Int32).toInt = 0 ∨ (0 ≤ a0.toInt ∧ a0.toInt < (w.1 8 0).toInt + (w.1 8 1).toInt)) := by have := (by decide : ((0 : Int32)).toInt = 0); have := bd_8_0 hI; have := bd_8_1 hI; exact ⟨by omega, by omega, by omega⟩
        exact hQ _ _ hI (FR.refl _ w)  o3408.1 o3408.2.1 o3408.2.2
      · refine ⟨hr_7_0, ?_⟩
        refine ⟨hr_7_0, ?_⟩
        refine ⟨fun h3409 => ?_, fun h3409 => ?_⟩
        · refine ⟨fun _ => ?_, fun h => absurd (by decide) h⟩
          have o3410 : (0 ≤ (0 : Int32).toInt) ∧ ((0 : Int32).toInt ≤ 1) ∧ ((0 : Int32).toInt = 0 ∨ (0 ≤ a0.toInt ∧ a0.toInt < (w.1 8 0).toInt + (w.1 8 1).toInt)) := by have := (by decide : ((0 : Int32)).toInt = 0); have := bd_8_0 hI; have := bd_8_1 hI; have := ti_add2 (Eq.refl (w.1 8 0).toInt) (Eq.refl (w.1 8 1).toInt) (by omega) (by omega); exact ⟨by omega, by omega, by omega⟩
          exact hQ _ _ hI (FR.refl _ w)  o3410.1 o3410.2.1 o3410.2.2
        · refine ⟨fun h => absurd h (by decide), fun _ => ?_⟩
          have o3411 : (0 ≤ (1 : Int32).toInt) ∧ ((1 : Int32).toInt ≤ 1) ∧ ((1 : Int32).toInt = 0 ∨ (0 ≤ a0.toInt ∧ a0.toInt < (w.1 8 0).toInt + (w.1 8 1).toInt)) := by have := (by decide : ((1 : Int32)).toInt = 1); have := bd_8_0 hI; have := bd_8_1 hI; have := ti_add2 (Eq.refl (w.1 8 0).toInt) (Eq.refl (w.1 8 1).toInt) (by omega) (by omega); have := (by decide : ((0 : Int32)).toInt = 0); exact ⟨by omega, by omega, by omega⟩
          exact hQ _ _ hI (FR.refl _ w)  o3411.1 o3411.2.1 o3411.2.2
    · refine ⟨hr_7_0, ?_⟩
      have o3412 : 0 ≤ a0.toInt ∧ a0.toInt < 20 := by have := (by decide : ((0 : Int32)).toInt = 0); have := bd_8_0 hI; omega
      refine ⟨o3412, ?_⟩
      refine ⟨fun h3413 => ?_, fun h3413 => ?_⟩
      · refine ⟨fun h => absurd h (by decide), fun _ => ?_⟩
        refine Eq.mpr (p_St_isPipe.eq_1 _ _ _) ?_
        refine ⟨hr_7_0, ?_⟩
        refine ⟨fun h3414 => ?_, fun h3414 => ?_⟩
        · refine ⟨fun _ => ?_, fun h => absurd (by decide) h⟩
          have o3415 : (0 ≤ (0 : Int32).toInt) ∧ ((0 : Int32).toInt ≤ 1) ∧ ((0 : Int32).toInt = 0 ∨ (0 ≤ a0.toInt ∧ a0.toInt < (w.1 8 0).toInt + (w.1 8 1).toInt)) := by have := (by decide : ((0 : Int32)).toInt = 0); have := bd_8_0 hI; have := bd_8_1 hI; exact ⟨by omega, by omega, by omega⟩
          exact hQ _ _ hI (FR.refl _ w)  o3415.1 o3415.2.1 o3415.2.2
        · refine ⟨hr_7_0, ?_⟩
          refine ⟨hr_7_0, ?_⟩
          refine ⟨fun h3416 => ?_, fun h3416 => ?_⟩
          · refine ⟨fun _ => ?_, fun h => absurd (by decide) h⟩
            have o3417 : (0 ≤ (0 : Int32).toInt) ∧ ((0 : Int32).toInt ≤ 1) ∧ ((0 : Int32).toInt = 0 ∨ (0 ≤ a0.toInt ∧ a0.toInt < (w.1 8 0).toInt + (w.1 8 1).toInt)) := by have := (by decide : ((0 : Int32)).toInt = 0); have := bd_8_0 hI; have := bd_8_1 hI; have := ti_add2 (Eq.refl (w.1 8 0).toInt) (Eq.refl (w.1 8 1).toInt) (by omega) (by omega); exact ⟨by omega, by omega, by omega⟩
            exact hQ _ _ hI (FR.refl _ w)  o3417.1 o3417.2.1 o3417.2.2
          · refine ⟨fun h => absurd h (by decide), fun _ => ?_⟩
            have o3418 : (0 ≤ (1 : Int32).toInt) ∧ ((1 : Int32).toInt ≤ 1) ∧ ((1 : Int32).toInt = 0 ∨ (0 ≤ a0.toInt ∧ a0.toInt < (w.1 8 0).toInt + (w.1 8 1).toInt)) := by have := (by decide : ((1 : Int32)).toInt = 1); have := bd_8_0 hI; have := bd_8_1 hI; have := ti_add2 (Eq.refl (w.1 8 0).toInt) (Eq.refl (w.1 8 1).toInt) (by omega) (by omega); have := (by decide : ((0 : Int32)).toInt = 0); exact ⟨by omega, by omega, by omega⟩
            exact hQ _ _ hI (FR.refl _ w)  o3418.1 o3418.2.1 o3418.2.2
      · refine ⟨fun _ => ?_, fun h => absurd (by decide) h⟩
        have o3419 : (0 ≤ (1 : Int32).toInt) ∧ ((1 : Int32).toInt ≤ 1) ∧ ((1 : Int32).toInt = 0 ∨ (0 ≤ a0.toInt ∧ a0.toInt < (w.1 8 0).toInt + (w.1 8 1).toInt)) := by have := (by decide : ((1 : Int32)).toInt = 1); have := bd_8_0 hI; have := bd_8_1 hI; have := (by decide : ((0 : Int32)).toInt = 0); exact ⟨by omega, by omega, by omega⟩
        exact hQ _ _ hI (FR.refl _ w)  o3419.1 o3419.2.1 o3419.2.2
def l_Ac_isBound : Pl := []
set_option maxRecDepth 20000 in
set_option maxHeartbeats 2000000 in
theorem h_Ac_isBound {w : MW} {a0 : Int32} {Q : Int32 → MW → Prop} (hI : BND w) (hf_AC : AC w) (hr_7_0 : w.2.2 7 0 = some 8) (hp0 : 0 ≤ a0.toInt) (hp1 : a0.toInt ≤ 31) (hQ : ∀ (r : Int32) (w' : MW), BND w' → FR l_Ac_isBound w w' → 0 ≤ r.toInt → r.toInt ≤ 1 → r.toInt = 0 ∨ 2 ≤ (w.1 60 a0.toInt.toNat).toInt ∨ (0 ≤ (w.1 57 a0.toInt.toNat).toInt ∧ (w.1 57 a0.toInt.toNat).toInt < (w.1 8 0).toInt ∧ 0 ≤ (w.1 58 a0.toInt.toNat).toInt ∧ (w.1 58 a0.toInt.toNat).toInt < (w.1 8 0).toInt) → r.toInt = 0 ∨ ¬ (w.1 60 a0.toInt.toNat).toInt = 2 ∨ (0 ≤ (w.1 57 a0.toInt.toNat).toInt ∧ (w.1 57 a0.toInt.toNat).toInt < (w.1 8 0).toInt) → r.toInt = 0 ∨ (w.1 60 a0.toInt.toNat).toInt ≤ 2 ∨ (0 ≤ (w.1 57 a0.toInt.toNat).toInt ∧ (w.1 57 a0.toInt.toNat).toInt < (w.1 8 0).toInt + (w.1 8 1).toInt) → r.toInt = 0 ∨ 0 ≤ (w.1 60 a0.toInt.toNat).toInt → Q r w') : p_Ac_isBound w a0 Q := by
  refine Eq.mpr (p_Ac_isBound.eq_1 _ _ _) ?_
  have o3420 : 0 ≤ a0.toInt ∧ a0.toInt < 32 := by omega
  refine ⟨o3420, ?_⟩
  refine ⟨fun h3421 => ?_, fun h3421 => ?_⟩
  · have o3422 : 0 ≤ a0.toInt ∧ a0.toInt < 32 := by omega
    refine ⟨o3422, ?_⟩
    refine Eq.mpr (p_St_isTank.eq_1 _ _ _) ?_
    refine ⟨fun h3423 => ?_, fun h3423 => ?_⟩
    · refine ⟨fun _ => ?_, fun h => absurd (by decide) h⟩
      have o3424 : (0 ≤ (0 : Int32).toInt) ∧ ((0 : Int32).toInt ≤ 1) ∧ ((0 : Int32).toInt = 0 ∨ 2 ≤ (w.1 60 a0.toInt.toNat).toInt ∨ (0 ≤ (w.1 57 a0.toInt.toNat).toInt ∧ (w.1 57 a0.toInt.toNat).toInt < (w.1 8 0).toInt ∧ 0 ≤ (w.1 58 a0.toInt.toNat).toInt ∧ (w.1 58 a0.toInt.toNat).toInt < (w.1 8 0).toInt)) ∧ ((0 : Int32).toInt = 0 ∨ ¬ (w.1 60 a0.toInt.toNat).toInt = 2 ∨ (0 ≤ (w.1 57 a0.toInt.toNat).toInt ∧ (w.1 57 a0.toInt.toNat).toInt < (w.1 8 0).toInt)) ∧ ((0 : Int32).toInt = 0 ∨ (w.1 60 a0.toInt.toNat).toInt ≤ 2 ∨ (0 ≤ (w.1 57 a0.toInt.toNat).toInt ∧ (w.1 57 a0.toInt.toNat).toInt < (w.1 8 0).toInt + (w.1 8 1).toInt)) ∧ ((0 : Int32).toInt = 0 ∨ 0 ≤ (w.1 60 a0.toInt.toNat).toInt) := by have := (by decide : ((0 : Int32)).toInt = 0); have := bd_8_0 hI; have := bd_60 hI a0.toInt.toNat; have := hf_AC a0; have := bd_8_1 hI; exact ⟨by omega, by omega, by omega, by omega, by omega, by omega⟩
      exact hQ _ _ hI (FR.refl _ w)  o3424.1 o3424.2.1 o3424.2.2.1 o3424.2.2.2.1 o3424.2.2.2.2.1 o3424.2.2.2.2.2
    · refine ⟨hr_7_0, ?_⟩
      refine ⟨fun h3425 => ?_, fun h3425 => ?_⟩
      · refine ⟨fun _ => ?_, fun h => absurd (by decide) h⟩
        have o3426 : (0 ≤ (0 : Int32).toInt) ∧ ((0 : Int32).toInt ≤ 1) ∧ ((0 : Int32).toInt = 0 ∨ 2 ≤ (w.1 60 a0.toInt.toNat).toInt ∨ (0 ≤ (w.1 57 a0.toInt.toNat).toInt ∧ (w.1 57 a0.toInt.toNat).toInt < (w.1 8 0).toInt ∧ 0 ≤ (w.1 58 a0.toInt.toNat).toInt ∧ (w.1 58 a0.toInt.toNat).toInt < (w.1 8 0).toInt)) ∧ ((0 : Int32).toInt = 0 ∨ ¬ (w.1 60 a0.toInt.toNat).toInt = 2 ∨ (0 ≤ (w.1 57 a0.toInt.toNat).toInt ∧ (w.1 57 a0.toInt.toNat).toInt < (w.1 8 0).toInt)) ∧ ((0 : Int32).toInt = 0 ∨ (w.1 60 a0.toInt.toNat).toInt ≤ 2 ∨ (0 ≤ (w.1 57 a0.toInt.toNat).toInt ∧ (w.1 57 a0.toInt.toNat).toInt < (w.1 8 0).toInt + (w.1 8 1).toInt)) ∧ ((0 : Int32).toInt = 0 ∨ 0 ≤ (w.1 60 a0.toInt.toNat).toInt) := by have := (by decide : ((0 : Int32)).toInt = 0); have := bd_8_0 hI; have := bd_60 hI a0.toInt.toNat; have := hf_AC a0; have := bd_8_1 hI; exact ⟨by omega, by omega, by omega, by omega, by omega, by omega⟩
        exact hQ _ _ hI (FR.refl _ w)  o3426.1 o3426.2.1 o3426.2.2.1 o3426.2.2.2.1 o3426.2.2.2.2.1 o3426.2.2.2.2.2
      · refine ⟨hr_7_0, ?_⟩
        have o3427 : 0 ≤ (w.1 57 a0.toInt.toNat).toInt ∧ (w.1 57 a0.toInt.toNat).toInt < 20 := by have := (by decide : ((0 : Int32)).toInt = 0); have := bd_8_0 hI; omega
        refine ⟨o3427, ?_⟩
        refine ⟨fun h3428 => ?_, fun h3428 => ?_⟩
        · refine ⟨fun _ => ?_, fun h => absurd (by decide) h⟩
          have o3429 : (0 ≤ (0 : Int32).toInt) ∧ ((0 : Int32).toInt ≤ 1) ∧ ((0 : Int32).toInt = 0 ∨ 2 ≤ (w.1 60 a0.toInt.toNat).toInt ∨ (0 ≤ (w.1 57 a0.toInt.toNat).toInt ∧ (w.1 57 a0.toInt.toNat).toInt < (w.1 8 0).toInt ∧ 0 ≤ (w.1 58 a0.toInt.toNat).toInt ∧ (w.1 58 a0.toInt.toNat).toInt < (w.1 8 0).toInt)) ∧ ((0 : Int32).toInt = 0 ∨ ¬ (w.1 60 a0.toInt.toNat).toInt = 2 ∨ (0 ≤ (w.1 57 a0.toInt.toNat).toInt ∧ (w.1 57 a0.toInt.toNat).toInt < (w.1 8 0).toInt)) ∧ ((0 : Int32).toInt = 0 ∨ (w.1 60 a0.toInt.toNat).toInt ≤ 2 ∨ (0 ≤ (w.1 57 a0.toInt.toNat).toInt ∧ (w.1 57 a0.toInt.toNat).toInt < (w.1 8 0).toInt + (w.1 8 1).toInt)) ∧ ((0 : Int32).toInt = 0 ∨ 0 ≤ (w.1 60 a0.toInt.toNat).toInt) := by have := (by decide : ((0 : Int32)).toInt = 0); have := bd_8_0 hI; have := bd_60 hI a0.toInt.toNat; have := hf_AC a0; have := bd_8_1 hI; exact ⟨by omega, by omega, by omega, by omega, by omega, by omega⟩
          exact hQ _ _ hI (FR.refl _ w)  o3429.1 o3429.2.1 o3429.2.2.1 o3429.2.2.2.1 o3429.2.2.2.2.1 o3429.2.2.2.2.2
        · refine ⟨fun h => absurd h (by decide), fun _ => ?_⟩
          have o3430 : 0 ≤ a0.toInt ∧ a0.toInt < 32 := by omega
          refine ⟨o3430, ?_⟩
          refine Eq.mpr (p_St_isTank.eq_1 _ _ _) ?_
          refine ⟨fun h3431 => ?_, fun h3431 => ?_⟩
          · refine ⟨fun _ => ?_, fun h => absurd (by decide) h⟩
            have o3432 : (0 ≤ (0 : Int32).toInt) ∧ ((0 : Int32).toInt ≤ 1) ∧ ((0 : Int32).toInt = 0 ∨ 2 ≤ (w.1 60 a0.toInt.toNat).toInt ∨ (0 ≤ (w.1 57 a0.toInt.toNat).toInt ∧ (w.1 57 a0.toInt.toNat).toInt < (w.1 8 0).toInt ∧ 0 ≤ (w.1 58 a0.toInt.toNat).toInt ∧ (w.1 58 a0.toInt.toNat).toInt < (w.1 8 0).toInt)) ∧ ((0 : Int32).toInt = 0 ∨ ¬ (w.1 60 a0.toInt.toNat).toInt = 2 ∨ (0 ≤ (w.1 57 a0.toInt.toNat).toInt ∧ (w.1 57 a0.toInt.toNat).toInt < (w.1 8 0).toInt)) ∧ ((0 : Int32).toInt = 0 ∨ (w.1 60 a0.toInt.toNat).toInt ≤ 2 ∨ (0 ≤ (w.1 57 a0.toInt.toNat).toInt ∧ (w.1 57 a0.toInt.toNat).toInt < (w.1 8 0).toInt + (w.1 8 1).toInt)) ∧ ((0 : Int32).toInt = 0 ∨ 0 ≤ (w.1 60 a0.toInt.toNat).toInt) := by have := (by decide : ((0 : Int32)).toInt = 0); have := bd_8_0 hI; have := bd_60 hI a0.toInt.toNat; have := hf_AC a0; have := bd_8_1 hI; exact ⟨by omega, by omega, by omega, by omega, by omega, by omega⟩
            exact hQ _ _ hI (FR.refl _ w)  o3432.1 o3432.2.1 o3432.2.2.1 o3432.2.2.2.1 o3432.2.2.2.2.1 o3432.2.2.2.2.2
          · refine ⟨hr_7_0, ?_⟩
            refine ⟨fun h3433 => ?_, fun h3433 => ?_⟩
            · refine ⟨fun _ => ?_, fun h => absurd (by decide) h⟩
              have o3434 : (0 ≤ (0 : Int32).toInt) ∧ ((0 : Int32).toInt ≤ 1) ∧ ((0 : Int32).toInt = 0 ∨ 2 ≤ (w.1 60 a0.toInt.toNat).toInt ∨ (0 ≤ (w.1 57 a0.toInt.toNat).toInt ∧ (w.1 57 a0.toInt.toNat).toInt < (w.1 8 0).toInt ∧ 0 ≤ (w.1 58 a0.toInt.toNat).toInt ∧ (w.1 58 a0.toInt.toNat).toInt < (w.1 8 0).toInt)) ∧ ((0 : Int32).toInt = 0 ∨ ¬ (w.1 60 a0.toInt.toNat).toInt = 2 ∨ (0 ≤ (w.1 57 a0.toInt.toNat).toInt ∧ (w.1 57 a0.toInt.toNat).toInt < (w.1 8 0).toInt)) ∧ ((0 : Int32).toInt = 0 ∨ (w.1 60 a0.toInt.toNat).toInt ≤ 2 ∨ (0 ≤ (w.1 57 a0.toInt.toNat).toInt ∧ (w.1 57 a0.toInt.toNat).toInt < (w.1 8 0).toInt + (w.1 8 1).toInt)) ∧ ((0 : Int32).toInt = 0 ∨ 0 ≤ (w.1 60 a0.toInt.toNat).toInt) := by have := (by decide : ((0 : Int32)).toInt = 0); have := bd_8_0 hI; have := bd_60 hI a0.toInt.toNat; have := hf_AC a0; have := bd_8_1 hI; exact ⟨by omega, by omega, by omega, by omega, by omega, by omega⟩
              exact hQ _ _ hI (FR.refl _ w)  o3434.1 o3434.2.1 o3434.2.2.1 o3434.2.2.2.1 o3434.2.2.2.2.1 o3434.2.2.2.2.2
            · refine ⟨hr_7_0, ?_⟩
              have o3435 : 0 ≤ (w.1 58 a0.toInt.toNat).toInt ∧ (w.1 58 a0.toInt.toNat).toInt < 20 := by have := bd_60 hI a0.toInt.toNat; have := hf_AC a0; have := (by decide : ((0 : Int32)).toInt = 0); have := bd_8_0 hI; omega
              refine ⟨o3435, ?_⟩
              refine ⟨fun h3436 => ?_, fun h3436 => ?_⟩
              · refine ⟨fun _ => ?_, fun h => absurd (by decide) h⟩
                have o3437 : (0 ≤ (0 : Int32).toInt) ∧ ((0 : Int32).toInt ≤ 1) ∧ ((0 : Int32).toInt = 0 ∨ 2 ≤ (w.1 60 a0.toInt.toNat).toInt ∨ (0 ≤ (w.1 57 a0.toInt.toNat).toInt ∧ (w.1 57 a0.toInt.toNat).toInt < (w.1 8 0).toInt ∧ 0 ≤ (w.1 58 a0.toInt.toNat).toInt ∧ (w.1 58 a0.toInt.toNat).toInt < (w.1 8 0).toInt)) ∧ ((0 : Int32).toInt = 0 ∨ ¬ (w.1 60 a0.toInt.toNat).toInt = 2 ∨ (0 ≤ (w.1 57 a0.toInt.toNat).toInt ∧ (w.1 57 a0.toInt.toNat).toInt < (w.1 8 0).toInt)) ∧ ((0 : Int32).toInt = 0 ∨ (w.1 60 a0.toInt.toNat).toInt ≤ 2 ∨ (0 ≤ (w.1 57 a0.toInt.toNat).toInt ∧ (w.1 57 a0.toInt.toNat).toInt < (w.1 8 0).toInt + (w.1 8 1).toInt)) ∧ ((0 : Int32).toInt = 0 ∨ 0 ≤ (w.1 60 a0.toInt.toNat).toInt) := by have := (by decide : ((0 : Int32)).toInt = 0); have := bd_8_0 hI; have := bd_60 hI a0.toInt.toNat; have := hf_AC a0; have := bd_8_1 hI; exact ⟨by omega, by omega, by omega, by omega, by omega, by omega⟩
                exact hQ _ _ hI (FR.refl _ w)  o3437.1 o3437.2.1 o3437.2.2.1 o3437.2.2.2.1 o3437.2.2.2.2.1 o3437.2.2.2.2.2
              · refine ⟨fun h => absurd h (by decide), fun _ => ?_⟩
                have o3438 : 0 ≤ a0.toInt ∧ a0.toInt < 32 := by omega
                refine ⟨o3438, ?_⟩
                have o3439 : 0 ≤ a0.toInt ∧ a0.toInt < 32 := by omega
                refine ⟨o3439, ?_⟩
                refine ⟨fun h3440 => ?_, fun h3440 => ?_⟩
                · have o3441 : (0 ≤ (0 : Int32).toInt) ∧ ((0 : Int32).toInt ≤ 1) ∧ ((0 : Int32).toInt = 0 ∨ 2 ≤ (w.1 60 a0.toInt.toNat).toInt ∨ (0 ≤ (w.1 57 a0.toInt.toNat).toInt ∧ (w.1 57 a0.toInt.toNat).toInt < (w.1 8 0).toInt ∧ 0 ≤ (w.1 58 a0.toInt.toNat).toInt ∧ (w.1 58 a0.toInt.toNat).toInt < (w.1 8 0).toInt)) ∧ ((0 : Int32).toInt = 0 ∨ ¬ (w.1 60 a0.toInt.toNat).toInt = 2 ∨ (0 ≤ (w.1 57 a0.toInt.toNat).toInt ∧ (w.1 57 a0.toInt.toNat).toInt < (w.1 8 0).toInt)) ∧ ((0 : Int32).toInt = 0 ∨ (w.1 60 a0.toInt.toNat).toInt ≤ 2 ∨ (0 ≤ (w.1 57 a0.toInt.toNat).toInt ∧ (w.1 57 a0.toInt.toNat).toInt < (w.1 8 0).toInt + (w.1 8 1).toInt)) ∧ ((0 : Int32).toInt = 0 ∨ 0 ≤ (w.1 60 a0.toInt.toNat).toInt) := by have := (by decide : ((0 : Int32)).toInt = 0); have := bd_8_0 hI; have := bd_60 hI a0.toInt.toNat; have := hf_AC a0; have := bd_8_1 hI; exact ⟨by omega, by omega, by omega, by omega, by omega, by omega⟩
                  exact hQ _ _ hI (FR.refl _ w)  o3441.1 o3441.2.1 o3441.2.2.1 o3441.2.2.2.1 o3441.2.2.2.2.1 o3441.2.2.2.2.2
                · have o3442 : (0 ≤ (1 : Int32).toInt) ∧ ((1 : Int32).toInt ≤ 1) ∧ ((1 : Int32).toInt = 0 ∨ 2 ≤ (w.1 60 a0.toInt.toNat).toInt ∨ (0 ≤ (w.1 57 a0.toInt.toNat).toInt ∧ (w.1 57 a0.toInt.toNat).toInt < (w.1 8 0).toInt ∧ 0 ≤ (w.1 58 a0.toInt.toNat).toInt ∧ (w.1 58 a0.toInt.toNat).toInt < (w.1 8 0).toInt)) ∧ ((1 : Int32).toInt = 0 ∨ ¬ (w.1 60 a0.toInt.toNat).toInt = 2 ∨ (0 ≤ (w.1 57 a0.toInt.toNat).toInt ∧ (w.1 57 a0.toInt.toNat).toInt < (w.1 8 0).toInt)) ∧ ((1 : Int32).toInt = 0 ∨ (w.1 60 a0.toInt.toNat).toInt ≤ 2 ∨ (0 ≤ (w.1 57 a0.toInt.toNat).toInt ∧ (w.1 57 a0.toInt.toNat).toInt < (w.1 8 0).toInt + (w.1 8 1).toInt)) ∧ ((1 : Int32).toInt = 0 ∨ 0 ≤ (w.1 60 a0.toInt.toNat).toInt) := by have := (by decide : ((1 : Int32)).toInt = 1); have := bd_8_0 hI; have := bd_60 hI a0.toInt.toNat; have := hf_AC a0; have := bd_8_1 hI; have := (by decide : ((0 : Int32)).toInt = 0); exact ⟨by omega, by omega, by omega, by omega, by omega, by omega⟩
                  exact hQ _ _ hI (FR.refl _ w)  o3442.1 o3442.2.1 o3442.2.2.1 o3442.2.2.2.1 o3442.2.2.2.2.1 o3442.2.2.2.2.2
  · refine ⟨fun h3443 => ?_, fun h3443 => ?_⟩
    · have o3444 : 0 ≤ a0.toInt ∧ a0.toInt < 32 := by omega
      refine ⟨o3444, ?_⟩
      refine Eq.mpr (p_St_isTank.eq_1 _ _ _) ?_
      refine ⟨fun h3445 => ?_, fun h3445 => ?_⟩
      · refine ⟨fun _ => ?_, fun h => absurd (by decide) h⟩
        have o3446 : (0 ≤ (0 : Int32).toInt) ∧ ((0 : Int32).toInt ≤ 1) ∧ ((0 : Int32).toInt = 0 ∨ 2 ≤ (w.1 60 a0.toInt.toNat).toInt ∨ (0 ≤ (w.1 57 a0.toInt.toNat).toInt ∧ (w.1 57 a0.toInt.toNat).toInt < (w.1 8 0).toInt ∧ 0 ≤ (w.1 58 a0.toInt.toNat).toInt ∧ (w.1 58 a0.toInt.toNat).toInt < (w.1 8 0).toInt)) ∧ ((0 : Int32).toInt = 0 ∨ ¬ (w.1 60 a0.toInt.toNat).toInt = 2 ∨ (0 ≤ (w.1 57 a0.toInt.toNat).toInt ∧ (w.1 57 a0.toInt.toNat).toInt < (w.1 8 0).toInt)) ∧ ((0 : Int32).toInt = 0 ∨ (w.1 60 a0.toInt.toNat).toInt ≤ 2 ∨ (0 ≤ (w.1 57 a0.toInt.toNat).toInt ∧ (w.1 57 a0.toInt.toNat).toInt < (w.1 8 0).toInt + (w.1 8 1).toInt)) ∧ ((0 : Int32).toInt = 0 ∨ 0 ≤ (w.1 60 a0.toInt.toNat).toInt) := by have := (by decide : ((0 : Int32)).toInt = 0); have := bd_8_0 hI; have := bd_60 hI a0.toInt.toNat; have := hf_AC a0; have := bd_8_1 hI; have := (by decide : ((1 : Int32)).toInt = 1); exact ⟨by omega, by omega, by omega, by omega, by omega, by omega⟩
        exact hQ _ _ hI (FR.refl _ w)  o3446.1 o3446.2.1 o3446.2.2.1 o3446.2.2.2.1 o3446.2.2.2.2.1 o3446.2.2.2.2.2
      · refine ⟨hr_7_0, ?_⟩
        refine ⟨fun h3447 => ?_, fun h3447 => ?_⟩
        · refine ⟨fun _ => ?_, fun h => absurd (by decide) h⟩
          have o3448 : (0 ≤ (0 : Int32).toInt) ∧ ((0 : Int32).toInt ≤ 1) ∧ ((0 : Int32).toInt = 0 ∨ 2 ≤ (w.1 60 a0.toInt.toNat).toInt ∨ (0 ≤ (w.1 57 a0.toInt.toNat).toInt ∧ (w.1 57 a0.toInt.toNat).toInt < (w.1 8 0).toInt ∧ 0 ≤ (w.1 58 a0.toInt.toNat).toInt ∧ (w.1 58 a0.toInt.toNat).toInt < (w.1 8 0).toInt)) ∧ ((0 : Int32).toInt = 0 ∨ ¬ (w.1 60 a0.toInt.toNat).toInt = 2 ∨ (0 ≤ (w.1 57 a0.toInt.toNat).toInt ∧ (w.1 57 a0.toInt.toNat).toInt < (w.1 8 0).toInt)) ∧ ((0 : Int32).toInt = 0 ∨ (w.1 60 a0.toInt.toNat).toInt ≤ 2 ∨ (0 ≤ (w.1 57 a0.toInt.toNat).toInt ∧ (w.1 57 a0.toInt.toNat).toInt < (w.1 8 0).toInt + (w.1 8 1).toInt)) ∧ ((0 : Int32).toInt = 0 ∨ 0 ≤ (w.1 60 a0.toInt.toNat).toInt) := by have := (by decide : ((0 : Int32)).toInt = 0); have := bd_8_0 hI; have := bd_60 hI a0.toInt.toNat; have := hf_AC a0; have := bd_8_1 hI; have := (by decide : ((1 : Int32)).toInt = 1); exact ⟨by omega, by omega, by omega, by omega, by omega, by omega⟩
          exact hQ _ _ hI (FR.refl _ w)  o3448.1 o3448.2.1 o3448.2.2.1 o3448.2.2.2.1 o3448.2.2.2.2.1 o3448.2.2.2.2.2
        · refine ⟨hr_7_0, ?_⟩
          have o3449 : 0 ≤ (w.1 57 a0.toInt.toNat).toInt ∧ (w.1 57 a0.toInt.toNat).toInt < 20 := by have := (by decide : ((0 : Int32)).toInt = 0); have := bd_8_0 hI; omega
          refine ⟨o3449, ?_⟩
          refine ⟨fun h3450 => ?_, fun h3450 => ?_⟩
          · refine ⟨fun _ => ?_, fun h => absurd (by decide) h⟩
            have o3451 : (0 ≤ (0 : Int32).toInt) ∧ ((0 : Int32).toInt ≤ 1) ∧ ((0 : Int32).toInt = 0 ∨ 2 ≤ (w.1 60 a0.toInt.toNat).toInt ∨ (0 ≤ (w.1 57 a0.toInt.toNat).toInt ∧ (w.1 57 a0.toInt.toNat).toInt < (w.1 8 0).toInt ∧ 0 ≤ (w.1 58 a0.toInt.toNat).toInt ∧ (w.1 58 a0.toInt.toNat).toInt < (w.1 8 0).toInt)) ∧ ((0 : Int32).toInt = 0 ∨ ¬ (w.1 60 a0.toInt.toNat).toInt = 2 ∨ (0 ≤ (w.1 57 a0.toInt.toNat).toInt ∧ (w.1 57 a0.toInt.toNat).toInt < (w.1 8 0).toInt)) ∧ ((0 : Int32).toInt = 0 ∨ (w.1 60 a0.toInt.toNat).toInt ≤ 2 ∨ (0 ≤ (w.1 57 a0.toInt.toNat).toInt ∧ (w.1 57 a0.toInt.toNat).toInt < (w.1 8 0).toInt + (w.1 8 1).toInt)) ∧ ((0 : Int32).toInt = 0 ∨ 0 ≤ (w.1 60 a0.toInt.toNat).toInt) := by have := (by decide : ((0 : Int32)).toInt = 0); have := bd_8_0 hI; have := bd_60 hI a0.toInt.toNat; have := hf_AC a0; have := bd_8_1 hI; have := (by decide : ((1 : Int32)).toInt = 1); exact ⟨by omega, by omega, by omega, by omega, by omega, by omega⟩
            exact hQ _ _ hI (FR.refl _ w)  o3451.1 o3451.2.1 o3451.2.2.1 o3451.2.2.2.1 o3451.2.2.2.2.1 o3451.2.2.2.2.2
          · refine ⟨fun h => absurd h (by decide), fun _ => ?_⟩
            have o3452 : 0 ≤ a0.toInt ∧ a0.toInt < 32 := by omega
            refine ⟨o3452, ?_⟩
            refine Eq.mpr (p_St_isTank.eq_1 _ _ _) ?_
            refine ⟨fun h3453 => ?_, fun h3453 => ?_⟩
            · refine ⟨fun _ => ?_, fun h => absurd (by decide) h⟩
              have o3454 : (0 ≤ (0 : Int32).toInt) ∧ ((0 : Int32).toInt ≤ 1) ∧ ((0 : Int32).toInt = 0 ∨ 2 ≤ (w.1 60 a0.toInt.toNat).toInt ∨ (0 ≤ (w.1 57 a0.toInt.toNat).toInt ∧ (w.1 57 a0.toInt.toNat).toInt < (w.1 8 0).toInt ∧ 0 ≤ (w.1 58 a0.toInt.toNat).toInt ∧ (w.1 58 a0.toInt.toNat).toInt < (w.1 8 0).toInt)) ∧ ((0 : Int32).toInt = 0 ∨ ¬ (w.1 60 a0.toInt.toNat).toInt = 2 ∨ (0 ≤ (w.1 57 a0.toInt.toNat).toInt ∧ (w.1 57 a0.toInt.toNat).toInt < (w.1 8 0).toInt)) ∧ ((0 : Int32).toInt = 0 ∨ (w.1 60 a0.toInt.toNat).toInt ≤ 2 ∨ (0 ≤ (w.1 57 a0.toInt.toNat).toInt ∧ (w.1 57 a0.toInt.toNat).toInt < (w.1 8 0).toInt + (w.1 8 1).toInt)) ∧ ((0 : Int32).toInt = 0 ∨ 0 ≤ (w.1 60 a0.toInt.toNat).toInt) := by have := (by decide : ((0 : Int32)).toInt = 0); have := bd_8_0 hI; have := bd_60 hI a0.toInt.toNat; have := hf_AC a0; have := bd_8_1 hI; have := (by decide : ((1 : Int32)).toInt = 1); exact ⟨by omega, by omega, by omega, by omega, by omega, by omega⟩
              exact hQ _ _ hI (FR.refl _ w)  o3454.1 o3454.2.1 o3454.2.2.1 o3454.2.2.2.1 o3454.2.2.2.2.1 o3454.2.2.2.2.2
            · refine ⟨hr_7_0, ?_⟩
              refine ⟨fun h3455 => ?_, fun h3455 => ?_⟩
              · refine ⟨fun _ => ?_, fun h => absurd (by decide) h⟩
                have o3456 : (0 ≤ (0 : Int32).toInt) ∧ ((0 : Int32).toInt ≤ 1) ∧ ((0 : Int32).toInt = 0 ∨ 2 ≤ (w.1 60 a0.toInt.toNat).toInt ∨ (0 ≤ (w.1 57 a0.toInt.toNat).toInt ∧ (w.1 57 a0.toInt.toNat).toInt < (w.1 8 0).toInt ∧ 0 ≤ (w.1 58 a0.toInt.toNat).toInt ∧ (w.1 58 a0.toInt.toNat).toInt < (w.1 8 0).toInt)) ∧ ((0 : Int32).toInt = 0 ∨ ¬ (w.1 60 a0.toInt.toNat).toInt = 2 ∨ (0 ≤ (w.1 57 a0.toInt.toNat).toInt ∧ (w.1 57 a0.toInt.toNat).toInt < (w.1 8 0).toInt)) ∧ ((0 : Int32).toInt = 0 ∨ (w.1 60 a0.toInt.toNat).toInt ≤ 2 ∨ (0 ≤ (w.1 57 a0.toInt.toNat).toInt ∧ (w.1 57 a0.toInt.toNat).toInt < (w.1 8 0).toInt + (w.1 8 1).toInt)) ∧ ((0 : Int32).toInt = 0 ∨ 0 ≤ (w.1 60 a0.toInt.toNat).toInt) := by have := (by decide : ((0 : Int32)).toInt = 0); have := bd_8_0 hI; have := bd_60 hI a0.toInt.toNat; have := hf_AC a0; have := bd_8_1 hI; have := (by decide : ((1 : Int32)).toInt = 1); exact ⟨by omega, by omega, by omega, by omega, by omega, by omega⟩
                exact hQ _ _ hI (FR.refl _ w)  o3456.1 o3456.2.1 o3456.2.2.1 o3456.2.2.2.1 o3456.2.2.2.2.1 o3456.2.2.2.2.2
              · refine ⟨hr_7_0, ?_⟩
                have o3457 : 0 ≤ (w.1 58 a0.toInt.toNat).toInt ∧ (w.1 58 a0.toInt.toNat).toInt < 20 := by have := bd_60 hI a0.toInt.toNat; have := hf_AC a0; have := (by decide : ((0 : Int32)).toInt = 0); have := bd_8_0 hI; omega
                refine ⟨o3457, ?_⟩
                refine ⟨fun h3458 => ?_, fun h3458 => ?_⟩
                · refine ⟨fun _ => ?_, fun h => absurd (by decide) h⟩
                  have o3459 : (0 ≤ (0 : Int32).toInt) ∧ ((0 : Int32).toInt ≤ 1) ∧ ((0 : Int32).toInt = 0 ∨ 2 ≤ (w.1 60 a0.toInt.toNat).toInt ∨ (0 ≤ (w.1 57 a0.toInt.toNat).toInt ∧ (w.1 57 a0.toInt.toNat).toInt < (w.1 8 0).toInt ∧ 0 ≤ (w.1 58 a0.toInt.toNat).toInt ∧ (w.1 58 a0.toInt.toNat).toInt < (w.1 8 0).toInt)) ∧ ((0 : Int32).toInt = 0 ∨ ¬ (w.1 60 a0.toInt.toNat).toInt = 2 ∨ (0 ≤ (w.1 57 a0.toInt.toNat).toInt ∧ (w.1 57 a0.toInt.toNat).toInt < (w.1 8 0).toInt)) ∧ ((0 : Int32).toInt = 0 ∨ (w.1 60 a0.toInt.toNat).toInt ≤ 2 ∨ (0 ≤ (w.1 57 a0.toInt.toNat).toInt ∧ (w.1 57 a0.toInt.toNat).toInt < (w.1 8 0).toInt + (w.1 8 1).toInt)) ∧ ((0 : Int32).toInt = 0 ∨ 0 ≤ (w.1 60 a0.toInt.toNat).toInt) := by have := (by decide : ((0 : Int32)).toInt = 0); have := bd_8_0 hI; have := bd_60 hI a0.toInt.toNat; have := hf_AC a0; have := bd_8_1 hI; have := (by decide : ((1 : Int32)).toInt = 1); exact ⟨by omega, by omega, by omega, by omega, by omega, by omega⟩
                  exact hQ _ _ hI (FR.refl _ w)  o3459.1 o3459.2.1 o3459.2.2.1 o3459.2.2.2.1 o3459.2.2.2.2.1 o3459.2.2.2.2.2
                · refine ⟨fun h => absurd h (by decide), fun _ => ?_⟩
                  have o3460 : 0 ≤ a0.toInt ∧ a0.toInt < 32 := by omega
                  refine ⟨o3460, ?_⟩
                  have o3461 : 0 ≤ a0.toInt ∧ a0.toInt < 32 := by omega
                  refine ⟨o3461, ?_⟩
                  refine ⟨fun h3462 => ?_, fun h3462 => ?_⟩
                  · have o3463 : (0 ≤ (0 : Int32).toInt) ∧ ((0 : Int32).toInt ≤ 1) ∧ ((0 : Int32).toInt = 0 ∨ 2 ≤ (w.1 60 a0.toInt.toNat).toInt ∨ (0 ≤ (w.1 57 a0.toInt.toNat).toInt ∧ (w.1 57 a0.toInt.toNat).toInt < (w.1 8 0).toInt ∧ 0 ≤ (w.1 58 a0.toInt.toNat).toInt ∧ (w.1 58 a0.toInt.toNat).toInt < (w.1 8 0).toInt)) ∧ ((0 : Int32).toInt = 0 ∨ ¬ (w.1 60 a0.toInt.toNat).toInt = 2 ∨ (0 ≤ (w.1 57 a0.toInt.toNat).toInt ∧ (w.1 57 a0.toInt.toNat).toInt < (w.1 8 0).toInt)) ∧ ((0 : Int32).toInt = 0 ∨ (w.1 60 a0.toInt.toNat).toInt ≤ 2 ∨ (0 ≤ (w.1 57 a0.toInt.toNat).toInt ∧ (w.1 57 a0.toInt.toNat).toInt < (w.1 8 0).toInt + (w.1 8 1).toInt)) ∧ ((0 : Int32).toInt = 0 ∨ 0 ≤ (w.1 60 a0.toInt.toNat).toInt) := by have := (by decide : ((0 : Int32)).toInt = 0); have := bd_8_0 hI; have := bd_60 hI a0.toInt.toNat; have := hf_AC a0; have := bd_8_1 hI; have := (by decide : ((1 : Int32)).toInt = 1); exact ⟨by omega, by omega, by omega, by omega, by omega, by omega⟩
                    exact hQ _ _ hI (FR.refl _ w)  o3463.1 o3463.2.1 o3463.2.2.1 o3463.2.2.2.1 o3463.2.2.2.2.1 o3463.2.2.2.2.2
                  · have o3464 : (0 ≤ (1 : Int32).toInt) ∧ ((1 : Int32).toInt ≤ 1) ∧ ((1 : Int32).toInt = 0 ∨ 2 ≤ (w.1 60 a0.toInt.toNat).toInt ∨ (0 ≤ (w.1 57 a0.toInt.toNat).toInt ∧ (w.1 57 a0.toInt.toNat).toInt < (w.1 8 0).toInt ∧ 0 ≤ (w.1 58 a0.toInt.toNat).toInt ∧ (w.1 58 a0.toInt.toNat).toInt < (w.1 8 0).toInt)) ∧ ((1 : Int32).toInt = 0 ∨ ¬ (w.1 60 a0.toInt.toNat).toInt = 2 ∨ (0 ≤ (w.1 57 a0.toInt.toNat).toInt ∧ (w.1 57 a0.toInt.toNat).toInt < (w.1 8 0).toInt)) ∧ ((1 : Int32).toInt = 0 ∨ (w.1 60 a0.toInt.toNat).toInt ≤ 2 ∨ (0 ≤ (w.1 57 a0.toInt.toNat).toInt ∧ (w.1 57 a0.toInt.toNat).toInt < (w.1 8 0).toInt + (w.1 8 1).toInt)) ∧ ((1 : Int32).toInt = 0 ∨ 0 ≤ (w.1 60 a0.toInt.toNat).toInt) := by have := (by decide : ((1 : Int32)).toInt = 1); have := bd_8_0 hI; have := bd_60 hI a0.toInt.toNat; have := hf_AC a0; have := bd_8_1 hI; have := (by decide : ((0 : Int32)).toInt = 0); exact ⟨by omega, by omega, by omega, by omega, by omega, by omega⟩
                    exact hQ _ _ hI (FR.refl _ w)  o3464.1 o3464.2.1 o3464.2.2.1 o3464.2.2.2.1 o3464.2.2.2.2.1 o3464.2.2.2.2.2
    · refine ⟨fun h3465 => ?_, fun h3465 => ?_⟩
      · have o3466 : 0 ≤ a0.toInt ∧ a0.toInt < 32 := by omega
        refine ⟨o3466, ?_⟩
        refine Eq.mpr (p_St_isValve.eq_1 _ _ _) ?_
        refine ⟨fun h3467 => ?_, fun h3467 => ?_⟩
        · have o3468 : (0 ≤ (0 : Int32).toInt) ∧ ((0 : Int32).toInt ≤ 1) ∧ ((0 : Int32).toInt = 0 ∨ 2 ≤ (w.1 60 a0.toInt.toNat).toInt ∨ (0 ≤ (w.1 57 a0.toInt.toNat).toInt ∧ (w.1 57 a0.toInt.toNat).toInt < (w.1 8 0).toInt ∧ 0 ≤ (w.1 58 a0.toInt.toNat).toInt ∧ (w.1 58 a0.toInt.toNat).toInt < (w.1 8 0).toInt)) ∧ ((0 : Int32).toInt = 0 ∨ ¬ (w.1 60 a0.toInt.toNat).toInt = 2 ∨ (0 ≤ (w.1 57 a0.toInt.toNat).toInt ∧ (w.1 57 a0.toInt.toNat).toInt < (w.1 8 0).toInt)) ∧ ((0 : Int32).toInt = 0 ∨ (w.1 60 a0.toInt.toNat).toInt ≤ 2 ∨ (0 ≤ (w.1 57 a0.toInt.toNat).toInt ∧ (w.1 57 a0.toInt.toNat).toInt < (w.1 8 0).toInt + (w.1 8 1).toInt)) ∧ ((0 : Int32).toInt = 0 ∨ 0 ≤ (w.1 60 a0.toInt.toNat).toInt) := by have := (by decide : ((0 : Int32)).toInt = 0); have := bd_8_0 hI; have := bd_60 hI a0.toInt.toNat; have := hf_AC a0; have := bd_8_1 hI; have := (by decide : ((1 : Int32)).toInt = 1); have := (by decide : ((2 : Int32)).toInt = 2); exact ⟨by omega, by omega, by omega, by omega, by omega, by omega⟩
          exact hQ _ _ hI (FR.refl _ w)  o3468.1 o3468.2.1 o3468.2.2.1 o3468.2.2.2.1 o3468.2.2.2.2.1 o3468.2.2.2.2.2
        · refine ⟨hr_7_0, ?_⟩
          refine ⟨fun h3469 => ?_, fun h3469 => ?_⟩
          · have o3470 : (0 ≤ (0 : Int32).toInt) ∧ ((0 : Int32).toInt ≤ 1) ∧ ((0 : Int32).toInt = 0 ∨ 2 ≤ (w.1 60 a0.toInt.toNat).toInt ∨ (0 ≤ (w.1 57 a0.toInt.toNat).toInt ∧ (w.1 57 a0.toInt.toNat).toInt < (w.1 8 0).toInt ∧ 0 ≤ (w.1 58 a0.toInt.toNat).toInt ∧ (w.1 58 a0.toInt.toNat).toInt < (w.1 8 0).toInt)) ∧ ((0 : Int32).toInt = 0 ∨ ¬ (w.1 60 a0.toInt.toNat).toInt = 2 ∨ (0 ≤ (w.1 57 a0.toInt.toNat).toInt ∧ (w.1 57 a0.toInt.toNat).toInt < (w.1 8 0).toInt)) ∧ ((0 : Int32).toInt = 0 ∨ (w.1 60 a0.toInt.toNat).toInt ≤ 2 ∨ (0 ≤ (w.1 57 a0.toInt.toNat).toInt ∧ (w.1 57 a0.toInt.toNat).toInt < (w.1 8 0).toInt + (w.1 8 1).toInt)) ∧ ((0 : Int32).toInt = 0 ∨ 0 ≤ (w.1 60 a0.toInt.toNat).toInt) := by have := (by decide : ((0 : Int32)).toInt = 0); have := bd_8_0 hI; have := bd_60 hI a0.toInt.toNat; have := hf_AC a0; have := bd_8_1 hI; have := (by decide : ((1 : Int32)).toInt = 1); have := (by decide : ((2 : Int32)).toInt = 2); exact ⟨by omega, by omega, by omega, by omega, by omega, by omega⟩
            exact hQ _ _ hI (FR.refl _ w)  o3470.1 o3470.2.1 o3470.2.2.1 o3470.2.2.2.1 o3470.2.2.2.2.1 o3470.2.2.2.2.2
          · refine ⟨hr_7_0, ?_⟩
            have o3471 : 0 ≤ (w.1 57 a0.toInt.toNat).toInt ∧ (w.1 57 a0.toInt.toNat).toInt < 20 := by have := (by decide : ((0 : Int32)).toInt = 0); have := bd_8_0 hI; omega
            refine ⟨o3471, ?_⟩
            refine ⟨fun h3472 => ?_, fun h3472 => ?_⟩
            · have o3473 : (0 ≤ (0 : Int32).toInt) ∧ ((0 : Int32).toInt ≤ 1) ∧ ((0 : Int32).toInt = 0 ∨ 2 ≤ (w.1 60 a0.toInt.toNat).toInt ∨ (0 ≤ (w.1 57 a0.toInt.toNat).toInt ∧ (w.1 57 a0.toInt.toNat).toInt < (w.1 8 0).toInt ∧ 0 ≤ (w.1 58 a0.toInt.toNat).toInt ∧ (w.1 58 a0.toInt.toNat).toInt < (w.1 8 0).toInt)) ∧ ((0 : Int32).toInt = 0 ∨ ¬ (w.1 60 a0.toInt.toNat).toInt = 2 ∨ (0 ≤ (w.1 57 a0.toInt.toNat).toInt ∧ (w.1 57 a0.toInt.toNat).toInt < (w.1 8 0).toInt)) ∧ ((0 : Int32).toInt = 0 ∨ (w.1 60 a0.toInt.toNat).toInt ≤ 2 ∨ (0 ≤ (w.1 57 a0.toInt.toNat).toInt ∧ (w.1 57 a0.toInt.toNat).toInt < (w.1 8 0).toInt + (w.1 8 1).toInt)) ∧ ((0 : Int32).toInt = 0 ∨ 0 ≤ (w.1 60 a0.toInt.toNat).toInt) := by have := (by decide : ((0 : Int32)).toInt = 0); have := bd_8_0 hI; have := bd_60 hI a0.toInt.toNat; have := hf_AC a0; have := bd_8_1 hI; have := (by decide : ((1 : Int32)).toInt = 1); have := (by decide : ((2 : Int32)).toInt = 2); exact ⟨by omega, by omega, by omega, by omega, by omega, by omega⟩
              exact hQ _ _ hI (FR.refl _ w)  o3473.1 o3473.2.1 o3473.2.2.1 o3473.2.2.2.1 o3473.2.2.2.2.1 o3473.2.2.2.2.2
            · have o3474 : (0 ≤ (1 : Int32).toInt) ∧ ((1 : Int32).toInt ≤ 1) ∧ ((1 : Int32).toInt = 0 ∨ 2 ≤ (w.1 60 a0.toInt.toNat).toInt ∨ (0 ≤ (w.1 57 a0.toInt.toNat).toInt ∧ (w.1 57 a0.toInt.toNat).toInt < (w.1 8 0).toInt ∧ 0 ≤ (w.1 58 a0.toInt.toNat).toInt ∧ (w.1 58 a0.toInt.toNat).toInt < (w.1 8 0).toInt)) ∧ ((1 : Int32).toInt = 0 ∨ ¬ (w.1 60 a0.toInt.toNat).toInt = 2 ∨ (0 ≤ (w.1 57 a0.toInt.toNat).toInt ∧ (w.1 57 a0.toInt.toNat).toInt < (w.1 8 0).toInt)) ∧ ((1 : Int32).toInt = 0 ∨ (w.1 60 a0.toInt.toNat).toInt ≤ 2 ∨ (0 ≤ (w.1 57 a0.toInt.toNat).toInt ∧ (w.1 57 a0.toInt.toNat).toInt < (w.1 8 0).toInt + (w.1 8 1).toInt)) ∧ ((1 : Int32).toInt = 0 ∨ 0 ≤ (w.1 60 a0.toInt.toNat).toInt) := by have := (by decide : ((1 : Int32)).toInt = 1); have := bd_8_0 hI; have := bd_60 hI a0.toInt.toNat; have := hf_AC a0; have := bd_8_1 hI; have := (by decide : ((0 : Int32)).toInt = 0); have := (by decide : ((2 : Int32)).toInt = 2); exact ⟨by omega, by omega, by omega, by omega, by omega, by omega⟩
              exact hQ _ _ hI (FR.refl _ w)  o3474.1 o3474.2.1 o3474.2.2.1 o3474.2.2.2.1 o3474.2.2.2.2.1 o3474.2.2.2.2.2
      · refine ⟨fun h3475 => ?_, fun h3475 => ?_⟩
        · have o3476 : 0 ≤ a0.toInt ∧ a0.toInt < 32 := by omega
          refine ⟨o3476, ?_⟩
          refine h_St_isHolder hI hr_7_0  (fun r3480 w3477 hI3478 hL3479 p3481 p3482 p3483 => ?_)
          have hF3484 : FR l_Ac_isBound w w3477 := (FR.refl _ w).tr hL3479 rfl
          have o3485 : (0 ≤ r3480.toInt) ∧ (r3480.toInt ≤ 1) ∧ (r3480.toInt = 0 ∨ 2 ≤ (w.1 60 a0.toInt.toNat).toInt ∨ (0 ≤ (w.1 57 a0.toInt.toNat).toInt ∧ (w.1 57 a0.toInt.toNat).toInt < (w.1 8 0).toInt ∧ 0 ≤ (w.1 58 a0.toInt.toNat).toInt ∧ (w.1 58 a0.toInt.toNat).toInt < (w.1 8 0).toInt)) ∧ (r3480.toInt = 0 ∨ ¬ (w.1 60 a0.toInt.toNat).toInt = 2 ∨ (0 ≤ (w.1 57 a0.toInt.toNat).toInt ∧ (w.1 57 a0.toInt.toNat).toInt < (w.1 8 0).toInt)) ∧ (r3480.toInt = 0 ∨ (w.1 60 a0.toInt.toNat).toInt ≤ 2 ∨ (0 ≤ (w.1 57 a0.toInt.toNat).toInt ∧ (w.1 57 a0.toInt.toNat).toInt < (w.1 8 0).toInt + (w.1 8 1).toInt)) ∧ (r3480.toInt = 0 ∨ 0 ≤ (w.1 60 a0.toInt.toNat).toInt) := by have := bd_8_0 hI; have := bd_60 hI a0.toInt.toNat; have := hf_AC a0; have := bd_8_1 hI; have := (by decide : ((0 : Int32)).toInt = 0); have := (by decide : ((1 : Int32)).toInt = 1); have := (by decide : ((2 : Int32)).toInt = 2); have := (by decide : ((3 : Int32)).toInt = 3); exact ⟨by omega, by omega, by omega, by omega, by omega, by omega⟩
          exact hQ _ _ hI3478 hF3484  o3485.1 o3485.2.1 o3485.2.2.1 o3485.2.2.2.1 o3485.2.2.2.2.1 o3485.2.2.2.2.2
        · refine ⟨fun h3486 => ?_, fun h3486 => ?_⟩
          · have o3487 : 0 ≤ a0.toInt ∧ a0.toInt < 32 := by omega
            refine ⟨o3487, ?_⟩
            refine h_St_isHolder hI hr_7_0  (fun r3491 w3488 hI3489 hL3490 p3492 p3493 p3494 => ?_)
            have hF3495 : FR l_Ac_isBound w w3488 := (FR.refl _ w).tr hL3490 rfl
            have o3496 : (0 ≤ r3491.toInt) ∧ (r3491.toInt ≤ 1) ∧ (r3491.toInt = 0 ∨ 2 ≤ (w.1 60 a0.toInt.toNat).toInt ∨ (0 ≤ (w.1 57 a0.toInt.toNat).toInt ∧ (w.1 57 a0.toInt.toNat).toInt < (w.1 8 0).toInt ∧ 0 ≤ (w.1 58 a0.toInt.toNat).toInt ∧ (w.1 58 a0.toInt.toNat).toInt < (w.1 8 0).toInt)) ∧ (r3491.toInt = 0 ∨ ¬ (w.1 60 a0.toInt.toNat).toInt = 2 ∨ (0 ≤ (w.1 57 a0.toInt.toNat).toInt ∧ (w.1 57 a0.toInt.toNat).toInt < (w.1 8 0).toInt)) ∧ (r3491.toInt = 0 ∨ (w.1 60 a0.toInt.toNat).toInt ≤ 2 ∨ (0 ≤ (w.1 57 a0.toInt.toNat).toInt ∧ (w.1 57 a0.toInt.toNat).toInt < (w.1 8 0).toInt + (w.1 8 1).toInt)) ∧ (r3491.toInt = 0 ∨ 0 ≤ (w.1 60 a0.toInt.toNat).toInt) := by have := bd_8_0 hI; have := bd_60 hI a0.toInt.toNat; have := hf_AC a0; have := bd_8_1 hI; have := (by decide : ((0 : Int32)).toInt = 0); have := (by decide : ((1 : Int32)).toInt = 1); have := (by decide : ((2 : Int32)).toInt = 2); have := (by decide : ((3 : Int32)).toInt = 3); have := (by decide : ((4 : Int32)).toInt = 4); exact ⟨by omega, by omega, by omega, by omega, by omega, by omega⟩
            exact hQ _ _ hI3489 hF3495  o3496.1 o3496.2.1 o3496.2.2.1 o3496.2.2.2.1 o3496.2.2.2.2.1 o3496.2.2.2.2.2
          · have o3497 : (0 ≤ (0 : Int32).toInt) ∧ ((0 : Int32).toInt ≤ 1) ∧ ((0 : Int32).toInt = 0 ∨ 2 ≤ (w.1 60 a0.toInt.toNat).toInt ∨ (0 ≤ (w.1 57 a0.toInt.toNat).toInt ∧ (w.1 57 a0.toInt.toNat).toInt < (w.1 8 0).toInt ∧ 0 ≤ (w.1 58 a0.toInt.toNat).toInt ∧ (w.1 58 a0.toInt.toNat).toInt < (w.1 8 0).toInt)) ∧ ((0 : Int32).toInt = 0 ∨ ¬ (w.1 60 a0.toInt.toNat).toInt = 2 ∨ (0 ≤ (w.1 57 a0.toInt.toNat).toInt ∧ (w.1 57 a0.toInt.toNat).toInt < (w.1 8 0).toInt)) ∧ ((0 : Int32).toInt = 0 ∨ (w.1 60 a0.toInt.toNat).toInt ≤ 2 ∨ (0 ≤ (w.1 57 a0.toInt.toNat).toInt ∧ (w.1 57 a0.toInt.toNat).toInt < (w.1 8 0).toInt + (w.1 8 1).toInt)) ∧ ((0 : Int32).toInt = 0 ∨ 0 ≤ (w.1 60 a0.toInt.toNat).toInt) := by have := (by decide : ((0 : Int32)).toInt = 0); have := bd_8_0 hI; have := bd_60 hI a0.toInt.toNat; have := hf_AC a0; have := bd_8_1 hI; have := (by decide : ((1 : Int32)).toInt = 1); have := (by decide : ((2 : Int32)).toInt = 2); have := (by decide : ((3 : Int32)).toInt = 3); have := (by decide : ((4 : Int32)).toInt = 4); exact ⟨by omega, by omega, by omega, by omega, by omega, by omega⟩
            exact hQ _ _ hI (FR.refl _ w)  o3497.1 o3497.2.1 o3497.2.2.1 o3497.2.2.2.1 o3497.2.2.2.2.1 o3497.2.2.2.2.2
