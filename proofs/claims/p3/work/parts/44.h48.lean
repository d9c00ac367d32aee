def l_Mo_isSafe_73 : Pl := [(127, some 45), (127, some 46), (127, some 47), (127, some 48), (167, none), (195, none), (196, none)]
def l_Mo_isSafe_30 : Pl := [(127, some 45), (127, some 46), (127, some 47), (127, some 48), (167, none), (195, none), (196, none)]
def l_Mo_isSafe_8 : Pl := [(127, some 45), (127, some 46), (127, some 47), (127, some 48), (167, none), (195, none), (196, none)]
def l_Mo_isSafe : Pl := [(127, some 45), (127, some 46), (127, some 47), (127, some 48), (167, none), (195, none), (196, none)]
set_option maxRecDepth 20000 in
set_option maxHeartbeats 2000000 in
theorem hq_Mo_isSafe_30 {x30_2 : Int32} {x30_3 : Int32} {E : Int32 → MW → Prop} {Q : Int32 → MW → Prop} (n : Nat) : ∀ (x30_1 : Int32) (x30_4 : Int32) (w : MW), BND w → 0 ≤ x30_2.toInt → x30_2.toInt ≤ 19 → 0 ≤ x30_3.toInt → x30_3.toInt ≤ 9 → 0 ≤ x30_1.toInt → x30_1.toInt ≤ 1 → 0 ≤ x30_4.toInt → x30_4.toInt ≤ 5 → (5 - x30_4.toInt).toNat < n → (∀ (e30_1 : Int32) (w' : MW), BND w' → FR l_Mo_isSafe_30 w w' → 0 ≤ e30_1.toInt → e30_1.toInt ≤ 1 → E e30_1 w') → (∀ (r : Int32) (w' : MW), BND w' → FR l_Mo_isSafe_30 w w' → False → Q r w') → q_Mo_isSafe_30 x30_2 x30_3 E Q n x30_1 x30_4 w := by
  induction n with
  | zero => intros; omega
  | succ n ih =>
    intro x30_1 x30_4 w hI  hp0 hp1 hp2 hp3 hp4 hp5 hp6 hp7 hm hE hQ
    rw [q_Mo_isSafe_30.eq_2]
    refine ⟨fun h13261 => ?_, fun h13261 => ?_⟩
    · have o13262 : (0 ≤ x30_1.toInt) ∧ (x30_1.toInt ≤ 1) := by exact ⟨by omega, by omega⟩
      exact hE _ _ hI (FR.refl _ w) o13262.1 o13262.2
    · have o13263 : 0 ≤ x30_2.toInt ∧ x30_2.toInt < 20 := by omega
      refine ⟨o13263, ?_⟩
      refine ⟨fun h13264 => ?_, fun h13264 => ?_⟩
      · have o13265 : (0 ≤ x30_1.toInt) ∧ (x30_1.toInt ≤ 1) := by exact ⟨by omega, by omega⟩
        exact hE _ _ hI (FR.refl _ w) o13265.1 o13265.2
      · refine ⟨fun h13266 => ?_, fun h13266 => ?_⟩
        · have o13267 : (0 ≤ x30_1.toInt) ∧ (x30_1.toInt ≤ 1) := by have := (by decide : ((0 : Int32)).toInt = 0); exact ⟨by omega, by omega⟩
          exact hE _ _ hI (FR.refl _ w) o13267.1 o13267.2
        · refine ⟨fun h13268 => ?_, fun h13268 => ?_⟩
          · have o13269 : (0 ≤ x30_2.toInt) ∧ (x30_2.toInt ≤ 19) ∧ (0 ≤ x30_3.toInt) ∧ (x30_3.toInt ≤ 9) ∧ (0 ≤ x30_1.toInt) ∧ (x30_1.toInt ≤ 1) ∧ (0 ≤ (x30_4 + (1 : Int32)).toInt) ∧ ((x30_4 + (1 : Int32)).toInt ≤ 5) := by have := (by decide : ((5 : Int32)).toInt = 5); have := (by decide : ((0 : Int32)).toInt = 0); have := ti_add2 (Eq.refl x30_4.toInt) (by decide : ((1 : Int32)).toInt = 1) (by omega) (by omega); exact ⟨by omega, by omega, by omega, by omega, by omega, by omega, by omega, by omega⟩
            exact ih _ _ w hI  o13269.1 o13269.2.1 o13269.2.2.1 o13269.2.2.2.1 o13269.2.2.2.2.1 o13269.2.2.2.2.2.1 o13269.2.2.2.2.2.2.1 o13269.2.2.2.2.2.2.2 (by have := (by decide : ((5 : Int32)).toInt = 5); have := (by decide : ((0 : Int32)).toInt = 0); have := ti_add2 (Eq.refl x30_4.toInt) (by decide : ((1 : Int32)).toInt = 1) (by omega) (by omega); omega) (fun e0 w9 hI9 hF9 p0 p1 => hE e0 w9 hI9 ((FR.refl _ w).tr hF9 rfl) p0 p1 ) (fun r w9 hI9 hF9 q0 => q0.elim)
          · have o13270 : 0 ≤ x30_2.toInt ∧ x30_2.toInt < 20 := by omega
            refine ⟨o13270, ?_⟩
            refine ⟨fun h13271 => ?_, fun h13271 => ?_⟩
            · refine Eq.mpr (q_Mo_isSafe_73.eq_1 _ _ _ _ _ _ _) ?_
              have o13272 : 0 ≤ x30_2.toInt ∧ x30_2.toInt < 20 := by omega
              refine ⟨o13272, ?_⟩
              have o13274 : 0 ≤ x30_4.toInt ∧ x30_4.toInt ≤ 9 := by have := (by decide : ((5 : Int32)).toInt = 5); omega
              have hI13273 : BND (sI w 167 x30_2.toInt.toNat x30_4) := wbd_167 hI x30_2.toInt.toNat o13274.1 o13274.2
              have o13275 : (1 ≤ (((2 : Int32) + ((10 : Int32) * x30_2)) + x30_4).toInt) ∧ ((((2 : Int32) + ((10 : Int32) * x30_2)) + x30_4).toInt ≤ 196) := by have := (by decide : ((5 : Int32)).toInt = 5); have := ti_mul2 (by decide : ((10 : Int32)).toInt = 10) (Eq.refl x30_2.toInt) (by omega) (by omega); have := ti_add2 (by decide : ((2 : Int32)).toInt = 2) (Eq.refl ((10 : Int32) * x30_2).toInt) (by omega) (by omega); have := ti_add2 (Eq.refl ((2 : Int32) + ((10 : Int32) * x30_2)).toInt) (Eq.refl x30_4.toInt) (by omega) (by omega); exact ⟨by omega, by omega⟩
              refine h_Mo_isCalm hI13273  o13275.1 o13275.2 (fun r13279 w13276 hI13277 hL13278 p13280 p13281 => ?_)
              have hF13282 : FR l_Mo_isSafe_30 w w13276 := (FR.I (FR.refl _ w) (k := 167) (j := x30_2.toInt.toNat) (v := x30_4) rfl).tr hL13278 rfl
              have o13283 : (0 ≤ x30_2.toInt) ∧ (x30_2.toInt ≤ 19) ∧ (0 ≤ x30_3.toInt) ∧ (x30_3.toInt ≤ 9) ∧ (0 ≤ r13279.toInt) ∧ (r13279.toInt ≤ 1) ∧ (0 ≤ (x30_4 + (1 : Int32)).toInt) ∧ ((x30_4 + (1 : Int32)).toInt ≤ 5) := by have := (by decide : ((5 : Int32)).toInt = 5); have := ti_add2 (Eq.refl x30_4.toInt) (by decide : ((1 : Int32)).toInt = 1) (by omega) (by omega); exact ⟨by omega, by omega, by omega, by omega, by omega, by omega, by omega, by omega⟩
              exact ih _ _ w13276 hI13277  o13283.1 o13283.2.1 o13283.2.2.1 o13283.2.2.2.1 o13283.2.2.2.2.1 o13283.2.2.2.2.2.1 o13283.2.2.2.2.2.2.1 o13283.2.2.2.2.2.2.2 (by have := (by decide : ((5 : Int32)).toInt = 5); have := ti_add2 (Eq.refl x30_4.toInt) (by decide : ((1 : Int32)).toInt = 1) (by omega) (by omega); omega) (fun e0 w9 hI9 hF9 p0 p1 => hE e0 w9 hI9 (hF13282.tr hF9 rfl) p0 p1 ) (fun r w9 hI9 hF9 q0 => q0.elim)
            · refine ⟨fun h13284 => ?_, fun h13284 => ?_⟩
              · have o13285 : (0 ≤ x30_2.toInt) ∧ (x30_2.toInt ≤ 19) ∧ (0 ≤ x30_3.toInt) ∧ (x30_3.toInt ≤ 9) ∧ (0 ≤ x30_1.toInt) ∧ (x30_1.toInt ≤ 1) ∧ (0 ≤ (x30_4 + (1 : Int32)).toInt) ∧ ((x30_4 + (1 : Int32)).toInt ≤ 5) := by have := (by decide : ((5 : Int32)).toInt = 5); have := (by decide : ((0 : Int32)).toInt = 0); have := (by decide : ((1 : Int32)).toInt = 1); have := ti_add2 (Eq.refl x30_4.toInt) (by decide : ((1 : Int32)).toInt = 1) (by omega) (by omega); exact ⟨by omega, by omega, by omega, by omega, by omega, by omega, by omega, by omega⟩
                exact ih _ _ w hI  o13285.1 o13285.2.1 o13285.2.2.1 o13285.2.2.2.1 o13285.2.2.2.2.1 o13285.2.2.2.2.2.1 o13285.2.2.2.2.2.2.1 o13285.2.2.2.2.2.2.2 (by have := (by decide : ((5 : Int32)).toInt = 5); have := (by decide : ((0 : Int32)).toInt = 0); have := (by decide : ((1 : Int32)).toInt = 1); have := ti_add2 (Eq.refl x30_4.toInt) (by decide : ((1 : Int32)).toInt = 1) (by omega) (by omega); omega) (fun e0 w9 hI9 hF9 p0 p1 => hE e0 w9 hI9 ((FR.refl _ w).tr hF9 rfl) p0 p1 ) (fun r w9 hI9 hF9 q0 => q0.elim)
              · refine Eq.mpr (q_Mo_isSafe_73.eq_1 _ _ _ _ _ _ _) ?_
                have o13286 : 0 ≤ x30_2.toInt ∧ x30_2.toInt < 20 := by omega
                refine ⟨o13286, ?_⟩
                have o13288 : 0 ≤ x30_4.toInt ∧ x30_4.toInt ≤ 9 := by have := (by decide : ((5 : Int32)).toInt = 5); have := (by decide : ((1 : Int32)).toInt = 1); omega
                have hI13287 : BND (sI w 167 x30_2.toInt.toNat x30_4) := wbd_167 hI x30_2.toInt.toNat o13288.1 o13288.2
                have o13289 : (1 ≤ (((2 : Int32) + ((10 : Int32) * x30_2)) + x30_4).toInt) ∧ ((((2 : Int32) + ((10 : Int32) * x30_2)) + x30_4).toInt ≤ 196) := by have := (by decide : ((5 : Int32)).toInt = 5); have := (by decide : ((1 : Int32)).toInt = 1); have := ti_mul2 (by decide : ((10 : Int32)).toInt = 10) (Eq.refl x30_2.toInt) (by omega) (by omega); have := ti_add2 (by decide : ((2 : Int32)).toInt = 2) (Eq.refl ((10 : Int32) * x30_2).toInt) (by omega) (by omega); have := ti_add2 (Eq.refl ((2 : Int32) + ((10 : Int32) * x30_2)).toInt) (Eq.refl x30_4.toInt) (by omega) (by omega); exact ⟨by omega, by omega⟩
                refine h_Mo_isCalm hI13287  o13289.1 o13289.2 (fun r13293 w13290 hI13291 hL13292 p13294 p13295 => ?_)
                have hF13296 : FR l_Mo_isSafe_30 w w13290 := (FR.I (FR.refl _ w) (k := 167) (j := x30_2.toInt.toNat) (v := x30_4) rfl).tr hL13292 rfl
                have o13297 : (0 ≤ x30_2.toInt) ∧ (x30_2.toInt ≤ 19) ∧ (0 ≤ x30_3.toInt) ∧ (x30_3.toInt ≤ 9) ∧ (0 ≤ r13293.toInt) ∧ (r13293.toInt ≤ 1) ∧ (0 ≤ (x30_4 + (1 : Int32)).toInt) ∧ ((x30_4 + (1 : Int32)).toInt ≤ 5) := by have := (by decide : ((5 : Int32)).toInt = 5); have := (by decide : ((1 : Int32)).toInt = 1); have := ti_add2 (Eq.refl x30_4.toInt) (by decide : ((1 : Int32)).toInt = 1) (by omega) (by omega); exact ⟨by omega, by omega, by omega, by omega, by omega, by omega, by omega, by omega⟩
                exact ih _ _ w13290 hI13291  o13297.1 o13297.2.1 o13297.2.2.1 o13297.2.2.2.1 o13297.2.2.2.2.1 o13297.2.2.2.2.2.1 o13297.2.2.2.2.2.2.1 o13297.2.2.2.2.2.2.2 (by have := (by decide : ((5 : Int32)).toInt = 5); have := (by decide : ((1 : Int32)).toInt = 1); have := ti_add2 (Eq.refl x30_4.toInt) (by decide : ((1 : Int32)).toInt = 1) (by omega) (by omega); omega) (fun e0 w9 hI9 hF9 p0 p1 => hE e0 w9 hI9 (hF13296.tr hF9 rfl) p0 p1 ) (fun r w9 hI9 hF9 q0 => q0.elim)
set_option maxRecDepth 20000 in
set_option maxHeartbeats 2000000 in
theorem hq_Mo_isSafe_8 {E : Int32 → MW → Prop} {Q : Int32 → MW → Prop} (n : Nat) : ∀ (x8_1 : Int32) (x8_2 : Int32) (w : MW), BND w → 0 ≤ x8_1.toInt → x8_1.toInt ≤ 1 → 0 ≤ x8_2.toInt → x8_2.toInt ≤ 20 → (20 - x8_2.toInt).toNat < n → (∀ (e8_1 : Int32) (w' : MW), BND w' → FR l_Mo_isSafe_8 w w' → 0 ≤ e8_1.toInt → e8_1.toInt ≤ 1 → E e8_1 w') → (∀ (r : Int32) (w' : MW), BND w' → FR l_Mo_isSafe_8 w w' → False → Q r w') → q_Mo_isSafe_8 E Q n x8_1 x8_2 w := by
  induction n with
  | zero => intros; omega
  | succ n ih =>
    intro x8_1 x8_2 w hI  hp0 hp1 hp2 hp3 hm hE hQ
    rw [q_Mo_isSafe_8.eq_2]
    refine ⟨fun h13298 => ?_, fun h13298 => ?_⟩
    · have o13299 : (0 ≤ x8_1.toInt) ∧ (x8_1.toInt ≤ 1) := by exact ⟨by omega, by omega⟩
      exact hE _ _ hI (FR.refl _ w) o13299.1 o13299.2
    · refine ⟨fun h13300 => ?_, fun h13300 => ?_⟩
      · have o13301 : (0 ≤ x8_1.toInt) ∧ (x8_1.toInt ≤ 1) := by have := (by decide : ((0 : Int32)).toInt = 0); exact ⟨by omega, by omega⟩
        exact hE _ _ hI (FR.refl _ w) o13301.1 o13301.2
      · have o13302 : 0 ≤ x8_2.toInt ∧ x8_2.toInt < 20 := by have := bd_127_4 hI; omega
        refine ⟨o13302, ?_⟩
        have o13303 : (0 ≤ x8_2.toInt) ∧ (x8_2.toInt ≤ 19) ∧ (0 ≤ (w.1 167 x8_2.toInt.toNat).toInt) ∧ ((w.1 167 x8_2.toInt.toNat).toInt ≤ 9) ∧ (0 ≤ x8_1.toInt) ∧ (x8_1.toInt ≤ 1) ∧ (0 ≤ (0 : Int32).toInt) ∧ ((0 : Int32).toInt ≤ 5) := by have := bd_167 hI x8_2.toInt.toNat; have := (by decide : ((0 : Int32)).toInt = 0); have := bd_127_4 hI; exact ⟨by omega, by omega, by omega, by omega, by omega, by omega, by omega, by omega⟩
        refine hq_Mo_isSafe_30 FU _ _ w hI  o13303.1 o13303.2.1 o13303.2.2.1 o13303.2.2.2.1 o13303.2.2.2.2.1 o13303.2.2.2.2.2.1 o13303.2.2.2.2.2.2.1 o13303.2.2.2.2.2.2.2 (fu_lt (by have := bd_167 hI x8_2.toInt.toNat; have := (by decide : ((0 : Int32)).toInt = 0); have := bd_127_4 hI; omega)) (fun e13307 w13304 hI13305 hL13306 p13308 p13309 => ?_) (fun r w9 hI9 hF9 q0 => q0.elim)
        have hF13310 : FR l_Mo_isSafe_8 w w13304 := (FR.refl _ w).tr hL13306 rfl
        have o13311 : 0 ≤ x8_2.toInt ∧ x8_2.toInt < 20 := by have := bd_127_4 hI; omega
        refine ⟨o13311, ?_⟩
        have o13313 : 0 ≤ (w.1 167 x8_2.toInt.toNat).toInt ∧ (w.1 167 x8_2.toInt.toNat).toInt ≤ 9 := by have := bd_167 hI x8_2.toInt.toNat; omega
        have hI13312 : BND (sI w13304 167 x8_2.toInt.toNat (w.1 167 x8_2.toInt.toNat)) := wbd_167 hI13305 x8_2.toInt.toNat o13313.1 o13313.2
        have o13314 : (0 ≤ e13307.toInt) ∧ (e13307.toInt ≤ 1) ∧ (0 ≤ (x8_2 + (1 : Int32)).toInt) ∧ ((x8_2 + (1 : Int32)).toInt ≤ 20) := by have := bd_127_4 hI; have := ti_add2 (Eq.refl x8_2.toInt) (by decide : ((1 : Int32)).toInt = 1) (by omega) (by omega); exact ⟨by omega, by omega, by omega, by omega⟩
        exact ih _ _ (sI w13304 167 x8_2.toInt.toNat (w.1 167 x8_2.toInt.toNat)) hI13312  o13314.1 o13314.2.1 o13314.2.2.1 o13314.2.2.2 (by have := bd_127_4 hI; have := ti_add2 (Eq.refl x8_2.toInt) (by decide : ((1 : Int32)).toInt = 1) (by omega) (by omega); omega) (fun e0 w9 hI9 hF9 p0 p1 => hE e0 w9 hI9 ((FR.I hF13310 (k := 167) (j := x8_2.toInt.toNat) (v := (w.1 167 x8_2.toInt.toNat)) rfl).tr hF9 rfl) p0 p1 ) (fun r w9 hI9 hF9 q0 => q0.elim)
set_option maxRecDepth 20000 in
set_option maxHeartbeats 2000000 in
theorem h_Mo_isSafe {w : MW} {Q : Int32 → MW → Prop} (hI : BND w)  (hQ : ∀ (r : Int32) (w' : MW), BND w' → FR l_Mo_isSafe w w' → 0 ≤ r.toInt → r.toInt ≤ 1 → Q r w') : p_Mo_isSafe w Q := by
  refine Eq.mpr (p_Mo_isSafe.eq_1 _ _) ?_
  have o13315 : (1 ≤ (1 : Int32).toInt) ∧ ((1 : Int32).toInt ≤ 196) := by have := (by decide : ((1 : Int32)).toInt = 1); exact ⟨by omega, by omega⟩
  refine h_Mo_isCalm hI  o13315.1 o13315.2 (fun r13319 w13316 hI13317 hL13318 p13320 p13321 => ?_)
  have hF13322 : FR l_Mo_isSafe w w13316 := (FR.refl _ w).tr hL13318 rfl
  have o13323 : (0 ≤ r13319.toInt) ∧ (r13319.toInt ≤ 1) ∧ (0 ≤ (0 : Int32).toInt) ∧ ((0 : Int32).toInt ≤ 20) := by have := (by decide : ((0 : Int32)).toInt = 0); exact ⟨by omega, by omega, by omega, by omega⟩
  refine hq_Mo_isSafe_8 FU _ _ w13316 hI13317  o13323.1 o13323.2.1 o13323.2.2.1 o13323.2.2.2 (fu_lt (by have := (by decide : ((0 : Int32)).toInt = 0); omega)) (fun e13327 w13324 hI13325 hL13326 p13328 p13329 => ?_) (fun r w9 hI9 hF9 q0 => q0.elim)
  have hF13330 : FR l_Mo_isSafe w w13324 := hF13322.tr hL13326 rfl
  have o13331 : e13327.toInt = 0 ∨ e13327.toInt = 1 := by omega
  refine ⟨o13331, ?_⟩
  have o13332 : (0 ≤ e13327.toInt) ∧ (e13327.toInt ≤ 1) := by exact ⟨by omega, by omega⟩
  exact hQ _ _ hI13325 hF13330  o13332.1 o13332.2
def l_Mo_liquidIn_49 : Pl := []
def l_Mo_liquidIn : Pl := []
set_option maxRecDepth 20000 in
set_option maxHeartbeats 2000000 in
theorem hq_Mo_liquidIn_49 {x49_2 : Int32} {E : Int32 → MW → Prop} {Q : Int32 → MW → Prop} (n : Nat) : ∀ (x49_3 : Int32) (x49_4 : Int32) (w : MW), BND w → 0 ≤ x49_2.toInt → x49_2.toInt ≤ 23 → 0 ≤ x49_3.toInt → x49_3.toInt ≤ 15 → 0 ≤ x49_4.toInt → x49_4.toInt ≤ 200 → (200 - x49_4.toInt).toNat < n → (∀ (e49_3 : Int32) (w' : MW), BND w' → FR l_Mo_liquidIn_49 w w' → 0 ≤ e49_3.toInt → e49_3.toInt ≤ 15 → E e49_3 w') → (∀ (r : Int32) (w' : MW), BND w' → FR l_Mo_liquidIn_49 w w' → False → Q r w') → q_Mo_liquidIn_49 x49_2 E Q n x49_3 x49_4 w := by
  induction n with
  | zero => intros; omega
  | succ n ih =>
    intro x49_3 x49_4 w hI  hp0 hp1 hp2 hp3 hp4 hp5 hm hE hQ
    rw [q_Mo_liquidIn_49.eq_2]
    have o13333 : 0 ≤ x49_2.toInt ∧ x49_2.toInt < 24 := by omega
    refine ⟨o13333, ?_⟩
    refine ⟨fun h13334 => ?_, fun h13334 => ?_⟩
    · have o13335 : (0 ≤ x49_3.toInt) ∧ (x49_3.toInt ≤ 15) := by exact ⟨by omega, by omega⟩
      exact hE _ _ hI (FR.refl _ w) o13335.1 o13335.2
    · have o13336 : 0 ≤ (((200 : Int32) * x49_2) + x49_4).toInt ∧ (((200 : Int32) * x49_2) + x49_4).toInt < 4800 := by have := bd_169 hI x49_2.toInt.toNat; have := ti_mul2 (by decide : ((200 : Int32)).toInt = 200) (Eq.refl x49_2.toInt) (by omega) (by omega); have := ti_add2 (Eq.refl ((200 : Int32) * x49_2).toInt) (Eq.refl x49_4.toInt) (by omega) (by omega); omega
      refine ⟨o13336, ?_⟩
      refine ⟨fun h13337 => ?_, fun h13337 => ?_⟩
      · have o13338 : (0 ≤ x49_2.toInt) ∧ (x49_2.toInt ≤ 23) ∧ (0 ≤ x49_3.toInt) ∧ (x49_3.toInt ≤ 15) ∧ (0 ≤ (x49_4 + (1 : Int32)).toInt) ∧ ((x49_4 + (1 : Int32)).toInt ≤ 200) := by have := bd_169 hI x49_2.toInt.toNat; have := ti_add2 (Eq.refl x49_4.toInt) (by decide : ((1 : Int32)).toInt = 1) (by omega) (by omega); exact ⟨by omega, by omega, by omega, by omega, by omega, by omega⟩
        exact ih _ _ w hI  o13338.1 o13338.2.1 o13338.2.2.1 o13338.2.2.2.1 o13338.2.2.2.2.1 o13338.2.2.2.2.2 (by have := bd_169 hI x49_2.toInt.toNat; have := ti_add2 (Eq.refl x49_4.toInt) (by decide : ((1 : Int32)).toInt = 1) (by omega) (by omega); omega) (fun e0 w9 hI9 hF9 p0 p1 => hE e0 w9 hI9 ((FR.refl _ w).tr hF9 rfl) p0 p1 ) (fun r w9 hI9 hF9 q0 => q0.elim)
      · refine ⟨fun h13339 => ?_, fun h13339 => ?_⟩
        · refine ⟨fun h13340 => ?_, fun h13340 => ?_⟩
          · have o13341 : (0 ≤ x49_2.toInt) ∧ (x49_2.toInt ≤ 23) ∧ (0 ≤ (15 : Int32).toInt) ∧ ((15 : Int32).toInt ≤ 15) ∧ (0 ≤ (x49_4 + (1 : Int32)).toInt) ∧ ((x49_4 + (1 : Int32)).toInt ≤ 200) := by have := (by decide : ((15 : Int32)).toInt = 15); have := bd_169 hI x49_2.toInt.toNat; have := ti_add2 (Eq.refl x49_4.toInt) (by decide : ((1 : Int32)).toInt = 1) (by omega) (by omega); exact ⟨by omega, by omega, by omega, by omega, by omega, by omega⟩
            exact ih _ _ w hI  o13341.1 o13341.2.1 o13341.2.2.1 o13341.2.2.2.1 o13341.2.2.2.2.1 o13341.2.2.2.2.2 (by have := (by decide : ((15 : Int32)).toInt = 15); have := bd_169 hI x49_2.toInt.toNat; have := ti_add2 (Eq.refl x49_4.toInt) (by decide : ((1 : Int32)).toInt = 1) (by omega) (by omega); omega) (fun e0 w9 hI9 hF9 p0 p1 => hE e0 w9 hI9 ((FR.refl _ w).tr hF9 rfl) p0 p1 ) (fun r w9 hI9 hF9 q0 => q0.elim)
          · have o13342 : (0 ≤ x49_2.toInt) ∧ (x49_2.toInt ≤ 23) ∧ (0 ≤ (w.1 172 ((((200 : Int32) * x49_2) + x49_4).toInt.toNat)).toInt) ∧ ((w.1 172 ((((200 : Int32) * x49_2) + x49_4).toInt.toNat)).toInt ≤ 15) ∧ (0 ≤ (x49_4 + (1 : Int32)).toInt) ∧ ((x49_4 + (1 : Int32)).toInt ≤ 200) := by have := bd_172 hI ((((200 : Int32) * x49_2) + x49_4).toInt.toNat); have := bd_169 hI x49_2.toInt.toNat; have := (by decide : ((0 : Int32)).toInt = 0); have := ti_add2 (Eq.refl x49_4.toInt) (by decide : ((1 : Int32)).toInt = 1) (by omega) (by omega); exact ⟨by omega, by omega, by omega, by omega, by omega, by omega⟩
            exact ih _ _ w hI  o13342.1 o13342.2.1 o13342.2.2.1 o13342.2.2.2.1 o13342.2.2.2.2.1 o13342.2.2.2.2.2 (by have := bd_172 hI ((((200 : Int32) * x49_2) + x49_4).toInt.toNat); have := bd_169 hI x49_2.toInt.toNat; have := (by decide : ((0 : Int32)).toInt = 0); have := ti_add2 (Eq.refl x49_4.toInt) (by decide : ((1 : Int32)).toInt = 1) (by omega) (by omega); omega) (fun e0 w9 hI9 hF9 p0 p1 => hE e0 w9 hI9 ((FR.refl _ w).tr hF9 rfl) p0 p1 ) (fun r w9 hI9 hF9 q0 => q0.elim)
        · have o13343 : (0 ≤ x49_2.toInt) ∧ (x49_2.toInt ≤ 23) ∧ (0 ≤ x49_3.toInt) ∧ (x49_3.toInt ≤ 15) ∧ (0 ≤ (x49_4 + (1 : Int32)).toInt) ∧ ((x49_4 + (1 : Int32)).toInt ≤ 200) := by have := bd_169 hI x49_2.toInt.toNat; have := bd_172 hI ((((200 : Int32) * x49_2) + x49_4).toInt.toNat); have := (by decide : ((0 : Int32)).toInt = 0); have := ti_add2 (Eq.refl x49_4.toInt) (by decide : ((1 : Int32)).toInt = 1) (by omega) (by omega); exact ⟨by omega, by omega, by omega, by omega, by omega, by omega⟩
          exact ih _ _ w hI  o13343.1 o13343.2.1 o13343.2.2.1 o13343.2.2.2.1 o13343.2.2.2.2.1 o13343.2.2.2.2.2 (by have := bd_169 hI x49_2.toInt.toNat; have := bd_172 hI ((((200 : Int32) * x49_2) + x49_4).toInt.toNat); have := (by decide : ((0 : Int32)).toInt = 0); have := ti_add2 (Eq.refl x49_4.toInt) (by decide : ((1 : Int32)).toInt = 1) (by omega) (by omega); omega) (fun e0 w9 hI9 hF9 p0 p1 => hE e0 w9 hI9 ((FR.refl _ w).tr hF9 rfl) p0 p1 ) (fun r w9 hI9 hF9 q0 => q0.elim)
set_option maxRecDepth 20000 in
set_option maxHeartbeats 2000000 in
theorem h_Mo_liquidIn {w : MW} {a0 : Int32} {Q : Int32 → MW → Prop} (hI : BND w) (hp0 : 0 ≤ a0.toInt) (hp1 : a0.toInt ≤ 43) (hp2 : a0.toInt < (w.1 127 4).toInt + (w.1 127 11).toInt) (hQ : ∀ (r : Int32) (w' : MW), BND w' → FR l_Mo_liquidIn w w' → 0 ≤ r.toInt → r.toInt ≤ 15 → Q r w') : p_Mo_liquidIn w a0 Q := by
  refine Eq.mpr (p_Mo_liquidIn.eq_1 _ _ _) ?_
  refine ⟨fun h13344 => ?_, fun h13344 => ?_⟩
  · have o13345 : (0 ≤ (a0 - (w.1 127 4)).toInt) ∧ ((a0 - (w.1 127 4)).toInt ≤ 23) ∧ (0 ≤ (0 : Int32).toInt) ∧ ((0 : Int32).toInt ≤ 15) ∧ (0 ≤ (0 : Int32).toInt) ∧ ((0 : Int32).toInt ≤ 200) := by have := bd_127_4 hI; have := (by decide : ((0 : Int32)).toInt = 0); have := bd_127_11 hI; have := ti_sub2 (Eq.refl a0.toInt) (Eq.refl (w.1 127 4).toInt) (by omega) (by omega); exact ⟨by omega, by omega, by omega, by omega, by omega, by omega⟩
    refine hq_Mo_liquidIn_49 FU _ _ w hI  o13345.1 o13345.2.1 o13345.2.2.1 o13345.2.2.2.1 o13345.2.2.2.2.1 o13345.2.2.2.2.2 (fu_lt (by have := bd_127_4 hI; have := (by decide : ((0 : Int32)).toInt = 0); have := bd_127_11 hI; have := ti_sub2 (Eq.refl a0.toInt) (Eq.refl (w.1 127 4).toInt) (by omega) (by omega); omega)) (fun e13349 w13346 hI13347 hL13348 p13350 p13351 => ?_) (fun r w9 hI9 hF9 q0 => q0.elim)
    have hF13352 : FR l_Mo_liquidIn w w13346 := (FR.refl _ w).tr hL13348 rfl
    have o13353 : (0 ≤ e13349.toInt) ∧ (e13349.toInt ≤ 15) := by exact ⟨by omega, by omega⟩
    exact hQ _ _ hI13347 hF13352  o13353.1 o13353.2
  · have o13354 : 0 ≤ a0.toInt ∧ a0.toInt < 20 := by have := bd_127_4 hI; have := bd_127_11 hI; omega
    refine ⟨o13354, ?_⟩
    refine ⟨fun h13355 => ?_, fun h13355 => ?_⟩
    · have o13356 : (0 ≤ (0 : Int32).toInt) ∧ ((0 : Int32).toInt ≤ 15) := by have := (by decide : ((0 : Int32)).toInt = 0); exact ⟨by omega, by omega⟩
      exact hQ _ _ hI (FR.refl _ w)  o13356.1 o13356.2
    · have o13357 : 0 ≤ a0.toInt ∧ a0.toInt < 20 := by have := bd_127_4 hI; have := bd_127_11 hI; omega
      refine ⟨o13357, ?_⟩
      refine ⟨fun h13358 => ?_, fun h13358 => ?_⟩
      · have o13359 : (0 ≤ (0 : Int32).toInt) ∧ ((0 : Int32).toInt ≤ 15) := by have := (by decide : ((0 : Int32)).toInt = 0); exact ⟨by omega, by omega⟩
        exact hQ _ _ hI (FR.refl _ w)  o13359.1 o13359.2
      · have o13360 : 0 ≤ a0.toInt ∧ a0.toInt < 20 := by have := bd_127_4 hI; have := bd_127_11 hI; omega
        refine ⟨o13360, ?_⟩
        have o13361 : (0 ≤ (w.1 166 a0.toInt.toNat).toInt) ∧ ((w.1 166 a0.toInt.toNat).toInt ≤ 15) := by have := bd_166 hI a0.toInt.toNat; exact ⟨by omega, by omega⟩
        exact hQ _ _ hI (FR.refl _ w)  o13361.1 o13361.2
def l_Mo_look_2 : Pl := [(194, none)]
def l_Mo_look_60 : Pl := [(194, none)]
def l_Mo_look_34 : Pl := [(194, none)]
def l_Mo_look : Pl := [(194, none)]
set_option maxRecDepth 20000 in
set_option maxHeartbeats 2000000 in
theorem hq_Mo_look_2 {E : MW → Prop} {Q : MW → Prop} (n : Nat) : ∀ (x2_1 : Int32) (w : MW), BND w → 0 ≤ x2_1.toInt → x2_1.toInt ≤ 44 → (44 - x2_1.toInt).toNat < n → (∀ (w' : MW), BND w' → FR l_Mo_look_2 w w' → E w') → (∀ (w' : MW), BND w' → FR l_Mo_look_2 w w' → False → Q w') → q_Mo_look_2 E Q n x2_1 w := by
  induction n with
  | zero => intros; omega
  | succ n ih =>
    intro x2_1 w hI  hp0 hp1 hm hE hQ
    rw [q_Mo_look_2.eq_2]
    refine ⟨fun h13362 => ?_, fun h13362 => ?_⟩
    · exact hE _ hI (FR.refl _ w)
    · have o13363 : (0 ≤ x2_1.toInt) ∧ (x2_1.toInt ≤ 43) ∧ (x2_1.toInt < (w.1 127 4).toInt + (w.1 127 11).toInt) := by have := bd_127_4 hI; have := bd_127_11 hI; have := ti_add2 (Eq.refl (w.1 127 4).toInt) (Eq.refl (w.1 127 11).toInt) (by omega) (by omega); exact ⟨by omega, by omega, by omega⟩
      refine h_Mo_liquidIn hI  o13363.1 o13363.2.1 o13363.2.2 (fun r13367 w13364 hI13365 hL13366 p13368 p13369 => ?_)
      have hF13370 : FR l_Mo_look_2 w w13364 := (FR.refl _ w).tr hL13366 rfl
      have o13371 : 0 ≤ x2_1.toInt ∧ x2_1.toInt < 44 := by have := bd_127_4 hI; have := bd_127_11 hI; have := ti_add2 (Eq.refl (w.1 127 4).toInt) (Eq.refl (w.1 127 11).toInt) (by omega) (by omega); omega
      refine ⟨o13371, ?_⟩
      have o13373 : 0 ≤ r13367.toInt ∧ r13367.toInt ≤ 15 := by omega
      have hI13372 : BND (sI w13364 194 x2_1.toInt.toNat r13367) := wbd_194 hI13365 x2_1.toInt.toNat o13373.1 o13373.2
      have o13374 : (0 ≤ (x2_1 + (1 : Int32)).toInt) ∧ ((x2_1 + (1 : Int32)).toInt ≤ 44) := by have := bd_127_4 hI; have := bd_127_11 hI; have := ti_add2 (Eq.refl x2_1.toInt) (by decide : ((1 : Int32)).toInt = 1) (by omega) (by omega); have := ti_add2 (Eq.refl (w.1 127 4).toInt) (Eq.refl (w.1 127 11).toInt) (by omega) (by omega); exact ⟨by omega, by omega⟩
      exact ih _ (sI w13364 194 x2_1.toInt.toNat r13367) hI13372  o13374.1 o13374.2 (by have := bd_127_4 hI; have := bd_127_11 hI; have := ti_add2 (Eq.refl x2_1.toInt) (by decide : ((1 : Int32)).toInt = 1) (by omega) (by omega); have := ti_add2 (Eq.refl (w.1 127 4).toInt) (Eq.refl (w.1 127 11).toInt) (by omega) (by omega); omega) (fun w9 hI9 hF9 => hE w9 hI9 ((FR.I hF13370 (k := 194) (j := x2_1.toInt.toNat) (v := r13367) rfl).tr hF9 rfl) ) (fun w9 hI9 hF9 q0 => q0.elim)
set_option maxRecDepth 20000 in
set_option maxHeartbeats 2000000 in
theorem hq_Mo_look_60 {x60_1 : Int32} {E : MW → Prop} {Q : MW → Prop} (n : Nat) : ∀ (x60_2 : Int32) (w : MW), BND w → 0 ≤ x60_1.toInt → x60_1.toInt ≤ 23 → 0 ≤ x60_2.toInt → x60_2.toInt ≤ 24 → (24 - x60_2.toInt).toNat < n → (∀ (w' : MW), BND w' → FR l_Mo_look_60 w w' → E w') → (∀ (w' : MW), BND w' → FR l_Mo_look_60 w w' → False → Q w') → q_Mo_look_60 x60_1 E Q n x60_2 w := by
  induction n with
  | zero => intros; omega
  | succ n ih =>
    intro x60_2 w hI  hp0 hp1 hp2 hp3 hm hE hQ
    rw [q_Mo_look_60.eq_2]
    have o13375 : 0 ≤ x60_1.toInt ∧ x60_1.toInt < 24 := by omega
    refine ⟨o13375, ?_⟩
    refine ⟨fun h13376 => ?_, fun h13376 => ?_⟩
    · exact hE _ hI (FR.refl _ w)
    · have o13377 : 0 ≤ (((24 : Int32) * x60_1) + x60_2).toInt ∧ (((24 : Int32) * x60_1) + x60_2).toInt < 576 := by have := bd_185 hI x60_1.toInt.toNat; have := ti_mul2 (by decide : ((24 : Int32)).toInt = 24) (Eq.refl x60_1.toInt) (by omega) (by omega); have := ti_add2 (Eq.refl ((24 : Int32) * x60_1).toInt) (Eq.refl x60_2.toInt) (by omega) (by omega); omega
      refine ⟨o13377, ?_⟩
      have o13378 : 0 ≤ x60_1.toInt ∧ x60_1.toInt < 24 := by omega
      refine ⟨o13378, ?_⟩
      refine Eq.mpr (p_Mo_carry.eq_1 _ _ _ _) ?_
      have o13379 : 0 ≤ ((w.1 127 4) + ((w.1 186 ((((24 : Int32) * x60_1) + x60_2).toInt.toNat)) / (2 : Int32))).toInt ∧ ((w.1 127 4) + ((w.1 186 ((((24 : Int32) * x60_1) + x60_2).toInt.toNat)) / (2 : Int32))).toInt < 44 := by have := bd_127_4 hI; have := bd_186 hI ((((24 : Int32) * x60_1) + x60_2).toInt.toNat); have := nb_div (x := (w.1 186 ((((24 : Int32) * x60_1) + x60_2).toInt.toNat))) (by omega) (by decide : ((2 : Int32)).toInt = 2) (by decide); have := ti_add2 (Eq.refl (w.1 127 4).toInt) (Eq.refl ((w.1 186 ((((24 : Int32) * x60_1) + x60_2).toInt.toNat)) / (2 : Int32)).toInt) (by omega) (by omega); omega
      refine ⟨o13379, ?_⟩
      refine ⟨fun h13380 => ?_, fun h13380 => ?_⟩
      · have o13381 : 0 ≤ ((w.1 127 4) + ((w.1 186 ((((24 : Int32) * x60_1) + x60_2).toInt.toNat)) / (2 : Int32))).toInt ∧ ((w.1 127 4) + ((w.1 186 ((((24 : Int32) * x60_1) + x60_2).toInt.toNat)) / (2 : Int32))).toInt < 44 := by have := bd_127_4 hI; have := bd_186 hI ((((24 : Int32) * x60_1) + x60_2).toInt.toNat); have := nb_div (x := (w.1 186 ((((24 : Int32) * x60_1) + x60_2).toInt.toNat))) (by omega) (by decide : ((2 : Int32)).toInt = 2) (by decide); have := ti_add2 (Eq.refl (w.1 127 4).toInt) (Eq.refl ((w.1 186 ((((24 : Int32) * x60_1) + x60_2).toInt.toNat)) / (2 : Int32)).toInt) (by omega) (by omega); omega
        refine ⟨o13381, ?_⟩
        have o13382 : 0 ≤ ((w.1 127 4) + ((w.1 186 ((((24 : Int32) * x60_1) + x60_2).toInt.toNat)) / (2 : Int32))).toInt ∧ ((w.1 127 4) + ((w.1 186 ((((24 : Int32) * x60_1) + x60_2).toInt.toNat)) / (2 : Int32))).toInt < 44 := by have := bd_127_4 hI; have := bd_186 hI ((((24 : Int32) * x60_1) + x60_2).toInt.toNat); have := nb_div (x := (w.1 186 ((((24 : Int32) * x60_1) + x60_2).toInt.toNat))) (by omega) (by decide : ((2 : Int32)).toInt = 2) (by decide); have := ti_add2 (Eq.refl (w.1 127 4).toInt) (Eq.refl ((w.1 186 ((((24 : Int32) * x60_1) + x60_2).toInt.toNat)) / (2 : Int32)).toInt) (by omega) (by omega); omega
        refine ⟨o13382, ?_⟩
        have o13384 : 0 ≤ (w.1 194 (((w.1 127 4) + ((w.1 186 ((((24 : Int32) * x60_1) + x60_2).toInt.toNat)) / (2 : Int32))).toInt.toNat)).toInt ∧ (w.1 194 (((w.1 127 4) + ((w.1 186 ((((24 : Int32) * x60_1) + x60_2).toInt.toNat)) / (2 : Int32))).toInt.toNat)).toInt ≤ 15 := by have := bd_194 hI (((w.1 127 4) + ((w.1 186 ((((24 : Int32) * x60_1) + x60_2).toInt.toNat)) / (2 : Int32))).toInt.toNat); have := (by decide : ((0 : Int32)).toInt = 0); omega
        have hI13383 : BND (sI w 194 (((w.1 127 4) + ((w.1 186 ((((24 : Int32) * x60_1) + x60_2).toInt.toNat)) / (2 : Int32))).toInt.toNat) (w.1 194 (((w.1 127 4) + ((w.1 186 ((((24 : Int32) * x60_1) + x60_2).toInt.toNat)) / (2 : Int32))).toInt.toNat))) := wbd_194 hI (((w.1 127 4) + ((w.1 186 ((((24 : Int32) * x60_1) + x60_2).toInt.toNat)) / (2 : Int32))).toInt.toNat) o13384.1 o13384.2
        have o13385 : (0 ≤ x60_1.toInt) ∧ (x60_1.toInt ≤ 23) ∧ (0 ≤ (x60_2 + (1 : Int32)).toInt) ∧ ((x60_2 + (1 : Int32)).toInt ≤ 24) := by have := bd_185 hI x60_1.toInt.toNat; have := ti_add2 (Eq.refl x60_2.toInt) (by decide : ((1 : Int32)).toInt = 1) (by omega) (by omega); exact ⟨by omega, by omega, by omega, by omega⟩
        exact ih _ (sI w 194 (((w.1 127 4) + ((w.1 186 ((((24 : Int32) * x60_1) + x60_2).toInt.toNat)) / (2 : Int32))).toInt.toNat) (w.1 194 (((w.1 127 4) + ((w.1 186 ((((24 : Int32) * x60_1) + x60_2).toInt.toNat)) / (2 : Int32))).toInt.toNat))) hI13383  o13385.1 o13385.2.1 o13385.2.2.1 o13385.2.2.2 (by have := bd_185 hI x60_1.toInt.toNat; have := ti_add2 (Eq.refl x60_2.toInt) (by decide : ((1 : Int32)).toInt = 1) (by omega) (by omega); omega) (fun w9 hI9 hF9 => hE w9 hI9 ((FR.I (FR.refl _ w) (k := 194) (j := ((w.1 127 4) + ((w.1 186 ((((24 : Int32) * x60_1) + x60_2).toInt.toNat)) / (2 : Int32))).toInt.toNat) (v := (w.1 194 (((w.1 127 4) + ((w.1 186 ((((24 : Int32) * x60_1) + x60_2).toInt.toNat)) / (2 : Int32))).toInt.toNat))) rfl).tr hF9 rfl) ) (fun w9 hI9 hF9 q0 => q0.elim)
      · have o13386 : 0 ≤ ((w.1 127 4) + ((w.1 186 ((((24 : Int32) * x60_1) + x60_2).toInt.toNat)) / (2 : Int32))).toInt ∧ ((w.1 127 4) + ((w.1 186 ((((24 : Int32) * x60_1) + x60_2).toInt.toNat)) / (2 : Int32))).toInt < 44 := by have := bd_127_4 hI; have := bd_186 hI ((((24 : Int32) * x60_1) + x60_2).toInt.toNat); have := nb_div (x := (w.1 186 ((((24 : Int32) * x60_1) + x60_2).toInt.toNat))) (by omega) (by decide : ((2 : Int32)).toInt = 2) (by decide); have := ti_add2 (Eq.refl (w.1 127 4).toInt) (Eq.refl ((w.1 186 ((((24 : Int32) * x60_1) + x60_2).toInt.toNat)) / (2 : Int32)).toInt) (by omega) (by omega); omega
        refine ⟨o13386, ?_⟩
        have o13388 : 0 ≤ (w.1 183 x60_1.toInt.toNat).toInt ∧ (w.1 183 x60_1.toInt.toNat).toInt ≤ 15 := by have := bd_183 hI x60_1.toInt.toNat; omega
        have hI13387 : BND (sI w 194 (((w.1 127 4) + ((w.1 186 ((((24 : Int32) * x60_1) + x60_2).toInt.toNat)) / (2 : Int32))).toInt.toNat) (w.1 183 x60_1.toInt.toNat)) := wbd_194 hI (((w.1 127 4) + ((w.1 186 ((((24 : Int32) * x60_1) + x60_2).toInt.toNat)) / (2 : Int32))).toInt.toNat) o13388.1 o13388.2
        have o13389 : (0 ≤ x60_1.toInt) ∧ (x60_1.toInt ≤ 23) ∧ (0 ≤ (x60_2 + (1 : Int32)).toInt) ∧ ((x60_2 + (1 : Int32)).toInt ≤ 24) := by have := bd_185 hI x60_1.toInt.toNat; have := ti_add2 (Eq.refl x60_2.toInt) (by decide : ((1 : Int32)).toInt = 1) (by omega) (by omega); exact ⟨by omega, by omega, by omega, by omega⟩
        exact ih _ (sI w 194 (((w.1 127 4) + ((w.1 186 ((((24 : Int32) * x60_1) + x60_2).toInt.toNat)) / (2 : Int32))).toInt.toNat) (w.1 183 x60_1.toInt.toNat)) hI13387  o13389.1 o13389.2.1 o13389.2.2.1 o13389.2.2.2 (by have := bd_185 hI x60_1.toInt.toNat; have := ti_add2 (Eq.refl x60_2.toInt) (by decide : ((1 : Int32)).toInt = 1) (by omega) (by omega); omega) (fun w9 hI9 hF9 => hE w9 hI9 ((FR.I (FR.refl _ w) (k := 194) (j := ((w.1 127 4) + ((w.1 186 ((((24 : Int32) * x60_1) + x60_2).toInt.toNat)) / (2 : Int32))).toInt.toNat) (v := (w.1 183 x60_1.toInt.toNat)) rfl).tr hF9 rfl) ) (fun w9 hI9 hF9 q0 => q0.elim)
set_option maxRecDepth 20000 in
set_option maxHeartbeats 2000000 in
theorem hq_Mo_look_34 {E : MW → Prop} {Q : MW → Prop} (n : Nat) : ∀ (x34_1 : Int32) (w : MW), BND w → FT w → 0 ≤ x34_1.toInt → x34_1.toInt ≤ 24 → (24 - x34_1.toInt).toNat < n → (∀ (w' : MW), BND w' → FR l_Mo_look_34 w w' → E w') → (∀ (w' : MW), BND w' → FR l_Mo_look_34 w w' → False → Q w') → q_Mo_look_34 E Q n x34_1 w := by
  induction n with
  | zero => intros; omega
  | succ n ih =>
    intro x34_1 w hI hf_FT hp0 hp1 hm hE hQ
    rw [q_Mo_look_34.eq_2]
    refine ⟨fun h13390 => ?_, fun h13390 => ?_⟩
    · exact hE _ hI (FR.refl _ w)
    · have o13391 : 0 ≤ x34_1.toInt ∧ x34_1.toInt < 24 := by have := bd_127_26 hI; omega
      refine ⟨o13391, ?_⟩
      have o13392 : 0 ≤ x34_1.toInt ∧ x34_1.toInt < 24 := by have := bd_127_26 hI; omega
      refine ⟨o13392, ?_⟩
      refine Eq.mpr (p_Mo_carry.eq_1 _ _ _ _) ?_
      have o13393 : 0 ≤ (w.1 182 x34_1.toInt.toNat).toInt ∧ (w.1 182 x34_1.toInt.toNat).toInt < 44 := by have := bd_127_26 hI; have := bd_127_4 hI; have := bd_182 hI x34_1.toInt.toNat; (try have := hf_FT x34_1 (by omega) (by omega)); omega
      refine ⟨o13393, ?_⟩
      refine ⟨fun h13394 => ?_, fun h13394 => ?_⟩
      · have o13395 : 0 ≤ (w.1 182 x34_1.toInt.toNat).toInt ∧ (w.1 182 x34_1.toInt.toNat).toInt < 44 := by have := bd_127_26 hI; have := bd_127_4 hI; have := bd_182 hI x34_1.toInt.toNat; (try have := hf_FT x34_1 (by omega) (by omega)); omega
        refine ⟨o13395, ?_⟩
        have o13396 : 0 ≤ (w.1 182 x34_1.toInt.toNat).toInt ∧ (w.1 182 x34_1.toInt.toNat).toInt < 44 := by have := bd_127_26 hI; have := bd_127_4 hI; have := bd_182 hI x34_1.toInt.toNat; (try have := hf_FT x34_1 (by omega) (by omega)); omega
        refine ⟨o13396, ?_⟩
        have o13398 : 0 ≤ (w.1 194 ((w.1 182 x34_1.toInt.toNat).toInt.toNat)).toInt ∧ (w.1 194 ((w.1 182 x34_1.toInt.toNat).toInt.toNat)).toInt ≤ 15 := by have := bd_194 hI ((w.1 182 x34_1.toInt.toNat).toInt.toNat); have := (by decide : ((0 : Int32)).toInt = 0); omega
        have hI13397 : BND (sI w 194 ((w.1 182 x34_1.toInt.toNat).toInt.toNat) (w.1 194 ((w.1 182 x34_1.toInt.toNat).toInt.toNat))) := wbd_194 hI ((w.1 182 x34_1.toInt.toNat).toInt.toNat) o13398.1 o13398.2
        have o13399 : (0 ≤ x34_1.toInt) ∧ (x34_1.toInt ≤ 23) ∧ (0 ≤ (0 : Int32).toInt) ∧ ((0 : Int32).toInt ≤ 24) := by have := (by decide : ((0 : Int32)).toInt = 0); have := bd_127_26 hI; exact ⟨by omega, by omega, by omega, by omega⟩
        refine hq_Mo_look_60 FU _ (sI w 194 ((w.1 182 x34_1.toInt.toNat).toInt.toNat) (w.1 194 ((w.1 182 x34_1.toInt.toNat).toInt.toNat))) hI13397  o13399.1 o13399.2.1 o13399.2.2.1 o13399.2.2.2 (fu_lt (by have := (by decide : ((0 : Int32)).toInt = 0); have := bd_127_26 hI; omega)) (fun w13400 hI13401 hL13402  => ?_) (fun w9 hI9 hF9 q0 => q0.elim)
        have hF13403 : FR l_Mo_look_34 w w13400 := (FR.I (FR.refl _ w) (k := 194) (j := (w.1 182 x34_1.toInt.toNat).toInt.toNat) (v := (w.1 194 ((w.1 182 x34_1.toInt.toNat).toInt.toNat))) rfl).tr hL13402 rfl
        have hW13404 : FT (sI w 194 ((w.1 182 x34_1.toInt.toNat).toInt.toNat) (w.1 194 ((w.1 182 x34_1.toInt.toNat).toInt.toNat))) := (FT_fr (l := [(194, none)]) (FR.I (FR.refl _ w) (k := 194) (j := (w.1 182 x34_1.toInt.toNat).toInt.toNat) (v := (w.1 194 ((w.1 182 x34_1.toInt.toNat).toInt.toNat))) rfl) rfl hf_FT)
        have o13405 : (0 ≤ (x34_1 + (1 : Int32)).toInt) ∧ ((x34_1 + (1 : Int32)).toInt ≤ 24) := by have := bd_127_26 hI; have := ti_add2 (Eq.refl x34_1.toInt) (by decide : ((1 : Int32)).toInt = 1) (by omega) (by omega); exact ⟨by omega, by omega⟩
        exact ih _ w13400 hI13401 (FT_fr hL13402 rfl hW13404) o13405.1 o13405.2 (by have := bd_127_26 hI; have := ti_add2 (Eq.refl x34_1.toInt) (by decide : ((1 : Int32)).toInt = 1) (by omega) (by omega); omega) (fun w9 hI9 hF9 => hE w9 hI9 (hF13403.tr hF9 rfl) ) (fun w9 hI9 hF9 q0 => q0.elim)
      · have o13406 : 0 ≤ (w.1 182 x34_1.toInt.toNat).toInt ∧ (w.1 182 x34_1.toInt.toNat).toInt < 44 := by have := bd_127_26 hI; have := bd_127_4 hI; have := bd_182 hI x34_1.toInt.toNat; (try have := hf_FT x34_1 (by omega) (by omega)); omega
        refine ⟨o13406, ?_⟩
        have o13408 : 0 ≤ (w.1 183 x34_1.toInt.toNat).toInt ∧ (w.1 183 x34_1.toInt.toNat).toInt ≤ 15 := by have := bd_183 hI x34_1.toInt.toNat; omega
        have hI13407 : BND (sI w 194 ((w.1 182 x34_1.toInt.toNat).toInt.toNat) (w.1 183 x34_1.toInt.toNat)) := wbd_194 hI ((w.1 182 x34_1.toInt.toNat).toInt.toNat) o13408.1 o13408.2
        have o13409 : (0 ≤ x34_1.toInt) ∧ (x34_1.toInt ≤ 23) ∧ (0 ≤ (0 : Int32).toInt) ∧ ((0 : Int32).toInt ≤ 24) := by have := (by decide : ((0 : Int32)).toInt = 0); have := bd_127_26 hI; exact ⟨by omega, by omega, by omega, by omega⟩
        refine hq_Mo_look_60 FU _ (sI w 194 ((w.1 182 x34_1.toInt.toNat).toInt.toNat) (w.1 183 x34_1.toInt.toNat)) hI13407  o13409.1 o13409.2.1 o13409.2.2.1 o13409.2.2.2 (fu_lt (by have := (by decide : ((0 : Int32)).toInt = 0); have := bd_127_26 hI; omega)) (fun w13410 hI13411 hL13412  => ?_) (fun w9 hI9 hF9 q0 => q0.elim)
        have hF13413 : FR l_Mo_look_34 w w13410 := (FR.I (FR.refl _ w) (k := 194) (j := (w.1 182 x34_1.toInt.toNat).toInt.toNat) (v := (w.1 183 x34_1.toInt.toNat)) rfl).tr hL13412 rfl
        have hW13414 : FT (sI w 194 ((w.1 182 x34_1.toInt.toNat).toInt.toNat) (w.1 183 x34_1.toInt.toNat)) := (FT_fr (l := [(194, none)]) (FR.I (FR.refl _ w) (k := 194) (j := (w.1 182 x34_1.toInt.toNat).toInt.toNat) (v := (w.1 183 x34_1.toInt.toNat)) rfl) rfl hf_FT)
        have o13415 : (0 ≤ (x34_1 + (1 : Int32)).toInt) ∧ ((x34_1 + (1 : Int32)).toInt ≤ 24) := by have := bd_127_26 hI; have := ti_add2 (Eq.refl x34_1.toInt) (by decide : ((1 : Int32)).toInt = 1) (by omega) (by omega); exact ⟨by omega, by omega⟩
        exact ih _ w13410 hI13411 (FT_fr hL13412 rfl hW13414) o13415.1 o13415.2 (by have := bd_127_26 hI; have := ti_add2 (Eq.refl x34_1.toInt) (by decide : ((1 : Int32)).toInt = 1) (by omega) (by omega); omega) (fun w9 hI9 hF9 => hE w9 hI9 (hF13413.tr hF9 rfl) ) (fun w9 hI9 hF9 q0 => q0.elim)
set_option maxRecDepth 20000 in
set_option maxHeartbeats 2000000 in
theorem h_Mo_look {w : MW} {Q : MW → Prop} (hI : BND w) (hf_FT : FT w)  (hQ : ∀ (w' : MW), BND w' → FR l_Mo_look w w' → Q w') : p_Mo_look w Q := by
  refine Eq.mpr (p_Mo_look.eq_1 _ _) ?_
  have o13416 : (0 ≤ (0 : Int32).toInt) ∧ ((0 : Int32).toInt ≤ 44) := by have := (by decide : ((0 : Int32)).toInt = 0); exact ⟨by omega, by omega⟩
  refine hq_Mo_look_2 FU _ w hI  o13416.1 o13416.2 (fu_lt (by have := (by decide : ((0 : Int32)).toInt = 0); omega)) (fun w13417 hI13418 hL13419  => ?_) (fun w9 hI9 hF9 q0 => q0.elim)
  have hF13420 : FR l_Mo_look w w13417 := (FR.refl _ w).tr hL13419 rfl
  have o13421 : (0 ≤ (0 : Int32).toInt) ∧ ((0 : Int32).toInt ≤ 24) := by have := (by decide : ((0 : Int32)).toInt = 0); exact ⟨by omega, by omega⟩
  refine hq_Mo_look_34 FU _ w13417 hI13418 (FT_fr hL13419 rfl hf_FT) o13421.1 o13421.2 (fu_lt (by have := (by decide : ((0 : Int32)).toInt = 0); omega)) (fun w13422 hI13423 hL13424  => ?_) (fun w9 hI9 hF9 q0 => q0.elim)
  have hF13425 : FR l_Mo_look w w13422 := hF13420.tr hL13424 rfl
  exact hQ _ hI13423 hF13425 
def l_Mo_danger : Pl := [(127, some 45), (127, some 46), (127, some 47), (127, some 48), (167, none), (194, none), (195, none), (196, none)]
set_option maxRecDepth 20000 in
set_option maxHeartbeats 2000000 in
theorem h_Mo_danger {w : MW} {a0 : Int32} {Q : Int32 → MW → Prop} (hI : BND w) (hf_FT : FT w)  (hQ : ∀ (r : Int32) (w' : MW), BND w' → FR l_Mo_danger w w' → Q r w') : p_Mo_danger w a0 Q := by
  refine Eq.mpr (p_Mo_danger.eq_1 _ _ _) ?_
  refine h_Mo_look hI hf_FT  (fun w13426 hI13427 hL13428  => ?_)
  have hF13430 : FR l_Mo_danger w w13426 := (FR.refl _ w).tr hL13428 rfl
  refine h_Mo_isSafe hI13427   (fun r13434 w13431 hI13432 hL13433 p13435 p13436 => ?_)
  have hF13437 : FR l_Mo_danger w w13431 := hF13430.tr hL13433 rfl
  refine ⟨fun h13438 => ?_, fun h13438 => ?_⟩
  · refine ⟨fun h13439 => ?_, fun h13439 => ?_⟩
    · refine ⟨fun h13440 => ?_, fun h13440 => ?_⟩
      · refine ⟨fun h13441 => ?_, fun h13441 => ?_⟩
        · refine ⟨fun h13442 => ?_, fun h13442 => ?_⟩
          · exact hQ _ _ hI13432 hF13437
          · exact hQ _ _ hI13432 hF13437
        · exact hQ _ _ hI13432 hF13437
      · exact hQ _ _ hI13432 hF13437
    · exact hQ _ _ hI13432 hF13437
  · refine ⟨fun h13443 => ?_, fun h13443 => ?_⟩
    · exact hQ _ _ hI13432 hF13437
    · exact hQ _ _ hI13432 hF13437
def l_Mo_holdsLiquid : Pl := []
set_option maxRecDepth 20000 in
set_option maxHeartbeats 2000000 in
theorem h_Mo_holdsLiquid {w : MW} {a0 : Int32} {Q : Int32 → MW → Prop} (hI : BND w)  (hQ : ∀ (r : Int32) (w' : MW), BND w' → FR l_Mo_holdsLiquid w w' → 0 ≤ r.toInt → r.toInt ≤ 1 → r.toInt = 0 ∨ (0 ≤ a0.toInt ∧ a0.toInt < (w.1 127 4).toInt + (w.1 127 11).toInt) → Q r w') : p_Mo_holdsLiquid w a0 Q := by
  refine Eq.mpr (p_Mo_holdsLiquid.eq_1 _ _ _) ?_
  refine Eq.mpr (p_Mo_isTank.eq_1 _ _ _) ?_
  refine Eq.mpr (p_Mo_isThing.eq_1 _ _ _) ?_
  refine ⟨fun h13444 => ?_, fun h13444 => ?_⟩
  · refine ⟨fun _ => ?_, fun h => absurd (by decide) h⟩
    refine ⟨fun h => absurd h (by decide), fun _ => ?_⟩
    refine Eq.mpr (p_Mo_isPipe.eq_1 _ _ _) ?_
    refine ⟨fun h13445 => ?_, fun h13445 => ?_⟩
    · refine ⟨fun _ => ?_, fun h => absurd (by decide) h⟩
      have o13446 : (0 ≤ (0 : Int32).toInt) ∧ ((0 : Int32).toInt ≤ 1) ∧ ((0 : Int32).toInt = 0 ∨ (0 ≤ a0.toInt ∧ a0.toInt < (w.1 127 4).toInt + (w.1 127 11).toInt)) := by have := (by decide : ((0 : Int32)).toInt = 0); have := bd_127_4 hI; have := bd_127_11 hI; exact ⟨by omega, by omega, by omega⟩
      exact hQ _ _ hI (FR.refl _ w)  o13446.1 o13446.2.1 o13446.2.2
    · exfalso; have := (by decide : ((0 : Int32)).toInt = 0); have := bd_127_4 hI; omega
  · refine ⟨fun h13447 => ?_, fun h13447 => ?_⟩
    · refine ⟨fun _ => ?_, fun h => absurd (by decide) h⟩
      refine ⟨fun h => absurd h (by decide), fun _ => ?_⟩
      refine Eq.mpr (p_Mo_isPipe.eq_1 _ _ _) ?_
      refine ⟨fun h13448 => ?_, fun h13448 => ?_⟩
      · refine ⟨fun _ => ?_, fun h => absurd (by decide) h⟩
        have o13449 : (0 ≤ (0 : Int32).toInt) ∧ ((0 : Int32).toInt ≤ 1) ∧ ((0 : Int32).toInt = 0 ∨ (0 ≤ a0.toInt ∧ a0.toInt < (w.1 127 4).toInt + (w.1 127 11).toInt)) := by have := (by decide : ((0 : Int32)).toInt = 0); have := bd_127_4 hI; have := bd_127_11 hI; exact ⟨by omega, by omega, by omega⟩
        exact hQ _ _ hI (FR.refl _ w)  o13449.1 o13449.2.1 o13449.2.2
      · refine ⟨fun h13450 => ?_, fun h13450 => ?_⟩
        · refine ⟨fun _ => ?_, fun h => absurd (by decide) h⟩
          have o13451 : (0 ≤ (0 : Int32).toInt) ∧ ((0 : Int32).toInt ≤ 1) ∧ ((0 : Int32).toInt = 0 ∨ (0 ≤ a0.toInt ∧ a0.toInt < (w.1 127 4).toInt + (w.1 127 11).toInt)) := by have := (by decide : ((0 : Int32)).toInt = 0); have := bd_127_4 hI; have := bd_127_11 hI; have := ti_add2 (Eq.refl (w.1 127 4).toInt) (Eq.refl (w.1 127 11).toInt) (by omega) (by omega); exact ⟨by omega, by omega, by omega⟩
          exact hQ _ _ hI (FR.refl _ w)  o13451.1 o13451.2.1 o13451.2.2
        · refine ⟨fun h => absurd h (by decide), fun _ => ?_⟩
          have o13452 : (0 ≤ (1 : Int32).toInt) ∧ ((1 : Int32).toInt ≤ 1) ∧ ((1 : Int32).toInt = 0 ∨ (0 ≤ a0.toInt ∧ a0.toInt < (w.1 127 4).toInt + (w.1 127 11).toInt)) := by have := (by decide : ((1 : Int32)).toInt = 1); have := bd_127_4 hI; have := bd_127_11 hI; have := (by decide : ((0 : Int32)).toInt = 0); have := ti_add2 (Eq.refl (w.1 127 4).toInt) (Eq.refl (w.1 127 11).toInt) (by omega) (by omega); exact ⟨by omega, by omega, by omega⟩
          exact hQ _ _ hI (FR.refl _ w)  o13452.1 o13452.2.1 o13452.2.2
    · refine ⟨fun h => absurd h (by decide), fun _ => ?_⟩
      have o13453 : 0 ≤ a0.toInt ∧ a0.toInt < 20 := by have := (by decide : ((0 : Int32)).toInt = 0); have := bd_127_4 hI; omega
      refine ⟨o13453, ?_⟩
      refine ⟨fun h13454 => ?_, fun h13454 => ?_⟩
      · refine ⟨fun h => absurd h (by decide), fun _ => ?_⟩
        refine Eq.mpr (p_Mo_isPipe.eq_1 _ _ _) ?_
        refine ⟨fun h13455 => ?_, fun h13455 => ?_⟩
        · refine ⟨fun _ => ?_, fun h => absurd (by decide) h⟩
          have o13456 : (0 ≤ (0 : Int32).toInt) ∧ ((0 : Int32).toInt ≤ 1) ∧ ((0 : Int32).toInt = 0 ∨ (0 ≤ a0.toInt ∧ a0.toInt < (w.1 127 4).toInt + (w.1 127 11).toInt)) := by have := (by decide : ((0 : Int32)).toInt = 0); have := bd_127_4 hI; have := bd_127_11 hI; exact ⟨by omega, by omega, by omega⟩
          exact hQ _ _ hI (FR.refl _ w)  o13456.1 o13456.2.1 o13456.2.2
        · refine ⟨fun h13457 => ?_, fun h13457 => ?_⟩
          · refine ⟨fun _ => ?_, fun h => absurd (by decide) h⟩
            have o13458 : (0 ≤ (0 : Int32).toInt) ∧ ((0 : Int32).toInt ≤ 1) ∧ ((0 : Int32).toInt = 0 ∨ (0 ≤ a0.toInt ∧ a0.toInt < (w.1 127 4).toInt + (w.1 127 11).toInt)) := by have := (by decide : ((0 : Int32)).toInt = 0); have := bd_127_4 hI; have := bd_127_11 hI; have := ti_add2 (Eq.refl (w.1 127 4).toInt) (Eq.refl (w.1 127 11).toInt) (by omega) (by omega); exact ⟨by omega, by omega, by omega⟩
            exact hQ _ _ hI (FR.refl _ w)  o13458.1 o13458.2.1 o13458.2.2
          · refine ⟨fun h => absurd h (by decide), fun _ => ?_⟩
            have o13459 : (0 ≤ (1 : Int32).toInt) ∧ ((1 : Int32).toInt ≤ 1) ∧ ((1 : Int32).toInt = 0 ∨ (0 ≤ a0.toInt ∧ a0.toInt < (w.1 127 4).toInt + (w.1 127 11).toInt)) := by have := (by decide : ((1 : Int32)).toInt = 1); have := bd_127_4 hI; have := bd_127_11 hI; have := (by decide : ((0 : Int32)).toInt = 0); have := ti_add2 (Eq.refl (w.1 127 4).toInt) (Eq.refl (w.1 127 11).toInt) (by omega) (by omega); exact ⟨by omega, by omega, by omega⟩
            exact hQ _ _ hI (FR.refl _ w)  o13459.1 o13459.2.1 o13459.2.2
      · refine ⟨fun _ => ?_, fun h => absurd (by decide) h⟩
        have o13460 : (0 ≤ (1 : Int32).toInt) ∧ ((1 : Int32).toInt ≤ 1) ∧ ((1 : Int32).toInt = 0 ∨ (0 ≤ a0.toInt ∧ a0.toInt < (w.1 127 4).toInt + (w.1 127 11).toInt)) := by have := (by decide : ((1 : Int32)).toInt = 1); have := bd_127_4 hI; have := bd_127_11 hI; have := (by decide : ((0 : Int32)).toInt = 0); exact ⟨by omega, by omega, by omega⟩
        exact hQ _ _ hI (FR.refl _ w)  o13460.1 o13460.2.1 o13460.2.2
def l_Mo_level_57 : Pl := []
def l_Mo_level_23 : Pl := []
def l_Mo_level : Pl := []
set_option maxRecDepth 20000 in
set_option maxHeartbeats 2000000 in
theorem hq_Mo_level_23 {x23_1 : Int32} {E : MW → Prop} {Q : Int32 → MW → Prop} (n : Nat) : ∀ (x23_2 : Int32) (x23_3 : Int32) (w : MW), BND w → 0 ≤ x23_1.toInt → x23_1.toInt ≤ 43 → (-1) ≤ x23_2.toInt → 0 ≤ x23_3.toInt → x23_3.toInt ≤ 5 → (x23_3.toInt - 0).toNat < n → (∀ (w' : MW), BND w' → FR l_Mo_level_23 w w' → E w') → (∀ (r : Int32) (w' : MW), BND w' → FR l_Mo_level_23 w w' → 1 ≤ r.toInt → r.toInt ≤ 5 → Q r w') → q_Mo_level_23 x23_1 E Q n x23_2 x23_3 w := by
  induction n with
  | zero => intros; omega
  | succ n ih =>
    intro x23_2 x23_3 w hI  hp0 hp1 hp2 hp3 hp4 hm hE hQ
    rw [q_Mo_level_23.eq_2]
    refine ⟨fun h13461 => ?_, fun h13461 => ?_⟩
    · exact hE _ hI (FR.refl _ w)
    · have o13462 : 0 ≤ (((6 : Int32) * x23_1) + x23_3).toInt ∧ (((6 : Int32) * x23_1) + x23_3).toInt < 264 := by have := (by decide : ((0 : Int32)).toInt = 0); have := ti_mul2 (by decide : ((6 : Int32)).toInt = 6) (Eq.refl x23_1.toInt) (by omega) (by omega); have := ti_add2 (Eq.refl ((6 : Int32) * x23_1).toInt) (Eq.refl x23_3.toInt) (by omega) (by omega); omega
      refine ⟨o13462, ?_⟩
      refine ⟨fun h13463 => ?_, fun h13463 => ?_⟩
      · refine Eq.mpr (q_Mo_level_57.eq_1 _ _ _ _ _ _ _) ?_
        refine ⟨fun h13464 => ?_, fun h13464 => ?_⟩
        · have o13465 : (0 ≤ x23_1.toInt) ∧ (x23_1.toInt ≤ 43) ∧ ((-1) ≤ x23_2.toInt) ∧ (0 ≤ (x23_3 + ((-1) : Int32)).toInt) ∧ ((x23_3 + ((-1) : Int32)).toInt ≤ 5) := by have := (by decide : ((0 : Int32)).toInt = 0); have := ti_dec x23_3 (by omega); exact ⟨by omega, by omega, by omega, by omega, by omega⟩
          exact ih _ _ w hI  o13465.1 o13465.2.1 o13465.2.2.1 o13465.2.2.2.1 o13465.2.2.2.2 (by have := (by decide : ((0 : Int32)).toInt = 0); have := ti_dec x23_3 (by omega); omega) (fun w9 hI9 hF9 => hE w9 hI9 ((FR.refl _ w).tr hF9 rfl) ) (fun r w9 hI9 hF9 q0 q1 => hQ r w9 hI9 ((FR.refl _ w).tr hF9 rfl) (by have := (by decide : ((0 : Int32)).toInt = 0); have := ti_dec x23_3 (by omega); omega) (by have := (by decide : ((0 : Int32)).toInt = 0); have := ti_dec x23_3 (by omega); omega))
        · have o13466 : 0 ≤ x23_3.toInt ∧ x23_3.toInt < 6 := by have := (by decide : ((0 : Int32)).toInt = 0); omega
          refine ⟨o13466, ?_⟩
          refine ⟨fun h13467 => ?_, fun h13467 => ?_⟩
          · have o13468 : (0 ≤ x23_1.toInt) ∧ (x23_1.toInt ≤ 43) ∧ ((-1) ≤ x23_2.toInt) ∧ (0 ≤ (x23_3 + ((-1) : Int32)).toInt) ∧ ((x23_3 + ((-1) : Int32)).toInt ≤ 5) := by have := (by decide : ((0 : Int32)).toInt = 0); have := bd_177 hI x23_3.toInt.toNat; have := ti_dec x23_3 (by omega); have := True.intro; exact ⟨by omega, by omega, by omega, by omega, by omega⟩
            exact ih _ _ w hI  o13468.1 o13468.2.1 o13468.2.2.1 o13468.2.2.2.1 o13468.2.2.2.2 (by have := (by decide : ((0 : Int32)).toInt = 0); have := bd_177 hI x23_3.toInt.toNat; have := ti_dec x23_3 (by omega); have := True.intro; omega) (fun w9 hI9 hF9 => hE w9 hI9 ((FR.refl _ w).tr hF9 rfl) ) (fun r w9 hI9 hF9 q0 q1 => hQ r w9 hI9 ((FR.refl _ w).tr hF9 rfl) (by have := (by decide : ((0 : Int32)).toInt = 0); have := bd_177 hI x23_3.toInt.toNat; have := ti_dec x23_3 (by omega); have := True.intro; omega) (by have := (by decide : ((0 : Int32)).toInt = 0); have := bd_177 hI x23_3.toInt.toNat; have := ti_dec x23_3 (by omega); have := True.intro; omega))
          · have o13469 : (1 ≤ x23_3.toInt) ∧ (x23_3.toInt ≤ 5) := by have := (by decide : ((0 : Int32)).toInt = 0); exact ⟨by omega, by omega⟩
            exact hQ _ _ hI (FR.refl _ w)  o13469.1 o13469.2
      · have o13470 : 0 ≤ (((6 : Int32) * x23_1) + x23_3).toInt ∧ (((6 : Int32) * x23_1) + x23_3).toInt < 264 := by have := (by decide : ((0 : Int32)).toInt = 0); have := ti_mul2 (by decide : ((6 : Int32)).toInt = 6) (Eq.refl x23_1.toInt) (by omega) (by omega); have := ti_add2 (Eq.refl ((6 : Int32) * x23_1).toInt) (Eq.refl x23_3.toInt) (by omega) (by omega); omega
        refine ⟨o13470, ?_⟩
        refine Eq.mpr (q_Mo_level_57.eq_1 _ _ _ _ _ _ _) ?_
        refine ⟨fun h13471 => ?_, fun h13471 => ?_⟩
        · exfalso; have := (by decide : ((0 : Int32)).toInt = 0); omega
        · have o13472 : 0 ≤ x23_3.toInt ∧ x23_3.toInt < 6 := by have := (by decide : ((0 : Int32)).toInt = 0); omega
          refine ⟨o13472, ?_⟩
          refine ⟨fun h13473 => ?_, fun h13473 => ?_⟩
          · have o13474 : (0 ≤ x23_1.toInt) ∧ (x23_1.toInt ≤ 43) ∧ ((-1) ≤ (w.1 174 ((((6 : Int32) * x23_1) + x23_3).toInt.toNat)).toInt) ∧ (0 ≤ (x23_3 + ((-1) : Int32)).toInt) ∧ ((x23_3 + ((-1) : Int32)).toInt ≤ 5) := by have := (by decide : ((0 : Int32)).toInt = 0); have := bd_177 hI x23_3.toInt.toNat; have := ti_dec x23_3 (by omega); have := True.intro; exact ⟨by omega, by omega, by omega, by omega, by omega⟩
            exact ih _ _ w hI  o13474.1 o13474.2.1 o13474.2.2.1 o13474.2.2.2.1 o13474.2.2.2.2 (by have := (by decide : ((0 : Int32)).toInt = 0); have := bd_177 hI x23_3.toInt.toNat; have := ti_dec x23_3 (by omega); have := True.intro; omega) (fun w9 hI9 hF9 => hE w9 hI9 ((FR.refl _ w).tr hF9 rfl) ) (fun r w9 hI9 hF9 q0 q1 => hQ r w9 hI9 ((FR.refl _ w).tr hF9 rfl) (by have := (by decide : ((0 : Int32)).toInt = 0); have := bd_177 hI x23_3.toInt.toNat; have := ti_dec x23_3 (by omega); have := True.intro; omega) (by have := (by decide : ((0 : Int32)).toInt = 0); have := bd_177 hI x23_3.toInt.toNat; have := ti_dec x23_3 (by omega); have := True.intro; omega))
          · have o13475 : (1 ≤ x23_3.toInt) ∧ (x23_3.toInt ≤ 5) := by have := (by decide : ((0 : Int32)).toInt = 0); exact ⟨by omega, by omega⟩
            exact hQ _ _ hI (FR.refl _ w)  o13475.1 o13475.2
set_option maxRecDepth 20000 in
set_option maxHeartbeats 2000000 in
theorem h_Mo_level {w : MW} {a0 : Int32} {Q : Int32 → MW → Prop} (hI : BND w) (hp0 : 0 ≤ a0.toInt) (hp1 : a0.toInt ≤ 43) (hp2 : a0.toInt < (w.1 127 4).toInt + (w.1 127 11).toInt) (hQ : ∀ (r : Int32) (w' : MW), BND w' → FR l_Mo_level w w' → 0 ≤ r.toInt → r.toInt ≤ 5 → Q r w') : p_Mo_level w a0 Q := by
  refine Eq.mpr (p_Mo_level.eq_1 _ _ _) ?_
  have o13476 : (0 ≤ a0.toInt) ∧ (a0.toInt ≤ 43) ∧ (a0.toInt < (w.1 127 4).toInt + (w.1 127 11).toInt) := by have := bd_127_4 hI; have := bd_127_11 hI; exact ⟨by omega, by omega, by omega⟩
  refine h_Mo_liquidIn hI  o13476.1 o13476.2.1 o13476.2.2 (fun r13480 w13477 hI13478 hL13479 p13481 p13482 => ?_)
  have hF13483 : FR l_Mo_level w w13477 := (FR.refl _ w).tr hL13479 rfl
  refine ⟨fun h13484 => ?_, fun h13484 => ?_⟩
  · have o13485 : (0 ≤ (0 : Int32).toInt) ∧ ((0 : Int32).toInt ≤ 5) := by have := (by decide : ((0 : Int32)).toInt = 0); exact ⟨by omega, by omega⟩
    exact hQ _ _ hI13478 hF13483  o13485.1 o13485.2
  · have o13486 : 0 ≤ a0.toInt ∧ a0.toInt < 44 := by have := bd_127_4 hI; have := bd_127_11 hI; omega
    refine ⟨o13486, ?_⟩
    refine ⟨fun h13487 => ?_, fun h13487 => ?_⟩
    · have o13488 : (0 ≤ a0.toInt) ∧ (a0.toInt ≤ 43) ∧ ((-1) ≤ ((-1) : Int32).toInt) ∧ (0 ≤ (5 : Int32).toInt) ∧ ((5 : Int32).toInt ≤ 5) := by have := (by decide : (((-1) : Int32)).toInt = (-1)); have := (by decide : ((5 : Int32)).toInt = 5); have := bd_127_4 hI; have := bd_127_11 hI; exact ⟨by omega, by omega, by omega, by omega, by omega⟩
      refine hq_Mo_level_23 FU _ _ w13477 hI13478  o13488.1 o13488.2.1 o13488.2.2.1 o13488.2.2.2.1 o13488.2.2.2.2 (fu_lt (by have := (by decide : (((-1) : Int32)).toInt = (-1)); have := (by decide : ((5 : Int32)).toInt = 5); have := bd_127_4 hI; have := bd_127_11 hI; omega)) (fun w13489 hI13490 hL13491  => ?_) (fun r w9 hI9 hF9 q0 q1 => hQ r w9 hI9 ((hF13483).tr hF9 rfl) (by have := (by decide : (((-1) : Int32)).toInt = (-1)); have := (by decide : ((5 : Int32)).toInt = 5); have := bd_127_4 hI; have := bd_127_11 hI; omega) (by have := (by decide : (((-1) : Int32)).toInt = (-1)); have := (by decide : ((5 : Int32)).toInt = 5); have := bd_127_4 hI; have := bd_127_11 hI; omega))
      have hF13492 : FR l_Mo_level w w13489 := hF13483.tr hL13491 rfl
      have o13493 : (0 ≤ (0 : Int32).toInt) ∧ ((0 : Int32).toInt ≤ 5) := by have := (by decide : ((0 : Int32)).toInt = 0); exact ⟨by omega, by omega⟩
      exact hQ _ _ hI13490 hF13492  o13493.1 o13493.2
    · have o13494 : (0 ≤ (0 : Int32).toInt) ∧ ((0 : Int32).toInt ≤ 5) := by have := (by decide : ((0 : Int32)).toInt = 0); exact ⟨by omega, by omega⟩
      exact hQ _ _ hI13478 hF13483  o13494.1 o13494.2
def l_Mo_litresIn_19 : Pl := []
def l_Mo_litresIn : Pl := []
set_option maxRecDepth 20000 in
set_option maxHeartbeats 2000000 in
theorem hq_Mo_litresIn_19 {x19_1 : Int32} {E : Int32 → MW → Prop} {Q : Int32 → MW → Prop} (n : Nat) : ∀ (x19_2 : Int32) (x19_3 : Int32) (w : MW), BND w → 0 ≤ x19_1.toInt → x19_1.toInt ≤ 43 → 0 ≤ x19_3.toInt → x19_3.toInt ≤ 200 → (w.1 127 4).toInt ≤ x19_1.toInt → x19_1.toInt < (w.1 127 4).toInt + (w.1 127 11).toInt → (200 - x19_3.toInt).toNat < n → (∀ (e19_2 : Int32) (w' : MW), BND w' → FR l_Mo_litresIn_19 w w' → E e19_2 w') → (∀ (r : Int32) (w' : MW), BND w' → FR l_Mo_litresIn_19 w w' → False → Q r w') → q_Mo_litresIn_19 x19_1 E Q n x19_2 x19_3 w := by
  induction n with
  | zero => intros; omega
  | succ n ih =>
    intro x19_2 x19_3 w hI  hp0 hp1 hp2 hp3 hp4 hp5 hm hE hQ
    rw [q_Mo_litresIn_19.eq_2]
    have o13495 : 0 ≤ (x19_1 - (w.1 127 4)).toInt ∧ (x19_1 - (w.1 127 4)).toInt < 24 := by have := bd_127_4 hI; have := bd_127_11 hI; have := ti_sub2 (Eq.refl x19_1.toInt) (Eq.refl (w.1 127 4).toInt) (by omega) (by omega); omega
    refine ⟨o13495, ?_⟩
    refine ⟨fun h13496 => ?_, fun h13496 => ?_⟩
    · exact hE _ _ hI (FR.refl _ w)
    · have o13497 : 0 ≤ (((200 : Int32) * (x19_1 - (w.1 127 4))) + x19_3).toInt ∧ (((200 : Int32) * (x19_1 - (w.1 127 4))) + x19_3).toInt < 4800 := by have := bd_127_4 hI; have := bd_127_11 hI; have := bd_169 hI ((x19_1 - (w.1 127 4)).toInt.toNat); have := ti_sub2 (Eq.refl x19_1.toInt) (Eq.refl (w.1 127 4).toInt) (by omega) (by omega); have := ti_mul2 (by decide : ((200 : Int32)).toInt = 200) (Eq.refl (x19_1 - (w.1 127 4)).toInt) (by omega) (by omega); have := ti_add2 (Eq.refl ((200 : Int32) * (x19_1 - (w.1 127 4))).toInt) (Eq.refl x19_3.toInt) (by omega) (by omega); omega
      refine ⟨o13497, ?_⟩
      refine ⟨fun h13498 => ?_, fun h13498 => ?_⟩
      · have o13499 : (0 ≤ x19_1.toInt) ∧ (x19_1.toInt ≤ 43) ∧ (0 ≤ (x19_3 + (1 : Int32)).toInt) ∧ ((x19_3 + (1 : Int32)).toInt ≤ 200) ∧ ((w.1 127 4).toInt ≤ x19_1.toInt) ∧ (x19_1.toInt < (w.1 127 4).toInt + (w.1 127 11).toInt) := by have := ti_lo x19_2; have := ti_hi x19_2; have := bd_127_4 hI; have := bd_127_11 hI; have := bd_169 hI ((x19_1 - (w.1 127 4)).toInt.toNat); have := True.intro; have := ti_add2 (Eq.refl x19_3.toInt) (by decide : ((1 : Int32)).toInt = 1) (by omega) (by omega); exact ⟨by omega, by omega, by omega, by omega, by omega, by omega⟩
        exact ih _ _ w hI  o13499.1 o13499.2.1 o13499.2.2.1 o13499.2.2.2.1 o13499.2.2.2.2.1 o13499.2.2.2.2.2 (by have := ti_lo x19_2; have := ti_hi x19_2; have := bd_169 hI ((x19_1 - (w.1 127 4)).toInt.toNat); have := True.intro; have := ti_add2 (Eq.refl x19_3.toInt) (by decide : ((1 : Int32)).toInt = 1) (by omega) (by omega); omega) (fun e0 w9 hI9 hF9 => hE e0 w9 hI9 ((FR.refl _ w).tr hF9 rfl) ) (fun r w9 hI9 hF9 q0 => q0.elim)
      · have o13500 : (0 ≤ x19_1.toInt) ∧ (x19_1.toInt ≤ 43) ∧ (0 ≤ (x19_3 + (1 : Int32)).toInt) ∧ ((x19_3 + (1 : Int32)).toInt ≤ 200) ∧ ((w.1 127 4).toInt ≤ x19_1.toInt) ∧ (x19_1.toInt < (w.1 127 4).toInt + (w.1 127 11).toInt) := by have := ti_lo x19_2; have := ti_hi x19_2; have := bd_127_4 hI; have := bd_127_11 hI; have := bd_169 hI ((x19_1 - (w.1 127 4)).toInt.toNat); have := ti_add2 (Eq.refl x19_2.toInt) (by decide : ((0 : Int32)).toInt = 0) (by omega) (by omega); have := ti_add2 (Eq.refl x19_3.toInt) (by decide : ((1 : Int32)).toInt = 1) (by omega) (by omega); exact ⟨by omega, by omega, by omega, by omega, by omega, by omega⟩
        exact ih _ _ w hI  o13500.1 o13500.2.1 o13500.2.2.1 o13500.2.2.2.1 o13500.2.2.2.2.1 o13500.2.2.2.2.2 (by have := ti_lo x19_2; have := ti_hi x19_2; have := bd_169 hI ((x19_1 - (w.1 127 4)).toInt.toNat); have := ti_add2 (Eq.refl x19_2.toInt) (by decide : ((0 : Int32)).toInt = 0) (by omega) (by omega); have := ti_add2 (Eq.refl x19_3.toInt) (by decide : ((1 : Int32)).toInt = 1) (by omega) (by omega); omega) (fun e0 w9 hI9 hF9 => hE e0 w9 hI9 ((FR.refl _ w).tr hF9 rfl) ) (fun r w9 hI9 hF9 q0 => q0.elim)
set_option maxRecDepth 20000 in
set_option maxHeartbeats 2000000 in
theorem h_Mo_litresIn {w : MW} {a0 : Int32} {Q : Int32 → MW → Prop} (hI : BND w) (hp0 : 0 ≤ a0.toInt) (hp1 : a0.toInt ≤ 43) (hp2 : a0.toInt < (w.1 127 4).toInt + (w.1 127 11).toInt) (hQ : ∀ (r : Int32) (w' : MW), BND w' → FR l_Mo_litresIn w w' → Q r w') : p_Mo_litresIn w a0 Q := by
  refine Eq.mpr (p_Mo_litresIn.eq_1 _ _ _) ?_
  refine ⟨fun h13501 => ?_, fun h13501 => ?_⟩
  · have o13502 : (0 ≤ a0.toInt) ∧ (a0.toInt ≤ 43) ∧ (0 ≤ (0 : Int32).toInt) ∧ ((0 : Int32).toInt ≤ 200) ∧ ((w.1 127 4).toInt ≤ a0.toInt) ∧ (a0.toInt < (w.1 127 4).toInt + (w.1 127 11).toInt) := by have := (by decide : ((0 : Int32)).toInt = 0); have := bd_127_4 hI; have := bd_127_11 hI; exact ⟨by omega, by omega, by omega, by omega, by omega, by omega⟩
    refine hq_Mo_litresIn_19 FU _ _ w hI  o13502.1 o13502.2.1 o13502.2.2.1 o13502.2.2.2.1 o13502.2.2.2.2.1 o13502.2.2.2.2.2 (fu_lt (by have := (by decide : ((0 : Int32)).toInt = 0); have := bd_127_4 hI; have := bd_127_11 hI; omega)) (fun e13506 w13503 hI13504 hL13505  => ?_) (fun r w9 hI9 hF9 q0 => q0.elim)
    have hF13507 : FR l_Mo_litresIn w w13503 := (FR.refl _ w).tr hL13505 rfl
    exact hQ _ _ hI13504 hF13507 
  · have o13508 : 0 ≤ a0.toInt ∧ a0.toInt < 20 := by have := bd_127_4 hI; have := bd_127_11 hI; omega
    refine ⟨o13508, ?_⟩
    exact hQ _ _ hI (FR.refl _ w) 
def l_Mo_space : Pl := []
set_option maxRecDepth 20000 in
set_option maxHeartbeats 2000000 in
theorem h_Mo_space {w : MW} {a0 : Int32} {b0 : Int32} {Q : Int32 → MW → Prop} (hI : BND w)  (hQ : ∀ (r : Int32) (w' : MW), BND w' → FR l_Mo_space w w' → Q r w') : p_Mo_space w a0 b0 Q := by
  refine Eq.mpr (p_Mo_space.eq_1 _ _ _ _) ?_
  refine ⟨fun h13509 => ?_, fun h13509 => ?_⟩
  · refine h_Mo_holdsLiquid hI   (fun r13513 w13510 hI13511 hL13512 p13514 p13515 p13516 => ?_)
    have hF13517 : FR l_Mo_space w w13510 := (FR.refl _ w).tr hL13512 rfl
    refine ⟨fun h13518 => ?_, fun h13518 => ?_⟩
    · exact hQ _ _ hI13511 hF13517
    · refine ⟨fun h13519 => ?_, fun h13519 => ?_⟩
      · exact hQ _ _ hI13511 hF13517
      · refine ⟨fun h13520 => ?_, fun h13520 => ?_⟩
        · refine ⟨fun h13521 => ?_, fun h13521 => ?_⟩
          · refine ⟨fun h13522 => ?_, fun h13522 => ?_⟩
            · refine ⟨fun h13523 => ?_, fun h13523 => ?_⟩
              · have o13524 : (0 ≤ a0.toInt) ∧ (a0.toInt ≤ 43) ∧ (a0.toInt < (w13510.1 127 4).toInt + (w13510.1 127 11).toInt) := by have := ti_lo a0; have := ti_hi a0; have := bd_127_4 hI13511; have := bd_127_4 hI; have := (congrArg Int32.toInt (hL13512 127 4 rfl).1); have := bd_127_11 hI13511; have := bd_127_11 hI; have := (congrArg Int32.toInt (hL13512 127 11 rfl).1); have := (by decide : ((0 : Int32)).toInt = 0); exact ⟨by omega, by omega, by omega⟩
                refine h_Mo_level hI13511  o13524.1 o13524.2.1 o13524.2.2 (fun r13528 w13525 hI13526 hL13527 p13529 p13530 => ?_)
                have hF13531 : FR l_Mo_space w w13525 := hF13517.tr hL13527 rfl
                exact hQ _ _ hI13526 hF13531 
              · have o13532 : 0 ≤ a0.toInt ∧ a0.toInt < 44 := by have := ti_lo a0; have := ti_hi a0; have := bd_127_4 hI; have := bd_127_11 hI; have := (by decide : ((0 : Int32)).toInt = 0); omega
                refine ⟨o13532, ?_⟩
                exact hQ _ _ hI13511 hF13517 
            · have o13533 : (0 ≤ a0.toInt) ∧ (a0.toInt ≤ 43) ∧ (a0.toInt < (w13510.1 127 4).toInt + (w13510.1 127 11).toInt) := by have := ti_lo a0; have := ti_hi a0; have := bd_127_4 hI13511; have := bd_127_4 hI; have := (congrArg Int32.toInt (hL13512 127 4 rfl).1); have := bd_127_11 hI13511; have := bd_127_11 hI; have := (congrArg Int32.toInt (hL13512 127 11 rfl).1); have := (by decide : ((0 : Int32)).toInt = 0); exact ⟨by omega, by omega, by omega⟩
              refine h_Mo_litresIn hI13511  o13533.1 o13533.2.1 o13533.2.2 (fun r13537 w13534 hI13535 hL13536  => ?_)
              have hF13538 : FR l_Mo_space w w13534 := hF13517.tr hL13536 rfl
              exact hQ _ _ hI13535 hF13538 
          · have o13539 : (0 ≤ a0.toInt) ∧ (a0.toInt ≤ 43) ∧ (a0.toInt < (w13510.1 127 4).toInt + (w13510.1 127 11).toInt) := by have := ti_lo a0; have := ti_hi a0; have := bd_127_4 hI13511; have := bd_127_4 hI; have := (congrArg Int32.toInt (hL13512 127 4 rfl).1); have := bd_127_11 hI13511; have := bd_127_11 hI; have := (congrArg Int32.toInt (hL13512 127 11 rfl).1); have := (by decide : ((0 : Int32)).toInt = 0); exact ⟨by omega, by omega, by omega⟩
            refine h_Mo_liquidIn hI13511  o13539.1 o13539.2.1 o13539.2.2 (fun r13543 w13540 hI13541 hL13542 p13544 p13545 => ?_)
            have hF13546 : FR l_Mo_space w w13540 := hF13517.tr hL13542 rfl
            exact hQ _ _ hI13541 hF13546 
        · exact hQ _ _ hI13511 hF13517
  · refine Eq.mpr (p_Mo_isValve.eq_1 _ _ _) ?_
    refine Eq.mpr (p_Mo_isThing.eq_1 _ _ _) ?_
    refine ⟨fun h13547 => ?_, fun h13547 => ?_⟩
    · refine ⟨fun _ => ?_, fun h => absurd (by decide) h⟩
      refine ⟨fun _ => ?_, fun h => absurd (by decide) h⟩
      exact hQ _ _ hI (FR.refl _ w) 
    · refine ⟨fun h13548 => ?_, fun h13548 => ?_⟩
      · refine ⟨fun _ => ?_, fun h => absurd (by decide) h⟩
        refine ⟨fun _ => ?_, fun h => absurd (by decide) h⟩
        exact hQ _ _ hI (FR.refl _ w) 
      · refine ⟨fun h => absurd h (by decide), fun _ => ?_⟩
        have o13549 : 0 ≤ a0.toInt ∧ a0.toInt < 20 := by have := (by decide : ((0 : Int32)).toInt = 0); have := bd_127_4 hI; omega
        refine ⟨o13549, ?_⟩
        refine ⟨fun h13550 => ?_, fun h13550 => ?_⟩
        · refine ⟨fun _ => ?_, fun h => absurd (by decide) h⟩
          exact hQ _ _ hI (FR.refl _ w) 
        · refine ⟨fun h => absurd h (by decide), fun _ => ?_⟩
          have o13551 : 0 ≤ a0.toInt ∧ a0.toInt < 20 := by have := (by decide : ((0 : Int32)).toInt = 0); have := bd_127_4 hI; omega
          refine ⟨o13551, ?_⟩
          exact hQ _ _ hI (FR.refl _ w) 
