def l_Pl_putNumber_123_2 : Pl := []
def l_Pl_putNumber_123_27 : Pl := [(123, none)]
def l_Pl_putNumber_123 : Pl := [(123, none)]
set_option maxRecDepth 20000 in
set_option maxHeartbeats 2000000 in
theorem hq_Pl_putNumber_123_2 {x2_1 : Int32} {x2_2 : Int32} {E : Int32 → MW → Prop} {Q : Int32 → MW → Prop} (n : Nat) : ∀ (x2_3 : Int32) (w : MW), BND w → 0 ≤ x2_1.toInt → x2_1.toInt ≤ 640 → 0 ≤ x2_2.toInt → x2_2.toInt ≤ 9999999 → 1 ≤ x2_3.toInt → x2_3.toInt ≤ 1000000 → (1000000 - x2_3.toInt).toNat < n → (∀ (e2_3 : Int32) (w' : MW), BND w' → FR l_Pl_putNumber_123_2 w w' → 1 ≤ e2_3.toInt → e2_3.toInt ≤ 1000000 → E e2_3 w') → (∀ (r : Int32) (w' : MW), BND w' → FR l_Pl_putNumber_123_2 w w' → False → Q r w') → q_Pl_putNumber_123_2 x2_1 x2_2 E Q n x2_3 w := by
  induction n with
  | zero => intros; omega
  | succ n ih =>
    intro x2_3 w hI  hp0 hp1 hp2 hp3 hp4 hp5 hm hE hQ
    rw [q_Pl_putNumber_123_2.eq_2]
    refine ⟨fun h29 => ?_, fun h29 => ?_⟩
    · have o30 : (1 ≤ x2_3.toInt) ∧ (x2_3.toInt ≤ 1000000) := by have := (by decide : ((100000 : Int32)).toInt = 100000); exact ⟨by omega, by omega⟩
      exact hE _ _ hI (FR.refl _ w) o30.1 o30.2
    · have o31 : ¬ x2_3.toInt = 0 := by have := (by decide : ((100000 : Int32)).toInt = 100000); omega
      refine ⟨o31, ?_⟩
      refine ⟨fun h32 => ?_, fun h32 => ?_⟩
      · have o33 : (1 ≤ x2_3.toInt) ∧ (x2_3.toInt ≤ 1000000) := by have := (by decide : ((100000 : Int32)).toInt = 100000); have := (by decide : ((10 : Int32)).toInt = 10); have := nb_divb (x := x2_2) (y := x2_3) (by omega) (by omega); have := nb_div10 (x := x2_2) (y := x2_3) (by omega) (by omega); exact ⟨by omega, by omega⟩
        exact hE _ _ hI (FR.refl _ w) o33.1 o33.2
      · have o34 : (0 ≤ x2_1.toInt) ∧ (x2_1.toInt ≤ 640) ∧ (0 ≤ x2_2.toInt) ∧ (x2_2.toInt ≤ 9999999) ∧ (1 ≤ (x2_3 * (10 : Int32)).toInt) ∧ ((x2_3 * (10 : Int32)).toInt ≤ 1000000) := by have := (by decide : ((100000 : Int32)).toInt = 100000); have := (by decide : ((10 : Int32)).toInt = 10); have := ti_mul2 (Eq.refl x2_3.toInt) (by decide : ((10 : Int32)).toInt = 10) (by omega) (by omega); have := nb_divb (x := x2_2) (y := x2_3) (by omega) (by omega); have := nb_div10 (x := x2_2) (y := x2_3) (by omega) (by omega); exact ⟨by omega, by omega, by omega, by omega, by omega, by omega⟩
        exact ih _ w hI  o34.1 o34.2.1 o34.2.2.1 o34.2.2.2.1 o34.2.2.2.2.1 o34.2.2.2.2.2 (by have := (by decide : ((100000 : Int32)).toInt = 100000); have := (by decide : ((10 : Int32)).toInt = 10); have := ti_mul2 (Eq.refl x2_3.toInt) (by decide : ((10 : Int32)).toInt = 10) (by omega) (by omega); have := nb_divb (x := x2_2) (y := x2_3) (by omega) (by omega); have := nb_div10 (x := x2_2) (y := x2_3) (by omega) (by omega); omega) (fun e0 w9 hI9 hF9 p0 p1 => hE e0 w9 hI9 ((FR.refl _ w).tr hF9 rfl) p0 p1 ) (fun r w9 hI9 hF9 q0 => q0.elim)
set_option maxRecDepth 20000 in
set_option maxHeartbeats 2000000 in
theorem hq_Pl_putNumber_123_27 {x27_2 : Int32} {E : Int32 → MW → Prop} {Q : Int32 → MW → Prop} (n : Nat) : ∀ (x27_3 : Int32) (x27_4 : Int32) (w : MW), BND w → 0 ≤ x27_2.toInt → x27_2.toInt ≤ 9999999 → 0 ≤ x27_3.toInt → x27_3.toInt ≤ 1000000 → 0 ≤ x27_4.toInt → x27_4.toInt ≤ 640 → (x27_3.toInt - 0).toNat < n → (∀ (e27_4 : Int32) (w' : MW), BND w' → FR l_Pl_putNumber_123_27 w w' → 0 ≤ e27_4.toInt → e27_4.toInt ≤ 640 → E e27_4 w') → (∀ (r : Int32) (w' : MW), BND w' → FR l_Pl_putNumber_123_27 w w' → False → Q r w') → q_Pl_putNumber_123_27 x27_2 E Q n x27_3 x27_4 w := by
  induction n with
  | zero => intros; omega
  | succ n ih =>
    intro x27_3 x27_4 w hI  hp0 hp1 hp2 hp3 hp4 hp5 hm hE hQ
    rw [q_Pl_putNumber_123_27.eq_2]
    refine ⟨fun h35 => ?_, fun h35 => ?_⟩
    · have o36 : (0 ≤ x27_4.toInt) ∧ (x27_4.toInt ≤ 640) := by exact ⟨by omega, by omega⟩
      exact hE _ _ hI (FR.refl _ w) o36.1 o36.2
    · refine ⟨fun h37 => ?_, fun h37 => ?_⟩
      · have o38 : (0 ≤ x27_4.toInt) ∧ (x27_4.toInt ≤ 640) := by have := (by decide : ((640 : Int32)).toInt = 640); exact ⟨by omega, by omega⟩
        exact hE _ _ hI (FR.refl _ w) o38.1 o38.2
      · have o39 : ¬ x27_3.toInt = 0 := by have := (by decide : ((1 : Int32)).toInt = 1); omega
        refine ⟨o39, ?_⟩
        have o40 : 0 ≤ x27_4.toInt ∧ x27_4.toInt < 640 := by have := (by decide : ((640 : Int32)).toInt = 640); omega
        refine ⟨o40, ?_⟩
        have o42 : (-128) ≤ (vp_nar .byte ((Int32.toInt8 ((48 : Int32) + ((x27_2 / x27_3) - (x27_2 / x27_3) / (10 : Int32) * (10 : Int32)))).toInt32)).toInt ∧ (vp_nar .byte ((Int32.toInt8 ((48 : Int32) + ((x27_2 / x27_3) - (x27_2 / x27_3) / (10 : Int32) * (10 : Int32)))).toInt32)).toInt ≤ 127 := by have := (by decide : ((1 : Int32)).toInt = 1); have := nb_divb (x := x27_2) (y := x27_3) (by omega) (by omega); have := nb_div10 (x := x27_2) (y := x27_3) (by omega) (by omega); have := nb_rem (x := (x27_2 / x27_3)) (by omega) (by decide : ((10 : Int32)).toInt = 10) (by decide); have := ti_add2 (by decide : ((48 : Int32)).toInt = 48) (Eq.refl ((x27_2 / x27_3) - (x27_2 / x27_3) / (10 : Int32) * (10 : Int32)).toInt) (by omega) (by omega); have := nb_i2beq (x := ((48 : Int32) + ((x27_2 / x27_3) - (x27_2 / x27_3) / (10 : Int32) * (10 : Int32)))) (by omega) (by omega); have := nb_byteq (x := ((Int32.toInt8 ((48 : Int32) + ((x27_2 / x27_3) - (x27_2 / x27_3) / (10 : Int32) * (10 : Int32)))).toInt32)) (by omega) (by omega); omega
        have hI41 : BND (sI w 123 x27_4.toInt.toNat (vp_nar .byte ((Int32.toInt8 ((48 : Int32) + ((x27_2 / x27_3) - (x27_2 / x27_3) / (10 : Int32) * (10 : Int32)))).toInt32))) := wbd_123 hI x27_4.toInt.toNat o42.1 o42.2
        have o43 : (0 ≤ x27_2.toInt) ∧ (x27_2.toInt ≤ 9999999) ∧ (0 ≤ (x27_3 / (10 : Int32)).toInt) ∧ ((x27_3 / (10 : Int32)).toInt ≤ 1000000) ∧ (0 ≤ (x27_4 + (1 : Int32)).toInt) ∧ ((x27_4 + (1 : Int32)).toInt ≤ 640) := by have := (by decide : ((1 : Int32)).toInt = 1); have := (by decide : ((640 : Int32)).toInt = 640); have := nb_div (x := x27_3) (by omega) (by decide : ((10 : Int32)).toInt = 10) (by decide); have := ti_add2 (Eq.refl x27_4.toInt) (by decide : ((1 : Int32)).toInt = 1) (by omega) (by omega); exact ⟨by omega, by omega, by omega, by omega, by omega, by omega⟩
        exact ih _ _ (sI w 123 x27_4.toInt.toNat (vp_nar .byte ((Int32.toInt8 ((48 : Int32) + ((x27_2 / x27_3) - (x27_2 / x27_3) / (10 : Int32) * (10 : Int32)))).toInt32))) hI41  o43.1 o43.2.1 o43.2.2.1 o43.2.2.2.1 o43.2.2.2.2.1 o43.2.2.2.2.2 (by have := (by decide : ((1 : Int32)).toInt = 1); have := (by decide : ((640 : Int32)).toInt = 640); have := nb_div (x := x27_3) (by omega) (by decide : ((10 : Int32)).toInt = 10) (by decide); have := ti_add2 (Eq.refl x27_4.toInt) (by decide : ((1 : Int32)).toInt = 1) (by omega) (by omega); omega) (fun e0 w9 hI9 hF9 p0 p1 => hE e0 w9 hI9 ((FR.I (FR.refl _ w) (k := 123) (j := x27_4.toInt.toNat) (v := (vp_nar .byte ((Int32.toInt8 ((48 : Int32) + ((x27_2 / x27_3) - (x27_2 / x27_3) / (10 : Int32) * (10 : Int32)))).toInt32))) rfl).tr hF9 rfl) p0 p1 ) (fun r w9 hI9 hF9 q0 => q0.elim)
set_option maxRecDepth 20000 in
set_option maxHeartbeats 2000000 in
theorem h_Pl_putNumber_123 {w : MW} {a0 : Int32} {b0 : Int32} {Q : Int32 → MW → Prop} (hI : BND w) (hp0 : 0 ≤ a0.toInt) (hp1 : a0.toInt ≤ 640) (hp2 : 0 ≤ b0.toInt) (hp3 : b0.toInt ≤ 9999999) (hQ : ∀ (r : Int32) (w' : MW), BND w' → FR l_Pl_putNumber_123 w w' → 0 ≤ r.toInt → r.toInt ≤ 640 → Q r w') : p_Pl_putNumber_123 w a0 b0 Q := by
  refine Eq.mpr (p_Pl_putNumber_123.eq_1 _ _ _ _) ?_
  have o44 : (0 ≤ a0.toInt) ∧ (a0.toInt ≤ 640) ∧ (0 ≤ b0.toInt) ∧ (b0.toInt ≤ 9999999) ∧ (1 ≤ (1 : Int32).toInt) ∧ ((1 : Int32).toInt ≤ 1000000) := by have := (by decide : ((1 : Int32)).toInt = 1); exact ⟨by omega, by omega, by omega, by omega, by omega, by omega⟩
  refine hq_Pl_putNumber_123_2 FU _ w hI  o44.1 o44.2.1 o44.2.2.1 o44.2.2.2.1 o44.2.2.2.2.1 o44.2.2.2.2.2 (fu_lt (by have := (by decide : ((1 : Int32)).toInt = 1); omega)) (fun e48 w45 hI46 hL47 p49 p50 => ?_) (fun r w9 hI9 hF9 q0 => q0.elim)
  have hF51 : FR l_Pl_putNumber_123 w w45 := (FR.refl _ w).tr hL47 rfl
  have o52 : (0 ≤ b0.toInt) ∧ (b0.toInt ≤ 9999999) ∧ (0 ≤ e48.toInt) ∧ (e48.toInt ≤ 1000000) ∧ (0 ≤ a0.toInt) ∧ (a0.toInt ≤ 640) := by exact ⟨by omega, by omega, by omega, by omega, by omega, by omega⟩
  refine hq_Pl_putNumber_123_27 FU _ _ w45 hI46  o52.1 o52.2.1 o52.2.2.1 o52.2.2.2.1 o52.2.2.2.2.1 o52.2.2.2.2.2 (fu_lt (by omega)) (fun e56 w53 hI54 hL55 p57 p58 => ?_) (fun r w9 hI9 hF9 q0 => q0.elim)
  have hF59 : FR l_Pl_putNumber_123 w w53 := hF51.tr hL55 rfl
  have o60 : (0 ≤ e56.toInt) ∧ (e56.toInt ≤ 640) := by exact ⟨by omega, by omega⟩
  exact hQ _ _ hI54 hF59  o60.1 o60.2
def l_Pl_put_123_2017_5 : Pl := [(123, none)]
def l_Pl_put_123_2017 : Pl := [(123, none)]
set_option maxRecDepth 20000 in
set_option maxHeartbeats 2000000 in
theorem hq_Pl_put_123_2017_5 {E : Int32 → MW → Prop} {Q : Int32 → MW → Prop} (n : Nat) : ∀ (x5_3 : Int32) (x5_4 : Int32) (w : MW), BND w → 0 ≤ x5_3.toInt → x5_3.toInt ≤ 640 → 0 ≤ x5_4.toInt → x5_4.toInt ≤ 1 → (640 - x5_3.toInt).toNat < n → (∀ (e5_3 : Int32) (w' : MW), BND w' → FR l_Pl_put_123_2017_5 w w' → 0 ≤ e5_3.toInt → e5_3.toInt ≤ 640 → E e5_3 w') → (∀ (r : Int32) (w' : MW), BND w' → FR l_Pl_put_123_2017_5 w w' → False → Q r w') → q_Pl_put_123_2017_5 E Q n x5_3 x5_4 w := by
  induction n with
  | zero => intros; omega
  | succ n ih =>
    intro x5_3 x5_4 w hI  hp0 hp1 hp2 hp3 hm hE hQ
    rw [q_Pl_put_123_2017_5.eq_2]
    refine ⟨fun h61 => ?_, fun h61 => ?_⟩
    · have o62 : (0 ≤ x5_3.toInt) ∧ (x5_3.toInt ≤ 640) := by exact ⟨by omega, by omega⟩
      exact hE _ _ hI (FR.refl _ w) o62.1 o62.2
    · refine ⟨fun h63 => ?_, fun h63 => ?_⟩
      · have o64 : (0 ≤ x5_3.toInt) ∧ (x5_3.toInt ≤ 640) := by have := (by decide : ((640 : Int32)).toInt = 640); exact ⟨by omega, by omega⟩
        exact hE _ _ hI (FR.refl _ w) o64.1 o64.2
      · have o65 : 0 ≤ x5_4.toInt ∧ x5_4.toInt < 1 := by have := (by decide : ((1 : Int32)).toInt = 1); omega
        refine ⟨o65, ?_⟩
        have o66 : 0 ≤ x5_3.toInt ∧ x5_3.toInt < 640 := by have := (by decide : ((640 : Int32)).toInt = 640); omega
        refine ⟨o66, ?_⟩
        have o68 : (-128) ≤ (vp_nar .byte ((Int32.toInt8 (chT 17 x5_4)).toInt32)).toInt ∧ (vp_nar .byte ((Int32.toInt8 (chT 17 x5_4)).toInt32)).toInt ≤ 127 := by have := nb_ch 17 x5_4; have := (by decide : ((1 : Int32)).toInt = 1); have := nb_i2b (chT 17 x5_4); have := nb_byteq (x := ((Int32.toInt8 (chT 17 x5_4)).toInt32)) (by omega) (by omega); omega
        have hI67 : BND (sI w 123 x5_3.toInt.toNat (vp_nar .byte ((Int32.toInt8 (chT 17 x5_4)).toInt32))) := wbd_123 hI x5_3.toInt.toNat o68.1 o68.2
        have o69 : (0 ≤ (x5_3 + (1 : Int32)).toInt) ∧ ((x5_3 + (1 : Int32)).toInt ≤ 640) ∧ (0 ≤ (x5_4 + (1 : Int32)).toInt) ∧ ((x5_4 + (1 : Int32)).toInt ≤ 1) := by have := (by decide : ((1 : Int32)).toInt = 1); have := (by decide : ((640 : Int32)).toInt = 640); have := ti_add2 (Eq.refl x5_3.toInt) (by decide : ((1 : Int32)).toInt = 1) (by omega) (by omega); have := ti_add2 (Eq.refl x5_4.toInt) (by decide : ((1 : Int32)).toInt = 1) (by omega) (by omega); exact ⟨by omega, by omega, by omega, by omega⟩
        exact ih _ _ (sI w 123 x5_3.toInt.toNat (vp_nar .byte ((Int32.toInt8 (chT 17 x5_4)).toInt32))) hI67  o69.1 o69.2.1 o69.2.2.1 o69.2.2.2 (by have := (by decide : ((1 : Int32)).toInt = 1); have := (by decide : ((640 : Int32)).toInt = 640); have := ti_add2 (Eq.refl x5_3.toInt) (by decide : ((1 : Int32)).toInt = 1) (by omega) (by omega); have := ti_add2 (Eq.refl x5_4.toInt) (by decide : ((1 : Int32)).toInt = 1) (by omega) (by omega); omega) (fun e0 w9 hI9 hF9 p0 p1 => hE e0 w9 hI9 ((FR.I (FR.refl _ w) (k := 123) (j := x5_3.toInt.toNat) (v := (vp_nar .byte ((Int32.toInt8 (chT 17 x5_4)).toInt32))) rfl).tr hF9 rfl) p0 p1 ) (fun r w9 hI9 hF9 q0 => q0.elim)
set_option maxRecDepth 20000 in
set_option maxHeartbeats 2000000 in
theorem h_Pl_put_123_2017 {w : MW} {a0 : Int32} {Q : Int32 → MW → Prop} (hI : BND w) (hp0 : 0 ≤ a0.toInt) (hp1 : a0.toInt ≤ 640) (hQ : ∀ (r : Int32) (w' : MW), BND w' → FR l_Pl_put_123_2017 w w' → 0 ≤ r.toInt → r.toInt ≤ 640 → Q r w') : p_Pl_put_123_2017 w a0 Q := by
  refine Eq.mpr (p_Pl_put_123_2017.eq_1 _ _ _) ?_
  have o70 : (0 ≤ a0.toInt) ∧ (a0.toInt ≤ 640) ∧ (0 ≤ (0 : Int32).toInt) ∧ ((0 : Int32).toInt ≤ 1) := by have := (by decide : ((0 : Int32)).toInt = 0); exact ⟨by omega, by omega, by omega, by omega⟩
  refine hq_Pl_put_123_2017_5 FU _ _ w hI  o70.1 o70.2.1 o70.2.2.1 o70.2.2.2 (fu_lt (by have := (by decide : ((0 : Int32)).toInt = 0); omega)) (fun e74 w71 hI72 hL73 p75 p76 => ?_) (fun r w9 hI9 hF9 q0 => q0.elim)
  have hF77 : FR l_Pl_put_123_2017 w w71 := (FR.refl _ w).tr hL73 rfl
  have o78 : (0 ≤ e74.toInt) ∧ (e74.toInt ≤ 640) := by exact ⟨by omega, by omega⟩
  exact hQ _ _ hI72 hF77  o78.1 o78.2
def l_Pl_put_123_2001_5 : Pl := [(123, none)]
def l_Pl_put_123_2001 : Pl := [(123, none)]
set_option maxRecDepth 20000 in
set_option maxHeartbeats 2000000 in
theorem hq_Pl_put_123_2001_5 {E : Int32 → MW → Prop} {Q : Int32 → MW → Prop} (n : Nat) : ∀ (x5_3 : Int32) (x5_4 : Int32) (w : MW), BND w → 0 ≤ x5_3.toInt → x5_3.toInt ≤ 640 → 0 ≤ x5_4.toInt → x5_4.toInt ≤ 5 → (640 - x5_3.toInt).toNat < n → (∀ (e5_3 : Int32) (w' : MW), BND w' → FR l_Pl_put_123_2001_5 w w' → 0 ≤ e5_3.toInt → e5_3.toInt ≤ 640 → E e5_3 w') → (∀ (r : Int32) (w' : MW), BND w' → FR l_Pl_put_123_2001_5 w w' → False → Q r w') → q_Pl_put_123_2001_5 E Q n x5_3 x5_4 w := by
  induction n with
  | zero => intros; omega
  | succ n ih =>
    intro x5_3 x5_4 w hI  hp0 hp1 hp2 hp3 hm hE hQ
    rw [q_Pl_put_123_2001_5.eq_2]
    refine ⟨fun h79 => ?_, fun h79 => ?_⟩
    · have o80 : (0 ≤ x5_3.toInt) ∧ (x5_3.toInt ≤ 640) := by exact ⟨by omega, by omega⟩
      exact hE _ _ hI (FR.refl _ w) o80.1 o80.2
    · refine ⟨fun h81 => ?_, fun h81 => ?_⟩
      · have o82 : (0 ≤ x5_3.toInt) ∧ (x5_3.toInt ≤ 640) := by have := (by decide : ((640 : Int32)).toInt = 640); exact ⟨by omega, by omega⟩
        exact hE _ _ hI (FR.refl _ w) o82.1 o82.2
      · have o83 : 0 ≤ x5_4.toInt ∧ x5_4.toInt < 5 := by have := (by decide : ((5 : Int32)).toInt = 5); omega
        refine ⟨o83, ?_⟩
        have o84 : 0 ≤ x5_3.toInt ∧ x5_3.toInt < 640 := by have := (by decide : ((640 : Int32)).toInt = 640); omega
        refine ⟨o84, ?_⟩
        have o86 : (-128) ≤ (vp_nar .byte ((Int32.toInt8 (chT 1 x5_4)).toInt32)).toInt ∧ (vp_nar .byte ((Int32.toInt8 (chT 1 x5_4)).toInt32)).toInt ≤ 127 := by have := nb_ch 1 x5_4; have := (by decide : ((5 : Int32)).toInt = 5); have := nb_i2b (chT 1 x5_4); have := nb_byteq (x := ((Int32.toInt8 (chT 1 x5_4)).toInt32)) (by omega) (by omega); omega
        have hI85 : BND (sI w 123 x5_3.toInt.toNat (vp_nar .byte ((Int32.toInt8 (chT 1 x5_4)).toInt32))) := wbd_123 hI x5_3.toInt.toNat o86.1 o86.2
        have o87 : (0 ≤ (x5_3 + (1 : Int32)).toInt) ∧ ((x5_3 + (1 : Int32)).toInt ≤ 640) ∧ (0 ≤ (x5_4 + (1 : Int32)).toInt) ∧ ((x5_4 + (1 : Int32)).toInt ≤ 5) := by have := (by decide : ((5 : Int32)).toInt = 5); have := (by decide : ((640 : Int32)).toInt = 640); have := ti_add2 (Eq.refl x5_3.toInt) (by decide : ((1 : Int32)).toInt = 1) (by omega) (by omega); have := ti_add2 (Eq.refl x5_4.toInt) (by decide : ((1 : Int32)).toInt = 1) (by omega) (by omega); exact ⟨by omega, by omega, by omega, by omega⟩
        exact ih _ _ (sI w 123 x5_3.toInt.toNat (vp_nar .byte ((Int32.toInt8 (chT 1 x5_4)).toInt32))) hI85  o87.1 o87.2.1 o87.2.2.1 o87.2.2.2 (by have := (by decide : ((5 : Int32)).toInt = 5); have := (by decide : ((640 : Int32)).toInt = 640); have := ti_add2 (Eq.refl x5_3.toInt) (by decide : ((1 : Int32)).toInt = 1) (by omega) (by omega); have := ti_add2 (Eq.refl x5_4.toInt) (by decide : ((1 : Int32)).toInt = 1) (by omega) (by omega); omega) (fun e0 w9 hI9 hF9 p0 p1 => hE e0 w9 hI9 ((FR.I (FR.refl _ w) (k := 123) (j := x5_3.toInt.toNat) (v := (vp_nar .byte ((Int32.toInt8 (chT 1 x5_4)).toInt32))) rfl).tr hF9 rfl) p0 p1 ) (fun r w9 hI9 hF9 q0 => q0.elim)
set_option maxRecDepth 20000 in
set_option maxHeartbeats 2000000 in
theorem h_Pl_put_123_2001 {w : MW} {a0 : Int32} {Q : Int32 → MW → Prop} (hI : BND w) (hp0 : 0 ≤ a0.toInt) (hp1 : a0.toInt ≤ 640) (hQ : ∀ (r : Int32) (w' : MW), BND w' → FR l_Pl_put_123_2001 w w' → 0 ≤ r.toInt → r.toInt ≤ 640 → Q r w') : p_Pl_put_123_2001 w a0 Q := by
  refine Eq.mpr (p_Pl_put_123_2001.eq_1 _ _ _) ?_
  have o88 : (0 ≤ a0.toInt) ∧ (a0.toInt ≤ 640) ∧ (0 ≤ (0 : Int32).toInt) ∧ ((0 : Int32).toInt ≤ 5) := by have := (by decide : ((0 : Int32)).toInt = 0); exact ⟨by omega, by omega, by omega, by omega⟩
  refine hq_Pl_put_123_2001_5 FU _ _ w hI  o88.1 o88.2.1 o88.2.2.1 o88.2.2.2 (fu_lt (by have := (by decide : ((0 : Int32)).toInt = 0); omega)) (fun e92 w89 hI90 hL91 p93 p94 => ?_) (fun r w9 hI9 hF9 q0 => q0.elim)
  have hF95 : FR l_Pl_put_123_2001 w w89 := (FR.refl _ w).tr hL91 rfl
  have o96 : (0 ≤ e92.toInt) ∧ (e92.toInt ≤ 640) := by exact ⟨by omega, by omega⟩
  exact hQ _ _ hI90 hF95  o96.1 o96.2
def l_Pl_put_123_2002_5 : Pl := [(123, none)]
def l_Pl_put_123_2002 : Pl := [(123, none)]
set_option maxRecDepth 20000 in
set_option maxHeartbeats 2000000 in
theorem hq_Pl_put_123_2002_5 {E : Int32 → MW → Prop} {Q : Int32 → MW → Prop} (n : Nat) : ∀ (x5_3 : Int32) (x5_4 : Int32) (w : MW), BND w → 0 ≤ x5_3.toInt → x5_3.toInt ≤ 640 → 0 ≤ x5_4.toInt → x5_4.toInt ≤ 6 → (640 - x5_3.toInt).toNat < n → (∀ (e5_3 : Int32) (w' : MW), BND w' → FR l_Pl_put_123_2002_5 w w' → 0 ≤ e5_3.toInt → e5_3.toInt ≤ 640 → E e5_3 w') → (∀ (r : Int32) (w' : MW), BND w' → FR l_Pl_put_123_2002_5 w w' → False → Q r w') → q_Pl_put_123_2002_5 E Q n x5_3 x5_4 w := by
  induction n with
  | zero => intros; omega
  | succ n ih =>
    intro x5_3 x5_4 w hI  hp0 hp1 hp2 hp3 hm hE hQ
    rw [q_Pl_put_123_2002_5.eq_2]
    refine ⟨fun h97 => ?_, fun h97 => ?_⟩
    · have o98 : (0 ≤ x5_3.toInt) ∧ (x5_3.toInt ≤ 640) := by exact ⟨by omega, by omega⟩
      exact hE _ _ hI (FR.refl _ w) o98.1 o98.2
    · refine ⟨fun h99 => ?_, fun h99 => ?_⟩
      · have o100 : (0 ≤ x5_3.toInt) ∧ (x5_3.toInt ≤ 640) := by have := (by decide : ((640 : Int32)).toInt = 640); exact ⟨by omega, by omega⟩
        exact hE _ _ hI (FR.refl _ w) o100.1 o100.2
      · have o101 : 0 ≤ x5_4.toInt ∧ x5_4.toInt < 6 := by have := (by decide : ((6 : Int32)).toInt = 6); omega
        refine ⟨o101, ?_⟩
        have o102 : 0 ≤ x5_3.toInt ∧ x5_3.toInt < 640 := by have := (by decide : ((640 : Int32)).toInt = 640); omega
        refine ⟨o102, ?_⟩
        have o104 : (-128) ≤ (vp_nar .byte ((Int32.toInt8 (chT 2 x5_4)).toInt32)).toInt ∧ (vp_nar .byte ((Int32.toInt8 (chT 2 x5_4)).toInt32)).toInt ≤ 127 := by have := nb_ch 2 x5_4; have := (by decide : ((6 : Int32)).toInt = 6); have := nb_i2b (chT 2 x5_4); have := nb_byteq (x := ((Int32.toInt8 (chT 2 x5_4)).toInt32)) (by omega) (by omega); omega
        have hI103 : BND (sI w 123 x5_3.toInt.toNat (vp_nar .byte ((Int32.toInt8 (chT 2 x5_4)).toInt32))) := wbd_123 hI x5_3.toInt.toNat o104.1 o104.2
        have o105 : (0 ≤ (x5_3 + (1 : Int32)).toInt) ∧ ((x5_3 + (1 : Int32)).toInt ≤ 640) ∧ (0 ≤ (x5_4 + (1 : Int32)).toInt) ∧ ((x5_4 + (1 : Int32)).toInt ≤ 6) := by have := (by decide : ((6 : Int32)).toInt = 6); have := (by decide : ((640 : Int32)).toInt = 640); have := ti_add2 (Eq.refl x5_3.toInt) (by decide : ((1 : Int32)).toInt = 1) (by omega) (by omega); have := ti_add2 (Eq.refl x5_4.toInt) (by decide : ((1 : Int32)).toInt = 1) (by omega) (by omega); exact ⟨by omega, by omega, by omega, by omega⟩
        exact ih _ _ (sI w 123 x5_3.toInt.toNat (vp_nar .byte ((Int32.toInt8 (chT 2 x5_4)).toInt32))) hI103  o105.1 o105.2.1 o105.2.2.1 o105.2.2.2 (by have := (by decide : ((6 : Int32)).toInt = 6); have := (by decide : ((640 : Int32)).toInt = 640); have := ti_add2 (Eq.refl x5_3.toInt) (by decide : ((1 : Int32)).toInt = 1) (by omega) (by omega); have := ti_add2 (Eq.refl x5_4.toInt) (by decide : ((1 : Int32)).toInt = 1) (by omega) (by omega); omega) (fun e0 w9 hI9 hF9 p0 p1 => hE e0 w9 hI9 ((FR.I (FR.refl _ w) (k := 123) (j := x5_3.toInt.toNat) (v := (vp_nar .byte ((Int32.toInt8 (chT 2 x5_4)).toInt32))) rfl).tr hF9 rfl) p0 p1 ) (fun r w9 hI9 hF9 q0 => q0.elim)
set_option maxRecDepth 20000 in
set_option maxHeartbeats 2000000 in
theorem h_Pl_put_123_2002 {w : MW} {a0 : Int32} {Q : Int32 → MW → Prop} (hI : BND w) (hp0 : 0 ≤ a0.toInt) (hp1 : a0.toInt ≤ 640) (hQ : ∀ (r : Int32) (w' : MW), BND w' → FR l_Pl_put_123_2002 w w' → 0 ≤ r.toInt → r.toInt ≤ 640 → Q r w') : p_Pl_put_123_2002 w a0 Q := by
  refine Eq.mpr (p_Pl_put_123_2002.eq_1 _ _ _) ?_
  have o106 : (0 ≤ a0.toInt) ∧ (a0.toInt ≤ 640) ∧ (0 ≤ (0 : Int32).toInt) ∧ ((0 : Int32).toInt ≤ 6) := by have := (by decide : ((0 : Int32)).toInt = 0); exact ⟨by omega, by omega, by omega, by omega⟩
  refine hq_Pl_put_123_2002_5 FU _ _ w hI  o106.1 o106.2.1 o106.2.2.1 o106.2.2.2 (fu_lt (by have := (by decide : ((0 : Int32)).toInt = 0); omega)) (fun e110 w107 hI108 hL109 p111 p112 => ?_) (fun r w9 hI9 hF9 q0 => q0.elim)
  have hF113 : FR l_Pl_put_123_2002 w w107 := (FR.refl _ w).tr hL109 rfl
  have o114 : (0 ≤ e110.toInt) ∧ (e110.toInt ≤ 640) := by exact ⟨by omega, by omega⟩
  exact hQ _ _ hI108 hF113  o114.1 o114.2
def l_Pl_put_123_2003_5 : Pl := [(123, none)]
def l_Pl_put_123_2003 : Pl := [(123, none)]
set_option maxRecDepth 20000 in
set_option maxHeartbeats 2000000 in
theorem hq_Pl_put_123_2003_5 {E : Int32 → MW → Prop} {Q : Int32 → MW → Prop} (n : Nat) : ∀ (x5_3 : Int32) (x5_4 : Int32) (w : MW), BND w → 0 ≤ x5_3.toInt → x5_3.toInt ≤ 640 → 0 ≤ x5_4.toInt → x5_4.toInt ≤ 4 → (640 - x5_3.toInt).toNat < n → (∀ (e5_3 : Int32) (w' : MW), BND w' → FR l_Pl_put_123_2003_5 w w' → 0 ≤ e5_3.toInt → e5_3.toInt ≤ 640 → E e5_3 w') → (∀ (r : Int32) (w' : MW), BND w' → FR l_Pl_put_123_2003_5 w w' → False → Q r w') → q_Pl_put_123_2003_5 E Q n x5_3 x5_4 w := by
  induction n with
  | zero => intros; omega
  | succ n ih =>
    intro x5_3 x5_4 w hI  hp0 hp1 hp2 hp3 hm hE hQ
    rw [q_Pl_put_123_2003_5.eq_2]
    refine ⟨fun h115 => ?_, fun h115 => ?_⟩
    · have o116 : (0 ≤ x5_3.toInt) ∧ (x5_3.toInt ≤ 640) := by exact ⟨by omega, by omega⟩
      exact hE _ _ hI (FR.refl _ w) o116.1 o116.2
    · refine ⟨fun h117 => ?_, fun h117 => ?_⟩
      · have o118 : (0 ≤ x5_3.toInt) ∧ (x5_3.toInt ≤ 640) := by have := (by decide : ((640 : Int32)).toInt = 640); exact ⟨by omega, by omega⟩
        exact hE _ _ hI (FR.refl _ w) o118.1 o118.2
      · have o119 : 0 ≤ x5_4.toInt ∧ x5_4.toInt < 4 := by have := (by decide : ((4 : Int32)).toInt = 4); omega
        refine ⟨o119, ?_⟩
        have o120 : 0 ≤ x5_3.toInt ∧ x5_3.toInt < 640 := by have := (by decide : ((640 : Int32)).toInt = 640); omega
        refine ⟨o120, ?_⟩
        have o122 : (-128) ≤ (vp_nar .byte ((Int32.toInt8 (chT 3 x5_4)).toInt32)).toInt ∧ (vp_nar .byte ((Int32.toInt8 (chT 3 x5_4)).toInt32)).toInt ≤ 127 := by have := nb_ch 3 x5_4; have := (by decide : ((4 : Int32)).toInt = 4); have := nb_i2b (chT 3 x5_4); have := nb_byteq (x := ((Int32.toInt8 (chT 3 x5_4)).toInt32)) (by omega) (by omega); omega
        have hI121 : BND (sI w 123 x5_3.toInt.toNat (vp_nar .byte ((Int32.toInt8 (chT 3 x5_4)).toInt32))) := wbd_123 hI x5_3.toInt.toNat o122.1 o122.2
        have o123 : (0 ≤ (x5_3 + (1 : Int32)).toInt) ∧ ((x5_3 + (1 : Int32)).toInt ≤ 640) ∧ (0 ≤ (x5_4 + (1 : Int32)).toInt) ∧ ((x5_4 + (1 : Int32)).toInt ≤ 4) := by have := (by decide : ((4 : Int32)).toInt = 4); have := (by decide : ((640 : Int32)).toInt = 640); have := ti_add2 (Eq.refl x5_3.toInt) (by decide : ((1 : Int32)).toInt = 1) (by omega) (by omega); have := ti_add2 (Eq.refl x5_4.toInt) (by decide : ((1 : Int32)).toInt = 1) (by omega) (by omega); exact ⟨by omega, by omega, by omega, by omega⟩
        exact ih _ _ (sI w 123 x5_3.toInt.toNat (vp_nar .byte ((Int32.toInt8 (chT 3 x5_4)).toInt32))) hI121  o123.1 o123.2.1 o123.2.2.1 o123.2.2.2 (by have := (by decide : ((4 : Int32)).toInt = 4); have := (by decide : ((640 : Int32)).toInt = 640); have := ti_add2 (Eq.refl x5_3.toInt) (by decide : ((1 : Int32)).toInt = 1) (by omega) (by omega); have := ti_add2 (Eq.refl x5_4.toInt) (by decide : ((1 : Int32)).toInt = 1) (by omega) (by omega); omega) (fun e0 w9 hI9 hF9 p0 p1 => hE e0 w9 hI9 ((FR.I (FR.refl _ w) (k := 123) (j := x5_3.toInt.toNat) (v := (vp_nar .byte ((Int32.toInt8 (chT 3 x5_4)).toInt32))) rfl).tr hF9 rfl) p0 p1 ) (fun r w9 hI9 hF9 q0 => q0.elim)
set_option maxRecDepth 20000 in
set_option maxHeartbeats 2000000 in
theorem h_Pl_put_123_2003 {w : MW} {a0 : Int32} {Q : Int32 → MW → Prop} (hI : BND w) (hp0 : 0 ≤ a0.toInt) (hp1 : a0.toInt ≤ 640) (hQ : ∀ (r : Int32) (w' : MW), BND w' → FR l_Pl_put_123_2003 w w' → 0 ≤ r.toInt → r.toInt ≤ 640 → Q r w') : p_Pl_put_123_2003 w a0 Q := by
  refine Eq.mpr (p_Pl_put_123_2003.eq_1 _ _ _) ?_
  have o124 : (0 ≤ a0.toInt) ∧ (a0.toInt ≤ 640) ∧ (0 ≤ (0 : Int32).toInt) ∧ ((0 : Int32).toInt ≤ 4) := by have := (by decide : ((0 : Int32)).toInt = 0); exact ⟨by omega, by omega, by omega, by omega⟩
  refine hq_Pl_put_123_2003_5 FU _ _ w hI  o124.1 o124.2.1 o124.2.2.1 o124.2.2.2 (fu_lt (by have := (by decide : ((0 : Int32)).toInt = 0); omega)) (fun e128 w125 hI126 hL127 p129 p130 => ?_) (fun r w9 hI9 hF9 q0 => q0.elim)
  have hF131 : FR l_Pl_put_123_2003 w w125 := (FR.refl _ w).tr hL127 rfl
  have o132 : (0 ≤ e128.toInt) ∧ (e128.toInt ≤ 640) := by exact ⟨by omega, by omega⟩
  exact hQ _ _ hI126 hF131  o132.1 o132.2
def l_Pl_put_123_2004_5 : Pl := [(123, none)]
def l_Pl_put_123_2004 : Pl := [(123, none)]
set_option maxRecDepth 20000 in
set_option maxHeartbeats 2000000 in
theorem hq_Pl_put_123_2004_5 {E : Int32 → MW → Prop} {Q : Int32 → MW → Prop} (n : Nat) : ∀ (x5_3 : Int32) (x5_4 : Int32) (w : MW), BND w → 0 ≤ x5_3.toInt → x5_3.toInt ≤ 640 → 0 ≤ x5_4.toInt → x5_4.toInt ≤ 5 → (640 - x5_3.toInt).toNat < n → (∀ (e5_3 : Int32) (w' : MW), BND w' → FR l_Pl_put_123_2004_5 w w' → 0 ≤ e5_3.toInt → e5_3.toInt ≤ 640 → E e5_3 w') → (∀ (r : Int32) (w' : MW), BND w' → FR l_Pl_put_123_2004_5 w w' → False → Q r w') → q_Pl_put_123_2004_5 E Q n x5_3 x5_4 w := by
  induction n with
  | zero => intros; omega
  | succ n ih =>
    intro x5_3 x5_4 w hI  hp0 hp1 hp2 hp3 hm hE hQ
    rw [q_Pl_put_123_2004_5.eq_2]
    refine ⟨fun h133 => ?_, fun h133 => ?_⟩
    · have o134 : (0 ≤ x5_3.toInt) ∧ (x5_3.toInt ≤ 640) := by exact ⟨by omega, by omega⟩
      exact hE _ _ hI (FR.refl _ w) o134.1 o134.2
    · refine ⟨fun h135 => ?_, fun h135 => ?_⟩
      · have o136 : (0 ≤ x5_3.toInt) ∧ (x5_3.toInt ≤ 640) := by have := (by decide : ((640 : Int32)).toInt = 640); exact ⟨by omega, by omega⟩
        exact hE _ _ hI (FR.refl _ w) o136.1 o136.2
      · have o137 : 0 ≤ x5_4.toInt ∧ x5_4.toInt < 5 := by have := (by decide : ((5 : Int32)).toInt = 5); omega
        refine ⟨o137, ?_⟩
        have o138 : 0 ≤ x5_3.toInt ∧ x5_3.toInt < 640 := by have := (by decide : ((640 : Int32)).toInt = 640); omega
        refine ⟨o138, ?_⟩
        have o140 : (-128) ≤ (vp_nar .byte ((Int32.toInt8 (chT 4 x5_4)).toInt32)).toInt ∧ (vp_nar .byte ((Int32.toInt8 (chT 4 x5_4)).toInt32)).toInt ≤ 127 := by have := nb_ch 4 x5_4; have := (by decide : ((5 : Int32)).toInt = 5); have := nb_i2b (chT 4 x5_4); have := nb_byteq (x := ((Int32.toInt8 (chT 4 x5_4)).toInt32)) (by omega) (by omega); omega
        have hI139 : BND (sI w 123 x5_3.toInt.toNat (vp_nar .byte ((Int32.toInt8 (chT 4 x5_4)).toInt32))) := wbd_123 hI x5_3.toInt.toNat o140.1 o140.2
        have o141 : (0 ≤ (x5_3 + (1 : Int32)).toInt) ∧ ((x5_3 + (1 : Int32)).toInt ≤ 640) ∧ (0 ≤ (x5_4 + (1 : Int32)).toInt) ∧ ((x5_4 + (1 : Int32)).toInt ≤ 5) := by have := (by decide : ((5 : Int32)).toInt = 5); have := (by decide : ((640 : Int32)).toInt = 640); have := ti_add2 (Eq.refl x5_3.toInt) (by decide : ((1 : Int32)).toInt = 1) (by omega) (by omega); have := ti_add2 (Eq.refl x5_4.toInt) (by decide : ((1 : Int32)).toInt = 1) (by omega) (by omega); exact ⟨by omega, by omega, by omega, by omega⟩
        exact ih _ _ (sI w 123 x5_3.toInt.toNat (vp_nar .byte ((Int32.toInt8 (chT 4 x5_4)).toInt32))) hI139  o141.1 o141.2.1 o141.2.2.1 o141.2.2.2 (by have := (by decide : ((5 : Int32)).toInt = 5); have := (by decide : ((640 : Int32)).toInt = 640); have := ti_add2 (Eq.refl x5_3.toInt) (by decide : ((1 : Int32)).toInt = 1) (by omega) (by omega); have := ti_add2 (Eq.refl x5_4.toInt) (by decide : ((1 : Int32)).toInt = 1) (by omega) (by omega); omega) (fun e0 w9 hI9 hF9 p0 p1 => hE e0 w9 hI9 ((FR.I (FR.refl _ w) (k := 123) (j := x5_3.toInt.toNat) (v := (vp_nar .byte ((Int32.toInt8 (chT 4 x5_4)).toInt32))) rfl).tr hF9 rfl) p0 p1 ) (fun r w9 hI9 hF9 q0 => q0.elim)
set_option maxRecDepth 20000 in
set_option maxHeartbeats 2000000 in
theorem h_Pl_put_123_2004 {w : MW} {a0 : Int32} {Q : Int32 → MW → Prop} (hI : BND w) (hp0 : 0 ≤ a0.toInt) (hp1 : a0.toInt ≤ 640) (hQ : ∀ (r : Int32) (w' : MW), BND w' → FR l_Pl_put_123_2004 w w' → 0 ≤ r.toInt → r.toInt ≤ 640 → Q r w') : p_Pl_put_123_2004 w a0 Q := by
  refine Eq.mpr (p_Pl_put_123_2004.eq_1 _ _ _) ?_
  have o142 : (0 ≤ a0.toInt) ∧ (a0.toInt ≤ 640) ∧ (0 ≤ (0 : Int32).toInt) ∧ ((0 : Int32).toInt ≤ 5) := by have := (by decide : ((0 : Int32)).toInt = 0); exact ⟨by omega, by omega, by omega, by omega⟩
  refine hq_Pl_put_123_2004_5 FU _ _ w hI  o142.1 o142.2.1 o142.2.2.1 o142.2.2.2 (fu_lt (by have := (by decide : ((0 : Int32)).toInt = 0); omega)) (fun e146 w143 hI144 hL145 p147 p148 => ?_) (fun r w9 hI9 hF9 q0 => q0.elim)
  have hF149 : FR l_Pl_put_123_2004 w w143 := (FR.refl _ w).tr hL145 rfl
  have o150 : (0 ≤ e146.toInt) ∧ (e146.toInt ≤ 640) := by exact ⟨by omega, by omega⟩
  exact hQ _ _ hI144 hF149  o150.1 o150.2
def l_Pl_put_123_2005_5 : Pl := [(123, none)]
def l_Pl_put_123_2005 : Pl := [(123, none)]
set_option maxRecDepth 20000 in
set_option maxHeartbeats 2000000 in
theorem hq_Pl_put_123_2005_5 {E : Int32 → MW → Prop} {Q : Int32 → MW → Prop} (n : Nat) : ∀ (x5_3 : Int32) (x5_4 : Int32) (w : MW), BND w → 0 ≤ x5_3.toInt → x5_3.toInt ≤ 640 → 0 ≤ x5_4.toInt → x5_4.toInt ≤ 1 → (640 - x5_3.toInt).toNat < n → (∀ (e5_3 : Int32) (w' : MW), BND w' → FR l_Pl_put_123_2005_5 w w' → 0 ≤ e5_3.toInt → e5_3.toInt ≤ 640 → E e5_3 w') → (∀ (r : Int32) (w' : MW), BND w' → FR l_Pl_put_123_2005_5 w w' → False → Q r w') → q_Pl_put_123_2005_5 E Q n x5_3 x5_4 w := by
  induction n with
  | zero => intros; omega
  | succ n ih =>
    intro x5_3 x5_4 w hI  hp0 hp1 hp2 hp3 hm hE hQ
    rw [q_Pl_put_123_2005_5.eq_2]
    refine ⟨fun h151 => ?_, fun h151 => ?_⟩
    · have o152 : (0 ≤ x5_3.toInt) ∧ (x5_3.toInt ≤ 640) := by exact ⟨by omega, by omega⟩
      exact hE _ _ hI (FR.refl _ w) o152.1 o152.2
    · refine ⟨fun h153 => ?_, fun h153 => ?_⟩
      · have o154 : (0 ≤ x5_3.toInt) ∧ (x5_3.toInt ≤ 640) := by have := (by decide : ((640 : Int32)).toInt = 640); exact ⟨by omega, by omega⟩
        exact hE _ _ hI (FR.refl _ w) o154.1 o154.2
      · have o155 : 0 ≤ x5_4.toInt ∧ x5_4.toInt < 1 := by have := (by decide : ((1 : Int32)).toInt = 1); omega
        refine ⟨o155, ?_⟩
        have o156 : 0 ≤ x5_3.toInt ∧ x5_3.toInt < 640 := by have := (by decide : ((640 : Int32)).toInt = 640); omega
        refine ⟨o156, ?_⟩
        have o158 : (-128) ≤ (vp_nar .byte ((Int32.toInt8 (chT 5 x5_4)).toInt32)).toInt ∧ (vp_nar .byte ((Int32.toInt8 (chT 5 x5_4)).toInt32)).toInt ≤ 127 := by have := nb_ch 5 x5_4; have := (by decide : ((1 : Int32)).toInt = 1); have := nb_i2b (chT 5 x5_4); have := nb_byteq (x := ((Int32.toInt8 (chT 5 x5_4)).toInt32)) (by omega) (by omega); omega
        have hI157 : BND (sI w 123 x5_3.toInt.toNat (vp_nar .byte ((Int32.toInt8 (chT 5 x5_4)).toInt32))) := wbd_123 hI x5_3.toInt.toNat o158.1 o158.2
        have o159 : (0 ≤ (x5_3 + (1 : Int32)).toInt) ∧ ((x5_3 + (1 : Int32)).toInt ≤ 640) ∧ (0 ≤ (x5_4 + (1 : Int32)).toInt) ∧ ((x5_4 + (1 : Int32)).toInt ≤ 1) := by have := (by decide : ((1 : Int32)).toInt = 1); have := (by decide : ((640 : Int32)).toInt = 640); have := ti_add2 (Eq.refl x5_3.toInt) (by decide : ((1 : Int32)).toInt = 1) (by omega) (by omega); have := ti_add2 (Eq.refl x5_4.toInt) (by decide : ((1 : Int32)).toInt = 1) (by omega) (by omega); exact ⟨by omega, by omega, by omega, by omega⟩
        exact ih _ _ (sI w 123 x5_3.toInt.toNat (vp_nar .byte ((Int32.toInt8 (chT 5 x5_4)).toInt32))) hI157  o159.1 o159.2.1 o159.2.2.1 o159.2.2.2 (by have := (by decide : ((1 : Int32)).toInt = 1); have := (by decide : ((640 : Int32)).toInt = 640); have := ti_add2 (Eq.refl x5_3.toInt) (by decide : ((1 : Int32)).toInt = 1) (by omega) (by omega); have := ti_add2 (Eq.refl x5_4.toInt) (by decide : ((1 : Int32)).toInt = 1) (by omega) (by omega); omega) (fun e0 w9 hI9 hF9 p0 p1 => hE e0 w9 hI9 ((FR.I (FR.refl _ w) (k := 123) (j := x5_3.toInt.toNat) (v := (vp_nar .byte ((Int32.toInt8 (chT 5 x5_4)).toInt32))) rfl).tr hF9 rfl) p0 p1 ) (fun r w9 hI9 hF9 q0 => q0.elim)
set_option maxRecDepth 20000 in
set_option maxHeartbeats 2000000 in
theorem h_Pl_put_123_2005 {w : MW} {a0 : Int32} {Q : Int32 → MW → Prop} (hI : BND w) (hp0 : 0 ≤ a0.toInt) (hp1 : a0.toInt ≤ 640) (hQ : ∀ (r : Int32) (w' : MW), BND w' → FR l_Pl_put_123_2005 w w' → 0 ≤ r.toInt → r.toInt ≤ 640 → Q r w') : p_Pl_put_123_2005 w a0 Q := by
  refine Eq.mpr (p_Pl_put_123_2005.eq_1 _ _ _) ?_
  have o160 : (0 ≤ a0.toInt) ∧ (a0.toInt ≤ 640) ∧ (0 ≤ (0 : Int32).toInt) ∧ ((0 : Int32).toInt ≤ 1) := by have := (by decide : ((0 : Int32)).toInt = 0); exact ⟨by omega, by omega, by omega, by omega⟩
  refine hq_Pl_put_123_2005_5 FU _ _ w hI  o160.1 o160.2.1 o160.2.2.1 o160.2.2.2 (fu_lt (by have := (by decide : ((0 : Int32)).toInt = 0); omega)) (fun e164 w161 hI162 hL163 p165 p166 => ?_) (fun r w9 hI9 hF9 q0 => q0.elim)
  have hF167 : FR l_Pl_put_123_2005 w w161 := (FR.refl _ w).tr hL163 rfl
  have o168 : (0 ≤ e164.toInt) ∧ (e164.toInt ≤ 640) := by exact ⟨by omega, by omega⟩
  exact hQ _ _ hI162 hF167  o168.1 o168.2
def l_Pl_put_123_2016_5 : Pl := [(123, none)]
def l_Pl_put_123_2016 : Pl := [(123, none)]
set_option maxRecDepth 20000 in
set_option maxHeartbeats 2000000 in
theorem hq_Pl_put_123_2016_5 {E : Int32 → MW → Prop} {Q : Int32 → MW → Prop} (n : Nat) : ∀ (x5_3 : Int32) (x5_4 : Int32) (w : MW), BND w → 0 ≤ x5_3.toInt → x5_3.toInt ≤ 640 → 0 ≤ x5_4.toInt → x5_4.toInt ≤ 1 → (640 - x5_3.toInt).toNat < n → (∀ (e5_3 : Int32) (w' : MW), BND w' → FR l_Pl_put_123_2016_5 w w' → 0 ≤ e5_3.toInt → e5_3.toInt ≤ 640 → E e5_3 w') → (∀ (r : Int32) (w' : MW), BND w' → FR l_Pl_put_123_2016_5 w w' → False → Q r w') → q_Pl_put_123_2016_5 E Q n x5_3 x5_4 w := by
  induction n with
  | zero => intros; omega
  | succ n ih =>
    intro x5_3 x5_4 w hI  hp0 hp1 hp2 hp3 hm hE hQ
    rw [q_Pl_put_123_2016_5.eq_2]
    refine ⟨fun h169 => ?_, fun h169 => ?_⟩
    · have o170 : (0 ≤ x5_3.toInt) ∧ (x5_3.toInt ≤ 640) := by exact ⟨by omega, by omega⟩
      exact hE _ _ hI (FR.refl _ w) o170.1 o170.2
    · refine ⟨fun h171 => ?_, fun h171 => ?_⟩
      · have o172 : (0 ≤ x5_3.toInt) ∧ (x5_3.toInt ≤ 640) := by have := (by decide : ((640 : Int32)).toInt = 640); exact ⟨by omega, by omega⟩
        exact hE _ _ hI (FR.refl _ w) o172.1 o172.2
      · have o173 : 0 ≤ x5_4.toInt ∧ x5_4.toInt < 1 := by have := (by decide : ((1 : Int32)).toInt = 1); omega
        refine ⟨o173, ?_⟩
        have o174 : 0 ≤ x5_3.toInt ∧ x5_3.toInt < 640 := by have := (by decide : ((640 : Int32)).toInt = 640); omega
        refine ⟨o174, ?_⟩
        have o176 : (-128) ≤ (vp_nar .byte ((Int32.toInt8 (chT 16 x5_4)).toInt32)).toInt ∧ (vp_nar .byte ((Int32.toInt8 (chT 16 x5_4)).toInt32)).toInt ≤ 127 := by have := nb_ch 16 x5_4; have := (by decide : ((1 : Int32)).toInt = 1); have := nb_i2b (chT 16 x5_4); have := nb_byteq (x := ((Int32.toInt8 (chT 16 x5_4)).toInt32)) (by omega) (by omega); omega
        have hI175 : BND (sI w 123 x5_3.toInt.toNat (vp_nar .byte ((Int32.toInt8 (chT 16 x5_4)).toInt32))) := wbd_123 hI x5_3.toInt.toNat o176.1 o176.2
        have o177 : (0 ≤ (x5_3 + (1 : Int32)).toInt) ∧ ((x5_3 + (1 : Int32)).toInt ≤ 640) ∧ (0 ≤ (x5_4 + (1 : Int32)).toInt) ∧ ((x5_4 + (1 : Int32)).toInt ≤ 1) := by have := (by decide : ((1 : Int32)).toInt = 1); have := (by decide : ((640 : Int32)).toInt = 640); have := ti_add2 (Eq.refl x5_3.toInt) (by decide : ((1 : Int32)).toInt = 1) (by omega) (by omega); have := ti_add2 (Eq.refl x5_4.toInt) (by decide : ((1 : Int32)).toInt = 1) (by omega) (by omega); exact ⟨by omega, by omega, by omega, by omega⟩
        exact ih _ _ (sI w 123 x5_3.toInt.toNat (vp_nar .byte ((Int32.toInt8 (chT 16 x5_4)).toInt32))) hI175  o177.1 o177.2.1 o177.2.2.1 o177.2.2.2 (by have := (by decide : ((1 : Int32)).toInt = 1); have := (by decide : ((640 : Int32)).toInt = 640); have := ti_add2 (Eq.refl x5_3.toInt) (by decide : ((1 : Int32)).toInt = 1) (by omega) (by omega); have := ti_add2 (Eq.refl x5_4.toInt) (by decide : ((1 : Int32)).toInt = 1) (by omega) (by omega); omega) (fun e0 w9 hI9 hF9 p0 p1 => hE e0 w9 hI9 ((FR.I (FR.refl _ w) (k := 123) (j := x5_3.toInt.toNat) (v := (vp_nar .byte ((Int32.toInt8 (chT 16 x5_4)).toInt32))) rfl).tr hF9 rfl) p0 p1 ) (fun r w9 hI9 hF9 q0 => q0.elim)
set_option maxRecDepth 20000 in
set_option maxHeartbeats 2000000 in
theorem h_Pl_put_123_2016 {w : MW} {a0 : Int32} {Q : Int32 → MW → Prop} (hI : BND w) (hp0 : 0 ≤ a0.toInt) (hp1 : a0.toInt ≤ 640) (hQ : ∀ (r : Int32) (w' : MW), BND w' → FR l_Pl_put_123_2016 w w' → 0 ≤ r.toInt → r.toInt ≤ 640 → Q r w') : p_Pl_put_123_2016 w a0 Q := by
  refine Eq.mpr (p_Pl_put_123_2016.eq_1 _ _ _) ?_
  have o178 : (0 ≤ a0.toInt) ∧ (a0.toInt ≤ 640) ∧ (0 ≤ (0 : Int32).toInt) ∧ ((0 : Int32).toInt ≤ 1) := by have := (by decide : ((0 : Int32)).toInt = 0); exact ⟨by omega, by omega, by omega, by omega⟩
  refine hq_Pl_put_123_2016_5 FU _ _ w hI  o178.1 o178.2.1 o178.2.2.1 o178.2.2.2 (fu_lt (by have := (by decide : ((0 : Int32)).toInt = 0); omega)) (fun e182 w179 hI180 hL181 p183 p184 => ?_) (fun r w9 hI9 hF9 q0 => q0.elim)
  have hF185 : FR l_Pl_put_123_2016 w w179 := (FR.refl _ w).tr hL181 rfl
  have o186 : (0 ≤ e182.toInt) ∧ (e182.toInt ≤ 640) := by exact ⟨by omega, by omega⟩
  exact hQ _ _ hI180 hF185  o186.1 o186.2
def l_Pl_writeTos91_123_4 : Pl := [(123, none)]
def l_Pl_writeTos91_123_100 : Pl := [(123, none)]
def l_Pl_writeTos91_123 : Pl := [(123, none)]
set_option maxRecDepth 20000 in
set_option maxHeartbeats 2000000 in
theorem hq_Pl_writeTos91_123_4 {E : Int32 → MW → Prop} {Q : Int32 → MW → Prop} (n : Nat) : ∀ (x4_2 : Int32) (x4_3 : Int32) (w : MW), BND w → 0 ≤ x4_2.toInt → x4_2.toInt ≤ 640 → 0 ≤ x4_3.toInt → x4_3.toInt ≤ 20 → (20 - x4_3.toInt).toNat < n → (∀ (e4_2 : Int32) (w' : MW), BND w' → FR l_Pl_writeTos91_123_4 w w' → 0 ≤ e4_2.toInt → e4_2.toInt ≤ 640 → E e4_2 w') → (∀ (r : Int32) (w' : MW), BND w' → FR l_Pl_writeTos91_123_4 w w' → False → Q r w') → q_Pl_writeTos91_123_4 E Q n x4_2 x4_3 w := by
  induction n with
  | zero => intros; omega
  | succ n ih =>
    intro x4_2 x4_3 w hI  hp0 hp1 hp2 hp3 hm hE hQ
    rw [q_Pl_writeTos91_123_4.eq_2]
    refine ⟨fun h187 => ?_, fun h187 => ?_⟩
    · have o188 : (0 ≤ x4_2.toInt) ∧ (x4_2.toInt ≤ 640) := by exact ⟨by omega, by omega⟩
      exact hE _ _ hI (FR.refl _ w) o188.1 o188.2
    · have o189 : 0 ≤ x4_3.toInt ∧ x4_3.toInt < 20 := by have := bd_91_0 hI; omega
      refine ⟨o189, ?_⟩
      refine ⟨fun h190 => ?_, fun h190 => ?_⟩
      · have o191 : 0 ≤ x4_3.toInt ∧ x4_3.toInt < 20 := by have := bd_91_0 hI; omega
        refine ⟨o191, ?_⟩
        refine ⟨fun h192 => ?_, fun h192 => ?_⟩
        · have o193 : (0 ≤ x4_2.toInt) ∧ (x4_2.toInt ≤ 640) := by exact ⟨by omega, by omega⟩
          refine h_Pl_put_123_2002 hI  o193.1 o193.2 (fun r197 w194 hI195 hL196 p198 p199 => ?_)
          have hF200 : FR l_Pl_writeTos91_123_4 w w194 := (FR.refl _ w).tr hL196 rfl
          have o201 : 0 ≤ x4_3.toInt ∧ x4_3.toInt < 20 := by have := bd_91_0 hI; omega
          refine ⟨o201, ?_⟩
          have o202 : (0 ≤ r197.toInt) ∧ (r197.toInt ≤ 640) ∧ (0 ≤ (w194.1 92 x4_3.toInt.toNat).toInt) ∧ ((w194.1 92 x4_3.toInt.toNat).toInt ≤ 9999999) := by have := bd_92 hI195 x4_3.toInt.toNat; have := bd_92 hI x4_3.toInt.toNat; have := (congrArg Int32.toInt (hL196 92 x4_3.toInt.toNat rfl).1); have := (by decide : ((8 : Int32)).toInt = 8); have := (by decide : ((9 : Int32)).toInt = 9); exact ⟨by omega, by omega, by omega, by omega⟩
          refine h_Pl_putNumber_123 hI195  o202.1 o202.2.1 o202.2.2.1 o202.2.2.2 (fun r206 w203 hI204 hL205 p207 p208 => ?_)
          have hF209 : FR l_Pl_writeTos91_123_4 w w203 := hF200.tr hL205 rfl
          have o210 : (0 ≤ r206.toInt) ∧ (r206.toInt ≤ 640) := by exact ⟨by omega, by omega⟩
          refine h_Pl_put_123_2016 hI204  o210.1 o210.2 (fun r214 w211 hI212 hL213 p215 p216 => ?_)
          have hF217 : FR l_Pl_writeTos91_123_4 w w211 := hF209.tr hL213 rfl
          have o218 : (0 ≤ r214.toInt) ∧ (r214.toInt ≤ 640) ∧ (0 ≤ (x4_3 + (1 : Int32)).toInt) ∧ ((x4_3 + (1 : Int32)).toInt ≤ 20) := by have := bd_91_0 hI; have := ti_add2 (Eq.refl x4_3.toInt) (by decide : ((1 : Int32)).toInt = 1) (by omega) (by omega); exact ⟨by omega, by omega, by omega, by omega⟩
          exact ih _ _ w211 hI212  o218.1 o218.2.1 o218.2.2.1 o218.2.2.2 (by have := bd_91_0 hI; have := ti_add2 (Eq.refl x4_3.toInt) (by decide : ((1 : Int32)).toInt = 1) (by omega) (by omega); omega) (fun e0 w9 hI9 hF9 p0 p1 => hE e0 w9 hI9 (hF217.tr hF9 rfl) p0 p1 ) (fun r w9 hI9 hF9 q0 => q0.elim)
        · have o219 : (0 ≤ x4_2.toInt) ∧ (x4_2.toInt ≤ 640) := by exact ⟨by omega, by omega⟩
          refine h_Pl_put_123_2001 hI  o219.1 o219.2 (fun r223 w220 hI221 hL222 p224 p225 => ?_)
          have hF226 : FR l_Pl_writeTos91_123_4 w w220 := (FR.refl _ w).tr hL222 rfl
          have o227 : 0 ≤ x4_3.toInt ∧ x4_3.toInt < 20 := by have := bd_91_0 hI; omega
          refine ⟨o227, ?_⟩
          have o228 : (0 ≤ r223.toInt) ∧ (r223.toInt ≤ 640) ∧ (0 ≤ (w220.1 93 x4_3.toInt.toNat).toInt) ∧ ((w220.1 93 x4_3.toInt.toNat).toInt ≤ 9999999) := by have := bd_93 hI221 x4_3.toInt.toNat; have := bd_93 hI x4_3.toInt.toNat; have := (congrArg Int32.toInt (hL222 93 x4_3.toInt.toNat rfl).1); exact ⟨by omega, by omega, by omega, by omega⟩
          refine h_Pl_putNumber_123 hI221  o228.1 o228.2.1 o228.2.2.1 o228.2.2.2 (fun r232 w229 hI230 hL231 p233 p234 => ?_)
          have hF235 : FR l_Pl_writeTos91_123_4 w w229 := hF226.tr hL231 rfl
          have o236 : (0 ≤ r232.toInt) ∧ (r232.toInt ≤ 640) := by exact ⟨by omega, by omega⟩
          refine h_Pl_put_123_2016 hI230  o236.1 o236.2 (fun r240 w237 hI238 hL239 p241 p242 => ?_)
          have hF243 : FR l_Pl_writeTos91_123_4 w w237 := hF235.tr hL239 rfl
          have o244 : (0 ≤ r240.toInt) ∧ (r240.toInt ≤ 640) ∧ (0 ≤ (x4_3 + (1 : Int32)).toInt) ∧ ((x4_3 + (1 : Int32)).toInt ≤ 20) := by have := bd_91_0 hI; have := ti_add2 (Eq.refl x4_3.toInt) (by decide : ((1 : Int32)).toInt = 1) (by omega) (by omega); exact ⟨by omega, by omega, by omega, by omega⟩
          exact ih _ _ w237 hI238  o244.1 o244.2.1 o244.2.2.1 o244.2.2.2 (by have := bd_91_0 hI; have := ti_add2 (Eq.refl x4_3.toInt) (by decide : ((1 : Int32)).toInt = 1) (by omega) (by omega); omega) (fun e0 w9 hI9 hF9 p0 p1 => hE e0 w9 hI9 (hF243.tr hF9 rfl) p0 p1 ) (fun r w9 hI9 hF9 q0 => q0.elim)
      · have o245 : (0 ≤ x4_2.toInt) ∧ (x4_2.toInt ≤ 640) := by exact ⟨by omega, by omega⟩
        refine h_Pl_put_123_2003 hI  o245.1 o245.2 (fun r249 w246 hI247 hL248 p250 p251 => ?_)
        have hF252 : FR l_Pl_writeTos91_123_4 w w246 := (FR.refl _ w).tr hL248 rfl
        have o253 : (0 ≤ r249.toInt) ∧ (r249.toInt ≤ 640) := by exact ⟨by omega, by omega⟩
        refine h_Pl_put_123_2016 hI247  o253.1 o253.2 (fun r257 w254 hI255 hL256 p258 p259 => ?_)
        have hF260 : FR l_Pl_writeTos91_123_4 w w254 := hF252.tr hL256 rfl
        have o261 : (0 ≤ r257.toInt) ∧ (r257.toInt ≤ 640) ∧ (0 ≤ (x4_3 + (1 : Int32)).toInt) ∧ ((x4_3 + (1 : Int32)).toInt ≤ 20) := by have := bd_91_0 hI; have := ti_add2 (Eq.refl x4_3.toInt) (by decide : ((1 : Int32)).toInt = 1) (by omega) (by omega); exact ⟨by omega, by omega, by omega, by omega⟩
        exact ih _ _ w254 hI255  o261.1 o261.2.1 o261.2.2.1 o261.2.2.2 (by have := bd_91_0 hI; have := ti_add2 (Eq.refl x4_3.toInt) (by decide : ((1 : Int32)).toInt = 1) (by omega) (by omega); omega) (fun e0 w9 hI9 hF9 p0 p1 => hE e0 w9 hI9 (hF260.tr hF9 rfl) p0 p1 ) (fun r w9 hI9 hF9 q0 => q0.elim)
set_option maxRecDepth 20000 in
set_option maxHeartbeats 2000000 in
theorem hq_Pl_writeTos91_123_100 {E : Int32 → MW → Prop} {Q : Int32 → MW → Prop} (n : Nat) : ∀ (x100_2 : Int32) (x100_3 : Int32) (w : MW), BND w → 0 ≤ x100_2.toInt → x100_2.toInt ≤ 640 → 0 ≤ x100_3.toInt → x100_3.toInt ≤ 24 → (24 - x100_3.toInt).toNat < n → (∀ (e100_2 : Int32) (w' : MW), BND w' → FR l_Pl_writeTos91_123_100 w w' → 0 ≤ e100_2.toInt → e100_2.toInt ≤ 640 → E e100_2 w') → (∀ (r : Int32) (w' : MW), BND w' → FR l_Pl_writeTos91_123_100 w w' → False → Q r w') → q_Pl_writeTos91_123_100 E Q n x100_2 x100_3 w := by
  induction n with
  | zero => intros; omega
  | succ n ih =>
    intro x100_2 x100_3 w hI  hp0 hp1 hp2 hp3 hm hE hQ
    rw [q_Pl_writeTos91_123_100.eq_2]
    refine ⟨fun h262 => ?_, fun h262 => ?_⟩
    · have o263 : (0 ≤ x100_2.toInt) ∧ (x100_2.toInt ≤ 640) := by exact ⟨by omega, by omega⟩
      exact hE _ _ hI (FR.refl _ w) o263.1 o263.2
    · have o264 : (0 ≤ x100_2.toInt) ∧ (x100_2.toInt ≤ 640) := by exact ⟨by omega, by omega⟩
      refine h_Pl_put_123_2004 hI  o264.1 o264.2 (fun r268 w265 hI266 hL267 p269 p270 => ?_)
      have hF271 : FR l_Pl_writeTos91_123_100 w w265 := (FR.refl _ w).tr hL267 rfl
      have o272 : 0 ≤ ((2 : Int32) * x100_3).toInt ∧ ((2 : Int32) * x100_3).toInt < 48 := by have := bd_91_1 hI; have := ti_mul2 (by decide : ((2 : Int32)).toInt = 2) (Eq.refl x100_3.toInt) (by omega) (by omega); omega
      refine ⟨o272, ?_⟩
      refine Eq.mpr (p_Pl_putPipeEnd_123.eq_1 _ _ _ _) ?_
      refine ⟨fun h273 => ?_, fun h273 => ?_⟩
      · have o274 : (0 ≤ r268.toInt) ∧ (r268.toInt ≤ 640) ∧ (0 ≤ (w265.1 96 (((2 : Int32) * x100_3).toInt.toNat)).toInt) ∧ ((w265.1 96 (((2 : Int32) * x100_3).toInt.toNat)).toInt ≤ 9999999) := by have := bd_96 hI266 (((2 : Int32) * x100_3).toInt.toNat); have := bd_96 hI (((2 : Int32) * x100_3).toInt.toNat); have := (congrArg Int32.toInt (hL267 96 (((2 : Int32) * x100_3).toInt.toNat) rfl).1); have := (by decide : (((-1) : Int32)).toInt = (-1)); exact ⟨by omega, by omega, by omega, by omega⟩
        refine h_Pl_putNumber_123 hI266  o274.1 o274.2.1 o274.2.2.1 o274.2.2.2 (fun r278 w275 hI276 hL277 p279 p280 => ?_)
        have hF281 : FR l_Pl_writeTos91_123_100 w w275 := hF271.tr hL277 rfl
        have o282 : (0 ≤ r278.toInt) ∧ (r278.toInt ≤ 640) := by exact ⟨by omega, by omega⟩
        refine h_Pl_put_123_2005 hI276  o282.1 o282.2 (fun r286 w283 hI284 hL285 p287 p288 => ?_)
        have hF289 : FR l_Pl_writeTos91_123_100 w w283 := hF281.tr hL285 rfl
        have o290 : 0 ≤ (((2 : Int32) * x100_3) + (1 : Int32)).toInt ∧ (((2 : Int32) * x100_3) + (1 : Int32)).toInt < 48 := by have := bd_91_1 hI; have := ti_mul2 (by decide : ((2 : Int32)).toInt = 2) (Eq.refl x100_3.toInt) (by omega) (by omega); have := ti_add2 (Eq.refl ((2 : Int32) * x100_3).toInt) (by decide : ((1 : Int32)).toInt = 1) (by omega) (by omega); omega
        refine ⟨o290, ?_⟩
        refine Eq.mpr (p_Pl_putPipeEnd_123.eq_1 _ _ _ _) ?_
        refine ⟨fun h291 => ?_, fun h291 => ?_⟩
        · have o292 : (0 ≤ r286.toInt) ∧ (r286.toInt ≤ 640) ∧ (0 ≤ (w283.1 96 ((((2 : Int32) * x100_3) + (1 : Int32)).toInt.toNat)).toInt) ∧ ((w283.1 96 ((((2 : Int32) * x100_3) + (1 : Int32)).toInt.toNat)).toInt ≤ 9999999) := by have := bd_96 hI284 ((((2 : Int32) * x100_3) + (1 : Int32)).toInt.toNat); have := bd_96 hI276 ((((2 : Int32) * x100_3) + (1 : Int32)).toInt.toNat); have := bd_96 hI266 ((((2 : Int32) * x100_3) + (1 : Int32)).toInt.toNat); have := bd_96 hI ((((2 : Int32) * x100_3) + (1 : Int32)).toInt.toNat); have := (congrArg Int32.toInt (hL267 96 ((((2 : Int32) * x100_3) + (1 : Int32)).toInt.toNat) rfl).1); have := (congrArg Int32.toInt (hL277 96 ((((2 : Int32) * x100_3) + (1 : Int32)).toInt.toNat) rfl).1); have := (congrArg Int32.toInt (hL285 96 ((((2 : Int32) * x100_3) + (1 : Int32)).toInt.toNat) rfl).1); have := bd_96 hI266 (((2 : Int32) * x100_3).toInt.toNat); have := bd_96 hI (((2 : Int32) * x100_3).toInt.toNat); have := (congrArg Int32.toInt (hL267 96 (((2 : Int32) * x100_3).toInt.toNat) rfl).1); have := (by decide : (((-1) : Int32)).toInt = (-1)); exact ⟨by omega, by omega, by omega, by omega⟩
          refine h_Pl_putNumber_123 hI284  o292.1 o292.2.1 o292.2.2.1 o292.2.2.2 (fun r296 w293 hI294 hL295 p297 p298 => ?_)
          have hF299 : FR l_Pl_writeTos91_123_100 w w293 := hF289.tr hL295 rfl
          have o300 : (0 ≤ r296.toInt) ∧ (r296.toInt ≤ 640) := by exact ⟨by omega, by omega⟩
          refine h_Pl_put_123_2005 hI294  o300.1 o300.2 (fun r304 w301 hI302 hL303 p305 p306 => ?_)
          have hF307 : FR l_Pl_writeTos91_123_100 w w301 := hF299.tr hL303 rfl
          have o308 : 0 ≤ x100_3.toInt ∧ x100_3.toInt < 24 := by have := bd_91_1 hI; omega
          refine ⟨o308, ?_⟩
          have o309 : (0 ≤ r304.toInt) ∧ (r304.toInt ≤ 640) ∧ (0 ≤ (w301.1 95 x100_3.toInt.toNat).toInt) ∧ ((w301.1 95 x100_3.toInt.toNat).toInt ≤ 9999999) := by have := bd_95 hI302 x100_3.toInt.toNat; have := bd_95 hI294 x100_3.toInt.toNat; have := bd_95 hI284 x100_3.toInt.toNat; have := bd_95 hI276 x100_3.toInt.toNat; have := bd_95 hI266 x100_3.toInt.toNat; have := bd_95 hI x100_3.toInt.toNat; have := (congrArg Int32.toInt (hL267 95 x100_3.toInt.toNat rfl).1); have := (congrArg Int32.toInt (hL277 95 x100_3.toInt.toNat rfl).1); have := (congrArg Int32.toInt (hL285 95 x100_3.toInt.toNat rfl).1); have := (congrArg Int32.toInt (hL295 95 x100_3.toInt.toNat rfl).1); have := (congrArg Int32.toInt (hL303 95 x100_3.toInt.toNat rfl).1); exact ⟨by omega, by omega, by omega, by omega⟩
          refine h_Pl_putNumber_123 hI302  o309.1 o309.2.1 o309.2.2.1 o309.2.2.2 (fun r313 w310 hI311 hL312 p314 p315 => ?_)
          have hF316 : FR l_Pl_writeTos91_123_100 w w310 := hF307.tr hL312 rfl
          have o317 : (0 ≤ r313.toInt) ∧ (r313.toInt ≤ 640) := by exact ⟨by omega, by omega⟩
          refine h_Pl_put_123_2016 hI311  o317.1 o317.2 (fun r321 w318 hI319 hL320 p322 p323 => ?_)
          have hF324 : FR l_Pl_writeTos91_123_100 w w318 := hF316.tr hL320 rfl
          have o325 : (0 ≤ r321.toInt) ∧ (r321.toInt ≤ 640) ∧ (0 ≤ (x100_3 + (1 : Int32)).toInt) ∧ ((x100_3 + (1 : Int32)).toInt ≤ 24) := by have := bd_91_1 hI; have := ti_add2 (Eq.refl x100_3.toInt) (by decide : ((1 : Int32)).toInt = 1) (by omega) (by omega); exact ⟨by omega, by omega, by omega, by omega⟩
          exact ih _ _ w318 hI319  o325.1 o325.2.1 o325.2.2.1 o325.2.2.2 (by have := bd_91_1 hI; have := ti_add2 (Eq.refl x100_3.toInt) (by decide : ((1 : Int32)).toInt = 1) (by omega) (by omega); omega) (fun e0 w9 hI9 hF9 p0 p1 => hE e0 w9 hI9 (hF324.tr hF9 rfl) p0 p1 ) (fun r w9 hI9 hF9 q0 => q0.elim)
        · have o326 : (0 ≤ r286.toInt) ∧ (r286.toInt ≤ 640) := by exact ⟨by omega, by omega⟩
          refine h_Pl_put_123_2017 hI284  o326.1 o326.2 (fun r330 w327 hI328 hL329 p331 p332 => ?_)
          have hF333 : FR l_Pl_writeTos91_123_100 w w327 := hF289.tr hL329 rfl
          have o334 : (0 ≤ r330.toInt) ∧ (r330.toInt ≤ 640) := by exact ⟨by omega, by omega⟩
          refine h_Pl_put_123_2005 hI328  o334.1 o334.2 (fun r338 w335 hI336 hL337 p339 p340 => ?_)
          have hF341 : FR l_Pl_writeTos91_123_100 w w335 := hF333.tr hL337 rfl
          have o342 : 0 ≤ x100_3.toInt ∧ x100_3.toInt < 24 := by have := bd_91_1 hI; omega
          refine ⟨o342, ?_⟩
          have o343 : (0 ≤ r338.toInt) ∧ (r338.toInt ≤ 640) ∧ (0 ≤ (w335.1 95 x100_3.toInt.toNat).toInt) ∧ ((w335.1 95 x100_3.toInt.toNat).toInt ≤ 9999999) := by have := bd_95 hI336 x100_3.toInt.toNat; have := bd_95 hI328 x100_3.toInt.toNat; have := bd_95 hI284 x100_3.toInt.toNat; have := bd_95 hI276 x100_3.toInt.toNat; have := bd_95 hI266 x100_3.toInt.toNat; have := bd_95 hI x100_3.toInt.toNat; have := (congrArg Int32.toInt (hL267 95 x100_3.toInt.toNat rfl).1); have := (congrArg Int32.toInt (hL277 95 x100_3.toInt.toNat rfl).1); have := (congrArg Int32.toInt (hL285 95 x100_3.toInt.toNat rfl).1); have := (congrArg Int32.toInt (hL329 95 x100_3.toInt.toNat rfl).1); have := (congrArg Int32.toInt (hL337 95 x100_3.toInt.toNat rfl).1); exact ⟨by omega, by omega, by omega, by omega⟩
          refine h_Pl_putNumber_123 hI336  o343.1 o343.2.1 o343.2.2.1 o343.2.2.2 (fun r347 w344 hI345 hL346 p348 p349 => ?_)
          have hF350 : FR l_Pl_writeTos91_123_100 w w344 := hF341.tr hL346 rfl
          have o351 : (0 ≤ r347.toInt) ∧ (r347.toInt ≤ 640) := by exact ⟨by omega, by omega⟩
          refine h_Pl_put_123_2016 hI345  o351.1 o351.2 (fun r355 w352 hI353 hL354 p356 p357 => ?_)
          have hF358 : FR l_Pl_writeTos91_123_100 w w352 := hF350.tr hL354 rfl
          have o359 : (0 ≤ r355.toInt) ∧ (r355.toInt ≤ 640) ∧ (0 ≤ (x100_3 + (1 : Int32)).toInt) ∧ ((x100_3 + (1 : Int32)).toInt ≤ 24) := by have := bd_91_1 hI; have := ti_add2 (Eq.refl x100_3.toInt) (by decide : ((1 : Int32)).toInt = 1) (by omega) (by omega); exact ⟨by omega, by omega, by omega, by omega⟩
          exact ih _ _ w352 hI353  o359.1 o359.2.1 o359.2.2.1 o359.2.2.2 (by have := bd_91_1 hI; have := ti_add2 (Eq.refl x100_3.toInt) (by decide : ((1 : Int32)).toInt = 1) (by omega) (by omega); omega) (fun e0 w9 hI9 hF9 p0 p1 => hE e0 w9 hI9 (hF358.tr hF9 rfl) p0 p1 ) (fun r w9 hI9 hF9 q0 => q0.elim)
      · have o360 : (0 ≤ r268.toInt) ∧ (r268.toInt ≤ 640) := by exact ⟨by omega, by omega⟩
        refine h_Pl_put_123_2017 hI266  o360.1 o360.2 (fun r364 w361 hI362 hL363 p365 p366 => ?_)
        have hF367 : FR l_Pl_writeTos91_123_100 w w361 := hF271.tr hL363 rfl
        have o368 : (0 ≤ r364.toInt) ∧ (r364.toInt ≤ 640) := by exact ⟨by omega, by omega⟩
        refine h_Pl_put_123_2005 hI362  o368.1 o368.2 (fun r372 w369 hI370 hL371 p373 p374 => ?_)
        have hF375 : FR l_Pl_writeTos91_123_100 w w369 := hF367.tr hL371 rfl
        have o376 : 0 ≤ (((2 : Int32) * x100_3) + (1 : Int32)).toInt ∧ (((2 : Int32) * x100_3) + (1 : Int32)).toInt < 48 := by have := bd_91_1 hI; have := ti_mul2 (by decide : ((2 : Int32)).toInt = 2) (Eq.refl x100_3.toInt) (by omega) (by omega); have := ti_add2 (Eq.refl ((2 : Int32) * x100_3).toInt) (by decide : ((1 : Int32)).toInt = 1) (by omega) (by omega); omega
        refine ⟨o376, ?_⟩
        refine Eq.mpr (p_Pl_putPipeEnd_123.eq_1 _ _ _ _) ?_
        refine ⟨fun h377 => ?_, fun h377 => ?_⟩
        · have o378 : (0 ≤ r372.toInt) ∧ (r372.toInt ≤ 640) ∧ (0 ≤ (w369.1 96 ((((2 : Int32) * x100_3) + (1 : Int32)).toInt.toNat)).toInt) ∧ ((w369.1 96 ((((2 : Int32) * x100_3) + (1 : Int32)).toInt.toNat)).toInt ≤ 9999999) := by have := bd_96 hI370 ((((2 : Int32) * x100_3) + (1 : Int32)).toInt.toNat); have := bd_96 hI362 ((((2 : Int32) * x100_3) + (1 : Int32)).toInt.toNat); have := bd_96 hI266 ((((2 : Int32) * x100_3) + (1 : Int32)).toInt.toNat); have := bd_96 hI ((((2 : Int32) * x100_3) + (1 : Int32)).toInt.toNat); have := (congrArg Int32.toInt (hL267 96 ((((2 : Int32) * x100_3) + (1 : Int32)).toInt.toNat) rfl).1); have := (congrArg Int32.toInt (hL363 96 ((((2 : Int32) * x100_3) + (1 : Int32)).toInt.toNat) rfl).1); have := (congrArg Int32.toInt (hL371 96 ((((2 : Int32) * x100_3) + (1 : Int32)).toInt.toNat) rfl).1); have := bd_96 hI266 (((2 : Int32) * x100_3).toInt.toNat); have := bd_96 hI (((2 : Int32) * x100_3).toInt.toNat); have := (congrArg Int32.toInt (hL267 96 (((2 : Int32) * x100_3).toInt.toNat) rfl).1); have := (by decide : (((-1) : Int32)).toInt = (-1)); exact ⟨by omega, by omega, by omega, by omega⟩
          refine h_Pl_putNumber_123 hI370  o378.1 o378.2.1 o378.2.2.1 o378.2.2.2 (fun r382 w379 hI380 hL381 p383 p384 => ?_)
          have hF385 : FR l_Pl_writeTos91_123_100 w w379 := hF375.tr hL381 rfl
          have o386 : (0 ≤ r382.toInt) ∧ (r382.toInt ≤ 640) := by exact ⟨by omega, by omega⟩
          refine h_Pl_put_123_2005 hI380  o386.1 o386.2 (fun r390 w387 hI388 hL389 p391 p392 => ?_)
          have hF393 : FR l_Pl_writeTos91_123_100 w w387 := hF385.tr hL389 rfl
          have o394 : 0 ≤ x100_3.toInt ∧ x100_3.toInt < 24 := by have := bd_91_1 hI; omega
          refine ⟨o394, ?_⟩
          have o395 : (0 ≤ r390.toInt) ∧ (r390.toInt ≤ 640) ∧ (0 ≤ (w387.1 95 x100_3.toInt.toNat).toInt) ∧ ((w387.1 95 x100_3.toInt.toNat).toInt ≤ 9999999) := by have := bd_95 hI388 x100_3.toInt.toNat; have := bd_95 hI380 x100_3.toInt.toNat; have := bd_95 hI370 x100_3.toInt.toNat; have := bd_95 hI362 x100_3.toInt.toNat; have := bd_95 hI266 x100_3.toInt.toNat; have := bd_95 hI x100_3.toInt.toNat; have := (congrArg Int32.toInt (hL267 95 x100_3.toInt.toNat rfl).1); have := (congrArg Int32.toInt (hL363 95 x100_3.toInt.toNat rfl).1); have := (congrArg Int32.toInt (hL371 95 x100_3.toInt.toNat rfl).1); have := (congrArg Int32.toInt (hL381 95 x100_3.toInt.toNat rfl).1); have := (congrArg Int32.toInt (hL389 95 x100_3.toInt.toNat rfl).1); exact ⟨by omega, by omega, by omega, by omega⟩
          refine h_Pl_putNumber_123 hI388  o395.1 o395.2.1 o395.2.2.1 o395.2.2.2 (fun r399 w396 hI397 hL398 p400 p401 => ?_)
          have hF402 : FR l_Pl_writeTos91_123_100 w w396 := hF393.tr hL398 rfl
          have o403 : (0 ≤ r399.toInt) ∧ (r399.toInt ≤ 640) := by exact ⟨by omega, by omega⟩
          refine h_Pl_put_123_2016 hI397  o403.1 o403.2 (fun r407 w404 hI405 hL406 p408 p409 => ?_)
          have hF410 : FR l_Pl_writeTos91_123_100 w w404 := hF402.tr hL406 rfl
          have o411 : (0 ≤ r407.toInt) ∧ (r407.toInt ≤ 640) ∧ (0 ≤ (x100_3 + (1 : Int32)).toInt) ∧ ((x100_3 + (1 : Int32)).toInt ≤ 24) := by have := bd_91_1 hI; have := ti_add2 (Eq.refl x100_3.toInt) (by decide : ((1 : Int32)).toInt = 1) (by omega) (by omega); exact ⟨by omega, by omega, by omega, by omega⟩
          exact ih _ _ w404 hI405  o411.1 o411.2.1 o411.2.2.1 o411.2.2.2 (by have := bd_91_1 hI; have := ti_add2 (Eq.refl x100_3.toInt) (by decide : ((1 : Int32)).toInt = 1) (by omega) (by omega); omega) (fun e0 w9 hI9 hF9 p0 p1 => hE e0 w9 hI9 (hF410.tr hF9 rfl) p0 p1 ) (fun r w9 hI9 hF9 q0 => q0.elim)
        · have o412 : (0 ≤ r372.toInt) ∧ (r372.toInt ≤ 640) := by exact ⟨by omega, by omega⟩
          refine h_Pl_put_123_2017 hI370  o412.1 o412.2 (fun r416 w413 hI414 hL415 p417 p418 => ?_)
          have hF419 : FR l_Pl_writeTos91_123_100 w w413 := hF375.tr hL415 rfl
          have o420 : (0 ≤ r416.toInt) ∧ (r416.toInt ≤ 640) := by exact ⟨by omega, by omega⟩
          refine h_Pl_put_123_2005 hI414  o420.1 o420.2 (fun r424 w421 hI422 hL423 p425 p426 => ?_)
          have hF427 : FR l_Pl_writeTos91_123_100 w w421 := hF419.tr hL423 rfl
          have o428 : 0 ≤ x100_3.toInt ∧ x100_3.toInt < 24 := by have := bd_91_1 hI; omega
          refine ⟨o428, ?_⟩
          have o429 : (0 ≤ r424.toInt) ∧ (r424.toInt ≤ 640) ∧ (0 ≤ (w421.1 95 x100_3.toInt.toNat).toInt) ∧ ((w421.1 95 x100_3.toInt.toNat).toInt ≤ 9999999) := by have := bd_95 hI422 x100_3.toInt.toNat; have := bd_95 hI414 x100_3.toInt.toNat; have := bd_95 hI370 x100_3.toInt.toNat; have := bd_95 hI362 x100_3.toInt.toNat; have := bd_95 hI266 x100_3.toInt.toNat; have := bd_95 hI x100_3.toInt.toNat; have := (congrArg Int32.toInt (hL267 95 x100_3.toInt.toNat rfl).1); have := (congrArg Int32.toInt (hL363 95 x100_3.toInt.toNat rfl).1); have := (congrArg Int32.toInt (hL371 95 x100_3.toInt.toNat rfl).1); have := (congrArg Int32.toInt (hL415 95 x100_3.toInt.toNat rfl).1); have := (congrArg Int32.toInt (hL423 95 x100_3.toInt.toNat rfl).1); exact ⟨by omega, by omega, by omega, by omega⟩
          refine h_Pl_putNumber_123 hI422  o429.1 o429.2.1 o429.2.2.1 o429.2.2.2 (fun r433 w430 hI431 hL432 p434 p435 => ?_)
          have hF436 : FR l_Pl_writeTos91_123_100 w w430 := hF427.tr hL432 rfl
          have o437 : (0 ≤ r433.toInt) ∧ (r433.toInt ≤ 640) := by exact ⟨by omega, by omega⟩
          refine h_Pl_put_123_2016 hI431  o437.1 o437.2 (fun r441 w438 hI439 hL440 p442 p443 => ?_)
          have hF444 : FR l_Pl_writeTos91_123_100 w w438 := hF436.tr hL440 rfl
          have o445 : (0 ≤ r441.toInt) ∧ (r441.toInt ≤ 640) ∧ (0 ≤ (x100_3 + (1 : Int32)).toInt) ∧ ((x100_3 + (1 : Int32)).toInt ≤ 24) := by have := bd_91_1 hI; have := ti_add2 (Eq.refl x100_3.toInt) (by decide : ((1 : Int32)).toInt = 1) (by omega) (by omega); exact ⟨by omega, by omega, by omega, by omega⟩
          exact ih _ _ w438 hI439  o445.1 o445.2.1 o445.2.2.1 o445.2.2.2 (by have := bd_91_1 hI; have := ti_add2 (Eq.refl x100_3.toInt) (by decide : ((1 : Int32)).toInt = 1) (by omega) (by omega); omega) (fun e0 w9 hI9 hF9 p0 p1 => hE e0 w9 hI9 (hF444.tr hF9 rfl) p0 p1 ) (fun r w9 hI9 hF9 q0 => q0.elim)
set_option maxRecDepth 20000 in
set_option maxHeartbeats 2000000 in
theorem h_Pl_writeTos91_123 {w : MW} {Q : Int32 → MW → Prop} (hI : BND w)  (hQ : ∀ (r : Int32) (w' : MW), BND w' → FR l_Pl_writeTos91_123 w w' → 0 ≤ r.toInt → r.toInt ≤ 640 → Q r w') : p_Pl_writeTos91_123 w Q := by
  refine Eq.mpr (p_Pl_writeTos91_123.eq_1 _ _) ?_
  have o446 : (0 ≤ (0 : Int32).toInt) ∧ ((0 : Int32).toInt ≤ 640) ∧ (0 ≤ (0 : Int32).toInt) ∧ ((0 : Int32).toInt ≤ 20) := by have := (by decide : ((0 : Int32)).toInt = 0); exact ⟨by omega, by omega, by omega, by omega⟩
  refine hq_Pl_writeTos91_123_4 FU _ _ w hI  o446.1 o446.2.1 o446.2.2.1 o446.2.2.2 (fu_lt (by have := (by decide : ((0 : Int32)).toInt = 0); omega)) (fun e450 w447 hI448 hL449 p451 p452 => ?_) (fun r w9 hI9 hF9 q0 => q0.elim)
  have hF453 : FR l_Pl_writeTos91_123 w w447 := (FR.refl _ w).tr hL449 rfl
  have o454 : (0 ≤ e450.toInt) ∧ (e450.toInt ≤ 640) ∧ (0 ≤ (0 : Int32).toInt) ∧ ((0 : Int32).toInt ≤ 24) := by have := (by decide : ((0 : Int32)).toInt = 0); exact ⟨by omega, by omega, by omega, by omega⟩
  refine hq_Pl_writeTos91_123_100 FU _ _ w447 hI448  o454.1 o454.2.1 o454.2.2.1 o454.2.2.2 (fu_lt (by have := (by decide : ((0 : Int32)).toInt = 0); omega)) (fun e458 w455 hI456 hL457 p459 p460 => ?_) (fun r w9 hI9 hF9 q0 => q0.elim)
  have hF461 : FR l_Pl_writeTos91_123 w w455 := hF453.tr hL457 rfl
  have o462 : (0 ≤ e458.toInt) ∧ (e458.toInt ≤ 640) := by exact ⟨by omega, by omega⟩
  exact hQ _ _ hI456 hF461  o462.1 o462.2
