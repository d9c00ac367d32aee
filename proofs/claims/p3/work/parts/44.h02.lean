def l_Ar_fill0_16_5 : Pl := [(16, none)]
def l_Ar_fill0_16 : Pl := [(16, none)]
set_option maxRecDepth 20000 in
set_option maxHeartbeats 2000000 in
theorem hq_Ar_fill0_16_5 {x5_1 : Int32} {x5_3 : Int32} {E : MW → Prop} {Q : MW → Prop} (n : Nat) : ∀ (x5_2 : Int32) (w : MW), BND w → 0 ≤ x5_1.toInt → x5_1.toInt ≤ 0 → 20 ≤ x5_3.toInt → x5_3.toInt ≤ 20 → 0 ≤ x5_2.toInt → x5_2.toInt ≤ 20 → (20 - x5_2.toInt).toNat < n → (∀ (w' : MW), BND w' → FR l_Ar_fill0_16_5 w w' → E w') → (∀ (w' : MW), BND w' → FR l_Ar_fill0_16_5 w w' → False → Q w') → q_Ar_fill0_16_5 x5_1 x5_3 E Q n x5_2 w := by
  induction n with
  | zero => intros; omega
  | succ n ih =>
    intro x5_2 w hI  hp0 hp1 hp2 hp3 hp4 hp5 hm hE hQ
    rw [q_Ar_fill0_16_5.eq_2]
    refine ⟨fun h463 => ?_, fun h463 => ?_⟩
    · exact hE _ hI (FR.refl _ w)
    · have o464 : 0 ≤ x5_2.toInt ∧ x5_2.toInt < 20 := by omega
      refine ⟨o464, ?_⟩
      have o466 : 0 ≤ x5_1.toInt ∧ x5_1.toInt ≤ 9 := by omega
      have hI465 : BND (sI w 16 x5_2.toInt.toNat x5_1) := wbd_16 hI x5_2.toInt.toNat o466.1 o466.2
      have o467 : (0 ≤ x5_1.toInt) ∧ (x5_1.toInt ≤ 0) ∧ (20 ≤ x5_3.toInt) ∧ (x5_3.toInt ≤ 20) ∧ (0 ≤ (x5_2 + (1 : Int32)).toInt) ∧ ((x5_2 + (1 : Int32)).toInt ≤ 20) := by have := ti_add2 (Eq.refl x5_2.toInt) (by decide : ((1 : Int32)).toInt = 1) (by omega) (by omega); exact ⟨by omega, by omega, by omega, by omega, by omega, by omega⟩
      exact ih _ (sI w 16 x5_2.toInt.toNat x5_1) hI465  o467.1 o467.2.1 o467.2.2.1 o467.2.2.2.1 o467.2.2.2.2.1 o467.2.2.2.2.2 (by have := ti_add2 (Eq.refl x5_2.toInt) (by decide : ((1 : Int32)).toInt = 1) (by omega) (by omega); omega) (fun w9 hI9 hF9 => hE w9 hI9 ((FR.I (FR.refl _ w) (k := 16) (j := x5_2.toInt.toNat) (v := x5_1) rfl).tr hF9 rfl) ) (fun w9 hI9 hF9 q0 => q0.elim)
set_option maxRecDepth 20000 in
set_option maxHeartbeats 2000000 in
theorem h_Ar_fill0_16 {w : MW} {a0 : Int32} {Q : MW → Prop} (hI : BND w) (hp0 : 0 ≤ a0.toInt) (hp1 : a0.toInt ≤ 0) (hQ : ∀ (w' : MW), BND w' → FR l_Ar_fill0_16 w w' → Q w') : p_Ar_fill0_16 w a0 Q := by
  refine Eq.mpr (p_Ar_fill0_16.eq_1 _ _ _) ?_
  have o468 : (0 ≤ a0.toInt) ∧ (a0.toInt ≤ 0) ∧ (20 ≤ (20 : Int32).toInt) ∧ ((20 : Int32).toInt ≤ 20) ∧ (0 ≤ (0 : Int32).toInt) ∧ ((0 : Int32).toInt ≤ 20) := by have := (by decide : ((20 : Int32)).toInt = 20); have := (by decide : ((0 : Int32)).toInt = 0); exact ⟨by omega, by omega, by omega, by omega, by omega, by omega⟩
  refine hq_Ar_fill0_16_5 FU _ w hI  o468.1 o468.2.1 o468.2.2.1 o468.2.2.2.1 o468.2.2.2.2.1 o468.2.2.2.2.2 (fu_lt (by have := (by decide : ((20 : Int32)).toInt = 20); have := (by decide : ((0 : Int32)).toInt = 0); omega)) (fun w469 hI470 hL471  => ?_) (fun w9 hI9 hF9 q0 => q0.elim)
  have hF472 : FR l_Ar_fill0_16 w w469 := (FR.refl _ w).tr hL471 rfl
  exact hQ _ hI470 hF472 
def l_Ar_fill0_17_5 : Pl := [(17, none)]
def l_Ar_fill0_17 : Pl := [(17, none)]
set_option maxRecDepth 20000 in
set_option maxHeartbeats 2000000 in
theorem hq_Ar_fill0_17_5 {x5_1 : Int32} {x5_3 : Int32} {E : MW → Prop} {Q : MW → Prop} (n : Nat) : ∀ (x5_2 : Int32) (w : MW), BND w → 0 ≤ x5_1.toInt → x5_1.toInt ≤ 0 → 44 ≤ x5_3.toInt → x5_3.toInt ≤ 44 → 0 ≤ x5_2.toInt → x5_2.toInt ≤ 44 → (44 - x5_2.toInt).toNat < n → (∀ (w' : MW), BND w' → FR l_Ar_fill0_17_5 w w' → E w') → (∀ (w' : MW), BND w' → FR l_Ar_fill0_17_5 w w' → False → Q w') → q_Ar_fill0_17_5 x5_1 x5_3 E Q n x5_2 w := by
  induction n with
  | zero => intros; omega
  | succ n ih =>
    intro x5_2 w hI  hp0 hp1 hp2 hp3 hp4 hp5 hm hE hQ
    rw [q_Ar_fill0_17_5.eq_2]
    refine ⟨fun h473 => ?_, fun h473 => ?_⟩
    · exact hE _ hI (FR.refl _ w)
    · have o474 : 0 ≤ x5_2.toInt ∧ x5_2.toInt < 44 := by omega
      refine ⟨o474, ?_⟩
      have o476 : 0 ≤ x5_1.toInt ∧ x5_1.toInt ≤ 14 := by omega
      have hI475 : BND (sI w 17 x5_2.toInt.toNat x5_1) := wbd_17 hI x5_2.toInt.toNat o476.1 o476.2
      have o477 : (0 ≤ x5_1.toInt) ∧ (x5_1.toInt ≤ 0) ∧ (44 ≤ x5_3.toInt) ∧ (x5_3.toInt ≤ 44) ∧ (0 ≤ (x5_2 + (1 : Int32)).toInt) ∧ ((x5_2 + (1 : Int32)).toInt ≤ 44) := by have := ti_add2 (Eq.refl x5_2.toInt) (by decide : ((1 : Int32)).toInt = 1) (by omega) (by omega); exact ⟨by omega, by omega, by omega, by omega, by omega, by omega⟩
      exact ih _ (sI w 17 x5_2.toInt.toNat x5_1) hI475  o477.1 o477.2.1 o477.2.2.1 o477.2.2.2.1 o477.2.2.2.2.1 o477.2.2.2.2.2 (by have := ti_add2 (Eq.refl x5_2.toInt) (by decide : ((1 : Int32)).toInt = 1) (by omega) (by omega); omega) (fun w9 hI9 hF9 => hE w9 hI9 ((FR.I (FR.refl _ w) (k := 17) (j := x5_2.toInt.toNat) (v := x5_1) rfl).tr hF9 rfl) ) (fun w9 hI9 hF9 q0 => q0.elim)
set_option maxRecDepth 20000 in
set_option maxHeartbeats 2000000 in
theorem h_Ar_fill0_17 {w : MW} {a0 : Int32} {Q : MW → Prop} (hI : BND w) (hp0 : 0 ≤ a0.toInt) (hp1 : a0.toInt ≤ 0) (hQ : ∀ (w' : MW), BND w' → FR l_Ar_fill0_17 w w' → Q w') : p_Ar_fill0_17 w a0 Q := by
  refine Eq.mpr (p_Ar_fill0_17.eq_1 _ _ _) ?_
  have o478 : (0 ≤ a0.toInt) ∧ (a0.toInt ≤ 0) ∧ (44 ≤ (44 : Int32).toInt) ∧ ((44 : Int32).toInt ≤ 44) ∧ (0 ≤ (0 : Int32).toInt) ∧ ((0 : Int32).toInt ≤ 44) := by have := (by decide : ((44 : Int32)).toInt = 44); have := (by decide : ((0 : Int32)).toInt = 0); exact ⟨by omega, by omega, by omega, by omega, by omega, by omega⟩
  refine hq_Ar_fill0_17_5 FU _ w hI  o478.1 o478.2.1 o478.2.2.1 o478.2.2.2.1 o478.2.2.2.2.1 o478.2.2.2.2.2 (fu_lt (by have := (by decide : ((44 : Int32)).toInt = 44); have := (by decide : ((0 : Int32)).toInt = 0); omega)) (fun w479 hI480 hL481  => ?_) (fun w9 hI9 hF9 q0 => q0.elim)
  have hF482 : FR l_Ar_fill0_17 w w479 := (FR.refl _ w).tr hL481 rfl
  exact hQ _ hI480 hF482 
def l_Ar_fill0_18_5 : Pl := [(18, none)]
def l_Ar_fill0_18 : Pl := [(18, none)]
set_option maxRecDepth 20000 in
set_option maxHeartbeats 2000000 in
theorem hq_Ar_fill0_18_5 {x5_1 : Int32} {x5_3 : Int32} {E : MW → Prop} {Q : MW → Prop} (n : Nat) : ∀ (x5_2 : Int32) (w : MW), BND w → 0 ≤ x5_1.toInt → x5_1.toInt ≤ 0 → 44 ≤ x5_3.toInt → x5_3.toInt ≤ 44 → 0 ≤ x5_2.toInt → x5_2.toInt ≤ 44 → (44 - x5_2.toInt).toNat < n → (∀ (w' : MW), BND w' → FR l_Ar_fill0_18_5 w w' → E w') → (∀ (w' : MW), BND w' → FR l_Ar_fill0_18_5 w w' → False → Q w') → q_Ar_fill0_18_5 x5_1 x5_3 E Q n x5_2 w := by
  induction n with
  | zero => intros; omega
  | succ n ih =>
    intro x5_2 w hI  hp0 hp1 hp2 hp3 hp4 hp5 hm hE hQ
    rw [q_Ar_fill0_18_5.eq_2]
    refine ⟨fun h483 => ?_, fun h483 => ?_⟩
    · exact hE _ hI (FR.refl _ w)
    · have o484 : 0 ≤ x5_2.toInt ∧ x5_2.toInt < 44 := by omega
      refine ⟨o484, ?_⟩
      have hI485 : BND (sI w 18 x5_2.toInt.toNat x5_1) := wbd_18 hI x5_2.toInt.toNat
      have o486 : (0 ≤ x5_1.toInt) ∧ (x5_1.toInt ≤ 0) ∧ (44 ≤ x5_3.toInt) ∧ (x5_3.toInt ≤ 44) ∧ (0 ≤ (x5_2 + (1 : Int32)).toInt) ∧ ((x5_2 + (1 : Int32)).toInt ≤ 44) := by have := ti_add2 (Eq.refl x5_2.toInt) (by decide : ((1 : Int32)).toInt = 1) (by omega) (by omega); exact ⟨by omega, by omega, by omega, by omega, by omega, by omega⟩
      exact ih _ (sI w 18 x5_2.toInt.toNat x5_1) hI485  o486.1 o486.2.1 o486.2.2.1 o486.2.2.2.1 o486.2.2.2.2.1 o486.2.2.2.2.2 (by have := ti_add2 (Eq.refl x5_2.toInt) (by decide : ((1 : Int32)).toInt = 1) (by omega) (by omega); omega) (fun w9 hI9 hF9 => hE w9 hI9 ((FR.I (FR.refl _ w) (k := 18) (j := x5_2.toInt.toNat) (v := x5_1) rfl).tr hF9 rfl) ) (fun w9 hI9 hF9 q0 => q0.elim)
set_option maxRecDepth 20000 in
set_option maxHeartbeats 2000000 in
theorem h_Ar_fill0_18 {w : MW} {a0 : Int32} {Q : MW → Prop} (hI : BND w) (hp0 : 0 ≤ a0.toInt) (hp1 : a0.toInt ≤ 0) (hQ : ∀ (w' : MW), BND w' → FR l_Ar_fill0_18 w w' → Q w') : p_Ar_fill0_18 w a0 Q := by
  refine Eq.mpr (p_Ar_fill0_18.eq_1 _ _ _) ?_
  have o487 : (0 ≤ a0.toInt) ∧ (a0.toInt ≤ 0) ∧ (44 ≤ (44 : Int32).toInt) ∧ ((44 : Int32).toInt ≤ 44) ∧ (0 ≤ (0 : Int32).toInt) ∧ ((0 : Int32).toInt ≤ 44) := by have := (by decide : ((44 : Int32)).toInt = 44); have := (by decide : ((0 : Int32)).toInt = 0); exact ⟨by omega, by omega, by omega, by omega, by omega, by omega⟩
  refine hq_Ar_fill0_18_5 FU _ w hI  o487.1 o487.2.1 o487.2.2.1 o487.2.2.2.1 o487.2.2.2.2.1 o487.2.2.2.2.2 (fu_lt (by have := (by decide : ((44 : Int32)).toInt = 44); have := (by decide : ((0 : Int32)).toInt = 0); omega)) (fun w488 hI489 hL490  => ?_) (fun w9 hI9 hF9 q0 => q0.elim)
  have hF491 : FR l_Ar_fill0_18 w w488 := (FR.refl _ w).tr hL490 rfl
  exact hQ _ hI489 hF491 
def l_Ar_fill0_19_5 : Pl := [(19, none)]
def l_Ar_fill0_19 : Pl := [(19, none)]
set_option maxRecDepth 20000 in
set_option maxHeartbeats 2000000 in
theorem hq_Ar_fill0_19_5 {x5_1 : Int32} {x5_3 : Int32} {E : MW → Prop} {Q : MW → Prop} (n : Nat) : ∀ (x5_2 : Int32) (w : MW), BND w → 0 ≤ x5_1.toInt → x5_1.toInt ≤ 0 → 44 ≤ x5_3.toInt → x5_3.toInt ≤ 44 → 0 ≤ x5_2.toInt → x5_2.toInt ≤ 44 → (44 - x5_2.toInt).toNat < n → (∀ (w' : MW), BND w' → FR l_Ar_fill0_19_5 w w' → E w') → (∀ (w' : MW), BND w' → FR l_Ar_fill0_19_5 w w' → False → Q w') → q_Ar_fill0_19_5 x5_1 x5_3 E Q n x5_2 w := by
  induction n with
  | zero => intros; omega
  | succ n ih =>
    intro x5_2 w hI  hp0 hp1 hp2 hp3 hp4 hp5 hm hE hQ
    rw [q_Ar_fill0_19_5.eq_2]
    refine ⟨fun h492 => ?_, fun h492 => ?_⟩
    · exact hE _ hI (FR.refl _ w)
    · have o493 : 0 ≤ x5_2.toInt ∧ x5_2.toInt < 44 := by omega
      refine ⟨o493, ?_⟩
      have o495 : 0 ≤ x5_1.toInt ∧ x5_1.toInt ≤ 14 := by omega
      have hI494 : BND (sI w 19 x5_2.toInt.toNat x5_1) := wbd_19 hI x5_2.toInt.toNat o495.1 o495.2
      have o496 : (0 ≤ x5_1.toInt) ∧ (x5_1.toInt ≤ 0) ∧ (44 ≤ x5_3.toInt) ∧ (x5_3.toInt ≤ 44) ∧ (0 ≤ (x5_2 + (1 : Int32)).toInt) ∧ ((x5_2 + (1 : Int32)).toInt ≤ 44) := by have := ti_add2 (Eq.refl x5_2.toInt) (by decide : ((1 : Int32)).toInt = 1) (by omega) (by omega); exact ⟨by omega, by omega, by omega, by omega, by omega, by omega⟩
      exact ih _ (sI w 19 x5_2.toInt.toNat x5_1) hI494  o496.1 o496.2.1 o496.2.2.1 o496.2.2.2.1 o496.2.2.2.2.1 o496.2.2.2.2.2 (by have := ti_add2 (Eq.refl x5_2.toInt) (by decide : ((1 : Int32)).toInt = 1) (by omega) (by omega); omega) (fun w9 hI9 hF9 => hE w9 hI9 ((FR.I (FR.refl _ w) (k := 19) (j := x5_2.toInt.toNat) (v := x5_1) rfl).tr hF9 rfl) ) (fun w9 hI9 hF9 q0 => q0.elim)
set_option maxRecDepth 20000 in
set_option maxHeartbeats 2000000 in
theorem h_Ar_fill0_19 {w : MW} {a0 : Int32} {Q : MW → Prop} (hI : BND w) (hp0 : 0 ≤ a0.toInt) (hp1 : a0.toInt ≤ 0) (hQ : ∀ (w' : MW), BND w' → FR l_Ar_fill0_19 w w' → Q w') : p_Ar_fill0_19 w a0 Q := by
  refine Eq.mpr (p_Ar_fill0_19.eq_1 _ _ _) ?_
  have o497 : (0 ≤ a0.toInt) ∧ (a0.toInt ≤ 0) ∧ (44 ≤ (44 : Int32).toInt) ∧ ((44 : Int32).toInt ≤ 44) ∧ (0 ≤ (0 : Int32).toInt) ∧ ((0 : Int32).toInt ≤ 44) := by have := (by decide : ((44 : Int32)).toInt = 44); have := (by decide : ((0 : Int32)).toInt = 0); exact ⟨by omega, by omega, by omega, by omega, by omega, by omega⟩
  refine hq_Ar_fill0_19_5 FU _ w hI  o497.1 o497.2.1 o497.2.2.1 o497.2.2.2.1 o497.2.2.2.2.1 o497.2.2.2.2.2 (fu_lt (by have := (by decide : ((44 : Int32)).toInt = 44); have := (by decide : ((0 : Int32)).toInt = 0); omega)) (fun w498 hI499 hL500  => ?_) (fun w9 hI9 hF9 q0 => q0.elim)
  have hF501 : FR l_Ar_fill0_19 w w498 := (FR.refl _ w).tr hL500 rfl
  exact hQ _ hI499 hF501 
def l_Ar_fill0_21_5 : Pl := [(21, none)]
def l_Ar_fill0_21 : Pl := [(21, none)]
set_option maxRecDepth 20000 in
set_option maxHeartbeats 2000000 in
theorem hq_Ar_fill0_21_5 {x5_1 : Int32} {x5_3 : Int32} {E : MW → Prop} {Q : MW → Prop} (n : Nat) : ∀ (x5_2 : Int32) (w : MW), BND w → 0 ≤ x5_1.toInt → x5_1.toInt ≤ 0 → 24 ≤ x5_3.toInt → x5_3.toInt ≤ 24 → 0 ≤ x5_2.toInt → x5_2.toInt ≤ 24 → (24 - x5_2.toInt).toNat < n → (∀ (w' : MW), BND w' → FR l_Ar_fill0_21_5 w w' → E w') → (∀ (w' : MW), BND w' → FR l_Ar_fill0_21_5 w w' → False → Q w') → q_Ar_fill0_21_5 x5_1 x5_3 E Q n x5_2 w := by
  induction n with
  | zero => intros; omega
  | succ n ih =>
    intro x5_2 w hI  hp0 hp1 hp2 hp3 hp4 hp5 hm hE hQ
    rw [q_Ar_fill0_21_5.eq_2]
    refine ⟨fun h502 => ?_, fun h502 => ?_⟩
    · exact hE _ hI (FR.refl _ w)
    · have o503 : 0 ≤ x5_2.toInt ∧ x5_2.toInt < 24 := by omega
      refine ⟨o503, ?_⟩
      have o505 : 0 ≤ x5_1.toInt ∧ x5_1.toInt ≤ 199 := by omega
      have hI504 : BND (sI w 21 x5_2.toInt.toNat x5_1) := wbd_21 hI x5_2.toInt.toNat o505.1 o505.2
      have o506 : (0 ≤ x5_1.toInt) ∧ (x5_1.toInt ≤ 0) ∧ (24 ≤ x5_3.toInt) ∧ (x5_3.toInt ≤ 24) ∧ (0 ≤ (x5_2 + (1 : Int32)).toInt) ∧ ((x5_2 + (1 : Int32)).toInt ≤ 24) := by have := ti_add2 (Eq.refl x5_2.toInt) (by decide : ((1 : Int32)).toInt = 1) (by omega) (by omega); exact ⟨by omega, by omega, by omega, by omega, by omega, by omega⟩
      exact ih _ (sI w 21 x5_2.toInt.toNat x5_1) hI504  o506.1 o506.2.1 o506.2.2.1 o506.2.2.2.1 o506.2.2.2.2.1 o506.2.2.2.2.2 (by have := ti_add2 (Eq.refl x5_2.toInt) (by decide : ((1 : Int32)).toInt = 1) (by omega) (by omega); omega) (fun w9 hI9 hF9 => hE w9 hI9 ((FR.I (FR.refl _ w) (k := 21) (j := x5_2.toInt.toNat) (v := x5_1) rfl).tr hF9 rfl) ) (fun w9 hI9 hF9 q0 => q0.elim)
set_option maxRecDepth 20000 in
set_option maxHeartbeats 2000000 in
theorem h_Ar_fill0_21 {w : MW} {a0 : Int32} {Q : MW → Prop} (hI : BND w) (hp0 : 0 ≤ a0.toInt) (hp1 : a0.toInt ≤ 0) (hQ : ∀ (w' : MW), BND w' → FR l_Ar_fill0_21 w w' → Q w') : p_Ar_fill0_21 w a0 Q := by
  refine Eq.mpr (p_Ar_fill0_21.eq_1 _ _ _) ?_
  have o507 : (0 ≤ a0.toInt) ∧ (a0.toInt ≤ 0) ∧ (24 ≤ (24 : Int32).toInt) ∧ ((24 : Int32).toInt ≤ 24) ∧ (0 ≤ (0 : Int32).toInt) ∧ ((0 : Int32).toInt ≤ 24) := by have := (by decide : ((24 : Int32)).toInt = 24); have := (by decide : ((0 : Int32)).toInt = 0); exact ⟨by omega, by omega, by omega, by omega, by omega, by omega⟩
  refine hq_Ar_fill0_21_5 FU _ w hI  o507.1 o507.2.1 o507.2.2.1 o507.2.2.2.1 o507.2.2.2.2.1 o507.2.2.2.2.2 (fu_lt (by have := (by decide : ((24 : Int32)).toInt = 24); have := (by decide : ((0 : Int32)).toInt = 0); omega)) (fun w508 hI509 hL510  => ?_) (fun w9 hI9 hF9 q0 => q0.elim)
  have hF511 : FR l_Ar_fill0_21 w w508 := (FR.refl _ w).tr hL510 rfl
  exact hQ _ hI509 hF511 
def l_Ar_fill0_23_5 : Pl := [(23, none)]
def l_Ar_fill0_23 : Pl := [(23, none)]
set_option maxRecDepth 20000 in
set_option maxHeartbeats 2000000 in
theorem hq_Ar_fill0_23_5 {x5_1 : Int32} {x5_3 : Int32} {E : MW → Prop} {Q : MW → Prop} (n : Nat) : ∀ (x5_2 : Int32) (w : MW), BND w → (-1) ≤ x5_1.toInt → x5_1.toInt ≤ (-1) → 264 ≤ x5_3.toInt → x5_3.toInt ≤ 264 → 0 ≤ x5_2.toInt → x5_2.toInt ≤ 264 → (264 - x5_2.toInt).toNat < n → (∀ (w' : MW), BND w' → FR l_Ar_fill0_23_5 w w' → E w') → (∀ (w' : MW), BND w' → FR l_Ar_fill0_23_5 w w' → False → Q w') → q_Ar_fill0_23_5 x5_1 x5_3 E Q n x5_2 w := by
  induction n with
  | zero => intros; omega
  | succ n ih =>
    intro x5_2 w hI  hp0 hp1 hp2 hp3 hp4 hp5 hm hE hQ
    rw [q_Ar_fill0_23_5.eq_2]
    refine ⟨fun h512 => ?_, fun h512 => ?_⟩
    · exact hE _ hI (FR.refl _ w)
    · have o513 : 0 ≤ x5_2.toInt ∧ x5_2.toInt < 264 := by omega
      refine ⟨o513, ?_⟩
      have hI514 : BND (sI w 23 x5_2.toInt.toNat x5_1) := wbd_23 hI x5_2.toInt.toNat
      have o515 : ((-1) ≤ x5_1.toInt) ∧ (x5_1.toInt ≤ (-1)) ∧ (264 ≤ x5_3.toInt) ∧ (x5_3.toInt ≤ 264) ∧ (0 ≤ (x5_2 + (1 : Int32)).toInt) ∧ ((x5_2 + (1 : Int32)).toInt ≤ 264) := by have := ti_add2 (Eq.refl x5_2.toInt) (by decide : ((1 : Int32)).toInt = 1) (by omega) (by omega); exact ⟨by omega, by omega, by omega, by omega, by omega, by omega⟩
      exact ih _ (sI w 23 x5_2.toInt.toNat x5_1) hI514  o515.1 o515.2.1 o515.2.2.1 o515.2.2.2.1 o515.2.2.2.2.1 o515.2.2.2.2.2 (by have := ti_add2 (Eq.refl x5_2.toInt) (by decide : ((1 : Int32)).toInt = 1) (by omega) (by omega); omega) (fun w9 hI9 hF9 => hE w9 hI9 ((FR.I (FR.refl _ w) (k := 23) (j := x5_2.toInt.toNat) (v := x5_1) rfl).tr hF9 rfl) ) (fun w9 hI9 hF9 q0 => q0.elim)
set_option maxRecDepth 20000 in
set_option maxHeartbeats 2000000 in
theorem h_Ar_fill0_23 {w : MW} {a0 : Int32} {Q : MW → Prop} (hI : BND w) (hp0 : (-1) ≤ a0.toInt) (hp1 : a0.toInt ≤ (-1)) (hQ : ∀ (w' : MW), BND w' → FR l_Ar_fill0_23 w w' → Q w') : p_Ar_fill0_23 w a0 Q := by
  refine Eq.mpr (p_Ar_fill0_23.eq_1 _ _ _) ?_
  have o516 : ((-1) ≤ a0.toInt) ∧ (a0.toInt ≤ (-1)) ∧ (264 ≤ (264 : Int32).toInt) ∧ ((264 : Int32).toInt ≤ 264) ∧ (0 ≤ (0 : Int32).toInt) ∧ ((0 : Int32).toInt ≤ 264) := by have := (by decide : ((264 : Int32)).toInt = 264); have := (by decide : ((0 : Int32)).toInt = 0); exact ⟨by omega, by omega, by omega, by omega, by omega, by omega⟩
  refine hq_Ar_fill0_23_5 FU _ w hI  o516.1 o516.2.1 o516.2.2.1 o516.2.2.2.1 o516.2.2.2.2.1 o516.2.2.2.2.2 (fu_lt (by have := (by decide : ((264 : Int32)).toInt = 264); have := (by decide : ((0 : Int32)).toInt = 0); omega)) (fun w517 hI518 hL519  => ?_) (fun w9 hI9 hF9 q0 => q0.elim)
  have hF520 : FR l_Ar_fill0_23 w w517 := (FR.refl _ w).tr hL519 rfl
  exact hQ _ hI518 hF520 
def l_Ar_fill1_20_6 : Pl := [(20, none)]
def l_Ar_fill1_20 : Pl := [(20, none)]
set_option maxRecDepth 20000 in
set_option maxHeartbeats 2000000 in
theorem hq_Ar_fill1_20_6 {x6_1 : Int64} {x6_4 : Int32} {E : MW → Prop} {Q : MW → Prop} (n : Nat) : ∀ (x6_3 : Int32) (w : MW), BND w → 0 ≤ x6_1.toInt → x6_1.toInt ≤ 0 → 96 ≤ x6_4.toInt → x6_4.toInt ≤ 96 → 0 ≤ x6_3.toInt → x6_3.toInt ≤ 96 → (96 - x6_3.toInt).toNat < n → (∀ (w' : MW), BND w' → FR l_Ar_fill1_20_6 w w' → E w') → (∀ (w' : MW), BND w' → FR l_Ar_fill1_20_6 w w' → False → Q w') → q_Ar_fill1_20_6 x6_1 x6_4 E Q n x6_3 w := by
  induction n with
  | zero => intros; omega
  | succ n ih =>
    intro x6_3 w hI  hp0 hp1 hp2 hp3 hp4 hp5 hm hE hQ
    rw [q_Ar_fill1_20_6.eq_2]
    refine ⟨fun h521 => ?_, fun h521 => ?_⟩
    · exact hE _ hI (FR.refl _ w)
    · have o522 : 0 ≤ x6_3.toInt ∧ x6_3.toInt < 96 := by omega
      refine ⟨o522, ?_⟩
      have o523 : (0 ≤ x6_1.toInt) ∧ (x6_1.toInt ≤ 0) ∧ (96 ≤ x6_4.toInt) ∧ (x6_4.toInt ≤ 96) ∧ (0 ≤ (x6_3 + (1 : Int32)).toInt) ∧ ((x6_3 + (1 : Int32)).toInt ≤ 96) := by have := ti_add2 (Eq.refl x6_3.toInt) (by decide : ((1 : Int32)).toInt = 1) (by omega) (by omega); exact ⟨by omega, by omega, by omega, by omega, by omega, by omega⟩
      exact ih _ (sJ w 20 x6_3.toInt.toNat x6_1) (bnd_J hI (k := 20) (j := x6_3.toInt.toNat) (v := x6_1))  o523.1 o523.2.1 o523.2.2.1 o523.2.2.2.1 o523.2.2.2.2.1 o523.2.2.2.2.2 (by have := ti_add2 (Eq.refl x6_3.toInt) (by decide : ((1 : Int32)).toInt = 1) (by omega) (by omega); omega) (fun w9 hI9 hF9 => hE w9 hI9 ((FR.J (FR.refl _ w) (k := 20) (j := x6_3.toInt.toNat) (v := x6_1) rfl).tr hF9 rfl) ) (fun w9 hI9 hF9 q0 => q0.elim)
set_option maxRecDepth 20000 in
set_option maxHeartbeats 2000000 in
theorem h_Ar_fill1_20 {w : MW} {a0 : Int64} {Q : MW → Prop} (hI : BND w) (hp0 : 0 ≤ a0.toInt) (hp1 : a0.toInt ≤ 0) (hQ : ∀ (w' : MW), BND w' → FR l_Ar_fill1_20 w w' → Q w') : p_Ar_fill1_20 w a0 Q := by
  refine Eq.mpr (p_Ar_fill1_20.eq_1 _ _ _) ?_
  have o524 : (0 ≤ a0.toInt) ∧ (a0.toInt ≤ 0) ∧ (96 ≤ (96 : Int32).toInt) ∧ ((96 : Int32).toInt ≤ 96) ∧ (0 ≤ (0 : Int32).toInt) ∧ ((0 : Int32).toInt ≤ 96) := by have := (by decide : ((96 : Int32)).toInt = 96); have := (by decide : ((0 : Int32)).toInt = 0); exact ⟨by omega, by omega, by omega, by omega, by omega, by omega⟩
  refine hq_Ar_fill1_20_6 FU _ w hI  o524.1 o524.2.1 o524.2.2.1 o524.2.2.2.1 o524.2.2.2.2.1 o524.2.2.2.2.2 (fu_lt (by have := (by decide : ((96 : Int32)).toInt = 96); have := (by decide : ((0 : Int32)).toInt = 0); omega)) (fun w525 hI526 hL527  => ?_) (fun w9 hI9 hF9 q0 => q0.elim)
  have hF528 : FR l_Ar_fill1_20 w w525 := (FR.refl _ w).tr hL527 rfl
  exact hQ _ hI526 hF528 
def l_Ar_fill0_37_5 : Pl := [(37, none)]
def l_Ar_fill0_37 : Pl := [(37, none)]
set_option maxRecDepth 20000 in
set_option maxHeartbeats 2000000 in
theorem hq_Ar_fill0_37_5 {x5_1 : Int32} {x5_3 : Int32} {E : MW → Prop} {Q : MW → Prop} (n : Nat) : ∀ (x5_2 : Int32) (w : MW), BND w → 0 ≤ x5_1.toInt → x5_1.toInt ≤ 0 → 20 ≤ x5_3.toInt → x5_3.toInt ≤ 20 → 0 ≤ x5_2.toInt → x5_2.toInt ≤ 20 → (20 - x5_2.toInt).toNat < n → (∀ (w' : MW), BND w' → FR l_Ar_fill0_37_5 w w' → E w') → (∀ (w' : MW), BND w' → FR l_Ar_fill0_37_5 w w' → False → Q w') → q_Ar_fill0_37_5 x5_1 x5_3 E Q n x5_2 w := by
  induction n with
  | zero => intros; omega
  | succ n ih =>
    intro x5_2 w hI  hp0 hp1 hp2 hp3 hp4 hp5 hm hE hQ
    rw [q_Ar_fill0_37_5.eq_2]
    refine ⟨fun h529 => ?_, fun h529 => ?_⟩
    · exact hE _ hI (FR.refl _ w)
    · have o530 : 0 ≤ x5_2.toInt ∧ x5_2.toInt < 20 := by omega
      refine ⟨o530, ?_⟩
      have hI531 : BND (sI w 37 x5_2.toInt.toNat x5_1) := wbd_37 hI x5_2.toInt.toNat
      have o532 : (0 ≤ x5_1.toInt) ∧ (x5_1.toInt ≤ 0) ∧ (20 ≤ x5_3.toInt) ∧ (x5_3.toInt ≤ 20) ∧ (0 ≤ (x5_2 + (1 : Int32)).toInt) ∧ ((x5_2 + (1 : Int32)).toInt ≤ 20) := by have := ti_add2 (Eq.refl x5_2.toInt) (by decide : ((1 : Int32)).toInt = 1) (by omega) (by omega); exact ⟨by omega, by omega, by omega, by omega, by omega, by omega⟩
      exact ih _ (sI w 37 x5_2.toInt.toNat x5_1) hI531  o532.1 o532.2.1 o532.2.2.1 o532.2.2.2.1 o532.2.2.2.2.1 o532.2.2.2.2.2 (by have := ti_add2 (Eq.refl x5_2.toInt) (by decide : ((1 : Int32)).toInt = 1) (by omega) (by omega); omega) (fun w9 hI9 hF9 => hE w9 hI9 ((FR.I (FR.refl _ w) (k := 37) (j := x5_2.toInt.toNat) (v := x5_1) rfl).tr hF9 rfl) ) (fun w9 hI9 hF9 q0 => q0.elim)
set_option maxRecDepth 20000 in
set_option maxHeartbeats 2000000 in
theorem h_Ar_fill0_37 {w : MW} {a0 : Int32} {Q : MW → Prop} (hI : BND w) (hp0 : 0 ≤ a0.toInt) (hp1 : a0.toInt ≤ 0) (hQ : ∀ (w' : MW), BND w' → FR l_Ar_fill0_37 w w' → Q w') : p_Ar_fill0_37 w a0 Q := by
  refine Eq.mpr (p_Ar_fill0_37.eq_1 _ _ _) ?_
  have o533 : (0 ≤ a0.toInt) ∧ (a0.toInt ≤ 0) ∧ (20 ≤ (20 : Int32).toInt) ∧ ((20 : Int32).toInt ≤ 20) ∧ (0 ≤ (0 : Int32).toInt) ∧ ((0 : Int32).toInt ≤ 20) := by have := (by decide : ((20 : Int32)).toInt = 20); have := (by decide : ((0 : Int32)).toInt = 0); exact ⟨by omega, by omega, by omega, by omega, by omega, by omega⟩
  refine hq_Ar_fill0_37_5 FU _ w hI  o533.1 o533.2.1 o533.2.2.1 o533.2.2.2.1 o533.2.2.2.2.1 o533.2.2.2.2.2 (fu_lt (by have := (by decide : ((20 : Int32)).toInt = 20); have := (by decide : ((0 : Int32)).toInt = 0); omega)) (fun w534 hI535 hL536  => ?_) (fun w9 hI9 hF9 q0 => q0.elim)
  have hF537 : FR l_Ar_fill0_37 w w534 := (FR.refl _ w).tr hL536 rfl
  exact hQ _ hI535 hF537 
def l_Wa_forget_7 : Pl := [(36, none)]
def l_Wa_forget : Pl := [(26, some 1), (36, none), (37, none)]
set_option maxRecDepth 20000 in
set_option maxHeartbeats 2000000 in
theorem hq_Wa_forget_7 {E : MW → Prop} {Q : MW → Prop} (n : Nat) : ∀ (x7_1 : Int32) (w : MW), BND w → WO w → 0 ≤ x7_1.toInt → x7_1.toInt ≤ 24 → (w.1 26 1).toInt ≤ 0 → (24 - x7_1.toInt).toNat < n → (∀ (w' : MW), BND w' → FR l_Wa_forget_7 w w' → WO w' → E w') → (∀ (w' : MW), BND w' → FR l_Wa_forget_7 w w' → WO w' → False → Q w') → q_Wa_forget_7 E Q n x7_1 w := by
  induction n with
  | zero => intros; omega
  | succ n ih =>
    intro x7_1 w hI hf_WO hp0 hp1 hp2 hm hE hQ
    rw [q_Wa_forget_7.eq_2]
    refine ⟨fun h538 => ?_, fun h538 => ?_⟩
    · exact hE _ hI (FR.refl _ w) hf_WO
    · have o539 : 0 ≤ x7_1.toInt ∧ x7_1.toInt < 24 := by have := (by decide : ((24 : Int32)).toInt = 24); omega
      refine ⟨o539, ?_⟩
      have o541 : 0 ≤ (vp_nar .boolean (0 : Int32)).toInt ∧ (vp_nar .boolean (0 : Int32)).toInt ≤ 1 := by have := nb_bool0; omega
      have hI540 : BND (sI w 36 x7_1.toInt.toNat (vp_nar .boolean (0 : Int32))) := wbd_36 hI x7_1.toInt.toNat o541.1 o541.2
      have hW542 : WO (sI w 36 x7_1.toInt.toNat (vp_nar .boolean (0 : Int32))) := (wo_36z  (by have := nb_bool0; have := bd_26_1 hI; have := (by decide : ((24 : Int32)).toInt = 24); omega))
      have o543 : (0 ≤ (x7_1 + (1 : Int32)).toInt) ∧ ((x7_1 + (1 : Int32)).toInt ≤ 24) ∧ (((sI w 36 x7_1.toInt.toNat (vp_nar .boolean (0 : Int32))).1 26 1).toInt ≤ 0) := by have := bd_26_1 hI; have : ((sI w 36 x7_1.toInt.toNat (vp_nar .boolean (0 : Int32))).1 26 1).toInt = (w.1 26 1).toInt := rfl; have := (by decide : ((24 : Int32)).toInt = 24); have := ti_add2 (Eq.refl x7_1.toInt) (by decide : ((1 : Int32)).toInt = 1) (by omega) (by omega); exact ⟨by omega, by omega, by omega⟩
      exact ih _ (sI w 36 x7_1.toInt.toNat (vp_nar .boolean (0 : Int32))) hI540 hW542 o543.1 o543.2.1 o543.2.2 (by have := (by decide : ((24 : Int32)).toInt = 24); have := ti_add2 (Eq.refl x7_1.toInt) (by decide : ((1 : Int32)).toInt = 1) (by omega) (by omega); omega) (fun w9 hI9 hF9 hl9_WO => hE w9 hI9 ((FR.I (FR.refl _ w) (k := 36) (j := x7_1.toInt.toNat) (v := (vp_nar .boolean (0 : Int32))) rfl).tr hF9 rfl) hl9_WO ) (fun w9 hI9 hF9 hl9_WO q0 => q0.elim)
set_option maxRecDepth 20000 in
set_option maxHeartbeats 2000000 in
theorem h_Wa_forget {w : MW} {Q : MW → Prop} (hI : BND w) (hf_WO : WO w)  (hQ : ∀ (w' : MW), BND w' → FR l_Wa_forget w w' → WO w' → Q w') : p_Wa_forget w Q := by
  refine Eq.mpr (p_Wa_forget.eq_1 _ _) ?_
  have hI544 : BND (sI w 26 1 0) := wbd_26_1 hI (by decide) (by decide)
  have o545 : (0 ≤ (0 : Int32).toInt) ∧ ((0 : Int32).toInt ≤ 24) ∧ (((sI w 26 1 0).1 26 1).toInt ≤ 0) := by have := (by decide : ((0 : Int32)).toInt = 0); have : ((sI w 26 1 0).1 26 1).toInt = ((0 : Int32)).toInt := rfl; have := (by decide : ((0 : Int32)).toInt = 0); exact ⟨by omega, by omega, by omega⟩
  refine hq_Wa_forget_7 FU _ (sI w 26 1 0) hI544 (wo_zero  (by decide)) o545.1 o545.2.1 o545.2.2 (fu_lt (by have := (by decide : ((0 : Int32)).toInt = 0); omega)) (fun w546 hI547 hL548 hlw546_WO  => ?_) (fun w9 hI9 hF9 hl9_WO q0 => q0.elim)
  have hF549 : FR l_Wa_forget w w546 := (FR.I (FR.refl _ w) (k := 26) (j := 1) (v := 0) rfl).tr hL548 rfl
  have o550 : (0 ≤ (0 : Int32).toInt) ∧ ((0 : Int32).toInt ≤ 0) := by have := (by decide : ((0 : Int32)).toInt = 0); exact ⟨by omega, by omega⟩
  refine h_Ar_fill0_37 hI547  o550.1 o550.2 (fun w551 hI552 hL553  => ?_)
  have hF555 : FR l_Wa_forget w w551 := hF549.tr hL553 rfl
  exact hQ _ hI552 hF555 (WO_fr hL553 rfl hlw546_WO) 
def l_Wa_remove_19 : Pl := [(16, none), (36, none), (37, none)]
def l_Wa_remove_168 : Pl := [(27, none), (28, none), (29, none), (30, none), (31, none), (32, none), (33, none)]
def l_Wa_remove : Pl := [(16, none), (26, some 1), (27, none), (28, none), (29, none), (30, none), (31, none), (32, none), (33, none), (36, none), (37, none)]
def lrm : Pl := [(16, none), (36, none), (37, none)]
theorem rm_19 {z : MW} {own : Int → Int} {k u : Int32} {E Q : MW → Prop} (hz : BND z) (hO : WOo own z) (k0 : 0 ≤ k.toInt) (k1 : k.toInt < 24) {f : Int} (f0 : 0 ≤ f) (hE : ∀ w : MW, BND w → FR lrm z w → (∀ q : Int, 0 ≤ q → q < 24 → ¬ own q = f → w.1 36 q.toNat = z.1 36 q.toNat) → E w) (n : Nat) : ∀ (p i : Int32) (w : MW), BND w → FR lrm z w → (∀ q : Int, 0 ≤ q → q < 24 → ¬ own q = f → w.1 36 q.toNat = z.1 36 q.toNat) → (p.toInt < 0 ∨ (p.toInt < 24 ∧ own p.toInt = f)) → 0 ≤ i.toInt → i.toInt ≤ 24 → (24 - i.toInt).toNat < n → q_Wa_remove_19 k u E Q n p i w := by
  induction n with
  | zero => intros; omega
  | succ n ih =>
    intro p i w hI hF hT hp i0 i1 hm
    rw [q_Wa_remove_19.eq_2]
    have b31 := bd_31 hI k.toInt.toNat
    refine ⟨⟨k0, k1⟩, fun _ => hE w hI hF hT, fun c => ⟨fun _ => hE w hI hF hT, fun c1 => ?_⟩⟩
    obtain ⟨p1, p2⟩ := hp.resolve_left c1
    have hx : 0 ≤ p.toInt ∧ p.toInt < 24 := by omega
    have e3 := ti_add2 (Eq.refl i.toInt) (by decide : ((1 : Int32)).toInt = 1) (by omega) (by omega)
    have h35 : w.1 35 p.toInt.toNat = z.1 35 p.toInt.toNat := (hF 35 _ rfl).1
    have h34 : w.1 34 p.toInt.toNat = z.1 34 p.toInt.toNat := (hF 34 _ rfl).1
    have hq := hO.1 p.toInt hx.1 hx.2 (by omega)
    have b35 := bd_35 hI p.toInt.toNat
    have b34 := bd_34 hI p.toInt.toNat
    have nx : ∀ w' : MW, BND w' → FR lrm w w' → (∀ q : Nat, q ≠ p.toInt.toNat → w'.1 36 q = w.1 36 q) → q_Wa_remove_19 k u E Q n (w.1 35 p.toInt.toNat) (i + (1 : Int32)) w' := by
      intro w' hI' hF' h36
      refine ih _ _ w' hI' (hF.tr hF' rfl) (fun q q0 q1 qf => ?_) ?_ (by omega) (by omega) (by omega)
      · have ne : q.toNat ≠ p.toInt.toNat := by
          intro e
          apply qf
          have : q = p.toInt := by omega
          rw [this]
          exact p2
        rw [h36 _ ne]
        exact hT q q0 q1 qf
      · rw [h35]
        rcases hq.2 with h | h
        · exact Or.inl h
        · right
          rw [h35] at b35
          exact ⟨by omega, h.1.trans p2⟩
    have w36 : ∀ v : Int32, ∀ q : Nat, q ≠ p.toInt.toNat → (sI w 36 p.toInt.toNat v).1 36 q = w.1 36 q := fun v q hq => sI_ne _ _ _ _ _ hq
    have hI36 : BND (sI w 36 p.toInt.toNat (vp_nar .boolean (0 : Int32))) := wbd_36 hI _ (by decide) (by decide)
    have hF36 : FR lrm w (sI w 36 p.toInt.toNat (vp_nar .boolean (0 : Int32))) := FR.I (FR.refl _ w) rfl
    have go1 : q_Wa_remove_19 k u E Q n (w.1 35 p.toInt.toNat) (i + (1 : Int32)) (sI w 36 p.toInt.toNat (vp_nar .boolean (0 : Int32))) := nx _ hI36 hF36 (w36 _)
    refine ⟨hx, hx, fun _ => ⟨hx, go1⟩, fun c2 => ?_⟩
    have ht : 0 ≤ (w.1 13 ((w.1 34 p.toInt.toNat).toInt.toNat)).toInt ∧ (w.1 13 ((w.1 34 p.toInt.toNat).toInt.toNat)).toInt < 20 := by
      rw [h35] at c2
      have h := hq.2.resolve_left c2
      have b8 := bd_8_0 hz
      rw [h34, (hF 13 _ rfl).1]
      omega
    generalize w.1 13 ((w.1 34 p.toInt.toNat).toInt.toNat) = t at *
    have go2 : ∀ v : Int32, q_Wa_remove_19 k u E Q n (w.1 35 p.toInt.toNat) (i + (1 : Int32)) (sI (sI w 36 p.toInt.toNat (vp_nar .boolean (0 : Int32))) 37 t.toInt.toNat v) := fun v => nx _ (wbd_37 hI36 _) (FR.I hF36 rfl) (fun q hq => (sI_oth _ _ _ _ _ _ (by decide)).trans (w36 _ q hq))
    have go3 : ∀ v y : Int32, 0 ≤ y.toInt → y.toInt ≤ 9 → q_Wa_remove_19 k u E Q n (w.1 35 p.toInt.toNat) (i + (1 : Int32)) (sI (sI (sI w 36 p.toInt.toNat (vp_nar .boolean (0 : Int32))) 37 t.toInt.toNat v) 16 t.toInt.toNat y) := fun v y y0 y1 => nx _ (wbd_16 (wbd_37 hI36 _) _ y0 y1) (FR.I (FR.I hF36 rfl) rfl) (fun q hq => (sI_oth _ _ _ _ _ _ (by decide)).trans ((sI_oth _ _ _ _ _ _ (by decide)).trans (w36 _ q hq)))
    have b40 := bd_40 hI t.toInt.toNat
    have hy : 0 ≤ (w.1 34 p.toInt.toNat).toInt ∧ (w.1 34 p.toInt.toNat).toInt < 48 := by omega
    exact ⟨hx, hy, ht, ht, ht, fun _ => ⟨hx, go2 _⟩, fun _ => ⟨ht, fun _ => ⟨hx, go2 _⟩, fun _ => ⟨fun _ => ⟨ht, fun _ => ⟨ht, hx, go3 _ 0 (by decide) (by decide)⟩, fun _ => ⟨ht, hx, go3 _ 2 (by decide) (by decide)⟩⟩, fun _ => ⟨ht, ht, hx, go3 _ _ b40.1 b40.2⟩⟩⟩⟩
def lrs : Pl := [(27, none), (28, none), (29, none), (30, none), (31, none), (32, none), (33, none)]
theorem rm_168 {s : MW} {k : Int} {E Q : MW → Prop} (k0 : 0 ≤ k) (hE : ∀ w : MW, BND w → FR lrs s w → (∀ j : Nat, (j : Int) < (s.1 26 1).toInt → w.1 32 j = if k ≤ (j : Int) then s.1 32 (j + 1) else s.1 32 j) → E w) (n : Nat) : ∀ (x : Int32) (w : MW), BND w → FR lrs s w → (w.1 26 1).toInt ≤ 23 → (∀ j : Nat, w.1 32 j = if k ≤ (j : Int) ∧ (j : Int) < x.toInt then s.1 32 (j + 1) else s.1 32 j) → k ≤ x.toInt → x.toInt ≤ 23 → (23 - x.toInt).toNat < n → q_Wa_remove_168 E Q n x w := by
  induction n with
  | zero => intros; omega
  | succ n ih =>
    intro x w hI hF h23 hJ x0 x1 hm
    rw [q_Wa_remove_168.eq_2]
    have e26 : w.1 26 1 = s.1 26 1 := (hF 26 1 rfl).1
    refine ⟨fun c => hE w hI hF (fun j hj => ?_), fun c => ?_⟩
    · rw [hJ j]
      rw [e26] at c
      by_cases cj : k ≤ (j : Int)
      · rw [if_pos ⟨cj, by omega⟩, if_pos cj]
      · rw [if_neg (fun q => cj q.1), if_neg cj]
    have s1 := ti_add2 (Eq.refl x.toInt) (by decide : ((1 : Int32)).toInt = 1) (by omega) (by omega)
    have a1 : 0 ≤ (x + (1 : Int32)).toInt ∧ (x + (1 : Int32)).toInt < 24 := by omega
    have a2 : 0 ≤ x.toInt ∧ x.toInt < 24 := by omega
    have b1 := bd_27 hI (x + (1 : Int32)).toInt.toNat
    have b2 := bd_28 hI (x + (1 : Int32)).toInt.toNat
    have b3 := bd_29 hI (x + (1 : Int32)).toInt.toNat
    have b4 := bd_30 hI (x + (1 : Int32)).toInt.toNat
    have b5 := bd_31 hI (x + (1 : Int32)).toInt.toNat
    have b6 := bd_32 hI (x + (1 : Int32)).toInt.toNat
    have b7 := bd_33 hI (x + (1 : Int32)).toInt.toNat
    refine ⟨a1, a2, a1, a2, a1, a2, a1, a2, a1, a2, a1, a2, a1, a2, ih _ _ (wbd_33 (wbd_32 (wbd_31 (wbd_30 (wbd_29 (wbd_28 (wbd_27 hI _ b1.1 b1.2) _ b2.1 b2.2) _ b3.1 b3.2) _ b4.1 b4.2) _ b5.1 b5.2) _ b6.1 b6.2) _ b7.1 b7.2) (FR.I (FR.I (FR.I (FR.I (FR.I (FR.I (FR.I hF rfl) rfl) rfl) rfl) rfl) rfl) rfl) h23 (fun j => ?_) (by omega) (by omega) (by omega)⟩
    rw [sI_oth _ _ _ _ _ _ (by decide), sI_at]
    have o5 : ∀ j, (sI (sI (sI (sI (sI w 27 x.toInt.toNat (w.1 27 ((x + (1 : Int32)).toInt.toNat))) 28 x.toInt.toNat (w.1 28 ((x + (1 : Int32)).toInt.toNat))) 29 x.toInt.toNat (w.1 29 ((x + (1 : Int32)).toInt.toNat))) 30 x.toInt.toNat (w.1 30 ((x + (1 : Int32)).toInt.toNat))) 31 x.toInt.toNat (w.1 31 ((x + (1 : Int32)).toInt.toNat))).1 32 j = w.1 32 j := fun j => by rw [sI_oth _ _ _ _ _ _ (by decide), sI_oth _ _ _ _ _ _ (by decide), sI_oth _ _ _ _ _ _ (by decide), sI_oth _ _ _ _ _ _ (by decide), sI_oth _ _ _ _ _ _ (by decide)]
    by_cases cj : j = x.toInt.toNat
    · have e9 : (x + (1 : Int32)).toInt.toNat = j + 1 := by omega
      rw [if_pos ⟨rfl, cj⟩, if_pos (by omega), hJ, if_neg (by omega), e9]
    · rw [if_neg (fun q => cj q.2), o5, hJ j]
      by_cases cr : k ≤ (j : Int) ∧ (j : Int) < x.toInt
      · rw [if_pos cr, if_pos (by omega)]
      · rw [if_neg cr, if_neg (by omega)]
theorem h_Wa_remove {w : MW} {a0 : Int32} {b0 : Int32} {Q : MW → Prop} (hI : BND w) (hf_PL : PL w) (hf_WO : WO w) (hr_7_0 : w.2.2 7 0 = some 8) (hp0 : 0 ≤ a0.toInt) (hp1 : a0.toInt ≤ 23) (hp2 : 0 ≤ b0.toInt) (hp3 : b0.toInt ≤ 1) (hp4 : a0.toInt < (w.1 26 1).toInt) (hQ : ∀ (w' : MW), BND w' → FR l_Wa_remove w w' → WO w' → (w'.1 26 1).toInt = (w.1 26 1).toInt - 1 → Q w') : p_Wa_remove w a0 b0 Q := by
  obtain ⟨own, hO⟩ := hf_WO
  have b26 := bd_26_1 hI
  have b32 := bd_32 hI a0.toInt.toNat
  have hf := hO.2.1 a0 hp0 hp4
  refine Eq.mpr (p_Wa_remove.eq_1 _ _ _ _) ⟨hr_7_0, ⟨hp0, by omega⟩, ?_⟩
  refine rm_19 (z := w) (own := own) (f := (w.1 32 a0.toInt.toNat).toInt) hI hO hp0 (by omega) b32.1 (fun w30 hI30 hF30 h36 => ?_) FU _ 0 w hI (FR.refl _ w) (fun _ _ _ _ => rfl) (Or.inr ⟨by omega, hf⟩) (by decide) (by decide) (fu_lt (by decide))
  have e26 : w30.1 26 1 = w.1 26 1 := (hF30 26 1 rfl).1
  have es := ti_sub2 (Eq.refl (w30.1 26 1).toInt) (by decide : ((1 : Int32)).toInt = 1) (by rw [e26]; omega) (by rw [e26]; omega)
  rw [e26] at es
  have a26 : (sI w30 26 1 ((w30.1 26 1) - (1 : Int32))).1 26 1 = (w30.1 26 1) - (1 : Int32) := rfl
  have hI31 : BND (sI w30 26 1 ((w30.1 26 1) - (1 : Int32))) := wbd_26_1 hI30 (by rw [e26]; omega) (by rw [e26]; omega)
  have hF31 : FR l_Wa_remove w (sI w30 26 1 ((w30.1 26 1) - (1 : Int32))) := FR.I ((FR.refl _ w).tr hF30 rfl) rfl
  have g36 : ∀ j, (sI w30 26 1 ((w30.1 26 1) - (1 : Int32))).1 36 j = w30.1 36 j := fun j => sI_oth _ _ _ _ _ _ (by decide)
  have gz : ∀ k j, hit l_Wa_remove k j = false → (sI w30 26 1 ((w30.1 26 1) - (1 : Int32))).1 k j = w.1 k j := fun k j hk => (hF31 k j hk).1
  have g32 : ∀ j, (sI w30 26 1 ((w30.1 26 1) - (1 : Int32))).1 32 j = w.1 32 j := fun j => (sI_oth _ _ _ _ _ _ (by decide)).trans (hF30 32 j rfl).1
  have c26 : ((sI w30 26 1 ((w30.1 26 1) - (1 : Int32))).1 26 1).toInt = (w.1 26 1).toInt - 1 := by rw [a26, e26]; omega
  generalize (sI w30 26 1 ((w30.1 26 1) - (1 : Int32))) = w31 at *
  refine rm_168 (s := w31) (k := a0.toInt) hp0 (fun w46 hI46 hF46 hJ => ?_) FU a0 w31 hI31 (FR.refl _ w31) (by omega) (fun j => by rw [if_neg (by omega)]) (by omega) hp1 (fu_lt (by omega))
  have d26 : w46.1 26 1 = w31.1 26 1 := (hF46 26 1 rfl).1
  refine hQ w46 hI46 (hF31.tr hF46 rfl) ?_ (by rw [d26]; exact c26)
  have d36 : ∀ q : Int, 0 ≤ q → q < 24 → ¬ own q = (w.1 32 a0.toInt.toNat).toInt → w46.1 36 q.toNat = w.1 36 q.toNat := fun q q0 q1 qf => ((hF46 36 _ rfl).1.trans (g36 _)).trans (h36 q q0 q1 qf)
  have d35 : ∀ j, w46.1 35 j = w.1 35 j := fun j => (hF46 35 j rfl).1.trans (gz 35 j rfl)
  have d34 : ∀ j, w46.1 34 j = w.1 34 j := fun j => (hF46 34 j rfl).1.trans (gz 34 j rfl)
  have d13 : ∀ j, w46.1 13 j = w.1 13 j := fun j => (hF46 13 j rfl).1.trans (gz 13 j rfl)
  have d8 : w46.1 8 0 = w.1 8 0 := (hF46 8 0 rfl).1.trans (gz 8 0 rfl)
  have sg : ∀ k : Int32, 0 ≤ k.toInt → k.toInt < (w.1 26 1).toInt - 1 → ∃ k' : Int32, w46.1 32 k.toInt.toNat = w.1 32 k'.toInt.toNat ∧ 0 ≤ k'.toInt ∧ k'.toInt < (w.1 26 1).toInt ∧ ¬ k'.toInt = a0.toInt ∧ ((k.toInt < a0.toInt ∧ k'.toInt = k.toInt) ∨ (a0.toInt ≤ k.toInt ∧ k'.toInt = k.toInt + 1)) := by
    intro k k0 k1
    have h := hJ k.toInt.toNat (by omega)
    have e3 := ti_add2 (Eq.refl k.toInt) (by decide : ((1 : Int32)).toInt = 1) (by omega) (by omega)
    by_cases ck : a0.toInt ≤ k.toInt
    · refine ⟨k + (1 : Int32), ?_, by omega, by omega, by omega, Or.inr ⟨ck, e3⟩⟩
      rw [h, if_pos (by omega), g32]
      have : k.toInt.toNat + 1 = (k + (1 : Int32)).toInt.toNat := by omega
      rw [this]
    · refine ⟨k, ?_, k0, by omega, by omega, Or.inl ⟨by omega, rfl⟩⟩
      rw [h, if_neg (by omega), g32]
  refine ⟨fun p => if own p = (w.1 32 a0.toInt.toNat).toInt then -1 else own p, fun p p0 p1 hp => ?_, fun k k0 k1 => ?_, fun k l k0 k1 l0 l1 kl => ?_⟩
  · have hp : 0 ≤ (if own p = (w.1 32 a0.toInt.toNat).toInt then -1 else own p) := hp
    by_cases c : own p = (w.1 32 a0.toInt.toNat).toInt
    · rw [if_pos c] at hp
      exact absurd hp (by decide)
    · rw [if_neg c] at hp
      have h := hO.1 p p0 p1 hp
      rw [d36 p p0 p1 c, d35, d34, d13, d8]
      refine ⟨h.1, ?_⟩
      rcases h.2 with h2 | h2
      · exact Or.inl h2
      · right
        refine ⟨?_, h2.2⟩
        show (if own (w.1 35 p.toNat).toInt = (w.1 32 a0.toInt.toNat).toInt then -1 else own (w.1 35 p.toNat).toInt) = (if own p = (w.1 32 a0.toInt.toNat).toInt then -1 else own p)
        rw [h2.1]
  · rw [d26, c26] at k1
    obtain ⟨k', e1, e2, e3, e4, _⟩ := sg k k0 k1
    rw [e1]
    have h := hO.2.1 k' e2 e3
    show (if own (w.1 32 k'.toInt.toNat).toInt = (w.1 32 a0.toInt.toNat).toInt then -1 else own (w.1 32 k'.toInt.toNat).toInt) = (w.1 32 k'.toInt.toNat).toInt
    rw [h, if_neg (hO.2.2 k' a0 e2 e3 hp0 hp4 e4)]
  · rw [d26, c26] at k1 l1
    obtain ⟨k', e1, e2, e3, e4, e5⟩ := sg k k0 k1
    obtain ⟨l', f1, f2, f3, f4, f5⟩ := sg l l0 l1
    rw [e1, f1]
    exact hO.2.2 k' l' e2 e3 f2 f3 (by omega)
def l_Wa_closeAll_7 : Pl := [(16, none), (26, some 1), (27, none), (28, none), (29, none), (30, none), (31, none), (32, none), (33, none), (36, none), (37, none)]
def l_Wa_closeAll : Pl := [(16, none), (26, some 1), (27, none), (28, none), (29, none), (30, none), (31, none), (32, none), (33, none), (36, none), (37, none)]
set_option maxRecDepth 20000 in
set_option maxHeartbeats 2000000 in
theorem hq_Wa_closeAll_7 {E : MW → Prop} {Q : MW → Prop} (n : Nat) : ∀ (x7_1 : Int32) (w : MW), BND w → PL w → WO w → w.2.2 7 0 = some 8 → (-1) ≤ x7_1.toInt → x7_1.toInt ≤ 23 → x7_1.toInt < (w.1 26 1).toInt → (x7_1.toInt - (-1)).toNat < n → (∀ (w' : MW), BND w' → FR l_Wa_closeAll_7 w w' → WO w' → E w') → (∀ (w' : MW), BND w' → FR l_Wa_closeAll_7 w w' → WO w' → False → Q w') → q_Wa_closeAll_7 E Q n x7_1 w := by
  induction n with
  | zero => intros; omega
  | succ n ih =>
    intro x7_1 w hI hf_PL hf_WO hr_7_0 hp0 hp1 hp2 hm hE hQ
    rw [q_Wa_closeAll_7.eq_2]
    refine ⟨fun h556 => ?_, fun h556 => ?_⟩
    · exact hE _ hI (FR.refl _ w) hf_WO
    · have o557 : (0 ≤ x7_1.toInt) ∧ (x7_1.toInt ≤ 23) ∧ (0 ≤ (0 : Int32).toInt) ∧ ((0 : Int32).toInt ≤ 1) ∧ (x7_1.toInt < (w.1 26 1).toInt) := by have := (by decide : ((0 : Int32)).toInt = 0); have := bd_26_1 hI; exact ⟨by omega, by omega, by omega, by omega, by omega⟩
      refine h_Wa_remove hI hf_PL hf_WO hr_7_0 o557.1 o557.2.1 o557.2.2.1 o557.2.2.2.1 o557.2.2.2.2 (fun w558 hI559 hL560 hlw558_WO p562 => ?_)
      have hF563 : FR l_Wa_closeAll_7 w w558 := (FR.refl _ w).tr hL560 rfl
      have o564 : ((-1) ≤ (x7_1 + ((-1) : Int32)).toInt) ∧ ((x7_1 + ((-1) : Int32)).toInt ≤ 23) ∧ ((x7_1 + ((-1) : Int32)).toInt < (w558.1 26 1).toInt) := by have := bd_26_1 hI559; have := bd_26_1 hI; have := (by decide : ((0 : Int32)).toInt = 0); have := ti_dec x7_1 (by omega); exact ⟨by omega, by omega, by omega⟩
      exact ih _ w558 hI559 (PL_fr hL560 rfl hf_PL) hlw558_WO ((hL560 7 0 rfl).2.2.trans hr_7_0) o564.1 o564.2.1 o564.2.2 (by have := bd_26_1 hI; have := (by decide : ((0 : Int32)).toInt = 0); have := bd_26_1 hI559; have := ti_dec x7_1 (by omega); omega) (fun w9 hI9 hF9 hl9_WO => hE w9 hI9 (hF563.tr hF9 rfl) hl9_WO ) (fun w9 hI9 hF9 hl9_WO q0 => q0.elim)
set_option maxRecDepth 20000 in
set_option maxHeartbeats 2000000 in
theorem h_Wa_closeAll {w : MW} {Q : MW → Prop} (hI : BND w) (hf_PL : PL w) (hf_WO : WO w) (hr_7_0 : w.2.2 7 0 = some 8)  (hQ : ∀ (w' : MW), BND w' → FR l_Wa_closeAll w w' → WO w' → Q w') : p_Wa_closeAll w Q := by
  refine Eq.mpr (p_Wa_closeAll.eq_1 _ _) ?_
  have o565 : ((-1) ≤ ((w.1 26 1) - (1 : Int32)).toInt) ∧ (((w.1 26 1) - (1 : Int32)).toInt ≤ 23) ∧ (((w.1 26 1) - (1 : Int32)).toInt < (w.1 26 1).toInt) := by have := bd_26_1 hI; have := ti_sub2 (Eq.refl (w.1 26 1).toInt) (by decide : ((1 : Int32)).toInt = 1) (by omega) (by omega); exact ⟨by omega, by omega, by omega⟩
  refine hq_Wa_closeAll_7 FU _ w hI hf_PL hf_WO hr_7_0 o565.1 o565.2.1 o565.2.2 (fu_lt (by have := bd_26_1 hI; have := ti_sub2 (Eq.refl (w.1 26 1).toInt) (by decide : ((1 : Int32)).toInt = 1) (by omega) (by omega); omega)) (fun w566 hI567 hL568 hlw566_WO  => ?_) (fun w9 hI9 hF9 hl9_WO q0 => q0.elim)
  have hF569 : FR l_Wa_closeAll w w566 := (FR.refl _ w).tr hL568 rfl
  exact hQ _ hI567 hF569 hlw566_WO 
def l_Pl_addThings91_43 : Pl := [(98, none)]
def l_Pl_addThings91 : Pl := [(91, some 0), (92, none), (93, none), (94, none), (98, none)]
set_option maxRecDepth 20000 in
set_option maxHeartbeats 2000000 in
theorem h_Pl_addThings91 {w : MW} {a0 : Int32} {b0 : Int32} {Q : Int32 → MW → Prop} (hI : BND w) (hf_PE9 : PE9 w) (hf_PJ9 : PJ9 w) (hf_PL9 : PL9 w) (hp0 : 0 ≤ a0.toInt) (hp1 : a0.toInt ≤ 9) (hp2 : 0 ≤ b0.toInt) (hp3 : b0.toInt ≤ 100000) (hQ : ∀ (r : Int32) (w' : MW), BND w' → FR l_Pl_addThings91 w w' → (r.toInt = 0 ∨ PE9 w') → (r.toInt = 0 ∨ PJ9 w') → (r.toInt = 0 ∨ PL9 w') → 0 ≤ r.toInt → r.toInt ≤ 1 → Q r w') : p_Pl_addThings91 w a0 b0 Q := by
  refine Eq.mpr (p_Pl_addThings91.eq_1 _ _ _ _) ?_
  refine ⟨fun h570 => ?_, fun h570 => ?_⟩
  · replace h570 : (w.1 91 0).toInt < 20 := h570
    have o571 : 0 ≤ (w.1 91 0).toInt ∧ (w.1 91 0).toInt < 20 := by have := bd_91_0 hI; have := (by decide : ((20 : Int32)).toInt = 20); omega
    refine ⟨o571, ?_⟩
    have o572 : 0 ≤ (w.1 91 0).toInt ∧ (w.1 91 0).toInt < 20 := by have := bd_91_0 hI; have := (by decide : ((20 : Int32)).toInt = 20); omega
    refine ⟨o572, ?_⟩
    have o573 : 0 ≤ (w.1 91 0).toInt ∧ (w.1 91 0).toInt < 20 := by have := bd_91_0 hI; have := (by decide : ((20 : Int32)).toInt = 20); omega
    refine ⟨o573, ?_⟩
    refine Eq.mpr (q_Pl_addThings91_43.eq_2 ..) ?_
    refine ⟨fun h => absurd h (by decide), fun _ => ?_⟩
    have o574 : 0 ≤ (((w.1 91 0) * (4 : Int32)) + (0 : Int32)).toInt ∧ (((w.1 91 0) * (4 : Int32)) + (0 : Int32)).toInt < 80 := by have := bd_91_0 hI; have := (by decide : ((20 : Int32)).toInt = 20); have := ti_mul2 (Eq.refl (w.1 91 0).toInt) (by decide : ((4 : Int32)).toInt = 4) (by omega) (by omega); have := ti_add2 (Eq.refl ((w.1 91 0) * (4 : Int32)).toInt) (by decide : ((0 : Int32)).toInt = 0) (by omega) (by omega); omega
    refine ⟨o574, ?_⟩
    refine Eq.mpr (q_Pl_addThings91_43.eq_2 ..) ?_
    refine ⟨fun h575 => ?_, fun h575 => ?_⟩
    · replace h575 : 4 ≤ ((0 : Int32) + (1 : Int32)).toInt := h575
      exfalso; have := bd_91_0 hI; have := (by decide : ((20 : Int32)).toInt = 20); have := (by decide : ((4 : Int32)).toInt = 4); have := ti_add2 (by decide : ((0 : Int32)).toInt = 0) (by decide : ((1 : Int32)).toInt = 1) (by omega) (by omega); omega
    · replace h575 : ¬ (4 ≤ ((0 : Int32) + (1 : Int32)).toInt) := h575
      have o576 : 0 ≤ (((w.1 91 0) * (4 : Int32)) + ((0 : Int32) + (1 : Int32))).toInt ∧ (((w.1 91 0) * (4 : Int32)) + ((0 : Int32) + (1 : Int32))).toInt < 80 := by have := bd_91_0 hI; have := (by decide : ((20 : Int32)).toInt = 20); have := ti_mul2 (Eq.refl (w.1 91 0).toInt) (by decide : ((4 : Int32)).toInt = 4) (by omega) (by omega); have := ti_add2 (by decide : ((0 : Int32)).toInt = 0) (by decide : ((1 : Int32)).toInt = 1) (by omega) (by omega); have := ti_add2 (Eq.refl ((w.1 91 0) * (4 : Int32)).toInt) (Eq.refl ((0 : Int32) + (1 : Int32)).toInt) (by omega) (by omega); omega
      refine ⟨o576, ?_⟩
      refine Eq.mpr (q_Pl_addThings91_43.eq_2 ..) ?_
      refine ⟨fun h577 => ?_, fun h577 => ?_⟩
      · replace h577 : 4 ≤ (((0 : Int32) + (1 : Int32)) + (1 : Int32)).toInt := h577
        exfalso; have := bd_91_0 hI; have := (by decide : ((20 : Int32)).toInt = 20); have := (by decide : ((4 : Int32)).toInt = 4); have := ti_add2 (by decide : ((0 : Int32)).toInt = 0) (by decide : ((1 : Int32)).toInt = 1) (by omega) (by omega); have := ti_add2 (Eq.refl ((0 : Int32) + (1 : Int32)).toInt) (by decide : ((1 : Int32)).toInt = 1) (by omega) (by omega); omega
      · replace h577 : ¬ (4 ≤ (((0 : Int32) + (1 : Int32)) + (1 : Int32)).toInt) := h577
        have o578 : 0 ≤ (((w.1 91 0) * (4 : Int32)) + (((0 : Int32) + (1 : Int32)) + (1 : Int32))).toInt ∧ (((w.1 91 0) * (4 : Int32)) + (((0 : Int32) + (1 : Int32)) + (1 : Int32))).toInt < 80 := by have := bd_91_0 hI; have := (by decide : ((20 : Int32)).toInt = 20); have := ti_mul2 (Eq.refl (w.1 91 0).toInt) (by decide : ((4 : Int32)).toInt = 4) (by omega) (by omega); have := ti_add2 (by decide : ((0 : Int32)).toInt = 0) (by decide : ((1 : Int32)).toInt = 1) (by omega) (by omega); have := ti_add2 (Eq.refl ((0 : Int32) + (1 : Int32)).toInt) (by decide : ((1 : Int32)).toInt = 1) (by omega) (by omega); have := ti_add2 (Eq.refl ((w.1 91 0) * (4 : Int32)).toInt) (Eq.refl (((0 : Int32) + (1 : Int32)) + (1 : Int32)).toInt) (by omega) (by omega); omega
        refine ⟨o578, ?_⟩
        refine Eq.mpr (q_Pl_addThings91_43.eq_2 ..) ?_
        refine ⟨fun h579 => ?_, fun h579 => ?_⟩
        · replace h579 : 4 ≤ ((((0 : Int32) + (1 : Int32)) + (1 : Int32)) + (1 : Int32)).toInt := h579
          exfalso; have := bd_91_0 hI; have := (by decide : ((20 : Int32)).toInt = 20); have := (by decide : ((4 : Int32)).toInt = 4); have := ti_add2 (by decide : ((0 : Int32)).toInt = 0) (by decide : ((1 : Int32)).toInt = 1) (by omega) (by omega); have := ti_add2 (Eq.refl ((0 : Int32) + (1 : Int32)).toInt) (by decide : ((1 : Int32)).toInt = 1) (by omega) (by omega); have := ti_add2 (Eq.refl (((0 : Int32) + (1 : Int32)) + (1 : Int32)).toInt) (by decide : ((1 : Int32)).toInt = 1) (by omega) (by omega); omega
        · replace h579 : ¬ (4 ≤ ((((0 : Int32) + (1 : Int32)) + (1 : Int32)) + (1 : Int32)).toInt) := h579
          have o580 : 0 ≤ (((w.1 91 0) * (4 : Int32)) + ((((0 : Int32) + (1 : Int32)) + (1 : Int32)) + (1 : Int32))).toInt ∧ (((w.1 91 0) * (4 : Int32)) + ((((0 : Int32) + (1 : Int32)) + (1 : Int32)) + (1 : Int32))).toInt < 80 := by have := bd_91_0 hI; have := (by decide : ((20 : Int32)).toInt = 20); have := ti_mul2 (Eq.refl (w.1 91 0).toInt) (by decide : ((4 : Int32)).toInt = 4) (by omega) (by omega); have := ti_add2 (by decide : ((0 : Int32)).toInt = 0) (by decide : ((1 : Int32)).toInt = 1) (by omega) (by omega); have := ti_add2 (Eq.refl ((0 : Int32) + (1 : Int32)).toInt) (by decide : ((1 : Int32)).toInt = 1) (by omega) (by omega); have := ti_add2 (Eq.refl (((0 : Int32) + (1 : Int32)) + (1 : Int32)).toInt) (by decide : ((1 : Int32)).toInt = 1) (by omega) (by omega); have := ti_add2 (Eq.refl ((w.1 91 0) * (4 : Int32)).toInt) (Eq.refl ((((0 : Int32) + (1 : Int32)) + (1 : Int32)) + (1 : Int32)).toInt) (by omega) (by omega); omega
          refine ⟨o580, ?_⟩
          refine Eq.mpr (q_Pl_addThings91_43.eq_2 ..) ?_
          refine ⟨fun h581 => ?_, fun h581 => ?_⟩
          · replace h581 : 4 ≤ (((((0 : Int32) + (1 : Int32)) + (1 : Int32)) + (1 : Int32)) + (1 : Int32)).toInt := h581
            skip
            have o583 : 0 ≤ a0.toInt ∧ a0.toInt ≤ 9 := by omega
            have hI582 : BND (sI w 92 ((w.1 91 0).toInt.toNat) a0) := wbd_92 hI ((w.1 91 0).toInt.toNat) o583.1 o583.2
            have o585 : 0 ≤ b0.toInt ∧ b0.toInt ≤ 100000 := by omega
            have hI584 : BND (sI (sI w 92 ((w.1 91 0).toInt.toNat) a0) 93 ((w.1 91 0).toInt.toNat) b0) := wbd_93 hI582 ((w.1 91 0).toInt.toNat) o585.1 o585.2
            have hI586 : BND (sI (sI (sI w 92 ((w.1 91 0).toInt.toNat) a0) 93 ((w.1 91 0).toInt.toNat) b0) 94 ((w.1 91 0).toInt.toNat) 0) := wbd_94 hI584 ((w.1 91 0).toInt.toNat) (by decide) (by decide)
            have hI587 : BND (sI (sI (sI (sI w 92 ((w.1 91 0).toInt.toNat) a0) 93 ((w.1 91 0).toInt.toNat) b0) 94 ((w.1 91 0).toInt.toNat) 0) 98 ((((w.1 91 0) * (4 : Int32)) + (0 : Int32)).toInt.toNat) (-1)) := wbd_98 hI586 ((((w.1 91 0) * (4 : Int32)) + (0 : Int32)).toInt.toNat) (by decide) (by decide)
            have hI588 : BND (sI (sI (sI (sI (sI w 92 ((w.1 91 0).toInt.toNat) a0) 93 ((w.1 91 0).toInt.toNat) b0) 94 ((w.1 91 0).toInt.toNat) 0) 98 ((((w.1 91 0) * (4 : Int32)) + (0 : Int32)).toInt.toNat) (-1)) 98 ((((w.1 91 0) * (4 : Int32)) + ((0 : Int32) + (1 : Int32))).toInt.toNat) (-1)) := wbd_98 hI587 ((((w.1 91 0) * (4 : Int32)) + ((0 : Int32) + (1 : Int32))).toInt.toNat) (by decide) (by decide)
            have hI589 : BND (sI (sI (sI (sI (sI (sI w 92 ((w.1 91 0).toInt.toNat) a0) 93 ((w.1 91 0).toInt.toNat) b0) 94 ((w.1 91 0).toInt.toNat) 0) 98 ((((w.1 91 0) * (4 : Int32)) + (0 : Int32)).toInt.toNat) (-1)) 98 ((((w.1 91 0) * (4 : Int32)) + ((0 : Int32) + (1 : Int32))).toInt.toNat) (-1)) 98 ((((w.1 91 0) * (4 : Int32)) + (((0 : Int32) + (1 : Int32)) + (1 : Int32))).toInt.toNat) (-1)) := wbd_98 hI588 ((((w.1 91 0) * (4 : Int32)) + (((0 : Int32) + (1 : Int32)) + (1 : Int32))).toInt.toNat) (by decide) (by decide)
            have hI590 : BND (sI (sI (sI (sI (sI (sI (sI w 92 ((w.1 91 0).toInt.toNat) a0) 93 ((w.1 91 0).toInt.toNat) b0) 94 ((w.1 91 0).toInt.toNat) 0) 98 ((((w.1 91 0) * (4 : Int32)) + (0 : Int32)).toInt.toNat) (-1)) 98 ((((w.1 91 0) * (4 : Int32)) + ((0 : Int32) + (1 : Int32))).toInt.toNat) (-1)) 98 ((((w.1 91 0) * (4 : Int32)) + (((0 : Int32) + (1 : Int32)) + (1 : Int32))).toInt.toNat) (-1)) 98 ((((w.1 91 0) * (4 : Int32)) + ((((0 : Int32) + (1 : Int32)) + (1 : Int32)) + (1 : Int32))).toInt.toNat) (-1)) := wbd_98 hI589 ((((w.1 91 0) * (4 : Int32)) + ((((0 : Int32) + (1 : Int32)) + (1 : Int32)) + (1 : Int32))).toInt.toNat) (by decide) (by decide)
            have o592 : 0 ≤ ((w.1 91 0) + (1 : Int32)).toInt ∧ ((w.1 91 0) + (1 : Int32)).toInt ≤ 20 := by have := bd_91_0 hI; have := (by decide : ((20 : Int32)).toInt = 20); have := ti_add2 (Eq.refl (w.1 91 0).toInt) (by decide : ((1 : Int32)).toInt = 1) (by omega) (by omega); omega
            have hI591 : BND (sI (sI (sI (sI (sI (sI (sI (sI w 92 ((w.1 91 0).toInt.toNat) a0) 93 ((w.1 91 0).toInt.toNat) b0) 94 ((w.1 91 0).toInt.toNat) 0) 98 ((((w.1 91 0) * (4 : Int32)) + (0 : Int32)).toInt.toNat) (-1)) 98 ((((w.1 91 0) * (4 : Int32)) + ((0 : Int32) + (1 : Int32))).toInt.toNat) (-1)) 98 ((((w.1 91 0) * (4 : Int32)) + (((0 : Int32) + (1 : Int32)) + (1 : Int32))).toInt.toNat) (-1)) 98 ((((w.1 91 0) * (4 : Int32)) + ((((0 : Int32) + (1 : Int32)) + (1 : Int32)) + (1 : Int32))).toInt.toNat) (-1)) 91 0 ((w.1 91 0) + (1 : Int32))) := wbd_91_0 hI590 o592.1 o592.2
            have hW593 : PE9 (sI w 92 ((w.1 91 0).toInt.toNat) a0) := (PE9_fr (l := [(92, none)]) (FR.I (FR.refl _ w) (k := 92) (j := (w.1 91 0).toInt.toNat) (v := a0) rfl) rfl hf_PE9)
            have hW594 : PE9 (sI (sI w 92 ((w.1 91 0).toInt.toNat) a0) 93 ((w.1 91 0).toInt.toNat) b0) := (PE9_fr (l := [(93, none)]) (FR.I (FR.refl _ (sI w 92 ((w.1 91 0).toInt.toNat) a0)) (k := 93) (j := (w.1 91 0).toInt.toNat) (v := b0) rfl) rfl hW593)
            have hW595 : PE9 (sI (sI (sI w 92 ((w.1 91 0).toInt.toNat) a0) 93 ((w.1 91 0).toInt.toNat) b0) 94 ((w.1 91 0).toInt.toNat) 0) := (PE9_fr (l := [(94, none)]) (FR.I (FR.refl _ (sI (sI w 92 ((w.1 91 0).toInt.toNat) a0) 93 ((w.1 91 0).toInt.toNat) b0)) (k := 94) (j := (w.1 91 0).toInt.toNat) (v := 0) rfl) rfl hW594)
            have o596 : (0 ≤ ((sI (sI (sI w 92 ((w.1 91 0).toInt.toNat) a0) 93 ((w.1 91 0).toInt.toNat) b0) 94 ((w.1 91 0).toInt.toNat) 0).1 91 1).toInt) ∧ ((((w.1 91 0) * (4 : Int32)) + (0 : Int32)).toInt = 4 * ((sI (sI (sI w 92 ((w.1 91 0).toInt.toNat) a0) 93 ((w.1 91 0).toInt.toNat) b0) 94 ((w.1 91 0).toInt.toNat) 0).1 91 0).toInt) ∧ ((((w.1 91 0) * (4 : Int32)) + ((0 : Int32) + (1 : Int32))).toInt = 4 * ((sI (sI (sI w 92 ((w.1 91 0).toInt.toNat) a0) 93 ((w.1 91 0).toInt.toNat) b0) 94 ((w.1 91 0).toInt.toNat) 0).1 91 0).toInt + 1) ∧ ((((w.1 91 0) * (4 : Int32)) + (((0 : Int32) + (1 : Int32)) + (1 : Int32))).toInt = 4 * ((sI (sI (sI w 92 ((w.1 91 0).toInt.toNat) a0) 93 ((w.1 91 0).toInt.toNat) b0) 94 ((w.1 91 0).toInt.toNat) 0).1 91 0).toInt + 2) ∧ ((((w.1 91 0) * (4 : Int32)) + ((((0 : Int32) + (1 : Int32)) + (1 : Int32)) + (1 : Int32))).toInt = 4 * ((sI (sI (sI w 92 ((w.1 91 0).toInt.toNat) a0) 93 ((w.1 91 0).toInt.toNat) b0) 94 ((w.1 91 0).toInt.toNat) 0).1 91 0).toInt + 3) ∧ (((-1) : Int32).toInt = -1) ∧ (((-1) : Int32).toInt = -1) ∧ (((-1) : Int32).toInt = -1) ∧ (((-1) : Int32).toInt = -1) ∧ (((w.1 91 0) + (1 : Int32)).toInt = ((sI (sI (sI w 92 ((w.1 91 0).toInt.toNat) a0) 93 ((w.1 91 0).toInt.toNat) b0) 94 ((w.1 91 0).toInt.toNat) 0).1 91 0).toInt + 1) := by have := bd_91_0 hI; have := (by decide : (((-1) : Int32)).toInt = (-1)); have := bd_91_1 hI; have : ((sI (sI (sI w 92 ((w.1 91 0).toInt.toNat) a0) 93 ((w.1 91 0).toInt.toNat) b0) 94 ((w.1 91 0).toInt.toNat) 0).1 91 1).toInt = (w.1 91 1).toInt := rfl; have : ((sI (sI (sI w 92 ((w.1 91 0).toInt.toNat) a0) 93 ((w.1 91 0).toInt.toNat) b0) 94 ((w.1 91 0).toInt.toNat) 0).1 91 0).toInt = (w.1 91 0).toInt := rfl; have := (by decide : ((20 : Int32)).toInt = 20); have := ti_mul2 (Eq.refl (w.1 91 0).toInt) (by decide : ((4 : Int32)).toInt = 4) (by omega) (by omega); have := ti_add2 (Eq.refl ((w.1 91 0) * (4 : Int32)).toInt) (by decide : ((0 : Int32)).toInt = 0) (by omega) (by omega); have := ti_add2 (by decide : ((0 : Int32)).toInt = 0) (by decide : ((1 : Int32)).toInt = 1) (by omega) (by omega); have := ti_add2 (Eq.refl ((w.1 91 0) * (4 : Int32)).toInt) (Eq.refl ((0 : Int32) + (1 : Int32)).toInt) (by omega) (by omega); have := ti_add2 (Eq.refl ((0 : Int32) + (1 : Int32)).toInt) (by decide : ((1 : Int32)).toInt = 1) (by omega) (by omega); have := ti_add2 (Eq.refl ((w.1 91 0) * (4 : Int32)).toInt) (Eq.refl (((0 : Int32) + (1 : Int32)) + (1 : Int32)).toInt) (by omega) (by omega); have := ti_add2 (Eq.refl (((0 : Int32) + (1 : Int32)) + (1 : Int32)).toInt) (by decide : ((1 : Int32)).toInt = 1) (by omega) (by omega); have := ti_add2 (Eq.refl ((w.1 91 0) * (4 : Int32)).toInt) (Eq.refl ((((0 : Int32) + (1 : Int32)) + (1 : Int32)) + (1 : Int32)).toInt) (by omega) (by omega); have := ti_add2 (Eq.refl (w.1 91 0).toInt) (by decide : ((1 : Int32)).toInt = 1) (by omega) (by omega); exact ⟨by omega, by omega, by omega, by omega, by omega, by omega, by omega, by omega, by omega, by omega⟩
            have hW597 : PE9 (sI (sI (sI (sI (sI (sI (sI (sI w 92 ((w.1 91 0).toInt.toNat) a0) 93 ((w.1 91 0).toInt.toNat) b0) 94 ((w.1 91 0).toInt.toNat) 0) 98 ((((w.1 91 0) * (4 : Int32)) + (0 : Int32)).toInt.toNat) (-1)) 98 ((((w.1 91 0) * (4 : Int32)) + ((0 : Int32) + (1 : Int32))).toInt.toNat) (-1)) 98 ((((w.1 91 0) * (4 : Int32)) + (((0 : Int32) + (1 : Int32)) + (1 : Int32))).toInt.toNat) (-1)) 98 ((((w.1 91 0) * (4 : Int32)) + ((((0 : Int32) + (1 : Int32)) + (1 : Int32)) + (1 : Int32))).toInt.toNat) (-1)) 91 0 ((w.1 91 0) + (1 : Int32))) := (pe9_add hW595 o596.1 o596.2.1 o596.2.2.1 o596.2.2.2.1 o596.2.2.2.2.1 o596.2.2.2.2.2.1 o596.2.2.2.2.2.2.1 o596.2.2.2.2.2.2.2.1 o596.2.2.2.2.2.2.2.2.1 o596.2.2.2.2.2.2.2.2.2)
            have hW598 : PJ9 (sI w 92 ((w.1 91 0).toInt.toNat) a0) := (PJ9_fr (l := [(92, none)]) (FR.I (FR.refl _ w) (k := 92) (j := (w.1 91 0).toInt.toNat) (v := a0) rfl) rfl hf_PJ9)
            have hW599 : PJ9 (sI (sI w 92 ((w.1 91 0).toInt.toNat) a0) 93 ((w.1 91 0).toInt.toNat) b0) := (PJ9_fr (l := [(93, none)]) (FR.I (FR.refl _ (sI w 92 ((w.1 91 0).toInt.toNat) a0)) (k := 93) (j := (w.1 91 0).toInt.toNat) (v := b0) rfl) rfl hW598)
            have hW600 : PJ9 (sI (sI (sI w 92 ((w.1 91 0).toInt.toNat) a0) 93 ((w.1 91 0).toInt.toNat) b0) 94 ((w.1 91 0).toInt.toNat) 0) := (PJ9_fr (l := [(94, none)]) (FR.I (FR.refl _ (sI (sI w 92 ((w.1 91 0).toInt.toNat) a0) 93 ((w.1 91 0).toInt.toNat) b0)) (k := 94) (j := (w.1 91 0).toInt.toNat) (v := 0) rfl) rfl hW599)
            have o601 : ((((w.1 91 0) * (4 : Int32)) + (0 : Int32)).toInt = 4 * ((sI (sI (sI w 92 ((w.1 91 0).toInt.toNat) a0) 93 ((w.1 91 0).toInt.toNat) b0) 94 ((w.1 91 0).toInt.toNat) 0).1 91 0).toInt) ∧ ((((w.1 91 0) * (4 : Int32)) + ((0 : Int32) + (1 : Int32))).toInt = 4 * ((sI (sI (sI w 92 ((w.1 91 0).toInt.toNat) a0) 93 ((w.1 91 0).toInt.toNat) b0) 94 ((w.1 91 0).toInt.toNat) 0).1 91 0).toInt + 1) ∧ ((((w.1 91 0) * (4 : Int32)) + (((0 : Int32) + (1 : Int32)) + (1 : Int32))).toInt = 4 * ((sI (sI (sI w 92 ((w.1 91 0).toInt.toNat) a0) 93 ((w.1 91 0).toInt.toNat) b0) 94 ((w.1 91 0).toInt.toNat) 0).1 91 0).toInt + 2) ∧ ((((w.1 91 0) * (4 : Int32)) + ((((0 : Int32) + (1 : Int32)) + (1 : Int32)) + (1 : Int32))).toInt = 4 * ((sI (sI (sI w 92 ((w.1 91 0).toInt.toNat) a0) 93 ((w.1 91 0).toInt.toNat) b0) 94 ((w.1 91 0).toInt.toNat) 0).1 91 0).toInt + 3) ∧ (((-1) : Int32).toInt = -1) ∧ (((-1) : Int32).toInt = -1) ∧ (((-1) : Int32).toInt = -1) ∧ (((-1) : Int32).toInt = -1) ∧ (((w.1 91 0) + (1 : Int32)).toInt = ((sI (sI (sI w 92 ((w.1 91 0).toInt.toNat) a0) 93 ((w.1 91 0).toInt.toNat) b0) 94 ((w.1 91 0).toInt.toNat) 0).1 91 0).toInt + 1) := by have := bd_91_0 hI; have := (by decide : (((-1) : Int32)).toInt = (-1)); have : ((sI (sI (sI w 92 ((w.1 91 0).toInt.toNat) a0) 93 ((w.1 91 0).toInt.toNat) b0) 94 ((w.1 91 0).toInt.toNat) 0).1 91 0).toInt = (w.1 91 0).toInt := rfl; have := (by decide : ((20 : Int32)).toInt = 20); have := ti_mul2 (Eq.refl (w.1 91 0).toInt) (by decide : ((4 : Int32)).toInt = 4) (by omega) (by omega); have := ti_add2 (Eq.refl ((w.1 91 0) * (4 : Int32)).toInt) (by decide : ((0 : Int32)).toInt = 0) (by omega) (by omega); have := ti_add2 (by decide : ((0 : Int32)).toInt = 0) (by decide : ((1 : Int32)).toInt = 1) (by omega) (by omega); have := ti_add2 (Eq.refl ((w.1 91 0) * (4 : Int32)).toInt) (Eq.refl ((0 : Int32) + (1 : Int32)).toInt) (by omega) (by omega); have := ti_add2 (Eq.refl ((0 : Int32) + (1 : Int32)).toInt) (by decide : ((1 : Int32)).toInt = 1) (by omega) (by omega); have := ti_add2 (Eq.refl ((w.1 91 0) * (4 : Int32)).toInt) (Eq.refl (((0 : Int32) + (1 : Int32)) + (1 : Int32)).toInt) (by omega) (by omega); have := ti_add2 (Eq.refl (((0 : Int32) + (1 : Int32)) + (1 : Int32)).toInt) (by decide : ((1 : Int32)).toInt = 1) (by omega) (by omega); have := ti_add2 (Eq.refl ((w.1 91 0) * (4 : Int32)).toInt) (Eq.refl ((((0 : Int32) + (1 : Int32)) + (1 : Int32)) + (1 : Int32)).toInt) (by omega) (by omega); have := ti_add2 (Eq.refl (w.1 91 0).toInt) (by decide : ((1 : Int32)).toInt = 1) (by omega) (by omega); exact ⟨by omega, by omega, by omega, by omega, by omega, by omega, by omega, by omega, by omega⟩
            have hW602 : PJ9 (sI (sI (sI (sI (sI (sI (sI (sI w 92 ((w.1 91 0).toInt.toNat) a0) 93 ((w.1 91 0).toInt.toNat) b0) 94 ((w.1 91 0).toInt.toNat) 0) 98 ((((w.1 91 0) * (4 : Int32)) + (0 : Int32)).toInt.toNat) (-1)) 98 ((((w.1 91 0) * (4 : Int32)) + ((0 : Int32) + (1 : Int32))).toInt.toNat) (-1)) 98 ((((w.1 91 0) * (4 : Int32)) + (((0 : Int32) + (1 : Int32)) + (1 : Int32))).toInt.toNat) (-1)) 98 ((((w.1 91 0) * (4 : Int32)) + ((((0 : Int32) + (1 : Int32)) + (1 : Int32)) + (1 : Int32))).toInt.toNat) (-1)) 91 0 ((w.1 91 0) + (1 : Int32))) := (pj9_add hW600 o601.1 o601.2.1 o601.2.2.1 o601.2.2.2.1 o601.2.2.2.2.1 o601.2.2.2.2.2.1 o601.2.2.2.2.2.2.1 o601.2.2.2.2.2.2.2.1 o601.2.2.2.2.2.2.2.2)
            have hW603 : PL9 (sI w 92 ((w.1 91 0).toInt.toNat) a0) := (PL9_fr (l := [(92, none)]) (FR.I (FR.refl _ w) (k := 92) (j := (w.1 91 0).toInt.toNat) (v := a0) rfl) rfl hf_PL9)
            have hW604 : PL9 (sI (sI w 92 ((w.1 91 0).toInt.toNat) a0) 93 ((w.1 91 0).toInt.toNat) b0) := (PL9_fr (l := [(93, none)]) (FR.I (FR.refl _ (sI w 92 ((w.1 91 0).toInt.toNat) a0)) (k := 93) (j := (w.1 91 0).toInt.toNat) (v := b0) rfl) rfl hW603)
            have hW605 : PL9 (sI (sI (sI w 92 ((w.1 91 0).toInt.toNat) a0) 93 ((w.1 91 0).toInt.toNat) b0) 94 ((w.1 91 0).toInt.toNat) 0) := (PL9_fr (l := [(94, none)]) (FR.I (FR.refl _ (sI (sI w 92 ((w.1 91 0).toInt.toNat) a0) 93 ((w.1 91 0).toInt.toNat) b0)) (k := 94) (j := (w.1 91 0).toInt.toNat) (v := 0) rfl) rfl hW604)
            have hW606 : PL9 (sI (sI (sI (sI w 92 ((w.1 91 0).toInt.toNat) a0) 93 ((w.1 91 0).toInt.toNat) b0) 94 ((w.1 91 0).toInt.toNat) 0) 98 ((((w.1 91 0) * (4 : Int32)) + (0 : Int32)).toInt.toNat) (-1)) := (PL9_fr (l := [(98, none)]) (FR.I (FR.refl _ (sI (sI (sI w 92 ((w.1 91 0).toInt.toNat) a0) 93 ((w.1 91 0).toInt.toNat) b0) 94 ((w.1 91 0).toInt.toNat) 0)) (k := 98) (j := (((w.1 91 0) * (4 : Int32)) + (0 : Int32)).toInt.toNat) (v := (-1)) rfl) rfl hW605)
            have hW607 : PL9 (sI (sI (sI (sI (sI w 92 ((w.1 91 0).toInt.toNat) a0) 93 ((w.1 91 0).toInt.toNat) b0) 94 ((w.1 91 0).toInt.toNat) 0) 98 ((((w.1 91 0) * (4 : Int32)) + (0 : Int32)).toInt.toNat) (-1)) 98 ((((w.1 91 0) * (4 : Int32)) + ((0 : Int32) + (1 : Int32))).toInt.toNat) (-1)) := (PL9_fr (l := [(98, none)]) (FR.I (FR.refl _ (sI (sI (sI (sI w 92 ((w.1 91 0).toInt.toNat) a0) 93 ((w.1 91 0).toInt.toNat) b0) 94 ((w.1 91 0).toInt.toNat) 0) 98 ((((w.1 91 0) * (4 : Int32)) + (0 : Int32)).toInt.toNat) (-1))) (k := 98) (j := (((w.1 91 0) * (4 : Int32)) + ((0 : Int32) + (1 : Int32))).toInt.toNat) (v := (-1)) rfl) rfl hW606)
            have hW608 : PL9 (sI (sI (sI (sI (sI (sI w 92 ((w.1 91 0).toInt.toNat) a0) 93 ((w.1 91 0).toInt.toNat) b0) 94 ((w.1 91 0).toInt.toNat) 0) 98 ((((w.1 91 0) * (4 : Int32)) + (0 : Int32)).toInt.toNat) (-1)) 98 ((((w.1 91 0) * (4 : Int32)) + ((0 : Int32) + (1 : Int32))).toInt.toNat) (-1)) 98 ((((w.1 91 0) * (4 : Int32)) + (((0 : Int32) + (1 : Int32)) + (1 : Int32))).toInt.toNat) (-1)) := (PL9_fr (l := [(98, none)]) (FR.I (FR.refl _ (sI (sI (sI (sI (sI w 92 ((w.1 91 0).toInt.toNat) a0) 93 ((w.1 91 0).toInt.toNat) b0) 94 ((w.1 91 0).toInt.toNat) 0) 98 ((((w.1 91 0) * (4 : Int32)) + (0 : Int32)).toInt.toNat) (-1)) 98 ((((w.1 91 0) * (4 : Int32)) + ((0 : Int32) + (1 : Int32))).toInt.toNat) (-1))) (k := 98) (j := (((w.1 91 0) * (4 : Int32)) + (((0 : Int32) + (1 : Int32)) + (1 : Int32))).toInt.toNat) (v := (-1)) rfl) rfl hW607)
            have hW609 : PL9 (sI (sI (sI (sI (sI (sI (sI w 92 ((w.1 91 0).toInt.toNat) a0) 93 ((w.1 91 0).toInt.toNat) b0) 94 ((w.1 91 0).toInt.toNat) 0) 98 ((((w.1 91 0) * (4 : Int32)) + (0 : Int32)).toInt.toNat) (-1)) 98 ((((w.1 91 0) * (4 : Int32)) + ((0 : Int32) + (1 : Int32))).toInt.toNat) (-1)) 98 ((((w.1 91 0) * (4 : Int32)) + (((0 : Int32) + (1 : Int32)) + (1 : Int32))).toInt.toNat) (-1)) 98 ((((w.1 91 0) * (4 : Int32)) + ((((0 : Int32) + (1 : Int32)) + (1 : Int32)) + (1 : Int32))).toInt.toNat) (-1)) := (PL9_fr (l := [(98, none)]) (FR.I (FR.refl _ (sI (sI (sI (sI (sI (sI w 92 ((w.1 91 0).toInt.toNat) a0) 93 ((w.1 91 0).toInt.toNat) b0) 94 ((w.1 91 0).toInt.toNat) 0) 98 ((((w.1 91 0) * (4 : Int32)) + (0 : Int32)).toInt.toNat) (-1)) 98 ((((w.1 91 0) * (4 : Int32)) + ((0 : Int32) + (1 : Int32))).toInt.toNat) (-1)) 98 ((((w.1 91 0) * (4 : Int32)) + (((0 : Int32) + (1 : Int32)) + (1 : Int32))).toInt.toNat) (-1))) (k := 98) (j := (((w.1 91 0) * (4 : Int32)) + ((((0 : Int32) + (1 : Int32)) + (1 : Int32)) + (1 : Int32))).toInt.toNat) (v := (-1)) rfl) rfl hW608)
            have hW610 : PL9 (sI (sI (sI (sI (sI (sI (sI (sI w 92 ((w.1 91 0).toInt.toNat) a0) 93 ((w.1 91 0).toInt.toNat) b0) 94 ((w.1 91 0).toInt.toNat) 0) 98 ((((w.1 91 0) * (4 : Int32)) + (0 : Int32)).toInt.toNat) (-1)) 98 ((((w.1 91 0) * (4 : Int32)) + ((0 : Int32) + (1 : Int32))).toInt.toNat) (-1)) 98 ((((w.1 91 0) * (4 : Int32)) + (((0 : Int32) + (1 : Int32)) + (1 : Int32))).toInt.toNat) (-1)) 98 ((((w.1 91 0) * (4 : Int32)) + ((((0 : Int32) + (1 : Int32)) + (1 : Int32)) + (1 : Int32))).toInt.toNat) (-1)) 91 0 ((w.1 91 0) + (1 : Int32))) := (pl9_things hW609 (by have := bd_91_0 hI; have : ((sI (sI (sI (sI (sI (sI (sI w 92 ((w.1 91 0).toInt.toNat) a0) 93 ((w.1 91 0).toInt.toNat) b0) 94 ((w.1 91 0).toInt.toNat) 0) 98 ((((w.1 91 0) * (4 : Int32)) + (0 : Int32)).toInt.toNat) (-1)) 98 ((((w.1 91 0) * (4 : Int32)) + ((0 : Int32) + (1 : Int32))).toInt.toNat) (-1)) 98 ((((w.1 91 0) * (4 : Int32)) + (((0 : Int32) + (1 : Int32)) + (1 : Int32))).toInt.toNat) (-1)) 98 ((((w.1 91 0) * (4 : Int32)) + ((((0 : Int32) + (1 : Int32)) + (1 : Int32)) + (1 : Int32))).toInt.toNat) (-1)).1 91 0).toInt = (w.1 91 0).toInt := rfl; have := (by decide : ((20 : Int32)).toInt = 20); have := ti_add2 (Eq.refl (w.1 91 0).toInt) (by decide : ((1 : Int32)).toInt = 1) (by omega) (by omega); omega))
            have o611 : (0 ≤ (1 : Int32).toInt) ∧ ((1 : Int32).toInt ≤ 1) := by have := (by decide : ((1 : Int32)).toInt = 1); exact ⟨by omega, by omega⟩
            exact hQ _ _ hI591 (FR.I (FR.I (FR.I (FR.I (FR.I (FR.I (FR.I (FR.I (FR.refl _ w) (k := 92) (j := (w.1 91 0).toInt.toNat) (v := a0) rfl) (k := 93) (j := (w.1 91 0).toInt.toNat) (v := b0) rfl) (k := 94) (j := (w.1 91 0).toInt.toNat) (v := 0) rfl) (k := 98) (j := (((w.1 91 0) * (4 : Int32)) + (0 : Int32)).toInt.toNat) (v := (-1)) rfl) (k := 98) (j := (((w.1 91 0) * (4 : Int32)) + ((0 : Int32) + (1 : Int32))).toInt.toNat) (v := (-1)) rfl) (k := 98) (j := (((w.1 91 0) * (4 : Int32)) + (((0 : Int32) + (1 : Int32)) + (1 : Int32))).toInt.toNat) (v := (-1)) rfl) (k := 98) (j := (((w.1 91 0) * (4 : Int32)) + ((((0 : Int32) + (1 : Int32)) + (1 : Int32)) + (1 : Int32))).toInt.toNat) (v := (-1)) rfl) (k := 91) (j := 0) (v := ((w.1 91 0) + (1 : Int32))) rfl) (Or.inr hW597) (Or.inr hW602) (Or.inr hW610)  o611.1 o611.2
          · replace h581 : ¬ (4 ≤ (((((0 : Int32) + (1 : Int32)) + (1 : Int32)) + (1 : Int32)) + (1 : Int32)).toInt) := h581
            exfalso; have := bd_91_0 hI; have := (by decide : ((20 : Int32)).toInt = 20); have := (by decide : ((4 : Int32)).toInt = 4); have := ti_add2 (by decide : ((0 : Int32)).toInt = 0) (by decide : ((1 : Int32)).toInt = 1) (by omega) (by omega); have := ti_add2 (Eq.refl ((0 : Int32) + (1 : Int32)).toInt) (by decide : ((1 : Int32)).toInt = 1) (by omega) (by omega); have := ti_add2 (Eq.refl (((0 : Int32) + (1 : Int32)) + (1 : Int32)).toInt) (by decide : ((1 : Int32)).toInt = 1) (by omega) (by omega); have := ti_add2 (Eq.refl ((((0 : Int32) + (1 : Int32)) + (1 : Int32)) + (1 : Int32)).toInt) (by decide : ((1 : Int32)).toInt = 1) (by omega) (by omega); omega
  · replace h570 : ¬ ((w.1 91 0).toInt < 20) := h570
    have o612 : (0 ≤ (0 : Int32).toInt) ∧ ((0 : Int32).toInt ≤ 1) := by have := (by decide : ((0 : Int32)).toInt = 0); exact ⟨by omega, by omega⟩
    exact hQ _ _ hI (FR.refl _ w) (Or.inl (by have := (by decide : ((0 : Int32)).toInt = 0); omega)) (Or.inl (by have := (by decide : ((0 : Int32)).toInt = 0); omega)) (Or.inl (by have := (by decide : ((0 : Int32)).toInt = 0); omega))  o612.1 o612.2
