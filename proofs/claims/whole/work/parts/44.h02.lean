def l_Ar_fill0_16_5 : Pl := [(16, none)]
def l_Ar_fill0_16 : Pl := [(16, none)]
set_option maxRecDepth 20000 in
set_option maxHeartbeats 2000000 in
theorem hq_Ar_fill0_16_5 {x5_1 : Int32} {x5_3 : Int32} {E : MW → Prop} {Q : MW → Prop} (n : Nat) : ∀ (x5_2 : Int32) (w : MW), BND w → 0 ≤ x5_1.toInt → x5_1.toInt ≤ 0 → 20 ≤ x5_3.toInt → x5_3.toInt ≤ 20 → 0 ≤ x5_2.toInt → x5_2.toInt ≤ 20 → (20 - x5_2.toInt).toNat < n → (∀ (w' : MW), BND w' → FR l_Ar_fill0_16_5 w w' → E w') → (∀ (w' : MW), BND w' → FR l_Ar_fill0_16_5 w w' → False → Q w') → q_Ar_fill0_16_5 x5_1 x5_3 E Q n x5_2 w := by
  induction n with
  | zero => intros; omega
  | succ n ih =>
    intro x5_2 w hI  hp0 hp1 hp2 hp3 hp4 hp5 hm hE hQ
    rw [q_Ar_fill0_16_5.eq_2]
    refine ⟨fun h463 => ?_, fun h463 => ?_⟩
    · exact hE _ hI (FR.refl _ w)
    · have o464 : 0 ≤ x5_2.toInt ∧ x5_2.toInt < 20 := by omega
      refine ⟨o464, ?_⟩
      have o466 : 0 ≤ x5_1.toInt ∧ x5_1.toInt ≤ 9 := by omega
      have hI465 : BND (sI w 16 x5_2.toInt.toNat x5_1) := wbd_16 hI x5_2.toInt.toNat o466.1 o466.2
      have o467 : (0 ≤ x5_1.toInt) ∧ (x5_1.toInt ≤ 0) ∧ (20 ≤ x5_3.toInt) ∧ (x5_3.toInt ≤ 20) ∧ (0 ≤ (x5_2 + (1 : Int32)).toInt) ∧ ((x5_2 + (1 : Int32)).toInt ≤ 20) := by have := ti_add2 (Eq.refl x5_2.toInt) (by decide : ((1 : Int32)).toInt = 1) (by omega) (by omega); exact ⟨by omega, by omega, by omega, by omega, by omega, by omega⟩
      exact ih _ (sI w 16 x5_2.toInt.toNat x5_1) hI465  o467.1 o467.2.1 o467.2.2.1 o467.2.2.2.1 o467.2.2.2.2.1 o467.2.2.2.2.2 (by have := ti_add2 (Eq.refl x5_2.toInt) (by decide : ((1 : Int32)).toInt = 1) (by omega) (by omega); omega) (fun w9 hI9 hF9 => hE w9 hI9 ((FR.I (FR.refl _ w) (k := 16) (j := x5_2.toInt.toNat) (v := x5_1) rfl).tr hF9 rfl) ) (fun w9 hI9 hF9 q0 => q0.elim)
set_option maxRecDepth 20000 in
set_option maxHeartbeats 2000000 in
theorem h_Ar_fill0_16 {w : MW} {a0 : Int32} {Q : MW → Prop} (hI : BND w) (hp0 : 0 ≤ a0.toInt) (hp1 : a0.toInt ≤ 0) (hQ : ∀ (w' : MW), BND w' → FR l_Ar_fill0_16 w w' → Q w') : p_Ar_fill0_16 w a0 Q := by
  refine Eq.mpr (p_Ar_fill0_16.eq_1 _ _ _) ?_
  have o468 : (0 ≤ a0.toInt) ∧ (a0.toInt ≤ 0) ∧ (20 ≤ (20 : Int32).toInt) ∧ ((20 : Int32).toInt ≤ 20) ∧ (0 ≤ (0 : Int32).toInt) ∧ ((0 : Int32).toInt ≤ 20) := by have := (by decide : ((20 : Int32)).toInt = 20); have := (by decide : ((0 : Int32)).toInt = 0); exact ⟨by omega, by omega, by omega, by omega, by omega, by omega⟩
  refine hq_Ar_fill0_16_5 FU _ w hI  o468.1 o468.2.1 o468.2.2.1 o468.2.2.2.1 o468.2.2.2.2.1 o468.2.2.2.2.2 (fu_lt (by have := (by decide : ((20 : Int32)).toInt = 20); have := (by decide : ((0 : Int32)).toInt = 0); omega)) (fun w469 hI470 hL471  => ?_) (fun w9 hI9 hF9 q0 => q0.elim)
  have hF472 : FR l_Ar_fill0_16 w w469 := (FR.refl _ w).tr hL471 rfl
  exact hQ _ hI470 hF472 
def l_Ar_fill0_17_5 : Pl := [(17, none)]
def l_Ar_fill0_17 : Pl := [(17, none)]
set_option maxRecDepth 20000 in
set_option maxHeartbeats 2000000 in
theorem hq_Ar_fill0_17_5 {x5_1 : Int32} {x5_3 : Int32} {E : MW → Prop} {Q : MW → Prop} (n : Nat) : ∀ (x5_2 : Int32) (w : MW), BND w → 0 ≤ x5_1.toInt → x5_1.toInt ≤ 0 → 44 ≤ x5_3.toInt → x5_3.toInt ≤ 44 → 0 ≤ x5_2.toInt → x5_2.toInt ≤ 44 → (44 - x5_2.toInt).toNat < n → (∀ (w' : MW), BND w' → FR l_Ar_fill0_17_5 w w' → E w') → (∀ (w' : MW), BND w' → FR l_Ar_fill0_17_5 w w' → False → Q w') → q_Ar_fill0_17_5 x5_1 x5_3 E Q n x5_2 w := by
  induction n with
  | zero => intros; omega
  | succ n ih =>
    intro x5_2 w hI  hp0 hp1 hp2 hp3 hp4 hp5 hm hE hQ
    rw [q_Ar_fill0_17_5.eq_2]
    refine ⟨fun h473 => ?_, fun h473 => ?_⟩
    · exact hE _ hI (FR.refl _ w)
    · have o474 : 0 ≤ x5_2.toInt ∧ x5_2.toInt < 44 := by omega
      refine ⟨o474, ?_⟩
      have o476 : 0 ≤ x5_1.toInt ∧ x5_1.toInt ≤ 14 := by omega
      have hI475 : BND (sI w 17 x5_2.toInt.toNat x5_1) := wbd_17 hI x5_2.toInt.toNat o476.1 o476.2
      have o477 : (0 ≤ x5_1.toInt) ∧ (x5_1.toInt ≤ 0) ∧ (44 ≤ x5_3.toInt) ∧ (x5_3.toInt ≤ 44) ∧ (0 ≤ (x5_2 + (1 : Int32)).toInt) ∧ ((x5_2 + (1 : Int32)).toInt ≤ 44) := by have := ti_add2 (Eq.refl x5_2.toInt) (by decide : ((1 : Int32)).toInt = 1) (by omega) (by omega); exact ⟨by omega, by omega, by omega, by omega, by omega, by omega⟩
      exact ih _ (sI w 17 x5_2.toInt.toNat x5_1) hI475  o477.1 o477.2.1 o477.2.2.1 o477.2.2.2.1 o477.2.2.2.2.1 o477.2.2.2.2.2 (by have := ti_add2 (Eq.refl x5_2.toInt) (by decide : ((1 : Int32)).toInt = 1) (by omega) (by omega); omega) (fun w9 hI9 hF9 => hE w9 hI9 ((FR.I (FR.refl _ w) (k := 17) (j := x5_2.toInt.toNat) (v := x5_1) rfl).tr hF9 rfl) ) (fun w9 hI9 hF9 q0 => q0.elim)
set_option maxRecDepth 20000 in
set_option maxHeartbeats 2000000 in
theorem h_Ar_fill0_17 {w : MW} {a0 : Int32} {Q : MW → Prop} (hI : BND w) (hp0 : 0 ≤ a0.toInt) (hp1 : a0.toInt ≤ 0) (hQ : ∀ (w' : MW), BND w' → FR l_Ar_fill0_17 w w' → Q w') : p_Ar_fill0_17 w a0 Q := by
  refine Eq.mpr (p_Ar_fill0_17.eq_1 _ _ _) ?_
  have o478 : (0 ≤ a0.toInt) ∧ (a0.toInt ≤ 0) ∧ (44 ≤ (44 : Int32).toInt) ∧ ((44 : Int32).toInt ≤ 44) ∧ (0 ≤ (0 : Int32).toInt) ∧ ((0 : Int32).toInt ≤ 44) := by have := (by decide : ((44 : Int32)).toInt = 44); have := (by decide : ((0 : Int32)).toInt = 0); exact ⟨by omega, by omega, by omega, by omega, by omega, by omega⟩
  refine hq_Ar_fill0_17_5 FU _ w hI  o478.1 o478.2.1 o478.2.2.1 o478.2.2.2.1 o478.2.2.2.2.1 o478.2.2.2.2.2 (fu_lt (by have := (by decide : ((44 : Int32)).toInt = 44); have := (by decide : ((0 : Int32)).toInt = 0); omega)) (fun w479 hI480 hL481  => ?_) (fun w9 hI9 hF9 q0 => q0.elim)
  have hF482 : FR l_Ar_fill0_17 w w479 := (FR.refl _ w).tr hL481 rfl
  exact hQ _ hI480 hF482 
def l_Ar_fill0_18_5 : Pl := [(18, none)]
def l_Ar_fill0_18 : Pl := [(18, none)]
set_option maxRecDepth 20000 in
set_option maxHeartbeats 2000000 in
theorem hq_Ar_fill0_18_5 {x5_1 : Int32} {x5_3 : Int32} {E : MW → Prop} {Q : MW → Prop} (n : Nat) : ∀ (x5_2 : Int32) (w : MW), BND w → 0 ≤ x5_1.toInt → x5_1.toInt ≤ 0 → 44 ≤ x5_3.toInt → x5_3.toInt ≤ 44 → 0 ≤ x5_2.toInt → x5_2.toInt ≤ 44 → (44 - x5_2.toInt).toNat < n → (∀ (w' : MW), BND w' → FR l_Ar_fill0_18_5 w w' → E w') → (∀ (w' : MW), BND w' → FR l_Ar_fill0_18_5 w w' → False → Q w') → q_Ar_fill0_18_5 x5_1 x5_3 E Q n x5_2 w := by
  induction n with
  | zero => intros; omega
  | succ n ih =>
    intro x5_2 w hI  hp0 hp1 hp2 hp3 hp4 hp5 hm hE hQ
    rw [q_Ar_fill0_18_5.eq_2]
    refine ⟨fun h483 => ?_, fun h483 => ?_⟩
    · exact hE _ hI (FR.refl _ w)
    · have o484 : 0 ≤ x5_2.toInt ∧ x5_2.toInt < 44 := by omega
      refine ⟨o484, ?_⟩
      have hI485 : BND (sI w 18 x5_2.toInt.toNat x5_1) := wbd_18 hI x5_2.toInt.toNat
      have o486 : (0 ≤ x5_1.toInt) ∧ (x5_1.toInt ≤ 0) ∧ (44 ≤ x5_3.toInt) ∧ (x5_3.toInt ≤ 44) ∧ (0 ≤ (x5_2 + (1 : Int32)).toInt) ∧ ((x5_2 + (1 : Int32)).toInt ≤ 44) := by have := ti_add2 (Eq.refl x5_2.toInt) (by decide : ((1 : Int32)).toInt = 1) (by omega) (by omega); exact ⟨by omega, by omega, by omega, by omega, by omega, by omega⟩
      exact ih _ (sI w 18 x5_2.toInt.toNat x5_1) hI485  o486.1 o486.2.1 o486.2.2.1 o486.2.2.2.1 o486.2.2.2.2.1 o486.2.2.2.2.2 (by have := ti_add2 (Eq.refl x5_2.toInt) (by decide : ((1 : Int32)).toInt = 1) (by omega) (by omega); omega) (fun w9 hI9 hF9 => hE w9 hI9 ((FR.I (FR.refl _ w) (k := 18) (j := x5_2.toInt.toNat) (v := x5_1) rfl).tr hF9 rfl) ) (fun w9 hI9 hF9 q0 => q0.elim)
set_option maxRecDepth 20000 in
set_option maxHeartbeats 2000000 in
theorem h_Ar_fill0_18 {w : MW} {a0 : Int32} {Q : MW → Prop} (hI : BND w) (hp0 : 0 ≤ a0.toInt) (hp1 : a0.toInt ≤ 0) (hQ : ∀ (w' : MW), BND w' → FR l_Ar_fill0_18 w w' → Q w') : p_Ar_fill0_18 w a0 Q := by
  refine Eq.mpr (p_Ar_fill0_18.eq_1 _ _ _) ?_
  have o487 : (0 ≤ a0.toInt) ∧ (a0.toInt ≤ 0) ∧ (44 ≤ (44 : Int32).toInt) ∧ ((44 : Int32).toInt ≤ 44) ∧ (0 ≤ (0 : Int32).toInt) ∧ ((0 : Int32).toInt ≤ 44) := by have := (by decide : ((44 : Int32)).toInt = 44); have := (by decide : ((0 : Int32)).toInt = 0); exact ⟨by omega, by omega, by omega, by omega, by omega, by omega⟩
  refine hq_Ar_fill0_18_5 FU _ w hI  o487.1 o487.2.1 o487.2.2.1 o487.2.2.2.1 o487.2.2.2.2.1 o487.2.2.2.2.2 (fu_lt (by have := (by decide : ((44 : Int32)).toInt = 44); have := (by decide : ((0 : Int32)).toInt = 0); omega)) (fun w488 hI489 hL490  => ?_) (fun w9 hI9 hF9 q0 => q0.elim)
  have hF491 : FR l_Ar_fill0_18 w w488 := (FR.refl _ w).tr hL490 rfl
  exact hQ _ hI489 hF491 
def l_Ar_fill0_19_5 : Pl := [(19, none)]
def l_Ar_fill0_19 : Pl := [(19, none)]
set_option maxRecDepth 20000 in
set_option maxHeartbeats 2000000 in
theorem hq_Ar_fill0_19_5 {x5_1 : Int32} {x5_3 : Int32} {E : MW → Prop} {Q : MW → Prop} (n : Nat) : ∀ (x5_2 : Int32) (w : MW), BND w → 0 ≤ x5_1.toInt → x5_1.toInt ≤ 0 → 44 ≤ x5_3.toInt → x5_3.toInt ≤ 44 → 0 ≤ x5_2.toInt → x5_2.toInt ≤ 44 → (44 - x5_2.toInt).toNat < n → (∀ (w' : MW), BND w' → FR l_Ar_fill0_19_5 w w' → E w') → (∀ (w' : MW), BND w' → FR l_Ar_fill0_19_5 w w' → False → Q w') → q_Ar_fill0_19_5 x5_1 x5_3 E Q n x5_2 w := by
  induction n with
  | zero => intros; omega
  | succ n ih =>
    intro x5_2 w hI  hp0 hp1 hp2 hp3 hp4 hp5 hm hE hQ
    rw [q_Ar_fill0_19_5.eq_2]
    refine ⟨fun h492 => ?_, fun h492 => ?_⟩
    · exact hE _ hI (FR.refl _ w)
    · have o493 : 0 ≤ x5_2.toInt ∧ x5_2.toInt < 44 := by omega
      refine ⟨o493, ?_⟩
      have o495 : 0 ≤ x5_1.toInt ∧ x5_1.toInt ≤ 14 := by omega
      have hI494 : BND (sI w 19 x5_2.toInt.toNat x5_1) := wbd_19 hI x5_2.toInt.toNat o495.1 o495.2
      have o496 : (0 ≤ x5_1.toInt) ∧ (x5_1.toInt ≤ 0) ∧ (44 ≤ x5_3.toInt) ∧ (x5_3.toInt ≤ 44) ∧ (0 ≤ (x5_2 + (1 : Int32)).toInt) ∧ ((x5_2 + (1 : Int32)).toInt ≤ 44) := by have := ti_add2 (Eq.refl x5_2.toInt) (by decide : ((1 : Int32)).toInt = 1) (by omega) (by omega); exact ⟨by omega, by omega, by omega, by omega, by omega, by omega⟩
      exact ih _ (sI w 19 x5_2.toInt.toNat x5_1) hI494  o496.1 o496.2.1 o496.2.2.1 o496.2.2.2.1 o496.2.2.2.2.1 o496.2.2.2.2.2 (by have := ti_add2 (Eq.refl x5_2.toInt) (by decide : ((1 : Int32)).toInt = 1) (by omega) (by omega); omega) (fun w9 hI9 hF9 => hE w9 hI9 ((FR.I (FR.refl _ w) (k := 19) (j := x5_2.toInt.toNat) (v := x5_1) rfl).tr hF9 rfl) ) (fun w9 hI9 hF9 q0 => q0.elim)
set_option maxRecDepth 20000 in
set_option maxHeartbeats 2000000 in
theorem h_Ar_fill0_19 {w : MW} {a0 : Int32} {Q : MW → Prop} (hI : BND w) (hp0 : 0 ≤ a0.toInt) (hp1 : a0.toInt ≤ 0) (hQ : ∀ (w' : MW), BND w' → FR l_Ar_fill0_19 w w' → Q w') : p_Ar_fill0_19 w a0 Q := by
  refine Eq.mpr (p_Ar_fill0_19.eq_1 _ _ _) ?_
  have o497 : (0 ≤ a0.toInt) ∧ (a0.toInt ≤ 0) ∧ (44 ≤ (44 : Int32).toInt) ∧ ((44 : Int32).toInt ≤ 44) ∧ (0 ≤ (0 : Int32).toInt) ∧ ((0 : Int32).toInt ≤ 44) := by have := (by decide : ((44 : Int32)).toInt = 44); have := (by decide : ((0 : Int32)).toInt = 0); exact ⟨by omega, by omega, by omega, by omega, by omega, by omega⟩
  refine hq_Ar_fill0_19_5 FU _ w hI  o497.1 o497.2.1 o497.2.2.1 o497.2.2.2.1 o497.2.2.2.2.1 o497.2.2.2.2.2 (fu_lt (by have := (by decide : ((44 : Int32)).toInt = 44); have := (by decide : ((0 : Int32)).toInt = 0); omega)) (fun w498 hI499 hL500  => ?_) (fun w9 hI9 hF9 q0 => q0.elim)
  have hF501 : FR l_Ar_fill0_19 w w498 := (FR.refl _ w).tr hL500 rfl
  exact hQ _ hI499 hF501 
def l_Ar_fill0_21_5 : Pl := [(21, none)]
def l_Ar_fill0_21 : Pl := [(21, none)]
set_option maxRecDepth 20000 in
set_option maxHeartbeats 2000000 in
theorem hq_Ar_fill0_21_5 {x5_1 : Int32} {x5_3 : Int32} {E : MW → Prop} {Q : MW → Prop} (n : Nat) : ∀ (x5_2 : Int32) (w : MW), BND w → 0 ≤ x5_1.toInt → x5_1.toInt ≤ 0 → 24 ≤ x5_3.toInt → x5_3.toInt ≤ 24 → 0 ≤ x5_2.toInt → x5_2.toInt ≤ 24 → (24 - x5_2.toInt).toNat < n → (∀ (w' : MW), BND w' → FR l_Ar_fill0_21_5 w w' → E w') → (∀ (w' : MW), BND w' → FR l_Ar_fill0_21_5 w w' → False → Q w') → q_Ar_fill0_21_5 x5_1 x5_3 E Q n x5_2 w := by
  induction n with
  | zero => intros; omega
  | succ n ih =>
    intro x5_2 w hI  hp0 hp1 hp2 hp3 hp4 hp5 hm hE hQ
    rw [q_Ar_fill0_21_5.eq_2]
    refine ⟨fun h502 => ?_, fun h502 => ?_⟩
    · exact hE _ hI (FR.refl _ w)
    · have o503 : 0 ≤ x5_2.toInt ∧ x5_2.toInt < 24 := by omega
      refine ⟨o503, ?_⟩
      have o505 : 0 ≤ x5_1.toInt ∧ x5_1.toInt ≤ 199 := by omega
      have hI504 : BND (sI w 21 x5_2.toInt.toNat x5_1) := wbd_21 hI x5_2.toInt.toNat o505.1 o505.2
      have o506 : (0 ≤ x5_1.toInt) ∧ (x5_1.toInt ≤ 0) ∧ (24 ≤ x5_3.toInt) ∧ (x5_3.toInt ≤ 24) ∧ (0 ≤ (x5_2 + (1 : Int32)).toInt) ∧ ((x5_2 + (1 : Int32)).toInt ≤ 24) := by have := ti_add2 (Eq.refl x5_2.toInt) (by decide : ((1 : Int32)).toInt = 1) (by omega) (by omega); exact ⟨by omega, by omega, by omega, by omega, by omega, by omega⟩
      exact ih _ (sI w 21 x5_2.toInt.toNat x5_1) hI504  o506.1 o506.2.1 o506.2.2.1 o506.2.2.2.1 o506.2.2.2.2.1 o506.2.2.2.2.2 (by have := ti_add2 (Eq.refl x5_2.toInt) (by decide : ((1 : Int32)).toInt = 1) (by omega) (by omega); omega) (fun w9 hI9 hF9 => hE w9 hI9 ((FR.I (FR.refl _ w) (k := 21) (j := x5_2.toInt.toNat) (v := x5_1) rfl).tr hF9 rfl) ) (fun w9 hI9 hF9 q0 => q0.elim)
set_option maxRecDepth 20000 in
set_option maxHeartbeats 2000000 in
theorem h_Ar_fill0_21 {w : MW} {a0 : Int32} {Q : MW → Prop} (hI : BND w) (hp0 : 0 ≤ a0.toInt) (hp1 : a0.toInt ≤ 0) (hQ : ∀ (w' : MW), BND w' → FR l_Ar_fill0_21 w w' → Q w') : p_Ar_fill0_21 w a0 Q := by
  refine Eq.mpr (p_Ar_fill0_21.eq_1 _ _ _) ?_
  have o507 : (0 ≤ a0.toInt) ∧ (a0.toInt ≤ 0) ∧ (24 ≤ (24 : Int32).toInt) ∧ ((24 : Int32).toInt ≤ 24) ∧ (0 ≤ (0 : Int32).toInt) ∧ ((0 : Int32).toInt ≤ 24) := by have := (by decide : ((24 : Int32)).toInt = 24); have := (by decide : ((0 : Int32)).toInt = 0); exact ⟨by omega, by omega, by omega, by omega, by omega, by omega⟩
  refine hq_Ar_fill0_21_5 FU _ w hI  o507.1 o507.2.1 o507.2.2.1 o507.2.2.2.1 o507.2.2.2.2.1 o507.2.2.2.2.2 (fu_lt (by have := (by decide : ((24 : Int32)).toInt = 24); have := (by decide : ((0 : Int32)).toInt = 0); omega)) (fun w508 hI509 hL510  => ?_) (fun w9 hI9 hF9 q0 => q0.elim)
  have hF511 : FR l_Ar_fill0_21 w w508 := (FR.refl _ w).tr hL510 rfl
  exact hQ _ hI509 hF511 
def l_Ar_fill0_23_5 : Pl := [(23, none)]
def l_Ar_fill0_23 : Pl := [(23, none)]
set_option maxRecDepth 20000 in
set_option maxHeartbeats 2000000 in
theorem hq_Ar_fill0_23_5 {x5_1 : Int32} {x5_3 : Int32} {E : MW → Prop} {Q : MW → Prop} (n : Nat) : ∀ (x5_2 : Int32) (w : MW), BND w → (-1) ≤ x5_1.toInt → x5_1.toInt ≤ (-1) → 264 ≤ x5_3.toInt → x5_3.toInt ≤ 264 → 0 ≤ x5_2.toInt → x5_2.toInt ≤ 264 → (264 - x5_2.toInt).toNat < n → (∀ (w' : MW), BND w' → FR l_Ar_fill0_23_5 w w' → E w') → (∀ (w' : MW), BND w' → FR l_Ar_fill0_23_5 w w' → False → Q w') → q_Ar_fill0_23_5 x5_1 x5_3 E Q n x5_2 w := by
  induction n with
  | zero => intros; omega
  | succ n ih =>
    intro x5_2 w hI  hp0 hp1 hp2 hp3 hp4 hp5 hm hE hQ
    rw [q_Ar_fill0_23_5.eq_2]
    refine ⟨fun h512 => ?_, fun h512 => ?_⟩
    · exact hE _ hI (FR.refl _ w)
    · have o513 : 0 ≤ x5_2.toInt ∧ x5_2.toInt < 264 := by omega
      refine ⟨o513, ?_⟩
      have hI514 : BND (sI w 23 x5_2.toInt.toNat x5_1) := wbd_23 hI x5_2.toInt.toNat
      have o515 : ((-1) ≤ x5_1.toInt) ∧ (x5_1.toInt ≤ (-1)) ∧ (264 ≤ x5_3.toInt) ∧ (x5_3.toInt ≤ 264) ∧ (0 ≤ (x5_2 + (1 : Int32)).toInt) ∧ ((x5_2 + (1 : Int32)).toInt ≤ 264) := by have := ti_add2 (Eq.refl x5_2.toInt) (by decide : ((1 : Int32)).toInt = 1) (by omega) (by omega); exact ⟨by omega, by omega, by omega, by omega, by omega, by omega⟩
      exact ih _ (sI w 23 x5_2.toInt.toNat x5_1) hI514  o515.1 o515.2.1 o515.2.2.1 o515.2.2.2.1 o515.2.2.2.2.1 o515.2.2.2.2.2 (by have := ti_add2 (Eq.refl x5_2.toInt) (by decide : ((1 : Int32)).toInt = 1) (by omega) (by omega); omega) (fun w9 hI9 hF9 => hE w9 hI9 ((FR.I (FR.refl _ w) (k := 23) (j := x5_2.toInt.toNat) (v := x5_1) rfl).tr hF9 rfl) ) (fun w9 hI9 hF9 q0 => q0.elim)
set_option maxRecDepth 20000 in
set_option maxHeartbeats 2000000 in
theorem h_Ar_fill0_23 {w : MW} {a0 : Int32} {Q : MW → Prop} (hI : BND w) (hp0 : (-1) ≤ a0.toInt) (hp1 : a0.toInt ≤ (-1)) (hQ : ∀ (w' : MW), BND w' → FR l_Ar_fill0_23 w w' → Q w') : p_Ar_fill0_23 w a0 Q := by
  refine Eq.mpr (p_Ar_fill0_23.eq_1 _ _ _) ?_
  have o516 : ((-1) ≤ a0.toInt) ∧ (a0.toInt ≤ (-1)) ∧ (264 ≤ (264 : Int32).toInt) ∧ ((264 : Int32).toInt ≤ 264) ∧ (0 ≤ (0 : Int32).toInt) ∧ ((0 : Int32).toInt ≤ 264) := by have := (by decide : ((264 : Int32)).toInt = 264); have := (by decide : ((0 : Int32)).toInt = 0); exact ⟨by omega, by omega, by omega, by omega, by omega, by omega⟩
  refine hq_Ar_fill0_23_5 FU _ w hI  o516.1 o516.2.1 o516.2.2.1 o516.2.2.2.1 o516.2.2.2.2.1 o516.2.2.2.2.2 (fu_lt (by have := (by decide : ((264 : Int32)).toInt = 264); have := (by decide : ((0 : Int32)).toInt = 0); omega)) (fun w517 hI518 hL519  => ?_) (fun w9 hI9 hF9 q0 => q0.elim)
  have hF520 : FR l_Ar_fill0_23 w w517 := (FR.refl _ w).tr hL519 rfl
  exact hQ _ hI518 hF520 
def l_Ar_fill1_20_6 : Pl := [(20, none)]
def l_Ar_fill1_20 : Pl := [(20, none)]
set_option maxRecDepth 20000 in
set_option maxHeartbeats 2000000 in
theorem hq_Ar_fill1_20_6 {x6_1 : Int64} {x6_4 : Int32} {E : MW → Prop} {Q : MW → Prop} (n : Nat) : ∀ (x6_3 : Int32) (w : MW), BND w → 0 ≤ x6_1.toInt → x6_1.toInt ≤ 0 → 96 ≤ x6_4.toInt → x6_4.toInt ≤ 96 → 0 ≤ x6_3.toInt → x6_3.toInt ≤ 96 → (96 - x6_3.toInt).toNat < n → (∀ (w' : MW), BND w' → FR l_Ar_fill1_20_6 w w' → E w') → (∀ (w' : MW), BND w' → FR l_Ar_fill1_20_6 w w' → False → Q w') → q_Ar_fill1_20_6 x6_1 x6_4 E Q n x6_3 w := by
  induction n with
  | zero => intros; omega
  | succ n ih =>
    intro x6_3 w hI  hp0 hp1 hp2 hp3 hp4 hp5 hm hE hQ
    rw [q_Ar_fill1_20_6.eq_2]
    refine ⟨fun h521 => ?_, fun h521 => ?_⟩
    · exact hE _ hI (FR.refl _ w)
    · have o522 : 0 ≤ x6_3.toInt ∧ x6_3.toInt < 96 := by omega
      refine ⟨o522, ?_⟩
      have o523 : (0 ≤ x6_1.toInt) ∧ (x6_1.toInt ≤ 0) ∧ (96 ≤ x6_4.toInt) ∧ (x6_4.toInt ≤ 96) ∧ (0 ≤ (x6_3 + (1 : Int32)).toInt) ∧ ((x6_3 + (1 : Int32)).toInt ≤ 96) := by have := ti_add2 (Eq.refl x6_3.toInt) (by decide : ((1 : Int32)).toInt = 1) (by omega) (by omega); exact ⟨by omega, by omega, by omega, by omega, by omega, by omega⟩
      exact ih _ (sJ w 20 x6_3.toInt.toNat x6_1) (bnd_J hI (k := 20) (j := x6_3.toInt.toNat) (v := x6_1))  o523.1 o523.2.1 o523.2.2.1 o523.2.2.2.1 o523.2.2.2.2.1 o523.2.2.2.2.2 (by have := ti_add2 (Eq.refl x6_3.toInt) (by decide : ((1 : Int32)).toInt = 1) (by omega) (by omega); omega) (fun w9 hI9 hF9 => hE w9 hI9 ((FR.J (FR.refl _ w) (k := 20) (j := x6_3.toInt.toNat) (v := x6_1) rfl).tr hF9 rfl) ) (fun w9 hI9 hF9 q0 => q0.elim)
set_option maxRecDepth 20000 in
set_option maxHeartbeats 2000000 in
theorem h_Ar_fill1_20 {w : MW} {a0 : Int64} {Q : MW → Prop} (hI : BND w) (hp0 : 0 ≤ a0.toInt) (hp1 : a0.toInt ≤ 0) (hQ : ∀ (w' : MW), BND w' → FR l_Ar_fill1_20 w w' → Q w') : p_Ar_fill1_20 w a0 Q := by
  refine Eq.mpr (p_Ar_fill1_20.eq_1 _ _ _) ?_
  have o524 : (0 ≤ a0.toInt) ∧ (a0.toInt ≤ 0) ∧ (96 ≤ (96 : Int32).toInt) ∧ ((96 : Int32).toInt ≤ 96) ∧ (0 ≤ (0 : Int32).toInt) ∧ ((0 : Int32).toInt ≤ 96) := by have := (by decide : ((96 : Int32)).toInt = 96); have := (by decide : ((0 : Int32)).toInt = 0); exact ⟨by omega, by omega, by omega, by omega, by omega, by omega⟩
  refine hq_Ar_fill1_20_6 FU _ w hI  o524.1 o524.2.1 o524.2.2.1 o524.2.2.2.1 o524.2.2.2.2.1 o524.2.2.2.2.2 (fu_lt (by have := (by decide : ((96 : Int32)).toInt = 96); have := (by decide : ((0 : Int32)).toInt = 0); omega)) (fun w525 hI526 hL527  => ?_) (fun w9 hI9 hF9 q0 => q0.elim)
  have hF528 : FR l_Ar_fill1_20 w w525 := (FR.refl _ w).tr hL527 rfl
  exact hQ _ hI526 hF528 
def l_Ar_fill0_37_5 : Pl := [(37, none)]
def l_Ar_fill0_37 : Pl := [(37, none)]
set_option maxRecDepth 20000 in
set_option maxHeartbeats 2000000 in
theorem hq_Ar_fill0_37_5 {x5_1 : Int32} {x5_3 : Int32} {E : MW → Prop} {Q : MW → Prop} (n : Nat) : ∀ (x5_2 : Int32) (w : MW), BND w → 0 ≤ x5_1.toInt → x5_1.toInt ≤ 0 → 20 ≤ x5_3.toInt → x5_3.toInt ≤ 20 → 0 ≤ x5_2.toInt → x5_2.toInt ≤ 20 → (20 - x5_2.toInt).toNat < n → (∀ (w' : MW), BND w' → FR l_Ar_fill0_37_5 w w' → E w') → (∀ (w' : MW), BND w' → FR l_Ar_fill0_37_5 w w' → False → Q w') → q_Ar_fill0_37_5 x5_1 x5_3 E Q n x5_2 w := by
  induction n with
  | zero => intros; omega
  | succ n ih =>
    intro x5_2 w hI  hp0 hp1 hp2 hp3 hp4 hp5 hm hE hQ
    rw [q_Ar_fill0_37_5.eq_2]
    refine ⟨fun h529 => ?_, fun h529 => ?_⟩
    · exact hE _ hI (FR.refl _ w)
    · have o530 : 0 ≤ x5_2.toInt ∧ x5_2.toInt < 20 := by omega
      refine ⟨o530, ?_⟩
      have hI531 : BND (sI w 37 x5_2.toInt.toNat x5_1) := wbd_37 hI x5_2.toInt.toNat
      have o532 : (0 ≤ x5_1.toInt) ∧ (x5_1.toInt ≤ 0) ∧ (20 ≤ x5_3.toInt) ∧ (x5_3.toInt ≤ 20) ∧ (0 ≤ (x5_2 + (1 : Int32)).toInt) ∧ ((x5_2 + (1 : Int32)).toInt ≤ 20) := by have := ti_add2 (Eq.refl x5_2.toInt) (by decide : ((1 : Int32)).toInt = 1) (by omega) (by omega); exact ⟨by omega, by omega, by omega, by omega, by omega, by omega⟩
      exact ih _ (sI w 37 x5_2.toInt.toNat x5_1) hI531  o532.1 o532.2.1 o532.2.2.1 o532.2.2.2.1 o532.2.2.2.2.1 o532.2.2.2.2.2 (by have := ti_add2 (Eq.refl x5_2.toInt) (by decide : ((1 : Int32)).toInt = 1) (by omega) (by omega); omega) (fun w9 hI9 hF9 => hE w9 hI9 ((FR.I (FR.refl _ w) (k := 37) (j := x5_2.toInt.toNat) (v := x5_1) rfl).tr hF9 rfl) ) (fun w9 hI9 hF9 q0 => q0.elim)
set_option maxRecDepth 20000 in
set_option maxHeartbeats 2000000 in
theorem h_Ar_fill0_37 {w : MW} {a0 : Int32} {Q : MW → Prop} (hI : BND w) (hp0 : 0 ≤ a0.toInt) (hp1 : a0.toInt ≤ 0) (hQ : ∀ (w' : MW), BND w' → FR l_Ar_fill0_37 w w' → Q w') : p_Ar_fill0_37 w a0 Q := by
  refine Eq.mpr (p_Ar_fill0_37.eq_1 _ _ _) ?_
  have o533 : (0 ≤ a0.toInt) ∧ (a0.toInt ≤ 0) ∧ (20 ≤ (20 : Int32).toInt) ∧ ((20 : Int32).toInt ≤ 20) ∧ (0 ≤ (0 : Int32).toInt) ∧ ((0 : Int32).toInt ≤ 20) := by have := (by decide : ((20 : Int32)).toInt = 20); have := (by decide : ((0 : Int32)).toInt = 0); exact ⟨by omega, by omega, by omega, by omega, by omega, by omega⟩
  refine hq_Ar_fill0_37_5 FU _ w hI  o533.1 o533.2.1 o533.2.2.1 o533.2.2.2.1 o533.2.2.2.2.1 o533.2.2.2.2.2 (fu_lt (by have := (by decide : ((20 : Int32)).toInt = 20); have := (by decide : ((0 : Int32)).toInt = 0); omega)) (fun w534 hI535 hL536  => ?_) (fun w9 hI9 hF9 q0 => q0.elim)
  have hF537 : FR l_Ar_fill0_37 w w534 := (FR.refl _ w).tr hL536 rfl
  exact hQ _ hI535 hF537 
def l_Wa_forget_7 : Pl := [(36, none)]
def l_Wa_forget : Pl := [(26, some 1), (36, none), (37, none)]
set_option maxRecDepth 20000 in
set_option maxHeartbeats 2000000 in
theorem hq_Wa_forget_7 {E : MW → Prop} {Q : MW → Prop} (n : Nat) : ∀ (x7_1 : Int32) (w : MW), BND w → 0 ≤ x7_1.toInt → x7_1.toInt ≤ 24 → (24 - x7_1.toInt).toNat < n → (∀ (w' : MW), BND w' → FR l_Wa_forget_7 w w' → E w') → (∀ (w' : MW), BND w' → FR l_Wa_forget_7 w w' → False → Q w') → q_Wa_forget_7 E Q n x7_1 w := by
  induction n with
  | zero => intros; omega
  | succ n ih =>
    intro x7_1 w hI  hp0 hp1 hm hE hQ
    rw [q_Wa_forget_7.eq_2]
    refine ⟨fun h538 => ?_, fun h538 => ?_⟩
    · exact hE _ hI (FR.refl _ w)
    · have o539 : 0 ≤ x7_1.toInt ∧ x7_1.toInt < 24 := by have := (by decide : ((24 : Int32)).toInt = 24); omega
      refine ⟨o539, ?_⟩
      have o541 : 0 ≤ (vp_nar .boolean (0 : Int32)).toInt ∧ (vp_nar .boolean (0 : Int32)).toInt ≤ 1 := by have := nb_bool0; omega
      have hI540 : BND (sI w 36 x7_1.toInt.toNat (vp_nar .boolean (0 : Int32))) := wbd_36 hI x7_1.toInt.toNat o541.1 o541.2
      have o542 : (0 ≤ (x7_1 + (1 : Int32)).toInt) ∧ ((x7_1 + (1 : Int32)).toInt ≤ 24) := by have := ti_add2 (Eq.refl x7_1.toInt) (by decide : ((1 : Int32)).toInt = 1) (by omega) (by omega); have := (by decide : ((24 : Int32)).toInt = 24); exact ⟨by omega, by omega⟩
      exact ih _ (sI w 36 x7_1.toInt.toNat (vp_nar .boolean (0 : Int32))) hI540  o542.1 o542.2 (by have := ti_add2 (Eq.refl x7_1.toInt) (by decide : ((1 : Int32)).toInt = 1) (by omega) (by omega); have := (by decide : ((24 : Int32)).toInt = 24); omega) (fun w9 hI9 hF9 => hE w9 hI9 ((FR.I (FR.refl _ w) (k := 36) (j := x7_1.toInt.toNat) (v := (vp_nar .boolean (0 : Int32))) rfl).tr hF9 rfl) ) (fun w9 hI9 hF9 q0 => q0.elim)
set_option maxRecDepth 20000 in
set_option maxHeartbeats 2000000 in
theorem h_Wa_forget {w : MW} {Q : MW → Prop} (hI : BND w)  (hQ : ∀ (w' : MW), BND w' → FR l_Wa_forget w w' → Q w') : p_Wa_forget w Q := by
  refine Eq.mpr (p_Wa_forget.eq_1 _ _) ?_
  have hI543 : BND (sI w 26 1 0) := wbd_26_1 hI (by decide) (by decide)
  have o544 : (0 ≤ (0 : Int32).toInt) ∧ ((0 : Int32).toInt ≤ 24) := by have := (by decide : ((0 : Int32)).toInt = 0); exact ⟨by omega, by omega⟩
  refine hq_Wa_forget_7 FU _ (sI w 26 1 0) hI543  o544.1 o544.2 (fu_lt (by have := (by decide : ((0 : Int32)).toInt = 0); omega)) (fun w545 hI546 hL547  => ?_) (fun w9 hI9 hF9 q0 => q0.elim)
  have hF548 : FR l_Wa_forget w w545 := (FR.I (FR.refl _ w) (k := 26) (j := 1) (v := 0) rfl).tr hL547 rfl
  have o549 : (0 ≤ (0 : Int32).toInt) ∧ ((0 : Int32).toInt ≤ 0) := by have := (by decide : ((0 : Int32)).toInt = 0); exact ⟨by omega, by omega⟩
  refine h_Ar_fill0_37 hI546  o549.1 o549.2 (fun w550 hI551 hL552  => ?_)
  have hF554 : FR l_Wa_forget w w550 := hF548.tr hL552 rfl
  exact hQ _ hI551 hF554 
def l_Pl_addThings91_43 : Pl := [(98, none)]
def l_Pl_addThings91 : Pl := [(91, some 0), (92, none), (93, none), (94, none), (98, none)]
set_option maxRecDepth 20000 in
set_option maxHeartbeats 2000000 in
theorem hq_Pl_addThings91_43 {E : MW → Prop} {Q : Int32 → MW → Prop} (n : Nat) : ∀ (x43_3 : Int32) (w : MW), BND w → 0 ≤ x43_3.toInt → x43_3.toInt ≤ 4 → (w.1 91 0).toInt < 20 → (4 - x43_3.toInt).toNat < n → (∀ (w' : MW), BND w' → FR l_Pl_addThings91_43 w w' → E w') → (∀ (r : Int32) (w' : MW), BND w' → FR l_Pl_addThings91_43 w w' → False → Q r w') → q_Pl_addThings91_43 E Q n x43_3 w := by
  induction n with
  | zero => intros; omega
  | succ n ih =>
    intro x43_3 w hI  hp0 hp1 hp2 hm hE hQ
    rw [q_Pl_addThings91_43.eq_2]
    refine ⟨fun h555 => ?_, fun h555 => ?_⟩
    · exact hE _ hI (FR.refl _ w)
    · have o556 : 0 ≤ (((w.1 91 0) * (4 : Int32)) + x43_3).toInt ∧ (((w.1 91 0) * (4 : Int32)) + x43_3).toInt < 80 := by have := bd_91_0 hI; have := ti_mul2 (Eq.refl (w.1 91 0).toInt) (by decide : ((4 : Int32)).toInt = 4) (by omega) (by omega); have := ti_add2 (Eq.refl ((w.1 91 0) * (4 : Int32)).toInt) (Eq.refl x43_3.toInt) (by omega) (by omega); have := (by decide : ((4 : Int32)).toInt = 4); omega
      refine ⟨o556, ?_⟩
      have hI557 : BND (sI w 98 ((((w.1 91 0) * (4 : Int32)) + x43_3).toInt.toNat) (-1)) := wbd_98 hI ((((w.1 91 0) * (4 : Int32)) + x43_3).toInt.toNat) (by decide) (by decide)
      have o558 : (0 ≤ (x43_3 + (1 : Int32)).toInt) ∧ ((x43_3 + (1 : Int32)).toInt ≤ 4) ∧ (((sI w 98 ((((w.1 91 0) * (4 : Int32)) + x43_3).toInt.toNat) (-1)).1 91 0).toInt < 20) := by have := ti_add2 (Eq.refl x43_3.toInt) (by decide : ((1 : Int32)).toInt = 1) (by omega) (by omega); have := bd_91_0 hI; have : ((sI w 98 ((((w.1 91 0) * (4 : Int32)) + x43_3).toInt.toNat) (-1)).1 91 0).toInt = (w.1 91 0).toInt := rfl; have := (by decide : ((4 : Int32)).toInt = 4); exact ⟨by omega, by omega, by omega⟩
      exact ih _ (sI w 98 ((((w.1 91 0) * (4 : Int32)) + x43_3).toInt.toNat) (-1)) hI557  o558.1 o558.2.1 o558.2.2 (by have := ti_add2 (Eq.refl x43_3.toInt) (by decide : ((1 : Int32)).toInt = 1) (by omega) (by omega); have := (by decide : ((4 : Int32)).toInt = 4); omega) (fun w9 hI9 hF9 => hE w9 hI9 ((FR.I (FR.refl _ w) (k := 98) (j := (((w.1 91 0) * (4 : Int32)) + x43_3).toInt.toNat) (v := (-1)) rfl).tr hF9 rfl) ) (fun r w9 hI9 hF9 q0 => q0.elim)
set_option maxRecDepth 20000 in
set_option maxHeartbeats 2000000 in
theorem h_Pl_addThings91 {w : MW} {a0 : Int32} {b0 : Int32} {Q : Int32 → MW → Prop} (hI : BND w) (hp0 : 0 ≤ a0.toInt) (hp1 : a0.toInt ≤ 9) (hp2 : 0 ≤ b0.toInt) (hp3 : b0.toInt ≤ 100000) (hQ : ∀ (r : Int32) (w' : MW), BND w' → FR l_Pl_addThings91 w w' → 0 ≤ r.toInt → r.toInt ≤ 1 → Q r w') : p_Pl_addThings91 w a0 b0 Q := by
  refine Eq.mpr (p_Pl_addThings91.eq_1 _ _ _ _) ?_
  refine ⟨fun h559 => ?_, fun h559 => ?_⟩
  · have o560 : 0 ≤ (w.1 91 0).toInt ∧ (w.1 91 0).toInt < 20 := by have := bd_91_0 hI; have := (by decide : ((20 : Int32)).toInt = 20); omega
    refine ⟨o560, ?_⟩
    have o561 : 0 ≤ (w.1 91 0).toInt ∧ (w.1 91 0).toInt < 20 := by have := bd_91_0 hI; have := (by decide : ((20 : Int32)).toInt = 20); omega
    refine ⟨o561, ?_⟩
    have o562 : 0 ≤ (w.1 91 0).toInt ∧ (w.1 91 0).toInt < 20 := by have := bd_91_0 hI; have := (by decide : ((20 : Int32)).toInt = 20); omega
    refine ⟨o562, ?_⟩
    have o564 : 0 ≤ a0.toInt ∧ a0.toInt ≤ 9 := by omega
    have hI563 : BND (sI w 92 ((w.1 91 0).toInt.toNat) a0) := wbd_92 hI ((w.1 91 0).toInt.toNat) o564.1 o564.2
    have o566 : 0 ≤ b0.toInt ∧ b0.toInt ≤ 100000 := by omega
    have hI565 : BND (sI (sI w 92 ((w.1 91 0).toInt.toNat) a0) 93 ((w.1 91 0).toInt.toNat) b0) := wbd_93 hI563 ((w.1 91 0).toInt.toNat) o566.1 o566.2
    have hI567 : BND (sI (sI (sI w 92 ((w.1 91 0).toInt.toNat) a0) 93 ((w.1 91 0).toInt.toNat) b0) 94 ((w.1 91 0).toInt.toNat) 0) := wbd_94 hI565 ((w.1 91 0).toInt.toNat) (by decide) (by decide)
    have o568 : (0 ≤ (0 : Int32).toInt) ∧ ((0 : Int32).toInt ≤ 4) ∧ (((sI (sI (sI w 92 ((w.1 91 0).toInt.toNat) a0) 93 ((w.1 91 0).toInt.toNat) b0) 94 ((w.1 91 0).toInt.toNat) 0).1 91 0).toInt < 20) := by have := (by decide : ((0 : Int32)).toInt = 0); have := bd_91_0 hI; have : ((sI (sI (sI w 92 ((w.1 91 0).toInt.toNat) a0) 93 ((w.1 91 0).toInt.toNat) b0) 94 ((w.1 91 0).toInt.toNat) 0).1 91 0).toInt = (w.1 91 0).toInt := rfl; have := (by decide : ((20 : Int32)).toInt = 20); exact ⟨by omega, by omega, by omega⟩
    refine hq_Pl_addThings91_43 FU _ (sI (sI (sI w 92 ((w.1 91 0).toInt.toNat) a0) 93 ((w.1 91 0).toInt.toNat) b0) 94 ((w.1 91 0).toInt.toNat) 0) hI567  o568.1 o568.2.1 o568.2.2 (fu_lt (by have := (by decide : ((0 : Int32)).toInt = 0); omega)) (fun w569 hI570 hL571  => ?_) (fun r w9 hI9 hF9 q0 => q0.elim)
    have hF572 : FR l_Pl_addThings91 w w569 := (FR.I (FR.I (FR.I (FR.refl _ w) (k := 92) (j := (w.1 91 0).toInt.toNat) (v := a0) rfl) (k := 93) (j := (w.1 91 0).toInt.toNat) (v := b0) rfl) (k := 94) (j := (w.1 91 0).toInt.toNat) (v := 0) rfl).tr hL571 rfl
    have o574 : 0 ≤ ((w569.1 91 0) + (1 : Int32)).toInt ∧ ((w569.1 91 0) + (1 : Int32)).toInt ≤ 20 := by have := bd_91_0 hI570; have := bd_91_0 hI; have : ((sI (sI (sI w 92 ((w.1 91 0).toInt.toNat) a0) 93 ((w.1 91 0).toInt.toNat) b0) 94 ((w.1 91 0).toInt.toNat) 0).1 91 0).toInt = (w.1 91 0).toInt := rfl; have := (congrArg Int32.toInt (hL571 91 0 rfl).1); have := ti_add2 (Eq.refl (w569.1 91 0).toInt) (by decide : ((1 : Int32)).toInt = 1) (by omega) (by omega); have := (by decide : ((20 : Int32)).toInt = 20); omega
    have hI573 : BND (sI w569 91 0 ((w569.1 91 0) + (1 : Int32))) := wbd_91_0 hI570 o574.1 o574.2
    have o575 : (0 ≤ (1 : Int32).toInt) ∧ ((1 : Int32).toInt ≤ 1) := by have := (by decide : ((1 : Int32)).toInt = 1); exact ⟨by omega, by omega⟩
    exact hQ _ _ hI573 (FR.I hF572 (k := 91) (j := 0) (v := ((w569.1 91 0) + (1 : Int32))) rfl)  o575.1 o575.2
  · have o576 : (0 ≤ (0 : Int32).toInt) ∧ ((0 : Int32).toInt ≤ 1) := by have := (by decide : ((0 : Int32)).toInt = 0); exact ⟨by omega, by omega⟩
    exact hQ _ _ hI (FR.refl _ w)  o576.1 o576.2
def l_Pl_joinss91 : Pl := [(94, none), (96, none), (97, none), (98, none)]
set_option maxRecDepth 20000 in
set_option maxHeartbeats 2000000 in
theorem h_Pl_joinss91 {w : MW} {a0 : Int32} {b0 : Int32} {Q : Int32 → MW → Prop} (hI : BND w) (hp0 : 0 ≤ a0.toInt) (hp1 : a0.toInt ≤ 47) (hp2 : (-1) ≤ b0.toInt) (hp3 : b0.toInt ≤ 9999999) (hQ : ∀ (r : Int32) (w' : MW), BND w' → FR l_Pl_joinss91 w w' → 0 ≤ r.toInt → r.toInt ≤ 1 → Q r w') : p_Pl_joinss91 w a0 b0 Q := by
  refine Eq.mpr (p_Pl_joinss91.eq_1 _ _ _ _) ?_
  have o577 : 0 ≤ a0.toInt ∧ a0.toInt < 48 := by omega
  refine ⟨o577, ?_⟩
  have o578 : 0 ≤ a0.toInt ∧ a0.toInt < 48 := by omega
  refine ⟨o578, ?_⟩
  refine ⟨fun h579 => ?_, fun h579 => ?_⟩
  · refine ⟨fun h580 => ?_, fun h580 => ?_⟩
    · have o582 : (-1) ≤ b0.toInt ∧ b0.toInt ≤ 9999999 := by have := (by decide : (((-1) : Int32)).toInt = (-1)); have := bd_91_0 hI; omega
      have hI581 : BND (sI w 96 a0.toInt.toNat b0) := wbd_96 hI a0.toInt.toNat o582.1 o582.2
      have hI583 : BND (sI (sI w 96 a0.toInt.toNat b0) 97 a0.toInt.toNat 0) := wbd_97 hI581 a0.toInt.toNat (by decide) (by decide)
      have o584 : (0 ≤ (0 : Int32).toInt) ∧ ((0 : Int32).toInt ≤ 1) := by have := (by decide : ((0 : Int32)).toInt = 0); exact ⟨by omega, by omega⟩
      exact hQ _ _ hI583 (FR.I (FR.I (FR.refl _ w) (k := 96) (j := a0.toInt.toNat) (v := b0) rfl) (k := 97) (j := a0.toInt.toNat) (v := 0) rfl)  o584.1 o584.2
    · have o585 : 0 ≤ b0.toInt ∧ b0.toInt < 20 := by have := (by decide : (((-1) : Int32)).toInt = (-1)); have := bd_91_0 hI; omega
      refine ⟨o585, ?_⟩
      have o586 : 0 ≤ b0.toInt ∧ b0.toInt < 20 := by have := (by decide : (((-1) : Int32)).toInt = (-1)); have := bd_91_0 hI; omega
      refine ⟨o586, ?_⟩
      have o587 : 0 ≤ (w.1 92 b0.toInt.toNat).toInt ∧ (w.1 92 b0.toInt.toNat).toInt < 10 := by have := bd_92 hI b0.toInt.toNat; omega
      refine ⟨o587, ?_⟩
      refine ⟨fun h588 => ?_, fun h588 => ?_⟩
      · have o589 : 0 ≤ b0.toInt ∧ b0.toInt < 20 := by have := (by decide : (((-1) : Int32)).toInt = (-1)); have := bd_91_0 hI; omega
        refine ⟨o589, ?_⟩
        refine ⟨fun h590 => ?_, fun h590 => ?_⟩
        · have o591 : 0 ≤ b0.toInt ∧ b0.toInt < 20 := by have := (by decide : (((-1) : Int32)).toInt = (-1)); have := bd_91_0 hI; omega
          refine ⟨o591, ?_⟩
          have o592 : 0 ≤ b0.toInt ∧ b0.toInt < 20 := by have := (by decide : (((-1) : Int32)).toInt = (-1)); have := bd_91_0 hI; omega
          refine ⟨o592, ?_⟩
          have o594 : (-1) ≤ b0.toInt ∧ b0.toInt ≤ 9999999 := by have := (by decide : (((-1) : Int32)).toInt = (-1)); have := bd_91_0 hI; omega
          have hI593 : BND (sI w 96 a0.toInt.toNat b0) := wbd_96 hI a0.toInt.toNat o594.1 o594.2
          have hI595 : BND (sI (sI w 96 a0.toInt.toNat b0) 97 a0.toInt.toNat 0) := wbd_97 hI593 a0.toInt.toNat (by decide) (by decide)
          have o597 : 0 ≤ ((w.1 94 b0.toInt.toNat) + (1 : Int32)).toInt ∧ ((w.1 94 b0.toInt.toNat) + (1 : Int32)).toInt ≤ 48 := by have := bd_94 hI b0.toInt.toNat; have := ti_add2 (Eq.refl (w.1 94 b0.toInt.toNat).toInt) (by decide : ((1 : Int32)).toInt = 1) (by omega) (by omega); have := bd_92 hI b0.toInt.toNat; have := st_1000 (w.1 92 b0.toInt.toNat) (by omega); have := (by decide : ((9 : Int32)).toInt = 9); omega
          have hI596 : BND (sI (sI (sI w 96 a0.toInt.toNat b0) 97 a0.toInt.toNat 0) 94 b0.toInt.toNat ((w.1 94 b0.toInt.toNat) + (1 : Int32))) := wbd_94 hI595 b0.toInt.toNat o597.1 o597.2
          have o598 : (0 ≤ (1 : Int32).toInt) ∧ ((1 : Int32).toInt ≤ 1) := by have := (by decide : ((1 : Int32)).toInt = 1); exact ⟨by omega, by omega⟩
          exact hQ _ _ hI596 (FR.I (FR.I (FR.I (FR.refl _ w) (k := 96) (j := a0.toInt.toNat) (v := b0) rfl) (k := 97) (j := a0.toInt.toNat) (v := 0) rfl) (k := 94) (j := b0.toInt.toNat) (v := ((w.1 94 b0.toInt.toNat) + (1 : Int32))) rfl)  o598.1 o598.2
        · have o599 : 0 ≤ b0.toInt ∧ b0.toInt < 20 := by have := (by decide : (((-1) : Int32)).toInt = (-1)); have := bd_91_0 hI; omega
          refine ⟨o599, ?_⟩
          have o600 : 0 ≤ a0.toInt ∧ a0.toInt < 48 := by omega
          refine ⟨o600, ?_⟩
          have o601 : 0 ≤ b0.toInt ∧ b0.toInt < 20 := by have := (by decide : (((-1) : Int32)).toInt = (-1)); have := bd_91_0 hI; omega
          refine ⟨o601, ?_⟩
          have o602 : 0 ≤ ((b0 * (4 : Int32)) + (w.1 94 b0.toInt.toNat)).toInt ∧ ((b0 * (4 : Int32)) + (w.1 94 b0.toInt.toNat)).toInt < 80 := by have := ti_mul2 (Eq.refl b0.toInt) (by decide : ((4 : Int32)).toInt = 4) (by omega) (by omega); have := bd_94 hI b0.toInt.toNat; have := ti_add2 (Eq.refl (b0 * (4 : Int32)).toInt) (Eq.refl (w.1 94 b0.toInt.toNat).toInt) (by omega) (by omega); have := (by decide : (((-1) : Int32)).toInt = (-1)); have := bd_91_0 hI; have := bd_92 hI b0.toInt.toNat; have := st_1000 (w.1 92 b0.toInt.toNat) (by omega); have := (by decide : ((9 : Int32)).toInt = 9); omega
          refine ⟨o602, ?_⟩
          have o603 : 0 ≤ b0.toInt ∧ b0.toInt < 20 := by have := (by decide : (((-1) : Int32)).toInt = (-1)); have := bd_91_0 hI; omega
          refine ⟨o603, ?_⟩
          have o604 : 0 ≤ b0.toInt ∧ b0.toInt < 20 := by have := (by decide : (((-1) : Int32)).toInt = (-1)); have := bd_91_0 hI; omega
          refine ⟨o604, ?_⟩
          have o606 : (-1) ≤ b0.toInt ∧ b0.toInt ≤ 9999999 := by have := (by decide : (((-1) : Int32)).toInt = (-1)); have := bd_91_0 hI; omega
          have hI605 : BND (sI w 96 a0.toInt.toNat b0) := wbd_96 hI a0.toInt.toNat o606.1 o606.2
          have hI607 : BND (sI (sI w 96 a0.toInt.toNat b0) 97 a0.toInt.toNat 0) := wbd_97 hI605 a0.toInt.toNat (by decide) (by decide)
          have o609 : 0 ≤ (w.1 94 b0.toInt.toNat).toInt ∧ (w.1 94 b0.toInt.toNat).toInt ≤ 3 := by have := bd_94 hI b0.toInt.toNat; have := bd_92 hI b0.toInt.toNat; have := st_1000 (w.1 92 b0.toInt.toNat) (by omega); have := (by decide : ((9 : Int32)).toInt = 9); omega
          have hI608 : BND (sI (sI (sI w 96 a0.toInt.toNat b0) 97 a0.toInt.toNat 0) 97 a0.toInt.toNat (w.1 94 b0.toInt.toNat)) := wbd_97 hI607 a0.toInt.toNat o609.1 o609.2
          have o611 : (-1) ≤ a0.toInt ∧ a0.toInt ≤ 47 := by omega
          have hI610 : BND (sI (sI (sI (sI w 96 a0.toInt.toNat b0) 97 a0.toInt.toNat 0) 97 a0.toInt.toNat (w.1 94 b0.toInt.toNat)) 98 (((b0 * (4 : Int32)) + (w.1 94 b0.toInt.toNat)).toInt.toNat) a0) := wbd_98 hI608 (((b0 * (4 : Int32)) + (w.1 94 b0.toInt.toNat)).toInt.toNat) o611.1 o611.2
          have o613 : 0 ≤ ((w.1 94 b0.toInt.toNat) + (1 : Int32)).toInt ∧ ((w.1 94 b0.toInt.toNat) + (1 : Int32)).toInt ≤ 48 := by have := bd_94 hI b0.toInt.toNat; have := ti_add2 (Eq.refl (w.1 94 b0.toInt.toNat).toInt) (by decide : ((1 : Int32)).toInt = 1) (by omega) (by omega); have := bd_92 hI b0.toInt.toNat; have := st_1000 (w.1 92 b0.toInt.toNat) (by omega); have := (by decide : ((9 : Int32)).toInt = 9); omega
          have hI612 : BND (sI (sI (sI (sI (sI w 96 a0.toInt.toNat b0) 97 a0.toInt.toNat 0) 97 a0.toInt.toNat (w.1 94 b0.toInt.toNat)) 98 (((b0 * (4 : Int32)) + (w.1 94 b0.toInt.toNat)).toInt.toNat) a0) 94 b0.toInt.toNat ((w.1 94 b0.toInt.toNat) + (1 : Int32))) := wbd_94 hI610 b0.toInt.toNat o613.1 o613.2
          have o614 : (0 ≤ (1 : Int32).toInt) ∧ ((1 : Int32).toInt ≤ 1) := by have := (by decide : ((1 : Int32)).toInt = 1); exact ⟨by omega, by omega⟩
          exact hQ _ _ hI612 (FR.I (FR.I (FR.I (FR.I (FR.I (FR.refl _ w) (k := 96) (j := a0.toInt.toNat) (v := b0) rfl) (k := 97) (j := a0.toInt.toNat) (v := 0) rfl) (k := 97) (j := a0.toInt.toNat) (v := (w.1 94 b0.toInt.toNat)) rfl) (k := 98) (j := ((b0 * (4 : Int32)) + (w.1 94 b0.toInt.toNat)).toInt.toNat) (v := a0) rfl) (k := 94) (j := b0.toInt.toNat) (v := ((w.1 94 b0.toInt.toNat) + (1 : Int32))) rfl)  o614.1 o614.2
      · have o616 : (-1) ≤ b0.toInt ∧ b0.toInt ≤ 9999999 := by have := (by decide : (((-1) : Int32)).toInt = (-1)); have := bd_91_0 hI; omega
        have hI615 : BND (sI w 96 a0.toInt.toNat b0) := wbd_96 hI a0.toInt.toNat o616.1 o616.2
        have hI617 : BND (sI (sI w 96 a0.toInt.toNat b0) 97 a0.toInt.toNat 0) := wbd_97 hI615 a0.toInt.toNat (by decide) (by decide)
        have o618 : (0 ≤ (0 : Int32).toInt) ∧ ((0 : Int32).toInt ≤ 1) := by have := (by decide : ((0 : Int32)).toInt = 0); exact ⟨by omega, by omega⟩
        exact hQ _ _ hI617 (FR.I (FR.I (FR.refl _ w) (k := 96) (j := a0.toInt.toNat) (v := b0) rfl) (k := 97) (j := a0.toInt.toNat) (v := 0) rfl)  o618.1 o618.2
  · have o620 : (-1) ≤ b0.toInt ∧ b0.toInt ≤ 9999999 := by have := (by decide : (((-1) : Int32)).toInt = (-1)); omega
    have hI619 : BND (sI w 96 a0.toInt.toNat b0) := wbd_96 hI a0.toInt.toNat o620.1 o620.2
    have hI621 : BND (sI (sI w 96 a0.toInt.toNat b0) 97 a0.toInt.toNat 0) := wbd_97 hI619 a0.toInt.toNat (by decide) (by decide)
    have o622 : (0 ≤ (1 : Int32).toInt) ∧ ((1 : Int32).toInt ≤ 1) := by have := (by decide : ((1 : Int32)).toInt = 1); exact ⟨by omega, by omega⟩
    exact hQ _ _ hI621 (FR.I (FR.I (FR.refl _ w) (k := 96) (j := a0.toInt.toNat) (v := b0) rfl) (k := 97) (j := a0.toInt.toNat) (v := 0) rfl)  o622.1 o622.2
def l_Pl_addPipes91 : Pl := [(91, some 1), (94, none), (95, none), (96, none), (97, none), (98, none)]
set_option maxRecDepth 20000 in
set_option maxHeartbeats 2000000 in
theorem h_Pl_addPipes91 {w : MW} {a0 : Int32} {b0 : Int32} {c0 : Int32} {Q : Int32 → MW → Prop} (hI : BND w) (hp0 : (-1) ≤ a0.toInt) (hp1 : a0.toInt ≤ 9999999) (hp2 : (-1) ≤ b0.toInt) (hp3 : b0.toInt ≤ 9999999) (hp4 : (-1) ≤ c0.toInt) (hp5 : c0.toInt ≤ 9999999) (hQ : ∀ (r : Int32) (w' : MW), BND w' → FR l_Pl_addPipes91 w w' → 0 ≤ r.toInt → r.toInt ≤ 1 → Q r w') : p_Pl_addPipes91 w a0 b0 c0 Q := by
  refine Eq.mpr (p_Pl_addPipes91.eq_1 _ _ _ _ _) ?_
  refine ⟨fun h623 => ?_, fun h623 => ?_⟩
  · have o624 : (0 ≤ (0 : Int32).toInt) ∧ ((0 : Int32).toInt ≤ 1) := by have := (by decide : ((0 : Int32)).toInt = 0); exact ⟨by omega, by omega⟩
    exact hQ _ _ hI (FR.refl _ w)  o624.1 o624.2
  · refine ⟨fun h625 => ?_, fun h625 => ?_⟩
    · have o626 : (0 ≤ (0 : Int32).toInt) ∧ ((0 : Int32).toInt ≤ 1) := by have := (by decide : ((0 : Int32)).toInt = 0); exact ⟨by omega, by omega⟩
      exact hQ _ _ hI (FR.refl _ w)  o626.1 o626.2
    · refine ⟨fun h627 => ?_, fun h627 => ?_⟩
      · have o628 : 0 ≤ (w.1 91 1).toInt ∧ (w.1 91 1).toInt < 24 := by have := bd_91_1 hI; have := (by decide : ((24 : Int32)).toInt = 24); omega
        refine ⟨o628, ?_⟩
        have o630 : 0 ≤ c0.toInt ∧ c0.toInt ≤ 200 := by have := (by decide : ((1 : Int32)).toInt = 1); have := (by decide : ((200 : Int32)).toInt = 200); omega
        have hI629 : BND (sI w 95 ((w.1 91 1).toInt.toNat) c0) := wbd_95 hI ((w.1 91 1).toInt.toNat) o630.1 o630.2
        have o631 : (0 ≤ ((2 : Int32) * (w.1 91 1)).toInt) ∧ (((2 : Int32) * (w.1 91 1)).toInt ≤ 47) ∧ ((-1) ≤ a0.toInt) ∧ (a0.toInt ≤ 9999999) := by have := bd_91_1 hI; have := ti_mul2 (by decide : ((2 : Int32)).toInt = 2) (Eq.refl (w.1 91 1).toInt) (by omega) (by omega); have := (by decide : ((24 : Int32)).toInt = 24); exact ⟨by omega, by omega, by omega, by omega⟩
        refine h_Pl_joinss91 hI629  o631.1 o631.2.1 o631.2.2.1 o631.2.2.2 (fun r635 w632 hI633 hL634 p636 p637 => ?_)
        have hF638 : FR l_Pl_addPipes91 w w632 := (FR.I (FR.refl _ w) (k := 95) (j := (w.1 91 1).toInt.toNat) (v := c0) rfl).tr hL634 rfl
        refine ⟨fun h639 => ?_, fun h639 => ?_⟩
        · have o640 : (0 ≤ (0 : Int32).toInt) ∧ ((0 : Int32).toInt ≤ 1) := by have := (by decide : ((0 : Int32)).toInt = 0); exact ⟨by omega, by omega⟩
          exact hQ _ _ hI633 hF638  o640.1 o640.2
        · have o641 : (0 ≤ (((2 : Int32) * (w632.1 91 1)) + (1 : Int32)).toInt) ∧ ((((2 : Int32) * (w632.1 91 1)) + (1 : Int32)).toInt ≤ 47) ∧ ((-1) ≤ b0.toInt) ∧ (b0.toInt ≤ 9999999) := by have := bd_91_1 hI633; have := bd_91_1 hI; have : ((sI w 95 ((w.1 91 1).toInt.toNat) c0).1 91 1).toInt = (w.1 91 1).toInt := rfl; have := (congrArg Int32.toInt (hL634 91 1 rfl).1); have := ti_mul2 (by decide : ((2 : Int32)).toInt = 2) (Eq.refl (w632.1 91 1).toInt) (by omega) (by omega); have := ti_add2 (Eq.refl ((2 : Int32) * (w632.1 91 1)).toInt) (by decide : ((1 : Int32)).toInt = 1) (by omega) (by omega); have := (by decide : ((24 : Int32)).toInt = 24); exact ⟨by omega, by omega, by omega, by omega⟩
          refine h_Pl_joinss91 hI633  o641.1 o641.2.1 o641.2.2.1 o641.2.2.2 (fun r645 w642 hI643 hL644 p646 p647 => ?_)
          have hF648 : FR l_Pl_addPipes91 w w642 := hF638.tr hL644 rfl
          refine ⟨fun h649 => ?_, fun h649 => ?_⟩
          · have o651 : 0 ≤ ((w642.1 91 1) + (1 : Int32)).toInt ∧ ((w642.1 91 1) + (1 : Int32)).toInt ≤ 24 := by have := bd_91_1 hI643; have := bd_91_1 hI633; have := bd_91_1 hI; have : ((sI w 95 ((w.1 91 1).toInt.toNat) c0).1 91 1).toInt = (w.1 91 1).toInt := rfl; have := (congrArg Int32.toInt (hL634 91 1 rfl).1); have := (congrArg Int32.toInt (hL644 91 1 rfl).1); have := ti_add2 (Eq.refl (w642.1 91 1).toInt) (by decide : ((1 : Int32)).toInt = 1) (by omega) (by omega); have := (by decide : ((24 : Int32)).toInt = 24); omega
            have hI650 : BND (sI w642 91 1 ((w642.1 91 1) + (1 : Int32))) := wbd_91_1 hI643 o651.1 o651.2
            have o652 : (0 ≤ (1 : Int32).toInt) ∧ ((1 : Int32).toInt ≤ 1) := by have := (by decide : ((1 : Int32)).toInt = 1); exact ⟨by omega, by omega⟩
            exact hQ _ _ hI650 (FR.I hF648 (k := 91) (j := 1) (v := ((w642.1 91 1) + (1 : Int32))) rfl)  o652.1 o652.2
          · have o653 : (0 ≤ (0 : Int32).toInt) ∧ ((0 : Int32).toInt ≤ 1) := by have := (by decide : ((0 : Int32)).toInt = 0); exact ⟨by omega, by omega⟩
            exact hQ _ _ hI643 hF648  o653.1 o653.2
      · have o654 : (0 ≤ (0 : Int32).toInt) ∧ ((0 : Int32).toInt ≤ 1) := by have := (by decide : ((0 : Int32)).toInt = 0); exact ⟨by omega, by omega⟩
        exact hQ _ _ hI (FR.refl _ w)  o654.1 o654.2
def l_Pl_takesNumbers91_41 : Pl := [(91, some 10), (91, some 11)]
def l_Pl_takesNumbers91_7 : Pl := [(91, some 10), (91, some 11)]
def l_Pl_takesNumbers91 : Pl := [(91, some 10), (91, some 11)]
set_option maxRecDepth 20000 in
set_option maxHeartbeats 2000000 in
theorem hq_Pl_takesNumbers91_7 {E : Int32 → MW → Prop} {Q : Int32 → MW → Prop} (n : Nat) : ∀ (x7_1 : Int32) (w : MW), BND w → w.2.2 91 9 = some 1 → 0 ≤ x7_1.toInt → x7_1.toInt ≤ 7 → 0 ≤ (w.1 91 11).toInt → 1 ≤ x7_1.toInt ∨ (w.1 91 11).toInt ≤ 0 → 2 ≤ x7_1.toInt ∨ (w.1 91 11).toInt ≤ 9 → 3 ≤ x7_1.toInt ∨ (w.1 91 11).toInt ≤ 99 → 4 ≤ x7_1.toInt ∨ (w.1 91 11).toInt ≤ 999 → 5 ≤ x7_1.toInt ∨ (w.1 91 11).toInt ≤ 9999 → 6 ≤ x7_1.toInt ∨ (w.1 91 11).toInt ≤ 99999 → 7 ≤ x7_1.toInt ∨ (w.1 91 11).toInt ≤ 999999 → 8 ≤ x7_1.toInt ∨ (w.1 91 11).toInt ≤ 9999999 → (7 - x7_1.toInt).toNat < n → (∀ (e7_1 : Int32) (w' : MW), BND w' → FR l_Pl_takesNumbers91_7 w w' → 0 ≤ e7_1.toInt → e7_1.toInt ≤ 7 → 0 ≤ (w'.1 91 11).toInt → E e7_1 w') → (∀ (r : Int32) (w' : MW), BND w' → FR l_Pl_takesNumbers91_7 w w' → False → Q r w') → q_Pl_takesNumbers91_7 E Q n x7_1 w := by
  induction n with
  | zero => intros; omega
  | succ n ih =>
    intro x7_1 w hI hr_91_9 hp0 hp1 hp2 hp3 hp4 hp5 hp6 hp7 hp8 hp9 hp10 hm hE hQ
    rw [q_Pl_takesNumbers91_7.eq_2]
    refine ⟨fun h655 => ?_, fun h655 => ?_⟩
    · have o656 : (0 ≤ x7_1.toInt) ∧ (x7_1.toInt ≤ 7) ∧ (0 ≤ (w.1 91 11).toInt) := by have := bd_91_11 hI; have := (by decide : ((7 : Int32)).toInt = 7); exact ⟨by omega, by omega, by omega⟩
      exact hE _ _ hI (FR.refl _ w) o656.1 o656.2.1 o656.2.2
    · refine ⟨hr_91_9, ?_⟩
      refine Eq.mpr (p_Tp_at.eq_1 _ _ _) ?_
      refine ⟨fun h657 => ?_, fun h657 => ?_⟩
      · refine Eq.mpr (p_Tp_isDigit.eq_1 _ _ _) ?_
        refine ⟨fun _ => ?_, fun h => absurd (by decide) h⟩
        refine ⟨fun _ => ?_, fun h => absurd (by decide) h⟩
        have o658 : (0 ≤ x7_1.toInt) ∧ (x7_1.toInt ≤ 7) ∧ (0 ≤ (w.1 91 11).toInt) := by have := bd_91_11 hI; have := (by decide : ((7 : Int32)).toInt = 7); exact ⟨by omega, by omega, by omega⟩
        exact hE _ _ hI (FR.refl _ w) o658.1 o658.2.1 o658.2.2
      · refine ⟨fun h659 => ?_, fun h659 => ?_⟩
        · refine Eq.mpr (p_Tp_isDigit.eq_1 _ _ _) ?_
          refine ⟨fun _ => ?_, fun h => absurd (by decide) h⟩
          refine ⟨fun _ => ?_, fun h => absurd (by decide) h⟩
          have o660 : (0 ≤ x7_1.toInt) ∧ (x7_1.toInt ≤ 7) ∧ (0 ≤ (w.1 91 11).toInt) := by have := bd_91_11 hI; have := (by decide : ((7 : Int32)).toInt = 7); exact ⟨by omega, by omega, by omega⟩
          exact hE _ _ hI (FR.refl _ w) o660.1 o660.2.1 o660.2.2
        · refine ⟨fun h661 => ?_, fun h661 => ?_⟩
          · have o662 : 0 ≤ ((w.1 91 10) >>> ((2 : Int32) &&& 31)).toInt ∧ ((w.1 91 10) >>> ((2 : Int32) &&& 31)).toInt < 1005 := by have := nb_shr (w.1 91 10) ((2 : Int32) &&& 31) 2 4 rfl rfl; have := (by decide : ((0 : Int32)).toInt = 0); have := bd_1_2 hI; have := ti_mul2 (by decide : ((4 : Int32)).toInt = 4) (by decide : ((1005 : Int32)).toInt = 1005) (by omega) (by omega); omega
            refine ⟨o662, ?_⟩
            refine Eq.mpr (p_Tp_isDigit.eq_1 _ _ _) ?_
            refine ⟨fun h663 => ?_, fun h663 => ?_⟩
            · refine ⟨fun _ => ?_, fun h => absurd (by decide) h⟩
              have o664 : (0 ≤ x7_1.toInt) ∧ (x7_1.toInt ≤ 7) ∧ (0 ≤ (w.1 91 11).toInt) := by have := bd_91_11 hI; have := (by decide : ((7 : Int32)).toInt = 7); exact ⟨by omega, by omega, by omega⟩
              exact hE _ _ hI (FR.refl _ w) o664.1 o664.2.1 o664.2.2
            · refine ⟨fun h665 => ?_, fun h665 => ?_⟩
              · refine ⟨fun _ => ?_, fun h => absurd (by decide) h⟩
                have o666 : (0 ≤ x7_1.toInt) ∧ (x7_1.toInt ≤ 7) ∧ (0 ≤ (w.1 91 11).toInt) := by have := bd_91_11 hI; have := (by decide : ((7 : Int32)).toInt = 7); exact ⟨by omega, by omega, by omega⟩
                exact hE _ _ hI (FR.refl _ w) o666.1 o666.2.1 o666.2.2
              · refine ⟨fun h => absurd h (by decide), fun _ => ?_⟩
                refine ⟨fun h667 => ?_, fun h667 => ?_⟩
                · refine Eq.mpr (q_Pl_takesNumbers91_41.eq_1 _ _ _ _ _) ?_
                  refine ⟨hr_91_9, ?_⟩
                  refine Eq.mpr (p_Tp_at.eq_1 _ _ _) ?_
                  refine ⟨fun h => absurd h h657, fun _ => ?_⟩
                  refine ⟨fun h => absurd h h659, fun _ => ?_⟩
                  refine ⟨fun _ => ?_, fun h => absurd h661 h⟩
                  have o668 : 0 ≤ ((w.1 91 10) >>> ((2 : Int32) &&& 31)).toInt ∧ ((w.1 91 10) >>> ((2 : Int32) &&& 31)).toInt < 1005 := by have := nb_shr (w.1 91 10) ((2 : Int32) &&& 31) 2 4 rfl rfl; have := (by decide : ((0 : Int32)).toInt = 0); have := bd_1_2 hI; have := ti_mul2 (by decide : ((4 : Int32)).toInt = 4) (by decide : ((1005 : Int32)).toInt = 1005) (by omega) (by omega); have := ti_lo ((((w.1 2 (((w.1 91 10) >>> ((2 : Int32) &&& 31)).toInt.toNat)).toUInt32 >>> (((24 : Int32) - ((8 : Int32) * ((w.1 91 10) &&& (3 : Int32)))).toUInt32 &&& Int32.toUInt32 31)).toInt32) &&& (255 : Int32)); have := ti_hi ((((w.1 2 (((w.1 91 10) >>> ((2 : Int32) &&& 31)).toInt.toNat)).toUInt32 >>> (((24 : Int32) - ((8 : Int32) * ((w.1 91 10) &&& (3 : Int32)))).toUInt32 &&& Int32.toUInt32 31)).toInt32) &&& (255 : Int32)); have := ti_lo (((w.1 2 (((w.1 91 10) >>> ((2 : Int32) &&& 31)).toInt.toNat)).toUInt32 >>> (((24 : Int32) - ((8 : Int32) * ((w.1 91 10) &&& (3 : Int32)))).toUInt32 &&& Int32.toUInt32 31)).toInt32); have := ti_hi (((w.1 2 (((w.1 91 10) >>> ((2 : Int32) &&& 31)).toInt.toNat)).toUInt32 >>> (((24 : Int32) - ((8 : Int32) * ((w.1 91 10) &&& (3 : Int32)))).toUInt32 &&& Int32.toUInt32 31)).toInt32); have := ti_lo ((w.1 91 10) &&& (3 : Int32)); have := ti_hi ((w.1 91 10) &&& (3 : Int32)); have := nb_and (w.1 91 10) (3 : Int32) 3 rfl (by decide); have := ti_mul2 (by decide : ((8 : Int32)).toInt = 8) (Eq.refl ((w.1 91 10) &&& (3 : Int32)).toInt) (by omega) (by omega); have := ti_sub2 (by decide : ((24 : Int32)).toInt = 24) (Eq.refl ((8 : Int32) * ((w.1 91 10) &&& (3 : Int32))).toInt) (by omega) (by omega); have := nb_and (((w.1 2 (((w.1 91 10) >>> ((2 : Int32) &&& 31)).toInt.toNat)).toUInt32 >>> (((24 : Int32) - ((8 : Int32) * ((w.1 91 10) &&& (3 : Int32)))).toUInt32 &&& Int32.toUInt32 31)).toInt32) (255 : Int32) 255 rfl (by decide); have := (by decide : ((48 : Int32)).toInt = 48); have := (by decide : ((57 : Int32)).toInt = 57); omega
                  refine ⟨o668, ?_⟩
                  have o670 : (-1) ≤ ((((w.1 91 11) * (10 : Int32)) + ((((w.1 2 (((w.1 91 10) >>> ((2 : Int32) &&& 31)).toInt.toNat)).toUInt32 >>> (((24 : Int32) - ((8 : Int32) * ((w.1 91 10) &&& (3 : Int32)))).toUInt32 &&& Int32.toUInt32 31)).toInt32) &&& (255 : Int32))) - (48 : Int32)).toInt ∧ ((((w.1 91 11) * (10 : Int32)) + ((((w.1 2 (((w.1 91 10) >>> ((2 : Int32) &&& 31)).toInt.toNat)).toUInt32 >>> (((24 : Int32) - ((8 : Int32) * ((w.1 91 10) &&& (3 : Int32)))).toUInt32 &&& Int32.toUInt32 31)).toInt32) &&& (255 : Int32))) - (48 : Int32)).toInt ≤ 9999999 := by have := bd_91_11 hI; have := ti_mul2 (Eq.refl (w.1 91 11).toInt) (by decide : ((10 : Int32)).toInt = 10) (by omega) (by omega); have := ti_lo ((((w.1 2 (((w.1 91 10) >>> ((2 : Int32) &&& 31)).toInt.toNat)).toUInt32 >>> (((24 : Int32) - ((8 : Int32) * ((w.1 91 10) &&& (3 : Int32)))).toUInt32 &&& Int32.toUInt32 31)).toInt32) &&& (255 : Int32)); have := ti_hi ((((w.1 2 (((w.1 91 10) >>> ((2 : Int32) &&& 31)).toInt.toNat)).toUInt32 >>> (((24 : Int32) - ((8 : Int32) * ((w.1 91 10) &&& (3 : Int32)))).toUInt32 &&& Int32.toUInt32 31)).toInt32) &&& (255 : Int32)); have := ti_lo (((w.1 2 (((w.1 91 10) >>> ((2 : Int32) &&& 31)).toInt.toNat)).toUInt32 >>> (((24 : Int32) - ((8 : Int32) * ((w.1 91 10) &&& (3 : Int32)))).toUInt32 &&& Int32.toUInt32 31)).toInt32); have := ti_hi (((w.1 2 (((w.1 91 10) >>> ((2 : Int32) &&& 31)).toInt.toNat)).toUInt32 >>> (((24 : Int32) - ((8 : Int32) * ((w.1 91 10) &&& (3 : Int32)))).toUInt32 &&& Int32.toUInt32 31)).toInt32); have := ti_lo ((w.1 91 10) &&& (3 : Int32)); have := ti_hi ((w.1 91 10) &&& (3 : Int32)); have := nb_and (w.1 91 10) (3 : Int32) 3 rfl (by decide); have := ti_mul2 (by decide : ((8 : Int32)).toInt = 8) (Eq.refl ((w.1 91 10) &&& (3 : Int32)).toInt) (by omega) (by omega); have := ti_sub2 (by decide : ((24 : Int32)).toInt = 24) (Eq.refl ((8 : Int32) * ((w.1 91 10) &&& (3 : Int32))).toInt) (by omega) (by omega); have := nb_and (((w.1 2 (((w.1 91 10) >>> ((2 : Int32) &&& 31)).toInt.toNat)).toUInt32 >>> (((24 : Int32) - ((8 : Int32) * ((w.1 91 10) &&& (3 : Int32)))).toUInt32 &&& Int32.toUInt32 31)).toInt32) (255 : Int32) 255 rfl (by decide); have := ti_add2 (Eq.refl ((w.1 91 11) * (10 : Int32)).toInt) (Eq.refl ((((w.1 2 (((w.1 91 10) >>> ((2 : Int32) &&& 31)).toInt.toNat)).toUInt32 >>> (((24 : Int32) - ((8 : Int32) * ((w.1 91 10) &&& (3 : Int32)))).toUInt32 &&& Int32.toUInt32 31)).toInt32) &&& (255 : Int32)).toInt) (by omega) (by omega); have := ti_sub2 (Eq.refl (((w.1 91 11) * (10 : Int32)) + ((((w.1 2 (((w.1 91 10) >>> ((2 : Int32) &&& 31)).toInt.toNat)).toUInt32 >>> (((24 : Int32) - ((8 : Int32) * ((w.1 91 10) &&& (3 : Int32)))).toUInt32 &&& Int32.toUInt32 31)).toInt32) &&& (255 : Int32))).toInt) (by decide : ((48 : Int32)).toInt = 48) (by omega) (by omega); have := (by decide : ((7 : Int32)).toInt = 7); have := (by decide : ((0 : Int32)).toInt = 0); have := bd_1_2 hI; have := ti_mul2 (by decide : ((4 : Int32)).toInt = 4) (by decide : ((1005 : Int32)).toInt = 1005) (by omega) (by omega); have := (by decide : ((48 : Int32)).toInt = 48); have := (by decide : ((57 : Int32)).toInt = 57); omega
                  have hI669 : BND (sI w 91 11 ((((w.1 91 11) * (10 : Int32)) + ((((w.1 2 (((w.1 91 10) >>> ((2 : Int32) &&& 31)).toInt.toNat)).toUInt32 >>> (((24 : Int32) - ((8 : Int32) * ((w.1 91 10) &&& (3 : Int32)))).toUInt32 &&& Int32.toUInt32 31)).toInt32) &&& (255 : Int32))) - (48 : Int32))) := wbd_91_11 hI o670.1 o670.2
                  have hI671 : BND (sI (sI w 91 11 ((((w.1 91 11) * (10 : Int32)) + ((((w.1 2 (((w.1 91 10) >>> ((2 : Int32) &&& 31)).toInt.toNat)).toUInt32 >>> (((24 : Int32) - ((8 : Int32) * ((w.1 91 10) &&& (3 : Int32)))).toUInt32 &&& Int32.toUInt32 31)).toInt32) &&& (255 : Int32))) - (48 : Int32))) 91 10 ((w.1 91 10) + (1 : Int32))) := wbd_91_10 hI669
                  have o672 : (0 ≤ (x7_1 + (1 : Int32)).toInt) ∧ ((x7_1 + (1 : Int32)).toInt ≤ 7) ∧ (0 ≤ ((sI (sI w 91 11 ((((w.1 91 11) * (10 : Int32)) + ((((w.1 2 (((w.1 91 10) >>> ((2 : Int32) &&& 31)).toInt.toNat)).toUInt32 >>> (((24 : Int32) - ((8 : Int32) * ((w.1 91 10) &&& (3 : Int32)))).toUInt32 &&& Int32.toUInt32 31)).toInt32) &&& (255 : Int32))) - (48 : Int32))) 91 10 ((w.1 91 10) + (1 : Int32))).1 91 11).toInt) ∧ (1 ≤ (x7_1 + (1 : Int32)).toInt ∨ ((sI (sI w 91 11 ((((w.1 91 11) * (10 : Int32)) + ((((w.1 2 (((w.1 91 10) >>> ((2 : Int32) &&& 31)).toInt.toNat)).toUInt32 >>> (((24 : Int32) - ((8 : Int32) * ((w.1 91 10) &&& (3 : Int32)))).toUInt32 &&& Int32.toUInt32 31)).toInt32) &&& (255 : Int32))) - (48 : Int32))) 91 10 ((w.1 91 10) + (1 : Int32))).1 91 11).toInt ≤ 0) ∧ (2 ≤ (x7_1 + (1 : Int32)).toInt ∨ ((sI (sI w 91 11 ((((w.1 91 11) * (10 : Int32)) + ((((w.1 2 (((w.1 91 10) >>> ((2 : Int32) &&& 31)).toInt.toNat)).toUInt32 >>> (((24 : Int32) - ((8 : Int32) * ((w.1 91 10) &&& (3 : Int32)))).toUInt32 &&& Int32.toUInt32 31)).toInt32) &&& (255 : Int32))) - (48 : Int32))) 91 10 ((w.1 91 10) + (1 : Int32))).1 91 11).toInt ≤ 9) ∧ (3 ≤ (x7_1 + (1 : Int32)).toInt ∨ ((sI (sI w 91 11 ((((w.1 91 11) * (10 : Int32)) + ((((w.1 2 (((w.1 91 10) >>> ((2 : Int32) &&& 31)).toInt.toNat)).toUInt32 >>> (((24 : Int32) - ((8 : Int32) * ((w.1 91 10) &&& (3 : Int32)))).toUInt32 &&& Int32.toUInt32 31)).toInt32) &&& (255 : Int32))) - (48 : Int32))) 91 10 ((w.1 91 10) + (1 : Int32))).1 91 11).toInt ≤ 99) ∧ (4 ≤ (x7_1 + (1 : Int32)).toInt ∨ ((sI (sI w 91 11 ((((w.1 91 11) * (10 : Int32)) + ((((w.1 2 (((w.1 91 10) >>> ((2 : Int32) &&& 31)).toInt.toNat)).toUInt32 >>> (((24 : Int32) - ((8 : Int32) * ((w.1 91 10) &&& (3 : Int32)))).toUInt32 &&& Int32.toUInt32 31)).toInt32) &&& (255 : Int32))) - (48 : Int32))) 91 10 ((w.1 91 10) + (1 : Int32))).1 91 11).toInt ≤ 999) ∧ (5 ≤ (x7_1 + (1 : Int32)).toInt ∨ ((sI (sI w 91 11 ((((w.1 91 11) * (10 : Int32)) + ((((w.1 2 (((w.1 91 10) >>> ((2 : Int32) &&& 31)).toInt.toNat)).toUInt32 >>> (((24 : Int32) - ((8 : Int32) * ((w.1 91 10) &&& (3 : Int32)))).toUInt32 &&& Int32.toUInt32 31)).toInt32) &&& (255 : Int32))) - (48 : Int32))) 91 10 ((w.1 91 10) + (1 : Int32))).1 91 11).toInt ≤ 9999) ∧ (6 ≤ (x7_1 + (1 : Int32)).toInt ∨ ((sI (sI w 91 11 ((((w.1 91 11) * (10 : Int32)) + ((((w.1 2 (((w.1 91 10) >>> ((2 : Int32) &&& 31)).toInt.toNat)).toUInt32 >>> (((24 : Int32) - ((8 : Int32) * ((w.1 91 10) &&& (3 : Int32)))).toUInt32 &&& Int32.toUInt32 31)).toInt32) &&& (255 : Int32))) - (48 : Int32))) 91 10 ((w.1 91 10) + (1 : Int32))).1 91 11).toInt ≤ 99999) ∧ (7 ≤ (x7_1 + (1 : Int32)).toInt ∨ ((sI (sI w 91 11 ((((w.1 91 11) * (10 : Int32)) + ((((w.1 2 (((w.1 91 10) >>> ((2 : Int32) &&& 31)).toInt.toNat)).toUInt32 >>> (((24 : Int32) - ((8 : Int32) * ((w.1 91 10) &&& (3 : Int32)))).toUInt32 &&& Int32.toUInt32 31)).toInt32) &&& (255 : Int32))) - (48 : Int32))) 91 10 ((w.1 91 10) + (1 : Int32))).1 91 11).toInt ≤ 999999) ∧ (8 ≤ (x7_1 + (1 : Int32)).toInt ∨ ((sI (sI w 91 11 ((((w.1 91 11) * (10 : Int32)) + ((((w.1 2 (((w.1 91 10) >>> ((2 : Int32) &&& 31)).toInt.toNat)).toUInt32 >>> (((24 : Int32) - ((8 : Int32) * ((w.1 91 10) &&& (3 : Int32)))).toUInt32 &&& Int32.toUInt32 31)).toInt32) &&& (255 : Int32))) - (48 : Int32))) 91 10 ((w.1 91 10) + (1 : Int32))).1 91 11).toInt ≤ 9999999) := by have := ti_add2 (Eq.refl x7_1.toInt) (by decide : ((1 : Int32)).toInt = 1) (by omega) (by omega); have := bd_91_11 hI; have := ti_mul2 (Eq.refl (w.1 91 11).toInt) (by decide : ((10 : Int32)).toInt = 10) (by omega) (by omega); have := ti_lo ((((w.1 2 (((w.1 91 10) >>> ((2 : Int32) &&& 31)).toInt.toNat)).toUInt32 >>> (((24 : Int32) - ((8 : Int32) * ((w.1 91 10) &&& (3 : Int32)))).toUInt32 &&& Int32.toUInt32 31)).toInt32) &&& (255 : Int32)); have := ti_hi ((((w.1 2 (((w.1 91 10) >>> ((2 : Int32) &&& 31)).toInt.toNat)).toUInt32 >>> (((24 : Int32) - ((8 : Int32) * ((w.1 91 10) &&& (3 : Int32)))).toUInt32 &&& Int32.toUInt32 31)).toInt32) &&& (255 : Int32)); have := ti_lo (((w.1 2 (((w.1 91 10) >>> ((2 : Int32) &&& 31)).toInt.toNat)).toUInt32 >>> (((24 : Int32) - ((8 : Int32) * ((w.1 91 10) &&& (3 : Int32)))).toUInt32 &&& Int32.toUInt32 31)).toInt32); have := ti_hi (((w.1 2 (((w.1 91 10) >>> ((2 : Int32) &&& 31)).toInt.toNat)).toUInt32 >>> (((24 : Int32) - ((8 : Int32) * ((w.1 91 10) &&& (3 : Int32)))).toUInt32 &&& Int32.toUInt32 31)).toInt32); have := ti_lo ((w.1 91 10) &&& (3 : Int32)); have := ti_hi ((w.1 91 10) &&& (3 : Int32)); have := nb_and (w.1 91 10) (3 : Int32) 3 rfl (by decide); have := ti_mul2 (by decide : ((8 : Int32)).toInt = 8) (Eq.refl ((w.1 91 10) &&& (3 : Int32)).toInt) (by omega) (by omega); have := ti_sub2 (by decide : ((24 : Int32)).toInt = 24) (Eq.refl ((8 : Int32) * ((w.1 91 10) &&& (3 : Int32))).toInt) (by omega) (by omega); have := nb_and (((w.1 2 (((w.1 91 10) >>> ((2 : Int32) &&& 31)).toInt.toNat)).toUInt32 >>> (((24 : Int32) - ((8 : Int32) * ((w.1 91 10) &&& (3 : Int32)))).toUInt32 &&& Int32.toUInt32 31)).toInt32) (255 : Int32) 255 rfl (by decide); have := ti_add2 (Eq.refl ((w.1 91 11) * (10 : Int32)).toInt) (Eq.refl ((((w.1 2 (((w.1 91 10) >>> ((2 : Int32) &&& 31)).toInt.toNat)).toUInt32 >>> (((24 : Int32) - ((8 : Int32) * ((w.1 91 10) &&& (3 : Int32)))).toUInt32 &&& Int32.toUInt32 31)).toInt32) &&& (255 : Int32)).toInt) (by omega) (by omega); have := ti_sub2 (Eq.refl (((w.1 91 11) * (10 : Int32)) + ((((w.1 2 (((w.1 91 10) >>> ((2 : Int32) &&& 31)).toInt.toNat)).toUInt32 >>> (((24 : Int32) - ((8 : Int32) * ((w.1 91 10) &&& (3 : Int32)))).toUInt32 &&& Int32.toUInt32 31)).toInt32) &&& (255 : Int32))).toInt) (by decide : ((48 : Int32)).toInt = 48) (by omega) (by omega); have : ((sI (sI w 91 11 ((((w.1 91 11) * (10 : Int32)) + ((((w.1 2 (((w.1 91 10) >>> ((2 : Int32) &&& 31)).toInt.toNat)).toUInt32 >>> (((24 : Int32) - ((8 : Int32) * ((w.1 91 10) &&& (3 : Int32)))).toUInt32 &&& Int32.toUInt32 31)).toInt32) &&& (255 : Int32))) - (48 : Int32))) 91 10 ((w.1 91 10) + (1 : Int32))).1 91 11).toInt = ((((w.1 91 11) * (10 : Int32)) + ((((w.1 2 (((w.1 91 10) >>> ((2 : Int32) &&& 31)).toInt.toNat)).toUInt32 >>> (((24 : Int32) - ((8 : Int32) * ((w.1 91 10) &&& (3 : Int32)))).toUInt32 &&& Int32.toUInt32 31)).toInt32) &&& (255 : Int32))) - (48 : Int32)).toInt := rfl; have := (by decide : ((7 : Int32)).toInt = 7); have := (by decide : ((0 : Int32)).toInt = 0); have := bd_1_2 hI; have := ti_mul2 (by decide : ((4 : Int32)).toInt = 4) (by decide : ((1005 : Int32)).toInt = 1005) (by omega) (by omega); have := (by decide : ((48 : Int32)).toInt = 48); have := (by decide : ((57 : Int32)).toInt = 57); exact ⟨by omega, by omega, by omega, by omega, by omega, by omega, by omega, by omega, by omega, by omega, by omega⟩
                  exact ih _ (sI (sI w 91 11 ((((w.1 91 11) * (10 : Int32)) + ((((w.1 2 (((w.1 91 10) >>> ((2 : Int32) &&& 31)).toInt.toNat)).toUInt32 >>> (((24 : Int32) - ((8 : Int32) * ((w.1 91 10) &&& (3 : Int32)))).toUInt32 &&& Int32.toUInt32 31)).toInt32) &&& (255 : Int32))) - (48 : Int32))) 91 10 ((w.1 91 10) + (1 : Int32))) hI671 hr_91_9 o672.1 o672.2.1 o672.2.2.1 o672.2.2.2.1 o672.2.2.2.2.1 o672.2.2.2.2.2.1 o672.2.2.2.2.2.2.1 o672.2.2.2.2.2.2.2.1 o672.2.2.2.2.2.2.2.2.1 o672.2.2.2.2.2.2.2.2.2.1 o672.2.2.2.2.2.2.2.2.2.2 (by have := ti_add2 (Eq.refl x7_1.toInt) (by decide : ((1 : Int32)).toInt = 1) (by omega) (by omega); have := bd_91_11 hI; have := (by decide : ((7 : Int32)).toInt = 7); have := (by decide : ((0 : Int32)).toInt = 0); omega) (fun e0 w9 hI9 hF9 p0 p1 u0 => hE e0 w9 hI9 ((FR.I (FR.I (FR.refl _ w) (k := 91) (j := 11) (v := ((((w.1 91 11) * (10 : Int32)) + ((((w.1 2 (((w.1 91 10) >>> ((2 : Int32) &&& 31)).toInt.toNat)).toUInt32 >>> (((24 : Int32) - ((8 : Int32) * ((w.1 91 10) &&& (3 : Int32)))).toUInt32 &&& Int32.toUInt32 31)).toInt32) &&& (255 : Int32))) - (48 : Int32))) rfl) (k := 91) (j := 10) (v := ((w.1 91 10) + (1 : Int32))) rfl).tr hF9 rfl) p0 p1 (by have := ti_add2 (Eq.refl x7_1.toInt) (by decide : ((1 : Int32)).toInt = 1) (by omega) (by omega); have := bd_91_11 hI; have := (by decide : ((7 : Int32)).toInt = 7); have := (by decide : ((0 : Int32)).toInt = 0); omega)) (fun r w9 hI9 hF9 q0 => q0.elim)
                · refine ⟨fun h673 => ?_, fun h673 => ?_⟩
                  · have o674 : (0 ≤ x7_1.toInt) ∧ (x7_1.toInt ≤ 7) ∧ (0 ≤ (w.1 91 11).toInt) := by have := bd_91_11 hI; have := (by decide : ((7 : Int32)).toInt = 7); have := (by decide : ((0 : Int32)).toInt = 0); exact ⟨by omega, by omega, by omega⟩
                    exact hE _ _ hI (FR.refl _ w) o674.1 o674.2.1 o674.2.2
                  · refine Eq.mpr (q_Pl_takesNumbers91_41.eq_1 _ _ _ _ _) ?_
                    refine ⟨hr_91_9, ?_⟩
                    refine Eq.mpr (p_Tp_at.eq_1 _ _ _) ?_
                    refine ⟨fun h => absurd h h657, fun _ => ?_⟩
                    refine ⟨fun h => absurd h h659, fun _ => ?_⟩
                    refine ⟨fun _ => ?_, fun h => absurd h661 h⟩
                    have o675 : 0 ≤ ((w.1 91 10) >>> ((2 : Int32) &&& 31)).toInt ∧ ((w.1 91 10) >>> ((2 : Int32) &&& 31)).toInt < 1005 := by have := nb_shr (w.1 91 10) ((2 : Int32) &&& 31) 2 4 rfl rfl; have := (by decide : ((0 : Int32)).toInt = 0); have := bd_1_2 hI; have := ti_mul2 (by decide : ((4 : Int32)).toInt = 4) (by decide : ((1005 : Int32)).toInt = 1005) (by omega) (by omega); have := ti_lo ((((w.1 2 (((w.1 91 10) >>> ((2 : Int32) &&& 31)).toInt.toNat)).toUInt32 >>> (((24 : Int32) - ((8 : Int32) * ((w.1 91 10) &&& (3 : Int32)))).toUInt32 &&& Int32.toUInt32 31)).toInt32) &&& (255 : Int32)); have := ti_hi ((((w.1 2 (((w.1 91 10) >>> ((2 : Int32) &&& 31)).toInt.toNat)).toUInt32 >>> (((24 : Int32) - ((8 : Int32) * ((w.1 91 10) &&& (3 : Int32)))).toUInt32 &&& Int32.toUInt32 31)).toInt32) &&& (255 : Int32)); have := ti_lo (((w.1 2 (((w.1 91 10) >>> ((2 : Int32) &&& 31)).toInt.toNat)).toUInt32 >>> (((24 : Int32) - ((8 : Int32) * ((w.1 91 10) &&& (3 : Int32)))).toUInt32 &&& Int32.toUInt32 31)).toInt32); have := ti_hi (((w.1 2 (((w.1 91 10) >>> ((2 : Int32) &&& 31)).toInt.toNat)).toUInt32 >>> (((24 : Int32) - ((8 : Int32) * ((w.1 91 10) &&& (3 : Int32)))).toUInt32 &&& Int32.toUInt32 31)).toInt32); have := ti_lo ((w.1 91 10) &&& (3 : Int32)); have := ti_hi ((w.1 91 10) &&& (3 : Int32)); have := nb_and (w.1 91 10) (3 : Int32) 3 rfl (by decide); have := ti_mul2 (by decide : ((8 : Int32)).toInt = 8) (Eq.refl ((w.1 91 10) &&& (3 : Int32)).toInt) (by omega) (by omega); have := ti_sub2 (by decide : ((24 : Int32)).toInt = 24) (Eq.refl ((8 : Int32) * ((w.1 91 10) &&& (3 : Int32))).toInt) (by omega) (by omega); have := nb_and (((w.1 2 (((w.1 91 10) >>> ((2 : Int32) &&& 31)).toInt.toNat)).toUInt32 >>> (((24 : Int32) - ((8 : Int32) * ((w.1 91 10) &&& (3 : Int32)))).toUInt32 &&& Int32.toUInt32 31)).toInt32) (255 : Int32) 255 rfl (by decide); have := (by decide : ((48 : Int32)).toInt = 48); have := (by decide : ((57 : Int32)).toInt = 57); omega
                    refine ⟨o675, ?_⟩
                    have o677 : (-1) ≤ ((((w.1 91 11) * (10 : Int32)) + ((((w.1 2 (((w.1 91 10) >>> ((2 : Int32) &&& 31)).toInt.toNat)).toUInt32 >>> (((24 : Int32) - ((8 : Int32) * ((w.1 91 10) &&& (3 : Int32)))).toUInt32 &&& Int32.toUInt32 31)).toInt32) &&& (255 : Int32))) - (48 : Int32)).toInt ∧ ((((w.1 91 11) * (10 : Int32)) + ((((w.1 2 (((w.1 91 10) >>> ((2 : Int32) &&& 31)).toInt.toNat)).toUInt32 >>> (((24 : Int32) - ((8 : Int32) * ((w.1 91 10) &&& (3 : Int32)))).toUInt32 &&& Int32.toUInt32 31)).toInt32) &&& (255 : Int32))) - (48 : Int32)).toInt ≤ 9999999 := by have := bd_91_11 hI; have := ti_mul2 (Eq.refl (w.1 91 11).toInt) (by decide : ((10 : Int32)).toInt = 10) (by omega) (by omega); have := ti_lo ((((w.1 2 (((w.1 91 10) >>> ((2 : Int32) &&& 31)).toInt.toNat)).toUInt32 >>> (((24 : Int32) - ((8 : Int32) * ((w.1 91 10) &&& (3 : Int32)))).toUInt32 &&& Int32.toUInt32 31)).toInt32) &&& (255 : Int32)); have := ti_hi ((((w.1 2 (((w.1 91 10) >>> ((2 : Int32) &&& 31)).toInt.toNat)).toUInt32 >>> (((24 : Int32) - ((8 : Int32) * ((w.1 91 10) &&& (3 : Int32)))).toUInt32 &&& Int32.toUInt32 31)).toInt32) &&& (255 : Int32)); have := ti_lo (((w.1 2 (((w.1 91 10) >>> ((2 : Int32) &&& 31)).toInt.toNat)).toUInt32 >>> (((24 : Int32) - ((8 : Int32) * ((w.1 91 10) &&& (3 : Int32)))).toUInt32 &&& Int32.toUInt32 31)).toInt32); have := ti_hi (((w.1 2 (((w.1 91 10) >>> ((2 : Int32) &&& 31)).toInt.toNat)).toUInt32 >>> (((24 : Int32) - ((8 : Int32) * ((w.1 91 10) &&& (3 : Int32)))).toUInt32 &&& Int32.toUInt32 31)).toInt32); have := ti_lo ((w.1 91 10) &&& (3 : Int32)); have := ti_hi ((w.1 91 10) &&& (3 : Int32)); have := nb_and (w.1 91 10) (3 : Int32) 3 rfl (by decide); have := ti_mul2 (by decide : ((8 : Int32)).toInt = 8) (Eq.refl ((w.1 91 10) &&& (3 : Int32)).toInt) (by omega) (by omega); have := ti_sub2 (by decide : ((24 : Int32)).toInt = 24) (Eq.refl ((8 : Int32) * ((w.1 91 10) &&& (3 : Int32))).toInt) (by omega) (by omega); have := nb_and (((w.1 2 (((w.1 91 10) >>> ((2 : Int32) &&& 31)).toInt.toNat)).toUInt32 >>> (((24 : Int32) - ((8 : Int32) * ((w.1 91 10) &&& (3 : Int32)))).toUInt32 &&& Int32.toUInt32 31)).toInt32) (255 : Int32) 255 rfl (by decide); have := ti_add2 (Eq.refl ((w.1 91 11) * (10 : Int32)).toInt) (Eq.refl ((((w.1 2 (((w.1 91 10) >>> ((2 : Int32) &&& 31)).toInt.toNat)).toUInt32 >>> (((24 : Int32) - ((8 : Int32) * ((w.1 91 10) &&& (3 : Int32)))).toUInt32 &&& Int32.toUInt32 31)).toInt32) &&& (255 : Int32)).toInt) (by omega) (by omega); have := ti_sub2 (Eq.refl (((w.1 91 11) * (10 : Int32)) + ((((w.1 2 (((w.1 91 10) >>> ((2 : Int32) &&& 31)).toInt.toNat)).toUInt32 >>> (((24 : Int32) - ((8 : Int32) * ((w.1 91 10) &&& (3 : Int32)))).toUInt32 &&& Int32.toUInt32 31)).toInt32) &&& (255 : Int32))).toInt) (by decide : ((48 : Int32)).toInt = 48) (by omega) (by omega); have := (by decide : ((7 : Int32)).toInt = 7); have := (by decide : ((0 : Int32)).toInt = 0); have := bd_1_2 hI; have := ti_mul2 (by decide : ((4 : Int32)).toInt = 4) (by decide : ((1005 : Int32)).toInt = 1005) (by omega) (by omega); have := (by decide : ((48 : Int32)).toInt = 48); have := (by decide : ((57 : Int32)).toInt = 57); omega
                    have hI676 : BND (sI w 91 11 ((((w.1 91 11) * (10 : Int32)) + ((((w.1 2 (((w.1 91 10) >>> ((2 : Int32) &&& 31)).toInt.toNat)).toUInt32 >>> (((24 : Int32) - ((8 : Int32) * ((w.1 91 10) &&& (3 : Int32)))).toUInt32 &&& Int32.toUInt32 31)).toInt32) &&& (255 : Int32))) - (48 : Int32))) := wbd_91_11 hI o677.1 o677.2
                    have hI678 : BND (sI (sI w 91 11 ((((w.1 91 11) * (10 : Int32)) + ((((w.1 2 (((w.1 91 10) >>> ((2 : Int32) &&& 31)).toInt.toNat)).toUInt32 >>> (((24 : Int32) - ((8 : Int32) * ((w.1 91 10) &&& (3 : Int32)))).toUInt32 &&& Int32.toUInt32 31)).toInt32) &&& (255 : Int32))) - (48 : Int32))) 91 10 ((w.1 91 10) + (1 : Int32))) := wbd_91_10 hI676
                    have o679 : (0 ≤ (x7_1 + (1 : Int32)).toInt) ∧ ((x7_1 + (1 : Int32)).toInt ≤ 7) ∧ (0 ≤ ((sI (sI w 91 11 ((((w.1 91 11) * (10 : Int32)) + ((((w.1 2 (((w.1 91 10) >>> ((2 : Int32) &&& 31)).toInt.toNat)).toUInt32 >>> (((24 : Int32) - ((8 : Int32) * ((w.1 91 10) &&& (3 : Int32)))).toUInt32 &&& Int32.toUInt32 31)).toInt32) &&& (255 : Int32))) - (48 : Int32))) 91 10 ((w.1 91 10) + (1 : Int32))).1 91 11).toInt) ∧ (1 ≤ (x7_1 + (1 : Int32)).toInt ∨ ((sI (sI w 91 11 ((((w.1 91 11) * (10 : Int32)) + ((((w.1 2 (((w.1 91 10) >>> ((2 : Int32) &&& 31)).toInt.toNat)).toUInt32 >>> (((24 : Int32) - ((8 : Int32) * ((w.1 91 10) &&& (3 : Int32)))).toUInt32 &&& Int32.toUInt32 31)).toInt32) &&& (255 : Int32))) - (48 : Int32))) 91 10 ((w.1 91 10) + (1 : Int32))).1 91 11).toInt ≤ 0) ∧ (2 ≤ (x7_1 + (1 : Int32)).toInt ∨ ((sI (sI w 91 11 ((((w.1 91 11) * (10 : Int32)) + ((((w.1 2 (((w.1 91 10) >>> ((2 : Int32) &&& 31)).toInt.toNat)).toUInt32 >>> (((24 : Int32) - ((8 : Int32) * ((w.1 91 10) &&& (3 : Int32)))).toUInt32 &&& Int32.toUInt32 31)).toInt32) &&& (255 : Int32))) - (48 : Int32))) 91 10 ((w.1 91 10) + (1 : Int32))).1 91 11).toInt ≤ 9) ∧ (3 ≤ (x7_1 + (1 : Int32)).toInt ∨ ((sI (sI w 91 11 ((((w.1 91 11) * (10 : Int32)) + ((((w.1 2 (((w.1 91 10) >>> ((2 : Int32) &&& 31)).toInt.toNat)).toUInt32 >>> (((24 : Int32) - ((8 : Int32) * ((w.1 91 10) &&& (3 : Int32)))).toUInt32 &&& Int32.toUInt32 31)).toInt32) &&& (255 : Int32))) - (48 : Int32))) 91 10 ((w.1 91 10) + (1 : Int32))).1 91 11).toInt ≤ 99) ∧ (4 ≤ (x7_1 + (1 : Int32)).toInt ∨ ((sI (sI w 91 11 ((((w.1 91 11) * (10 : Int32)) + ((((w.1 2 (((w.1 91 10) >>> ((2 : Int32) &&& 31)).toInt.toNat)).toUInt32 >>> (((24 : Int32) - ((8 : Int32) * ((w.1 91 10) &&& (3 : Int32)))).toUInt32 &&& Int32.toUInt32 31)).toInt32) &&& (255 : Int32))) - (48 : Int32))) 91 10 ((w.1 91 10) + (1 : Int32))).1 91 11).toInt ≤ 999) ∧ (5 ≤ (x7_1 + (1 : Int32)).toInt ∨ ((sI (sI w 91 11 ((((w.1 91 11) * (10 : Int32)) + ((((w.1 2 (((w.1 91 10) >>> ((2 : Int32) &&& 31)).toInt.toNat)).toUInt32 >>> (((24 : Int32) - ((8 : Int32) * ((w.1 91 10) &&& (3 : Int32)))).toUInt32 &&& Int32.toUInt32 31)).toInt32) &&& (255 : Int32))) - (48 : Int32))) 91 10 ((w.1 91 10) + (1 : Int32))).1 91 11).toInt ≤ 9999) ∧ (6 ≤ (x7_1 + (1 : Int32)).toInt ∨ ((sI (sI w 91 11 ((((w.1 91 11) * (10 : Int32)) + ((((w.1 2 (((w.1 91 10) >>> ((2 : Int32) &&& 31)).toInt.toNat)).toUInt32 >>> (((24 : Int32) - ((8 : Int32) * ((w.1 91 10) &&& (3 : Int32)))).toUInt32 &&& Int32.toUInt32 31)).toInt32) &&& (255 : Int32))) - (48 : Int32))) 91 10 ((w.1 91 10) + (1 : Int32))).1 91 11).toInt ≤ 99999) ∧ (7 ≤ (x7_1 + (1 : Int32)).toInt ∨ ((sI (sI w 91 11 ((((w.1 91 11) * (10 : Int32)) + ((((w.1 2 (((w.1 91 10) >>> ((2 : Int32) &&& 31)).toInt.toNat)).toUInt32 >>> (((24 : Int32) - ((8 : Int32) * ((w.1 91 10) &&& (3 : Int32)))).toUInt32 &&& Int32.toUInt32 31)).toInt32) &&& (255 : Int32))) - (48 : Int32))) 91 10 ((w.1 91 10) + (1 : Int32))).1 91 11).toInt ≤ 999999) ∧ (8 ≤ (x7_1 + (1 : Int32)).toInt ∨ ((sI (sI w 91 11 ((((w.1 91 11) * (10 : Int32)) + ((((w.1 2 (((w.1 91 10) >>> ((2 : Int32) &&& 31)).toInt.toNat)).toUInt32 >>> (((24 : Int32) - ((8 : Int32) * ((w.1 91 10) &&& (3 : Int32)))).toUInt32 &&& Int32.toUInt32 31)).toInt32) &&& (255 : Int32))) - (48 : Int32))) 91 10 ((w.1 91 10) + (1 : Int32))).1 91 11).toInt ≤ 9999999) := by have := ti_add2 (Eq.refl x7_1.toInt) (by decide : ((1 : Int32)).toInt = 1) (by omega) (by omega); have := bd_91_11 hI; have := ti_mul2 (Eq.refl (w.1 91 11).toInt) (by decide : ((10 : Int32)).toInt = 10) (by omega) (by omega); have := ti_lo ((((w.1 2 (((w.1 91 10) >>> ((2 : Int32) &&& 31)).toInt.toNat)).toUInt32 >>> (((24 : Int32) - ((8 : Int32) * ((w.1 91 10) &&& (3 : Int32)))).toUInt32 &&& Int32.toUInt32 31)).toInt32) &&& (255 : Int32)); have := ti_hi ((((w.1 2 (((w.1 91 10) >>> ((2 : Int32) &&& 31)).toInt.toNat)).toUInt32 >>> (((24 : Int32) - ((8 : Int32) * ((w.1 91 10) &&& (3 : Int32)))).toUInt32 &&& Int32.toUInt32 31)).toInt32) &&& (255 : Int32)); have := ti_lo (((w.1 2 (((w.1 91 10) >>> ((2 : Int32) &&& 31)).toInt.toNat)).toUInt32 >>> (((24 : Int32) - ((8 : Int32) * ((w.1 91 10) &&& (3 : Int32)))).toUInt32 &&& Int32.toUInt32 31)).toInt32); have := ti_hi (((w.1 2 (((w.1 91 10) >>> ((2 : Int32) &&& 31)).toInt.toNat)).toUInt32 >>> (((24 : Int32) - ((8 : Int32) * ((w.1 91 10) &&& (3 : Int32)))).toUInt32 &&& Int32.toUInt32 31)).toInt32); have := ti_lo ((w.1 91 10) &&& (3 : Int32)); have := ti_hi ((w.1 91 10) &&& (3 : Int32)); have := nb_and (w.1 91 10) (3 : Int32) 3 rfl (by decide); have := ti_mul2 (by decide : ((8 : Int32)).toInt = 8) (Eq.refl ((w.1 91 10) &&& (3 : Int32)).toInt) (by omega) (by omega); have := ti_sub2 (by decide : ((24 : Int32)).toInt = 24) (Eq.refl ((8 : Int32) * ((w.1 91 10) &&& (3 : Int32))).toInt) (by omega) (by omega); have := nb_and (((w.1 2 (((w.1 91 10) >>> ((2 : Int32) &&& 31)).toInt.toNat)).toUInt32 >>> (((24 : Int32) - ((8 : Int32) * ((w.1 91 10) &&& (3 : Int32)))).toUInt32 &&& Int32.toUInt32 31)).toInt32) (255 : Int32) 255 rfl (by decide); have := ti_add2 (Eq.refl ((w.1 91 11) * (10 : Int32)).toInt) (Eq.refl ((((w.1 2 (((w.1 91 10) >>> ((2 : Int32) &&& 31)).toInt.toNat)).toUInt32 >>> (((24 : Int32) - ((8 : Int32) * ((w.1 91 10) &&& (3 : Int32)))).toUInt32 &&& Int32.toUInt32 31)).toInt32) &&& (255 : Int32)).toInt) (by omega) (by omega); have := ti_sub2 (Eq.refl (((w.1 91 11) * (10 : Int32)) + ((((w.1 2 (((w.1 91 10) >>> ((2 : Int32) &&& 31)).toInt.toNat)).toUInt32 >>> (((24 : Int32) - ((8 : Int32) * ((w.1 91 10) &&& (3 : Int32)))).toUInt32 &&& Int32.toUInt32 31)).toInt32) &&& (255 : Int32))).toInt) (by decide : ((48 : Int32)).toInt = 48) (by omega) (by omega); have : ((sI (sI w 91 11 ((((w.1 91 11) * (10 : Int32)) + ((((w.1 2 (((w.1 91 10) >>> ((2 : Int32) &&& 31)).toInt.toNat)).toUInt32 >>> (((24 : Int32) - ((8 : Int32) * ((w.1 91 10) &&& (3 : Int32)))).toUInt32 &&& Int32.toUInt32 31)).toInt32) &&& (255 : Int32))) - (48 : Int32))) 91 10 ((w.1 91 10) + (1 : Int32))).1 91 11).toInt = ((((w.1 91 11) * (10 : Int32)) + ((((w.1 2 (((w.1 91 10) >>> ((2 : Int32) &&& 31)).toInt.toNat)).toUInt32 >>> (((24 : Int32) - ((8 : Int32) * ((w.1 91 10) &&& (3 : Int32)))).toUInt32 &&& Int32.toUInt32 31)).toInt32) &&& (255 : Int32))) - (48 : Int32)).toInt := rfl; have := (by decide : ((7 : Int32)).toInt = 7); have := (by decide : ((0 : Int32)).toInt = 0); have := bd_1_2 hI; have := ti_mul2 (by decide : ((4 : Int32)).toInt = 4) (by decide : ((1005 : Int32)).toInt = 1005) (by omega) (by omega); have := (by decide : ((48 : Int32)).toInt = 48); have := (by decide : ((57 : Int32)).toInt = 57); exact ⟨by omega, by omega, by omega, by omega, by omega, by omega, by omega, by omega, by omega, by omega, by omega⟩
                    exact ih _ (sI (sI w 91 11 ((((w.1 91 11) * (10 : Int32)) + ((((w.1 2 (((w.1 91 10) >>> ((2 : Int32) &&& 31)).toInt.toNat)).toUInt32 >>> (((24 : Int32) - ((8 : Int32) * ((w.1 91 10) &&& (3 : Int32)))).toUInt32 &&& Int32.toUInt32 31)).toInt32) &&& (255 : Int32))) - (48 : Int32))) 91 10 ((w.1 91 10) + (1 : Int32))) hI678 hr_91_9 o679.1 o679.2.1 o679.2.2.1 o679.2.2.2.1 o679.2.2.2.2.1 o679.2.2.2.2.2.1 o679.2.2.2.2.2.2.1 o679.2.2.2.2.2.2.2.1 o679.2.2.2.2.2.2.2.2.1 o679.2.2.2.2.2.2.2.2.2.1 o679.2.2.2.2.2.2.2.2.2.2 (by have := ti_add2 (Eq.refl x7_1.toInt) (by decide : ((1 : Int32)).toInt = 1) (by omega) (by omega); have := bd_91_11 hI; have := (by decide : ((7 : Int32)).toInt = 7); have := (by decide : ((0 : Int32)).toInt = 0); omega) (fun e0 w9 hI9 hF9 p0 p1 u0 => hE e0 w9 hI9 ((FR.I (FR.I (FR.refl _ w) (k := 91) (j := 11) (v := ((((w.1 91 11) * (10 : Int32)) + ((((w.1 2 (((w.1 91 10) >>> ((2 : Int32) &&& 31)).toInt.toNat)).toUInt32 >>> (((24 : Int32) - ((8 : Int32) * ((w.1 91 10) &&& (3 : Int32)))).toUInt32 &&& Int32.toUInt32 31)).toInt32) &&& (255 : Int32))) - (48 : Int32))) rfl) (k := 91) (j := 10) (v := ((w.1 91 10) + (1 : Int32))) rfl).tr hF9 rfl) p0 p1 (by have := ti_add2 (Eq.refl x7_1.toInt) (by decide : ((1 : Int32)).toInt = 1) (by omega) (by omega); have := bd_91_11 hI; have := (by decide : ((7 : Int32)).toInt = 7); have := (by decide : ((0 : Int32)).toInt = 0); omega)) (fun r w9 hI9 hF9 q0 => q0.elim)
          · exfalso; have := bd_91_11 hI; have := (by decide : ((7 : Int32)).toInt = 7); have := (by decide : ((0 : Int32)).toInt = 0); have := bd_1_2 hI; have := ti_mul2 (by decide : ((4 : Int32)).toInt = 4) (by decide : ((1005 : Int32)).toInt = 1005) (by omega) (by omega); omega
set_option maxRecDepth 20000 in
set_option maxHeartbeats 2000000 in
theorem h_Pl_takesNumbers91 {w : MW} {Q : Int32 → MW → Prop} (hI : BND w) (hr_91_9 : w.2.2 91 9 = some 1)  (hQ : ∀ (r : Int32) (w' : MW), BND w' → FR l_Pl_takesNumbers91 w w' → 0 ≤ r.toInt → r.toInt ≤ 1 → 0 ≤ (w'.1 91 11).toInt → Q r w') : p_Pl_takesNumbers91 w Q := by
  refine Eq.mpr (p_Pl_takesNumbers91.eq_1 _ _) ?_
  have hI680 : BND (sI w 91 11 0) := wbd_91_11 hI (by decide) (by decide)
  have o681 : (0 ≤ (0 : Int32).toInt) ∧ ((0 : Int32).toInt ≤ 7) ∧ (0 ≤ ((sI w 91 11 0).1 91 11).toInt) ∧ (1 ≤ (0 : Int32).toInt ∨ ((sI w 91 11 0).1 91 11).toInt ≤ 0) ∧ (2 ≤ (0 : Int32).toInt ∨ ((sI w 91 11 0).1 91 11).toInt ≤ 9) ∧ (3 ≤ (0 : Int32).toInt ∨ ((sI w 91 11 0).1 91 11).toInt ≤ 99) ∧ (4 ≤ (0 : Int32).toInt ∨ ((sI w 91 11 0).1 91 11).toInt ≤ 999) ∧ (5 ≤ (0 : Int32).toInt ∨ ((sI w 91 11 0).1 91 11).toInt ≤ 9999) ∧ (6 ≤ (0 : Int32).toInt ∨ ((sI w 91 11 0).1 91 11).toInt ≤ 99999) ∧ (7 ≤ (0 : Int32).toInt ∨ ((sI w 91 11 0).1 91 11).toInt ≤ 999999) ∧ (8 ≤ (0 : Int32).toInt ∨ ((sI w 91 11 0).1 91 11).toInt ≤ 9999999) := by have := (by decide : ((0 : Int32)).toInt = 0); have : ((sI w 91 11 0).1 91 11).toInt = ((0 : Int32)).toInt := rfl; have := (by decide : ((0 : Int32)).toInt = 0); exact ⟨by omega, by omega, by omega, by omega, by omega, by omega, by omega, by omega, by omega, by omega, by omega⟩
  refine hq_Pl_takesNumbers91_7 FU _ (sI w 91 11 0) hI680 hr_91_9 o681.1 o681.2.1 o681.2.2.1 o681.2.2.2.1 o681.2.2.2.2.1 o681.2.2.2.2.2.1 o681.2.2.2.2.2.2.1 o681.2.2.2.2.2.2.2.1 o681.2.2.2.2.2.2.2.2.1 o681.2.2.2.2.2.2.2.2.2.1 o681.2.2.2.2.2.2.2.2.2.2 (fu_lt (by have := (by decide : ((0 : Int32)).toInt = 0); omega)) (fun e685 w682 hI683 hL684 p686 p687 p688 => ?_) (fun r w9 hI9 hF9 q0 => q0.elim)
  have hF689 : FR l_Pl_takesNumbers91 w w682 := (FR.I (FR.refl _ w) (k := 91) (j := 11) (v := 0) rfl).tr hL684 rfl
  refine ⟨fun h690 => ?_, fun h690 => ?_⟩
  · have o691 : (0 ≤ (0 : Int32).toInt) ∧ ((0 : Int32).toInt ≤ 1) ∧ (0 ≤ (w682.1 91 11).toInt) := by have := (by decide : ((0 : Int32)).toInt = 0); have := bd_91_11 hI683; exact ⟨by omega, by omega, by omega⟩
    exact hQ _ _ hI683 hF689  o691.1 o691.2.1 o691.2.2
  · have o692 : (0 ≤ (1 : Int32).toInt) ∧ ((1 : Int32).toInt ≤ 1) ∧ (0 ≤ (w682.1 91 11).toInt) := by have := (by decide : ((1 : Int32)).toInt = 1); have := bd_91_11 hI683; have := (by decide : ((0 : Int32)).toInt = 0); exact ⟨by omega, by omega, by omega⟩
    exact hQ _ _ hI683 hF689  o692.1 o692.2.1 o692.2.2
