def l_Ar_fill0_16_5 : Pl := [(16, none)]
def l_Ar_fill0_16 : Pl := [(16, none)]
set_option maxRecDepth 20000 in
set_option maxHeartbeats 2000000 in
theorem hq_Ar_fill0_16_5 {x5_1 : Int32} {x5_3 : Int32} {E : MW → Prop} {Q : MW → Prop} (n : Nat) : ∀ (x5_2 : Int32) (w : MW), BND w → 0 ≤ x5_1.toInt → x5_1.toInt ≤ 0 → 20 ≤ x5_3.toInt → x5_3.toInt ≤ 20 → 0 ≤ x5_2.toInt → x5_2.toInt ≤ 20 → (20 - x5_2.toInt).toNat < n → (∀ (w' : MW), BND w' → FR l_Ar_fill0_16_5 w w' → E w') → (∀ (w' : MW), BND w' → FR l_Ar_fill0_16_5 w w' → False → Q w') → q_Ar_fill0_16_5 x5_1 x5_3 E Q n x5_2 w := by
  induction n with
  | zero => intros; omega
  | succ n ih =>
    intro x5_2 w hI  hp0 hp1 hp2 hp3 hp4 hp5 hm hE hQ
    rw [q_Ar_fill0_16_5.eq_2]
    refine ⟨fun h463 => ?_, fun h463 => ?_⟩
    · exact hE _ hI (FR.refl _ w)
    · have o464 : 0 ≤ x5_2.toInt ∧ x5_2.toInt < 20 := by omega
      refine ⟨o464, ?_⟩
      have o466 : 0 ≤ x5_1.toInt ∧ x5_1.toInt ≤ 9 := by omega
      have hI465 : BND (sI w 16 x5_2.toInt.toNat x5_1) := wbd_16 hI x5_2.toInt.toNat o466.1 o466.2
      have o467 : (0 ≤ x5_1.toInt) ∧ (x5_1.toInt ≤ 0) ∧ (20 ≤ x5_3.toInt) ∧ (x5_3.toInt ≤ 20) ∧ (0 ≤ (x5_2 + (1 : Int32)).toInt) ∧ ((x5_2 + (1 : Int32)).toInt ≤ 20) := by have := ti_add2 (Eq.refl x5_2.toInt) (by decide : ((1 : Int32)).toInt = 1) (by omega) (by omega); exact ⟨by omega, by omega, by omega, by omega, by omega, by omega⟩
      exact ih _ (sI w 16 x5_2.toInt.toNat x5_1) hI465  o467.1 o467.2.1 o467.2.2.1 o467.2.2.2.1 o467.2.2.2.2.1 o467.2.2.2.2.2 (by have := ti_add2 (Eq.refl x5_2.toInt) (by decide : ((1 : Int32)).toInt = 1) (by omega) (by omega); omega) (fun w9 hI9 hF9 => hE w9 hI9 ((FR.I (FR.refl _ w) (k := 16) (j := x5_2.toInt.toNat) (v := x5_1) rfl).tr hF9 rfl) ) (fun w9 hI9 hF9 q0 => q0.elim)
set_option maxRecDepth 20000 in
set_option maxHeartbeats 2000000 in
theorem h_Ar_fill0_16 {w : MW} {a0 : Int32} {Q : MW → Prop} (hI : BND w) (hp0 : 0 ≤ a0.toInt) (hp1 : a0.toInt ≤ 0) (hQ : ∀ (w' : MW), BND w' → FR l_Ar_fill0_16 w w' → Q w') : p_Ar_fill0_16 w a0 Q := by
  refine Eq.mpr (p_Ar_fill0_16.eq_1 _ _ _) ?_
  have o468 : (0 ≤ a0.toInt) ∧ (a0.toInt ≤ 0) ∧ (20 ≤ (20 : Int32).toInt) ∧ ((20 : Int32).toInt ≤ 20) ∧ (0 ≤ (0 : Int32).toInt) ∧ ((0 : Int32).toInt ≤ 20) := by have := (by decide : ((20 : Int32)).toInt = 20); have := (by decide : ((0 : Int32)).toInt = 0); exact ⟨by omega, by omega, by omega, by omega, by omega, by omega⟩
  refine hq_Ar_fill0_16_5 FU _ w hI  o468.1 o468.2.1 o468.2.2.1 o468.2.2.2.1 o468.2.2.2.2.1 o468.2.2.2.2.2 (fu_lt (by have := (by decide : ((20 : Int32)).toInt = 20); have := (by decide : ((0 : Int32)).toInt = 0); omega)) (fun w469 hI470 hL471  => ?_) (fun w9 hI9 hF9 q0 => q0.elim)
  have hF472 : FR l_Ar_fill0_16 w w469 := (FR.refl _ w).tr hL471 rfl
  exact hQ _ hI470 hF472 
def l_Ar_fill0_17_5 : Pl := [(17, none)]
def l_Ar_fill0_17 : Pl := [(17, none)]
set_option maxRecDepth 20000 in
set_option maxHeartbeats 2000000 in
theorem hq_Ar_fill0_17_5 {x5_1 : Int32} {x5_3 : Int32} {E : MW → Prop} {Q : MW → Prop} (n : Nat) : ∀ (x5_2 : Int32) (w : MW), BND w → 0 ≤ x5_1.toInt → x5_1.toInt ≤ 0 → 44 ≤ x5_3.toInt → x5_3.toInt ≤ 44 → 0 ≤ x5_2.toInt → x5_2.toInt ≤ 44 → (44 - x5_2.toInt).toNat < n → (∀ (w' : MW), BND w' → FR l_Ar_fill0_17_5 w w' → E w') → (∀ (w' : MW), BND w' → FR l_Ar_fill0_17_5 w w' → False → Q w') → q_Ar_fill0_17_5 x5_1 x5_3 E Q n x5_2 w := by
  induction n with
  | zero => intros; omega
  | succ n ih =>
    intro x5_2 w hI  hp0 hp1 hp2 hp3 hp4 hp5 hm hE hQ
    rw [q_Ar_fill0_17_5.eq_2]
    refine ⟨fun h473 => ?_, fun h473 => ?_⟩
    · exact hE _ hI (FR.refl _ w)
    · have o474 : 0 ≤ x5_2.toInt ∧ x5_2.toInt < 44 := by omega
      refine ⟨o474, ?_⟩
      have o476 : 0 ≤ x5_1.toInt ∧ x5_1.toInt ≤ 14 := by omega
      have hI475 : BND (sI w 17 x5_2.toInt.toNat x5_1) := wbd_17 hI x5_2.toInt.toNat o476.1 o476.2
      have o477 : (0 ≤ x5_1.toInt) ∧ (x5_1.toInt ≤ 0) ∧ (44 ≤ x5_3.toInt) ∧ (x5_3.toInt ≤ 44) ∧ (0 ≤ (x5_2 + (1 : Int32)).toInt) ∧ ((x5_2 + (1 : Int32)).toInt ≤ 44) := by have := ti_add2 (Eq.refl x5_2.toInt) (by decide : ((1 : Int32)).toInt = 1) (by omega) (by omega); exact ⟨by omega, by omega, by omega, by omega, by omega, by omega⟩
      exact ih _ (sI w 17 x5_2.toInt.toNat x5_1) hI475  o477.1 o477.2.1 o477.2.2.1 o477.2.2.2.1 o477.2.2.2.2.1 o477.2.2.2.2.2 (by have := ti_add2 (Eq.refl x5_2.toInt) (by decide : ((1 : Int32)).toInt = 1) (by omega) (by omega); omega) (fun w9 hI9 hF9 => hE w9 hI9 ((FR.I (FR.refl _ w) (k := 17) (j := x5_2.toInt.toNat) (v := x5_1) rfl).tr hF9 rfl) ) (fun w9 hI9 hF9 q0 => q0.elim)
set_option maxRecDepth 20000 in
set_option maxHeartbeats 2000000 in
theorem h_Ar_fill0_17 {w : MW} {a0 : Int32} {Q : MW → Prop} (hI : BND w) (hp0 : 0 ≤ a0.toInt) (hp1 : a0.toInt ≤ 0) (hQ : ∀ (w' : MW), BND w' → FR l_Ar_fill0_17 w w' → Q w') : p_Ar_fill0_17 w a0 Q := by
  refine Eq.mpr (p_Ar_fill0_17.eq_1 _ _ _) ?_
  have o478 : (0 ≤ a0.toInt) ∧ (a0.toInt ≤ 0) ∧ (44 ≤ (44 : Int32).toInt) ∧ ((44 : Int32).toInt ≤ 44) ∧ (0 ≤ (0 : Int32).toInt) ∧ ((0 : Int32).toInt ≤ 44) := by have := (by decide : ((44 : Int32)).toInt = 44); have := (by decide : ((0 : Int32)).toInt = 0); exact ⟨by omega, by omega, by omega, by omega, by omega, by omega⟩
  refine hq_Ar_fill0_17_5 FU _ w hI  o478.1 o478.2.1 o478.2.2.1 o478.2.2.2.1 o478.2.2.2.2.1 o478.2.2.2.2.2 (fu_lt (by have := (by decide : ((44 : Int32)).toInt = 44); have := (by decide : ((0 : Int32)).toInt = 0); omega)) (fun w479 hI480 hL481  => ?_) (fun w9 hI9 hF9 q0 => q0.elim)
  have hF482 : FR l_Ar_fill0_17 w w479 := (FR.refl _ w).tr hL481 rfl
  exact hQ _ hI480 hF482 
def l_Ar_fill0_18_5 : Pl := [(18, none)]
def l_Ar_fill0_18 : Pl := [(18, none)]
set_option maxRecDepth 20000 in
set_option maxHeartbeats 2000000 in
theorem hq_Ar_fill0_18_5 {x5_1 : Int32} {x5_3 : Int32} {E : MW → Prop} {Q : MW → Prop} (n : Nat) : ∀ (x5_2 : Int32) (w : MW), BND w → 0 ≤ x5_1.toInt → x5_1.toInt ≤ 0 → 44 ≤ x5_3.toInt → x5_3.toInt ≤ 44 → 0 ≤ x5_2.toInt → x5_2.toInt ≤ 44 → (44 - x5_2.toInt).toNat < n → (∀ (w' : MW), BND w' → FR l_Ar_fill0_18_5 w w' → E w') → (∀ (w' : MW), BND w' → FR l_Ar_fill0_18_5 w w' → False → Q w') → q_Ar_fill0_18_5 x5_1 x5_3 E Q n x5_2 w := by
  induction n with
  | zero => intros; omega
  | succ n ih =>
    intro x5_2 w hI  hp0 hp1 hp2 hp3 hp4 hp5 hm hE hQ
    rw [q_Ar_fill0_18_5.eq_2]
    refine ⟨fun h483 => ?_, fun h483 => ?_⟩
    · exact hE _ hI (FR.refl _ w)
    · have o484 : 0 ≤ x5_2.toInt ∧ x5_2.toInt < 44 := by omega
      refine ⟨o484, ?_⟩
      have hI485 : BND (sI w 18 x5_2.toInt.toNat x5_1) := wbd_18 hI x5_2.toInt.toNat
      have o486 : (0 ≤ x5_1.toInt) ∧ (x5_1.toInt ≤ 0) ∧ (44 ≤ x5_3.toInt) ∧ (x5_3.toInt ≤ 44) ∧ (0 ≤ (x5_2 + (1 : Int32)).toInt) ∧ ((x5_2 + (1 : Int32)).toInt ≤ 44) := by have := ti_add2 (Eq.refl x5_2.toInt) (by decide : ((1 : Int32)).toInt = 1) (by omega) (by omega); exact ⟨by omega, by omega, by omega, by omega, by omega, by omega⟩
      exact ih _ (sI w 18 x5_2.toInt.toNat x5_1) hI485  o486.1 o486.2.1 o486.2.2.1 o486.2.2.2.1 o486.2.2.2.2.1 o486.2.2.2.2.2 (by have := ti_add2 (Eq.refl x5_2.toInt) (by decide : ((1 : Int32)).toInt = 1) (by omega) (by omega); omega) (fun w9 hI9 hF9 => hE w9 hI9 ((FR.I (FR.refl _ w) (k := 18) (j := x5_2.toInt.toNat) (v := x5_1) rfl).tr hF9 rfl) ) (fun w9 hI9 hF9 q0 => q0.elim)
set_option maxRecDepth 20000 in
set_option maxHeartbeats 2000000 in
theorem h_Ar_fill0_18 {w : MW} {a0 : Int32} {Q : MW → Prop} (hI : BND w) (hp0 : 0 ≤ a0.toInt) (hp1 : a0.toInt ≤ 0) (hQ : ∀ (w' : MW), BND w' → FR l_Ar_fill0_18 w w' → Q w') : p_Ar_fill0_18 w a0 Q := by
  refine Eq.mpr (p_Ar_fill0_18.eq_1 _ _ _) ?_
  have o487 : (0 ≤ a0.toInt) ∧ (a0.toInt ≤ 0) ∧ (44 ≤ (44 : Int32).toInt) ∧ ((44 : Int32).toInt ≤ 44) ∧ (0 ≤ (0 : Int32).toInt) ∧ ((0 : Int32).toInt ≤ 44) := by have := (by decide : ((44 : Int32)).toInt = 44); have := (by decide : ((0 : Int32)).toInt = 0); exact ⟨by omega, by omega, by omega, by omega, by omega, by omega⟩
  refine hq_Ar_fill0_18_5 FU _ w hI  o487.1 o487.2.1 o487.2.2.1 o487.2.2.2.1 o487.2.2.2.2.1 o487.2.2.2.2.2 (fu_lt (by have := (by decide : ((44 : Int32)).toInt = 44); have := (by decide : ((0 : Int32)).toInt = 0); omega)) (fun w488 hI489 hL490  => ?_) (fun w9 hI9 hF9 q0 => q0.elim)
  have hF491 : FR l_Ar_fill0_18 w w488 := (FR.refl _ w).tr hL490 rfl
  exact hQ _ hI489 hF491 
def l_Ar_fill0_19_5 : Pl := [(19, none)]
def l_Ar_fill0_19 : Pl := [(19, none)]
set_option maxRecDepth 20000 in
set_option maxHeartbeats 2000000 in
theorem hq_Ar_fill0_19_5 {x5_1 : Int32} {x5_3 : Int32} {E : MW → Prop} {Q : MW → Prop} (n : Nat) : ∀ (x5_2 : Int32) (w : MW), BND w → 0 ≤ x5_1.toInt → x5_1.toInt ≤ 0 → 44 ≤ x5_3.toInt → x5_3.toInt ≤ 44 → 0 ≤ x5_2.toInt → x5_2.toInt ≤ 44 → (44 - x5_2.toInt).toNat < n → (∀ (w' : MW), BND w' → FR l_Ar_fill0_19_5 w w' → E w') → (∀ (w' : MW), BND w' → FR l_Ar_fill0_19_5 w w' → False → Q w') → q_Ar_fill0_19_5 x5_1 x5_3 E Q n x5_2 w := by
  induction n with
  | zero => intros; omega
  | succ n ih =>
    intro x5_2 w hI  hp0 hp1 hp2 hp3 hp4 hp5 hm hE hQ
    rw [q_Ar_fill0_19_5.eq_2]
    refine ⟨fun h492 => ?_, fun h492 => ?_⟩
    · exact hE _ hI (FR.refl _ w)
    · have o493 : 0 ≤ x5_2.toInt ∧ x5_2.toInt < 44 := by omega
      refine ⟨o493, ?_⟩
      have o495 : 0 ≤ x5_1.toInt ∧ x5_1.toInt ≤ 14 := by omega
      have hI494 : BND (sI w 19 x5_2.toInt.toNat x5_1) := wbd_19 hI x5_2.toInt.toNat o495.1 o495.2
      have o496 : (0 ≤ x5_1.toInt) ∧ (x5_1.toInt ≤ 0) ∧ (44 ≤ x5_3.toInt) ∧ (x5_3.toInt ≤ 44) ∧ (0 ≤ (x5_2 + (1 : Int32)).toInt) ∧ ((x5_2 + (1 : Int32)).toInt ≤ 44) := by have := ti_add2 (Eq.refl x5_2.toInt) (by decide : ((1 : Int32)).toInt = 1) (by omega) (by omega); exact ⟨by omega, by omega, by omega, by omega, by omega, by omega⟩
      exact ih _ (sI w 19 x5_2.toInt.toNat x5_1) hI494  o496.1 o496.2.1 o496.2.2.1 o496.2.2.2.1 o496.2.2.2.2.1 o496.2.2.2.2.2 (by have := ti_add2 (Eq.refl x5_2.toInt) (by decide : ((1 : Int32)).toInt = 1) (by omega) (by omega); omega) (fun w9 hI9 hF9 => hE w9 hI9 ((FR.I (FR.refl _ w) (k := 19) (j := x5_2.toInt.toNat) (v := x5_1) rfl).tr hF9 rfl) ) (fun w9 hI9 hF9 q0 => q0.elim)
set_option maxRecDepth 20000 in
set_option maxHeartbeats 2000000 in
theorem h_Ar_fill0_19 {w : MW} {a0 : Int32} {Q : MW → Prop} (hI : BND w) (hp0 : 0 ≤ a0.toInt) (hp1 : a0.toInt ≤ 0) (hQ : ∀ (w' : MW), BND w' → FR l_Ar_fill0_19 w w' → Q w') : p_Ar_fill0_19 w a0 Q := by
  refine Eq.mpr (p_Ar_fill0_19.eq_1 _ _ _) ?_
  have o497 : (0 ≤ a0.toInt) ∧ (a0.toInt ≤ 0) ∧ (44 ≤ (44 : Int32).toInt) ∧ ((44 : Int32).toInt ≤ 44) ∧ (0 ≤ (0 : Int32).toInt) ∧ ((0 : Int32).toInt ≤ 44) := by have := (by decide : ((44 : Int32)).toInt = 44); have := (by decide : ((0 : Int32)).toInt = 0); exact ⟨by omega, by omega, by omega, by omega, by omega, by omega⟩
  refine hq_Ar_fill0_19_5 FU _ w hI  o497.1 o497.2.1 o497.2.2.1 o497.2.2.2.1 o497.2.2.2.2.1 o497.2.2.2.2.2 (fu_lt (by have := (by decide : ((44 : Int32)).toInt = 44); have := (by decide : ((0 : Int32)).toInt = 0); omega)) (fun w498 hI499 hL500  => ?_) (fun w9 hI9 hF9 q0 => q0.elim)
  have hF501 : FR l_Ar_fill0_19 w w498 := (FR.refl _ w).tr hL500 rfl
  exact hQ _ hI499 hF501 
def l_Ar_fill0_21_5 : Pl := [(21, none)]
def l_Ar_fill0_21 : Pl := [(21, none)]
set_option maxRecDepth 20000 in
set_option maxHeartbeats 2000000 in
theorem hq_Ar_fill0_21_5 {x5_1 : Int32} {x5_3 : Int32} {E : MW → Prop} {Q : MW → Prop} (n : Nat) : ∀ (x5_2 : Int32) (w : MW), BND w → 0 ≤ x5_1.toInt → x5_1.toInt ≤ 0 → 24 ≤ x5_3.toInt → x5_3.toInt ≤ 24 → 0 ≤ x5_2.toInt → x5_2.toInt ≤ 24 → (24 - x5_2.toInt).toNat < n → (∀ (w' : MW), BND w' → FR l_Ar_fill0_21_5 w w' → E w') → (∀ (w' : MW), BND w' → FR l_Ar_fill0_21_5 w w' → False → Q w') → q_Ar_fill0_21_5 x5_1 x5_3 E Q n x5_2 w := by
  induction n with
  | zero => intros; omega
  | succ n ih =>
    intro x5_2 w hI  hp0 hp1 hp2 hp3 hp4 hp5 hm hE hQ
    rw [q_Ar_fill0_21_5.eq_2]
    refine ⟨fun h502 => ?_, fun h502 => ?_⟩
    · exact hE _ hI (FR.refl _ w)
    · have o503 : 0 ≤ x5_2.toInt ∧ x5_2.toInt < 24 := by omega
      refine ⟨o503, ?_⟩
      have o505 : 0 ≤ x5_1.toInt ∧ x5_1.toInt ≤ 199 := by omega
      have hI504 : BND (sI w 21 x5_2.toInt.toNat x5_1) := wbd_21 hI x5_2.toInt.toNat o505.1 o505.2
      have o506 : (0 ≤ x5_1.toInt) ∧ (x5_1.toInt ≤ 0) ∧ (24 ≤ x5_3.toInt) ∧ (x5_3.toInt ≤ 24) ∧ (0 ≤ (x5_2 + (1 : Int32)).toInt) ∧ ((x5_2 + (1 : Int32)).toInt ≤ 24) := by have := ti_add2 (Eq.refl x5_2.toInt) (by decide : ((1 : Int32)).toInt = 1) (by omega) (by omega); exact ⟨by omega, by omega, by omega, by omega, by omega, by omega⟩
      exact ih _ (sI w 21 x5_2.toInt.toNat x5_1) hI504  o506.1 o506.2.1 o506.2.2.1 o506.2.2.2.1 o506.2.2.2.2.1 o506.2.2.2.2.2 (by have := ti_add2 (Eq.refl x5_2.toInt) (by decide : ((1 : Int32)).toInt = 1) (by omega) (by omega); omega) (fun w9 hI9 hF9 => hE w9 hI9 ((FR.I (FR.refl _ w) (k := 21) (j := x5_2.toInt.toNat) (v := x5_1) rfl).tr hF9 rfl) ) (fun w9 hI9 hF9 q0 => q0.elim)
set_option maxRecDepth 20000 in
set_option maxHeartbeats 2000000 in
theorem h_Ar_fill0_21 {w : MW} {a0 : Int32} {Q : MW → Prop} (hI : BND w) (hp0 : 0 ≤ a0.toInt) (hp1 : a0.toInt ≤ 0) (hQ : ∀ (w' : MW), BND w' → FR l_Ar_fill0_21 w w' → Q w') : p_Ar_fill0_21 w a0 Q := by
  refine Eq.mpr (p_Ar_fill0_21.eq_1 _ _ _) ?_
  have o507 : (0 ≤ a0.toInt) ∧ (a0.toInt ≤ 0) ∧ (24 ≤ (24 : Int32).toInt) ∧ ((24 : Int32).toInt ≤ 24) ∧ (0 ≤ (0 : Int32).toInt) ∧ ((0 : Int32).toInt ≤ 24) := by have := (by decide : ((24 : Int32)).toInt = 24); have := (by decide : ((0 : Int32)).toInt = 0); exact ⟨by omega, by omega, by omega, by omega, by omega, by omega⟩
  refine hq_Ar_fill0_21_5 FU _ w hI  o507.1 o507.2.1 o507.2.2.1 o507.2.2.2.1 o507.2.2.2.2.1 o507.2.2.2.2.2 (fu_lt (by have := (by decide : ((24 : Int32)).toInt = 24); have := (by decide : ((0 : Int32)).toInt = 0); omega)) (fun w508 hI509 hL510  => ?_) (fun w9 hI9 hF9 q0 => q0.elim)
  have hF511 : FR l_Ar_fill0_21 w w508 := (FR.refl _ w).tr hL510 rfl
  exact hQ _ hI509 hF511 
def l_Ar_fill0_23_5 : Pl := [(23, none)]
def l_Ar_fill0_23 : Pl := [(23, none)]
set_option maxRecDepth 20000 in
set_option maxHeartbeats 2000000 in
theorem hq_Ar_fill0_23_5 {x5_1 : Int32} {x5_3 : Int32} {E : MW → Prop} {Q : MW → Prop} (n : Nat) : ∀ (x5_2 : Int32) (w : MW), BND w → (-1) ≤ x5_1.toInt → x5_1.toInt ≤ (-1) → 264 ≤ x5_3.toInt → x5_3.toInt ≤ 264 → 0 ≤ x5_2.toInt → x5_2.toInt ≤ 264 → (264 - x5_2.toInt).toNat < n → (∀ (w' : MW), BND w' → FR l_Ar_fill0_23_5 w w' → E w') → (∀ (w' : MW), BND w' → FR l_Ar_fill0_23_5 w w' → False → Q w') → q_Ar_fill0_23_5 x5_1 x5_3 E Q n x5_2 w := by
  induction n with
  | zero => intros; omega
  | succ n ih =>
    intro x5_2 w hI  hp0 hp1 hp2 hp3 hp4 hp5 hm hE hQ
    rw [q_Ar_fill0_23_5.eq_2]
    refine ⟨fun h512 => ?_, fun h512 => ?_⟩
    · exact hE _ hI (FR.refl _ w)
    · have o513 : 0 ≤ x5_2.toInt ∧ x5_2.toInt < 264 := by omega
      refine ⟨o513, ?_⟩
      have hI514 : BND (sI w 23 x5_2.toInt.toNat x5_1) := wbd_23 hI x5_2.toInt.toNat
      have o515 : ((-1) ≤ x5_1.toInt) ∧ (x5_1.toInt ≤ (-1)) ∧ (264 ≤ x5_3.toInt) ∧ (x5_3.toInt ≤ 264) ∧ (0 ≤ (x5_2 + (1 : Int32)).toInt) ∧ ((x5_2 + (1 : Int32)).toInt ≤ 264) := by have := ti_add2 (Eq.refl x5_2.toInt) (by decide : ((1 : Int32)).toInt = 1) (by omega) (by omega); exact ⟨by omega, by omega, by omega, by omega, by omega, by omega⟩
      exact ih _ (sI w 23 x5_2.toInt.toNat x5_1) hI514  o515.1 o515.2.1 o515.2.2.1 o515.2.2.2.1 o515.2.2.2.2.1 o515.2.2.2.2.2 (by have := ti_add2 (Eq.refl x5_2.toInt) (by decide : ((1 : Int32)).toInt = 1) (by omega) (by omega); omega) (fun w9 hI9 hF9 => hE w9 hI9 ((FR.I (FR.refl _ w) (k := 23) (j := x5_2.toInt.toNat) (v := x5_1) rfl).tr hF9 rfl) ) (fun w9 hI9 hF9 q0 => q0.elim)
set_option maxRecDepth 20000 in
set_option maxHeartbeats 2000000 in
theorem h_Ar_fill0_23 {w : MW} {a0 : Int32} {Q : MW → Prop} (hI : BND w) (hp0 : (-1) ≤ a0.toInt) (hp1 : a0.toInt ≤ (-1)) (hQ : ∀ (w' : MW), BND w' → FR l_Ar_fill0_23 w w' → Q w') : p_Ar_fill0_23 w a0 Q := by
  refine Eq.mpr (p_Ar_fill0_23.eq_1 _ _ _) ?_
  have o516 : ((-1) ≤ a0.toInt) ∧ (a0.toInt ≤ (-1)) ∧ (264 ≤ (264 : Int32).toInt) ∧ ((264 : Int32).toInt ≤ 264) ∧ (0 ≤ (0 : Int32).toInt) ∧ ((0 : Int32).toInt ≤ 264) := by have := (by decide : ((264 : Int32)).toInt = 264); have := (by decide : ((0 : Int32)).toInt = 0); exact ⟨by omega, by omega, by omega, by omega, by omega, by omega⟩
  refine hq_Ar_fill0_23_5 FU _ w hI  o516.1 o516.2.1 o516.2.2.1 o516.2.2.2.1 o516.2.2.2.2.1 o516.2.2.2.2.2 (fu_lt (by have := (by decide : ((264 : Int32)).toInt = 264); have := (by decide : ((0 : Int32)).toInt = 0); omega)) (fun w517 hI518 hL519  => ?_) (fun w9 hI9 hF9 q0 => q0.elim)
  have hF520 : FR l_Ar_fill0_23 w w517 := (FR.refl _ w).tr hL519 rfl
  exact hQ _ hI518 hF520 
def l_Ar_fill1_20_6 : Pl := [(20, none)]
def l_Ar_fill1_20 : Pl := [(20, none)]
set_option maxRecDepth 20000 in
set_option maxHeartbeats 2000000 in
theorem hq_Ar_fill1_20_6 {x6_1 : Int64} {x6_4 : Int32} {E : MW → Prop} {Q : MW → Prop} (n : Nat) : ∀ (x6_3 : Int32) (w : MW), BND w → 0 ≤ x6_1.toInt → x6_1.toInt ≤ 0 → 96 ≤ x6_4.toInt → x6_4.toInt ≤ 96 → 0 ≤ x6_3.toInt → x6_3.toInt ≤ 96 → (96 - x6_3.toInt).toNat < n → (∀ (w' : MW), BND w' → FR l_Ar_fill1_20_6 w w' → E w') → (∀ (w' : MW), BND w' → FR l_Ar_fill1_20_6 w w' → False → Q w') → q_Ar_fill1_20_6 x6_1 x6_4 E Q n x6_3 w := by
  induction n with
  | zero => intros; omega
  | succ n ih =>
    intro x6_3 w hI  hp0 hp1 hp2 hp3 hp4 hp5 hm hE hQ
    rw [q_Ar_fill1_20_6.eq_2]
    refine ⟨fun h521 => ?_, fun h521 => ?_⟩
    · exact hE _ hI (FR.refl _ w)
    · have o522 : 0 ≤ x6_3.toInt ∧ x6_3.toInt < 96 := by omega
      refine ⟨o522, ?_⟩
      have o523 : (0 ≤ x6_1.toInt) ∧ (x6_1.toInt ≤ 0) ∧ (96 ≤ x6_4.toInt) ∧ (x6_4.toInt ≤ 96) ∧ (0 ≤ (x6_3 + (1 : Int32)).toInt) ∧ ((x6_3 + (1 : Int32)).toInt ≤ 96) := by have := ti_add2 (Eq.refl x6_3.toInt) (by decide : ((1 : Int32)).toInt = 1) (by omega) (by omega); exact ⟨by omega, by omega, by omega, by omega, by omega, by omega⟩
      exact ih _ (sJ w 20 x6_3.toInt.toNat x6_1) (bnd_J hI (k := 20) (j := x6_3.toInt.toNat) (v := x6_1))  o523.1 o523.2.1 o523.2.2.1 o523.2.2.2.1 o523.2.2.2.2.1 o523.2.2.2.2.2 (by have := ti_add2 (Eq.refl x6_3.toInt) (by decide : ((1 : Int32)).toInt = 1) (by omega) (by omega); omega) (fun w9 hI9 hF9 => hE w9 hI9 ((FR.J (FR.refl _ w) (k := 20) (j := x6_3.toInt.toNat) (v := x6_1) rfl).tr hF9 rfl) ) (fun w9 hI9 hF9 q0 => q0.elim)
set_option maxRecDepth 20000 in
set_option maxHeartbeats 2000000 in
theorem h_Ar_fill1_20 {w : MW} {a0 : Int64} {Q : MW → Prop} (hI : BND w) (hp0 : 0 ≤ a0.toInt) (hp1 : a0.toInt ≤ 0) (hQ : ∀ (w' : MW), BND w' → FR l_Ar_fill1_20 w w' → Q w') : p_Ar_fill1_20 w a0 Q := by
  refine Eq.mpr (p_Ar_fill1_20.eq_1 _ _ _) ?_
  have o524 : (0 ≤ a0.toInt) ∧ (a0.toInt ≤ 0) ∧ (96 ≤ (96 : Int32).toInt) ∧ ((96 : Int32).toInt ≤ 96) ∧ (0 ≤ (0 : Int32).toInt) ∧ ((0 : Int32).toInt ≤ 96) := by have := (by decide : ((96 : Int32)).toInt = 96); have := (by decide : ((0 : Int32)).toInt = 0); exact ⟨by omega, by omega, by omega, by omega, by omega, by omega⟩
  refine hq_Ar_fill1_20_6 FU _ w hI  o524.1 o524.2.1 o524.2.2.1 o524.2.2.2.1 o524.2.2.2.2.1 o524.2.2.2.2.2 (fu_lt (by have := (by decide : ((96 : Int32)).toInt = 96); have := (by decide : ((0 : Int32)).toInt = 0); omega)) (fun w525 hI526 hL527  => ?_) (fun w9 hI9 hF9 q0 => q0.elim)
  have hF528 : FR l_Ar_fill1_20 w w525 := (FR.refl _ w).tr hL527 rfl
  exact hQ _ hI526 hF528 
def l_Ar_fill0_37_5 : Pl := [(37, none)]
def l_Ar_fill0_37 : Pl := [(37, none)]
set_option maxRecDepth 20000 in
set_option maxHeartbeats 2000000 in
theorem hq_Ar_fill0_37_5 {x5_1 : Int32} {x5_3 : Int32} {E : MW → Prop} {Q : MW → Prop} (n : Nat) : ∀ (x5_2 : Int32) (w : MW), BND w → 0 ≤ x5_1.toInt → x5_1.toInt ≤ 0 → 20 ≤ x5_3.toInt → x5_3.toInt ≤ 20 → 0 ≤ x5_2.toInt → x5_2.toInt ≤ 20 → (20 - x5_2.toInt).toNat < n → (∀ (w' : MW), BND w' → FR l_Ar_fill0_37_5 w w' → E w') → (∀ (w' : MW), BND w' → FR l_Ar_fill0_37_5 w w' → False → Q w') → q_Ar_fill0_37_5 x5_1 x5_3 E Q n x5_2 w := by
  induction n with
  | zero => intros; omega
  | succ n ih =>
    intro x5_2 w hI  hp0 hp1 hp2 hp3 hp4 hp5 hm hE hQ
    rw [q_Ar_fill0_37_5.eq_2]
    refine ⟨fun h529 => ?_, fun h529 => ?_⟩
    · exact hE _ hI (FR.refl _ w)
    · have o530 : 0 ≤ x5_2.toInt ∧ x5_2.toInt < 20 := by omega
      refine ⟨o530, ?_⟩
      have hI531 : BND (sI w 37 x5_2.toInt.toNat x5_1) := wbd_37 hI x5_2.toInt.toNat
      have o532 : (0 ≤ x5_1.toInt) ∧ (x5_1.toInt ≤ 0) ∧ (20 ≤ x5_3.toInt) ∧ (x5_3.toInt ≤ 20) ∧ (0 ≤ (x5_2 + (1 : Int32)).toInt) ∧ ((x5_2 + (1 : Int32)).toInt ≤ 20) := by have := ti_add2 (Eq.refl x5_2.toInt) (by decide : ((1 : Int32)).toInt = 1) (by omega) (by omega); exact ⟨by omega, by omega, by omega, by omega, by omega, by omega⟩
      exact ih _ (sI w 37 x5_2.toInt.toNat x5_1) hI531  o532.1 o532.2.1 o532.2.2.1 o532.2.2.2.1 o532.2.2.2.2.1 o532.2.2.2.2.2 (by have := ti_add2 (Eq.refl x5_2.toInt) (by decide : ((1 : Int32)).toInt = 1) (by omega) (by omega); omega) (fun w9 hI9 hF9 => hE w9 hI9 ((FR.I (FR.refl _ w) (k := 37) (j := x5_2.toInt.toNat) (v := x5_1) rfl).tr hF9 rfl) ) (fun w9 hI9 hF9 q0 => q0.elim)
set_option maxRecDepth 20000 in
set_option maxHeartbeats 2000000 in
theorem h_Ar_fill0_37 {w : MW} {a0 : Int32} {Q : MW → Prop} (hI : BND w) (hp0 : 0 ≤ a0.toInt) (hp1 : a0.toInt ≤ 0) (hQ : ∀ (w' : MW), BND w' → FR l_Ar_fill0_37 w w' → Q w') : p_Ar_fill0_37 w a0 Q := by
  refine Eq.mpr (p_Ar_fill0_37.eq_1 _ _ _) ?_
  have o533 : (0 ≤ a0.toInt) ∧ (a0.toInt ≤ 0) ∧ (20 ≤ (20 : Int32).toInt) ∧ ((20 : Int32).toInt ≤ 20) ∧ (0 ≤ (0 : Int32).toInt) ∧ ((0 : Int32).toInt ≤ 20) := by have := (by decide : ((20 : Int32)).toInt = 20); have := (by decide : ((0 : Int32)).toInt = 0); exact ⟨by omega, by omega, by omega, by omega, by omega, by omega⟩
  refine hq_Ar_fill0_37_5 FU _ w hI  o533.1 o533.2.1 o533.2.2.1 o533.2.2.2.1 o533.2.2.2.2.1 o533.2.2.2.2.2 (fu_lt (by have := (by decide : ((20 : Int32)).toInt = 20); have := (by decide : ((0 : Int32)).toInt = 0); omega)) (fun w534 hI535 hL536  => ?_) (fun w9 hI9 hF9 q0 => q0.elim)
  have hF537 : FR l_Ar_fill0_37 w w534 := (FR.refl _ w).tr hL536 rfl
  exact hQ _ hI535 hF537 
def l_Wa_forget_7 : Pl := [(36, none)]
def l_Wa_forget : Pl := [(26, some 1), (36, none), (37, none)]
set_option maxRecDepth 20000 in
set_option maxHeartbeats 2000000 in
theorem hq_Wa_forget_7 {E : MW → Prop} {Q : MW → Prop} (n : Nat) : ∀ (x7_1 : Int32) (w : MW), BND w → 0 ≤ x7_1.toInt → x7_1.toInt ≤ 24 → (24 - x7_1.toInt).toNat < n → (∀ (w' : MW), BND w' → FR l_Wa_forget_7 w w' → E w') → (∀ (w' : MW), BND w' → FR l_Wa_forget_7 w w' → False → Q w') → q_Wa_forget_7 E Q n x7_1 w := by
  induction n with
  | zero => intros; omega
  | succ n ih =>
    intro x7_1 w hI  hp0 hp1 hm hE hQ
    rw [q_Wa_forget_7.eq_2]
    refine ⟨fun h538 => ?_, fun h538 => ?_⟩
    · exact hE _ hI (FR.refl _ w)
    · have o539 : 0 ≤ x7_1.toInt ∧ x7_1.toInt < 24 := by have := (by decide : ((24 : Int32)).toInt = 24); omega
      refine ⟨o539, ?_⟩
      have o541 : 0 ≤ (vp_nar .boolean (0 : Int32)).toInt ∧ (vp_nar .boolean (0 : Int32)).toInt ≤ 1 := by have := nb_bool0; omega
      have hI540 : BND (sI w 36 x7_1.toInt.toNat (vp_nar .boolean (0 : Int32))) := wbd_36 hI x7_1.toInt.toNat o541.1 o541.2
      have o542 : (0 ≤ (x7_1 + (1 : Int32)).toInt) ∧ ((x7_1 + (1 : Int32)).toInt ≤ 24) := by have := (by decide : ((24 : Int32)).toInt = 24); have := ti_add2 (Eq.refl x7_1.toInt) (by decide : ((1 : Int32)).toInt = 1) (by omega) (by omega); exact ⟨by omega, by omega⟩
      exact ih _ (sI w 36 x7_1.toInt.toNat (vp_nar .boolean (0 : Int32))) hI540  o542.1 o542.2 (by have := (by decide : ((24 : Int32)).toInt = 24); have := ti_add2 (Eq.refl x7_1.toInt) (by decide : ((1 : Int32)).toInt = 1) (by omega) (by omega); omega) (fun w9 hI9 hF9 => hE w9 hI9 ((FR.I (FR.refl _ w) (k := 36) (j := x7_1.toInt.toNat) (v := (vp_nar .boolean (0 : Int32))) rfl).tr hF9 rfl) ) (fun w9 hI9 hF9 q0 => q0.elim)
set_option maxRecDepth 20000 in
set_option maxHeartbeats 2000000 in
theorem h_Wa_forget {w : MW} {Q : MW → Prop} (hI : BND w)  (hQ : ∀ (w' : MW), BND w' → FR l_Wa_forget w w' → Q w') : p_Wa_forget w Q := by
  refine Eq.mpr (p_Wa_forget.eq_1 _ _) ?_
  have hI543 : BND (sI w 26 1 0) := wbd_26_1 hI (by decide) (by decide)
  have o544 : (0 ≤ (0 : Int32).toInt) ∧ ((0 : Int32).toInt ≤ 24) := by have := (by decide : ((0 : Int32)).toInt = 0); exact ⟨by omega, by omega⟩
  refine hq_Wa_forget_7 FU _ (sI w 26 1 0) hI543  o544.1 o544.2 (fu_lt (by have := (by decide : ((0 : Int32)).toInt = 0); omega)) (fun w545 hI546 hL547  => ?_) (fun w9 hI9 hF9 q0 => q0.elim)
  have hF548 : FR l_Wa_forget w w545 := (FR.I (FR.refl _ w) (k := 26) (j := 1) (v := 0) rfl).tr hL547 rfl
  have o549 : (0 ≤ (0 : Int32).toInt) ∧ ((0 : Int32).toInt ≤ 0) := by have := (by decide : ((0 : Int32)).toInt = 0); exact ⟨by omega, by omega⟩
  refine h_Ar_fill0_37 hI546  o549.1 o549.2 (fun w550 hI551 hL552  => ?_)
  have hF554 : FR l_Wa_forget w w550 := hF548.tr hL552 rfl
  exact hQ _ hI551 hF554 
def l_Pl_addThings91_43 : Pl := [(98, none)]
def l_Pl_addThings91 : Pl := [(91, some 0), (92, none), (93, none), (94, none), (98, none)]
set_option maxRecDepth 20000 in
set_option maxHeartbeats 2000000 in
theorem h_Pl_addThings91 {w : MW} {a0 : Int32} {b0 : Int32} {Q : Int32 → MW → Prop} (hI : BND w) (hf_PE9 : PE9 w) (hf_PJ9 : PJ9 w) (hf_PL9 : PL9 w) (hp0 : 0 ≤ a0.toInt) (hp1 : a0.toInt ≤ 9) (hp2 : 0 ≤ b0.toInt) (hp3 : b0.toInt ≤ 100000) (hQ : ∀ (r : Int32) (w' : MW), BND w' → FR l_Pl_addThings91 w w' → (r.toInt = 0 ∨ PE9 w') → (r.toInt = 0 ∨ PJ9 w') → (r.toInt = 0 ∨ PL9 w') → 0 ≤ r.toInt → r.toInt ≤ 1 → Q r w') : p_Pl_addThings91 w a0 b0 Q := by
  refine Eq.mpr (p_Pl_addThings91.eq_1 _ _ _ _) ?_
  refine ⟨fun h555 => ?_, fun h555 => ?_⟩
  · replace h555 : (w.1 91 0).toInt < 20 := h555
    have o556 : 0 ≤ (w.1 91 0).toInt ∧ (w.1 91 0).toInt < 20 := by have := bd_91_0 hI; have := (by decide : ((20 : Int32)).toInt = 20); omega
    refine ⟨o556, ?_⟩
    have o557 : 0 ≤ (w.1 91 0).toInt ∧ (w.1 91 0).toInt < 20 := by have := bd_91_0 hI; have := (by decide : ((20 : Int32)).toInt = 20); omega
    refine ⟨o557, ?_⟩
    have o558 : 0 ≤ (w.1 91 0).toInt ∧ (w.1 91 0).toInt < 20 := by have := bd_91_0 hI; have := (by decide : ((20 : Int32)).toInt = 20); omega
    refine ⟨o558, ?_⟩
    refine Eq.mpr (q_Pl_addThings91_43.eq_2 ..) ?_
    refine ⟨fun h => absurd h (by decide), fun _ => ?_⟩
    have o559 : 0 ≤ (((w.1 91 0) * (4 : Int32)) + (0 : Int32)).toInt ∧ (((w.1 91 0) * (4 : Int32)) + (0 : Int32)).toInt < 80 := by have := bd_91_0 hI; have := (by decide : ((20 : Int32)).toInt = 20); have := ti_mul2 (Eq.refl (w.1 91 0).toInt) (by decide : ((4 : Int32)).toInt = 4) (by omega) (by omega); have := ti_add2 (Eq.refl ((w.1 91 0) * (4 : Int32)).toInt) (by decide : ((0 : Int32)).toInt = 0) (by omega) (by omega); omega
    refine ⟨o559, ?_⟩
    refine Eq.mpr (q_Pl_addThings91_43.eq_2 ..) ?_
    refine ⟨fun h560 => ?_, fun h560 => ?_⟩
    · replace h560 : 4 ≤ ((0 : Int32) + (1 : Int32)).toInt := h560
      exfalso; have := bd_91_0 hI; have := (by decide : ((20 : Int32)).toInt = 20); have := (by decide : ((4 : Int32)).toInt = 4); have := ti_add2 (by decide : ((0 : Int32)).toInt = 0) (by decide : ((1 : Int32)).toInt = 1) (by omega) (by omega); omega
    · replace h560 : ¬ (4 ≤ ((0 : Int32) + (1 : Int32)).toInt) := h560
      have o561 : 0 ≤ (((w.1 91 0) * (4 : Int32)) + ((0 : Int32) + (1 : Int32))).toInt ∧ (((w.1 91 0) * (4 : Int32)) + ((0 : Int32) + (1 : Int32))).toInt < 80 := by have := bd_91_0 hI; have := (by decide : ((20 : Int32)).toInt = 20); have := ti_mul2 (Eq.refl (w.1 91 0).toInt) (by decide : ((4 : Int32)).toInt = 4) (by omega) (by omega); have := ti_add2 (by decide : ((0 : Int32)).toInt = 0) (by decide : ((1 : Int32)).toInt = 1) (by omega) (by omega); have := ti_add2 (Eq.refl ((w.1 91 0) * (4 : Int32)).toInt) (Eq.refl ((0 : Int32) + (1 : Int32)).toInt) (by omega) (by omega); omega
      refine ⟨o561, ?_⟩
      refine Eq.mpr (q_Pl_addThings91_43.eq_2 ..) ?_
      refine ⟨fun h562 => ?_, fun h562 => ?_⟩
      · replace h562 : 4 ≤ (((0 : Int32) + (1 : Int32)) + (1 : Int32)).toInt := h562
        exfalso; have := bd_91_0 hI; have := (by decide : ((20 : Int32)).toInt = 20); have := (by decide : ((4 : Int32)).toInt = 4); have := ti_add2 (by decide : ((0 : Int32)).toInt = 0) (by decide : ((1 : Int32)).toInt = 1) (by omega) (by omega); have := ti_add2 (Eq.refl ((0 : Int32) + (1 : Int32)).toInt) (by decide : ((1 : Int32)).toInt = 1) (by omega) (by omega); omega
      · replace h562 : ¬ (4 ≤ (((0 : Int32) + (1 : Int32)) + (1 : Int32)).toInt) := h562
        have o563 : 0 ≤ (((w.1 91 0) * (4 : Int32)) + (((0 : Int32) + (1 : Int32)) + (1 : Int32))).toInt ∧ (((w.1 91 0) * (4 : Int32)) + (((0 : Int32) + (1 : Int32)) + (1 : Int32))).toInt < 80 := by have := bd_91_0 hI; have := (by decide : ((20 : Int32)).toInt = 20); have := ti_mul2 (Eq.refl (w.1 91 0).toInt) (by decide : ((4 : Int32)).toInt = 4) (by omega) (by omega); have := ti_add2 (by decide : ((0 : Int32)).toInt = 0) (by decide : ((1 : Int32)).toInt = 1) (by omega) (by omega); have := ti_add2 (Eq.refl ((0 : Int32) + (1 : Int32)).toInt) (by decide : ((1 : Int32)).toInt = 1) (by omega) (by omega); have := ti_add2 (Eq.refl ((w.1 91 0) * (4 : Int32)).toInt) (Eq.refl (((0 : Int32) + (1 : Int32)) + (1 : Int32)).toInt) (by omega) (by omega); omega
        refine ⟨o563, ?_⟩
        refine Eq.mpr (q_Pl_addThings91_43.eq_2 ..) ?_
        refine ⟨fun h564 => ?_, fun h564 => ?_⟩
        · replace h564 : 4 ≤ ((((0 : Int32) + (1 : Int32)) + (1 : Int32)) + (1 : Int32)).toInt := h564
          exfalso; have := bd_91_0 hI; have := (by decide : ((20 : Int32)).toInt = 20); have := (by decide : ((4 : Int32)).toInt = 4); have := ti_add2 (by decide : ((0 : Int32)).toInt = 0) (by decide : ((1 : Int32)).toInt = 1) (by omega) (by omega); have := ti_add2 (Eq.refl ((0 : Int32) + (1 : Int32)).toInt) (by decide : ((1 : Int32)).toInt = 1) (by omega) (by omega); have := ti_add2 (Eq.refl (((0 : Int32) + (1 : Int32)) + (1 : Int32)).toInt) (by decide : ((1 : Int32)).toInt = 1) (by omega) (by omega); omega
        · replace h564 : ¬ (4 ≤ ((((0 : Int32) + (1 : Int32)) + (1 : Int32)) + (1 : Int32)).toInt) := h564
          have o565 : 0 ≤ (((w.1 91 0) * (4 : Int32)) + ((((0 : Int32) + (1 : Int32)) + (1 : Int32)) + (1 : Int32))).toInt ∧ (((w.1 91 0) * (4 : Int32)) + ((((0 : Int32) + (1 : Int32)) + (1 : Int32)) + (1 : Int32))).toInt < 80 := by have := bd_91_0 hI; have := (by decide : ((20 : Int32)).toInt = 20); have := ti_mul2 (Eq.refl (w.1 91 0).toInt) (by decide : ((4 : Int32)).toInt = 4) (by omega) (by omega); have := ti_add2 (by decide : ((0 : Int32)).toInt = 0) (by decide : ((1 : Int32)).toInt = 1) (by omega) (by omega); have := ti_add2 (Eq.refl ((0 : Int32) + (1 : Int32)).toInt) (by decide : ((1 : Int32)).toInt = 1) (by omega) (by omega); have := ti_add2 (Eq.refl (((0 : Int32) + (1 : Int32)) + (1 : Int32)).toInt) (by decide : ((1 : Int32)).toInt = 1) (by omega) (by omega); have := ti_add2 (Eq.refl ((w.1 91 0) * (4 : Int32)).toInt) (Eq.refl ((((0 : Int32) + (1 : Int32)) + (1 : Int32)) + (1 : Int32)).toInt) (by omega) (by omega); omega
          refine ⟨o565, ?_⟩
          refine Eq.mpr (q_Pl_addThings91_43.eq_2 ..) ?_
          refine ⟨fun h566 => ?_, fun h566 => ?_⟩
          · replace h566 : 4 ≤ (((((0 : Int32) + (1 : Int32)) + (1 : Int32)) + (1 : Int32)) + (1 : Int32)).toInt := h566
            skip
            have o568 : 0 ≤ a0.toInt ∧ a0.toInt ≤ 9 := by omega
            have hI567 : BND (sI w 92 ((w.1 91 0).toInt.toNat) a0) := wbd_92 hI ((w.1 91 0).toInt.toNat) o568.1 o568.2
            have o570 : 0 ≤ b0.toInt ∧ b0.toInt ≤ 100000 := by omega
            have hI569 : BND (sI (sI w 92 ((w.1 91 0).toInt.toNat) a0) 93 ((w.1 91 0).toInt.toNat) b0) := wbd_93 hI567 ((w.1 91 0).toInt.toNat) o570.1 o570.2
            have hI571 : BND (sI (sI (sI w 92 ((w.1 91 0).toInt.toNat) a0) 93 ((w.1 91 0).toInt.toNat) b0) 94 ((w.1 91 0).toInt.toNat) 0) := wbd_94 hI569 ((w.1 91 0).toInt.toNat) (by decide) (by decide)
            have hI572 : BND (sI (sI (sI (sI w 92 ((w.1 91 0).toInt.toNat) a0) 93 ((w.1 91 0).toInt.toNat) b0) 94 ((w.1 91 0).toInt.toNat) 0) 98 ((((w.1 91 0) * (4 : Int32)) + (0 : Int32)).toInt.toNat) (-1)) := wbd_98 hI571 ((((w.1 91 0) * (4 : Int32)) + (0 : Int32)).toInt.toNat) (by decide) (by decide)
            have hI573 : BND (sI (sI (sI (sI (sI w 92 ((w.1 91 0).toInt.toNat) a0) 93 ((w.1 91 0).toInt.toNat) b0) 94 ((w.1 91 0).toInt.toNat) 0) 98 ((((w.1 91 0) * (4 : Int32)) + (0 : Int32)).toInt.toNat) (-1)) 98 ((((w.1 91 0) * (4 : Int32)) + ((0 : Int32) + (1 : Int32))).toInt.toNat) (-1)) := wbd_98 hI572 ((((w.1 91 0) * (4 : Int32)) + ((0 : Int32) + (1 : Int32))).toInt.toNat) (by decide) (by decide)
            have hI574 : BND (sI (sI (sI (sI (sI (sI w 92 ((w.1 91 0).toInt.toNat) a0) 93 ((w.1 91 0).toInt.toNat) b0) 94 ((w.1 91 0).toInt.toNat) 0) 98 ((((w.1 91 0) * (4 : Int32)) + (0 : Int32)).toInt.toNat) (-1)) 98 ((((w.1 91 0) * (4 : Int32)) + ((0 : Int32) + (1 : Int32))).toInt.toNat) (-1)) 98 ((((w.1 91 0) * (4 : Int32)) + (((0 : Int32) + (1 : Int32)) + (1 : Int32))).toInt.toNat) (-1)) := wbd_98 hI573 ((((w.1 91 0) * (4 : Int32)) + (((0 : Int32) + (1 : Int32)) + (1 : Int32))).toInt.toNat) (by decide) (by decide)
            have hI575 : BND (sI (sI (sI (sI (sI (sI (sI w 92 ((w.1 91 0).toInt.toNat) a0) 93 ((w.1 91 0).toInt.toNat) b0) 94 ((w.1 91 0).toInt.toNat) 0) 98 ((((w.1 91 0) * (4 : Int32)) + (0 : Int32)).toInt.toNat) (-1)) 98 ((((w.1 91 0) * (4 : Int32)) + ((0 : Int32) + (1 : Int32))).toInt.toNat) (-1)) 98 ((((w.1 91 0) * (4 : Int32)) + (((0 : Int32) + (1 : Int32)) + (1 : Int32))).toInt.toNat) (-1)) 98 ((((w.1 91 0) * (4 : Int32)) + ((((0 : Int32) + (1 : Int32)) + (1 : Int32)) + (1 : Int32))).toInt.toNat) (-1)) := wbd_98 hI574 ((((w.1 91 0) * (4 : Int32)) + ((((0 : Int32) + (1 : Int32)) + (1 : Int32)) + (1 : Int32))).toInt.toNat) (by decide) (by decide)
            have o577 : 0 ≤ ((w.1 91 0) + (1 : Int32)).toInt ∧ ((w.1 91 0) + (1 : Int32)).toInt ≤ 20 := by have := bd_91_0 hI; have := (by decide : ((20 : Int32)).toInt = 20); have := ti_add2 (Eq.refl (w.1 91 0).toInt) (by decide : ((1 : Int32)).toInt = 1) (by omega) (by omega); omega
            have hI576 : BND (sI (sI (sI (sI (sI (sI (sI (sI w 92 ((w.1 91 0).toInt.toNat) a0) 93 ((w.1 91 0).toInt.toNat) b0) 94 ((w.1 91 0).toInt.toNat) 0) 98 ((((w.1 91 0) * (4 : Int32)) + (0 : Int32)).toInt.toNat) (-1)) 98 ((((w.1 91 0) * (4 : Int32)) + ((0 : Int32) + (1 : Int32))).toInt.toNat) (-1)) 98 ((((w.1 91 0) * (4 : Int32)) + (((0 : Int32) + (1 : Int32)) + (1 : Int32))).toInt.toNat) (-1)) 98 ((((w.1 91 0) * (4 : Int32)) + ((((0 : Int32) + (1 : Int32)) + (1 : Int32)) + (1 : Int32))).toInt.toNat) (-1)) 91 0 ((w.1 91 0) + (1 : Int32))) := wbd_91_0 hI575 o577.1 o577.2
            have hW578 : PE9 (sI w 92 ((w.1 91 0).toInt.toNat) a0) := (PE9_fr (l := [(92, none)]) (FR.I (FR.refl _ w) (k := 92) (j := (w.1 91 0).toInt.toNat) (v := a0) rfl) rfl hf_PE9)
            have hW579 : PE9 (sI (sI w 92 ((w.1 91 0).toInt.toNat) a0) 93 ((w.1 91 0).toInt.toNat) b0) := (PE9_fr (l := [(93, none)]) (FR.I (FR.refl _ (sI w 92 ((w.1 91 0).toInt.toNat) a0)) (k := 93) (j := (w.1 91 0).toInt.toNat) (v := b0) rfl) rfl hW578)
            have hW580 : PE9 (sI (sI (sI w 92 ((w.1 91 0).toInt.toNat) a0) 93 ((w.1 91 0).toInt.toNat) b0) 94 ((w.1 91 0).toInt.toNat) 0) := (PE9_fr (l := [(94, none)]) (FR.I (FR.refl _ (sI (sI w 92 ((w.1 91 0).toInt.toNat) a0) 93 ((w.1 91 0).toInt.toNat) b0)) (k := 94) (j := (w.1 91 0).toInt.toNat) (v := 0) rfl) rfl hW579)
            have o581 : (0 ≤ ((sI (sI (sI w 92 ((w.1 91 0).toInt.toNat) a0) 93 ((w.1 91 0).toInt.toNat) b0) 94 ((w.1 91 0).toInt.toNat) 0).1 91 1).toInt) ∧ ((((w.1 91 0) * (4 : Int32)) + (0 : Int32)).toInt = 4 * ((sI (sI (sI w 92 ((w.1 91 0).toInt.toNat) a0) 93 ((w.1 91 0).toInt.toNat) b0) 94 ((w.1 91 0).toInt.toNat) 0).1 91 0).toInt) ∧ ((((w.1 91 0) * (4 : Int32)) + ((0 : Int32) + (1 : Int32))).toInt = 4 * ((sI (sI (sI w 92 ((w.1 91 0).toInt.toNat) a0) 93 ((w.1 91 0).toInt.toNat) b0) 94 ((w.1 91 0).toInt.toNat) 0).1 91 0).toInt + 1) ∧ ((((w.1 91 0) * (4 : Int32)) + (((0 : Int32) + (1 : Int32)) + (1 : Int32))).toInt = 4 * ((sI (sI (sI w 92 ((w.1 91 0).toInt.toNat) a0) 93 ((w.1 91 0).toInt.toNat) b0) 94 ((w.1 91 0).toInt.toNat) 0).1 91 0).toInt + 2) ∧ ((((w.1 91 0) * (4 : Int32)) + ((((0 : Int32) + (1 : Int32)) + (1 : Int32)) + (1 : Int32))).toInt = 4 * ((sI (sI (sI w 92 ((w.1 91 0).toInt.toNat) a0) 93 ((w.1 91 0).toInt.toNat) b0) 94 ((w.1 91 0).toInt.toNat) 0).1 91 0).toInt + 3) ∧ (((-1) : Int32).toInt = -1) ∧ (((-1) : Int32).toInt = -1) ∧ (((-1) : Int32).toInt = -1) ∧ (((-1) : Int32).toInt = -1) ∧ (((w.1 91 0) + (1 : Int32)).toInt = ((sI (sI (sI w 92 ((w.1 91 0).toInt.toNat) a0) 93 ((w.1 91 0).toInt.toNat) b0) 94 ((w.1 91 0).toInt.toNat) 0).1 91 0).toInt + 1) := by have := bd_91_0 hI; have := (by decide : (((-1) : Int32)).toInt = (-1)); have := bd_91_1 hI; have : ((sI (sI (sI w 92 ((w.1 91 0).toInt.toNat) a0) 93 ((w.1 91 0).toInt.toNat) b0) 94 ((w.1 91 0).toInt.toNat) 0).1 91 1).toInt = (w.1 91 1).toInt := rfl; have : ((sI (sI (sI w 92 ((w.1 91 0).toInt.toNat) a0) 93 ((w.1 91 0).toInt.toNat) b0) 94 ((w.1 91 0).toInt.toNat) 0).1 91 0).toInt = (w.1 91 0).toInt := rfl; have := (by decide : ((20 : Int32)).toInt = 20); have := ti_mul2 (Eq.refl (w.1 91 0).toInt) (by decide : ((4 : Int32)).toInt = 4) (by omega) (by omega); have := ti_add2 (Eq.refl ((w.1 91 0) * (4 : Int32)).toInt) (by decide : ((0 : Int32)).toInt = 0) (by omega) (by omega); have := ti_add2 (by decide : ((0 : Int32)).toInt = 0) (by decide : ((1 : Int32)).toInt = 1) (by omega) (by omega); have := ti_add2 (Eq.refl ((w.1 91 0) * (4 : Int32)).toInt) (Eq.refl ((0 : Int32) + (1 : Int32)).toInt) (by omega) (by omega); have := ti_add2 (Eq.refl ((0 : Int32) + (1 : Int32)).toInt) (by decide : ((1 : Int32)).toInt = 1) (by omega) (by omega); have := ti_add2 (Eq.refl ((w.1 91 0) * (4 : Int32)).toInt) (Eq.refl (((0 : Int32) + (1 : Int32)) + (1 : Int32)).toInt) (by omega) (by omega); have := ti_add2 (Eq.refl (((0 : Int32) + (1 : Int32)) + (1 : Int32)).toInt) (by decide : ((1 : Int32)).toInt = 1) (by omega) (by omega); have := ti_add2 (Eq.refl ((w.1 91 0) * (4 : Int32)).toInt) (Eq.refl ((((0 : Int32) + (1 : Int32)) + (1 : Int32)) + (1 : Int32)).toInt) (by omega) (by omega); have := ti_add2 (Eq.refl (w.1 91 0).toInt) (by decide : ((1 : Int32)).toInt = 1) (by omega) (by omega); exact ⟨by omega, by omega, by omega, by omega, by omega, by omega, by omega, by omega, by omega, by omega⟩
            have hW582 : PE9 (sI (sI (sI (sI (sI (sI (sI (sI w 92 ((w.1 91 0).toInt.toNat) a0) 93 ((w.1 91 0).toInt.toNat) b0) 94 ((w.1 91 0).toInt.toNat) 0) 98 ((((w.1 91 0) * (4 : Int32)) + (0 : Int32)).toInt.toNat) (-1)) 98 ((((w.1 91 0) * (4 : Int32)) + ((0 : Int32) + (1 : Int32))).toInt.toNat) (-1)) 98 ((((w.1 91 0) * (4 : Int32)) + (((0 : Int32) + (1 : Int32)) + (1 : Int32))).toInt.toNat) (-1)) 98 ((((w.1 91 0) * (4 : Int32)) + ((((0 : Int32) + (1 : Int32)) + (1 : Int32)) + (1 : Int32))).toInt.toNat) (-1)) 91 0 ((w.1 91 0) + (1 : Int32))) := (pe9_add hW580 o581.1 o581.2.1 o581.2.2.1 o581.2.2.2.1 o581.2.2.2.2.1 o581.2.2.2.2.2.1 o581.2.2.2.2.2.2.1 o581.2.2.2.2.2.2.2.1 o581.2.2.2.2.2.2.2.2.1 o581.2.2.2.2.2.2.2.2.2)
            have hW583 : PJ9 (sI w 92 ((w.1 91 0).toInt.toNat) a0) := (PJ9_fr (l := [(92, none)]) (FR.I (FR.refl _ w) (k := 92) (j := (w.1 91 0).toInt.toNat) (v := a0) rfl) rfl hf_PJ9)
            have hW584 : PJ9 (sI (sI w 92 ((w.1 91 0).toInt.toNat) a0) 93 ((w.1 91 0).toInt.toNat) b0) := (PJ9_fr (l := [(93, none)]) (FR.I (FR.refl _ (sI w 92 ((w.1 91 0).toInt.toNat) a0)) (k := 93) (j := (w.1 91 0).toInt.toNat) (v := b0) rfl) rfl hW583)
            have hW585 : PJ9 (sI (sI (sI w 92 ((w.1 91 0).toInt.toNat) a0) 93 ((w.1 91 0).toInt.toNat) b0) 94 ((w.1 91 0).toInt.toNat) 0) := (PJ9_fr (l := [(94, none)]) (FR.I (FR.refl _ (sI (sI w 92 ((w.1 91 0).toInt.toNat) a0) 93 ((w.1 91 0).toInt.toNat) b0)) (k := 94) (j := (w.1 91 0).toInt.toNat) (v := 0) rfl) rfl hW584)
            have o586 : ((((w.1 91 0) * (4 : Int32)) + (0 : Int32)).toInt = 4 * ((sI (sI (sI w 92 ((w.1 91 0).toInt.toNat) a0) 93 ((w.1 91 0).toInt.toNat) b0) 94 ((w.1 91 0).toInt.toNat) 0).1 91 0).toInt) ∧ ((((w.1 91 0) * (4 : Int32)) + ((0 : Int32) + (1 : Int32))).toInt = 4 * ((sI (sI (sI w 92 ((w.1 91 0).toInt.toNat) a0) 93 ((w.1 91 0).toInt.toNat) b0) 94 ((w.1 91 0).toInt.toNat) 0).1 91 0).toInt + 1) ∧ ((((w.1 91 0) * (4 : Int32)) + (((0 : Int32) + (1 : Int32)) + (1 : Int32))).toInt = 4 * ((sI (sI (sI w 92 ((w.1 91 0).toInt.toNat) a0) 93 ((w.1 91 0).toInt.toNat) b0) 94 ((w.1 91 0).toInt.toNat) 0).1 91 0).toInt + 2) ∧ ((((w.1 91 0) * (4 : Int32)) + ((((0 : Int32) + (1 : Int32)) + (1 : Int32)) + (1 : Int32))).toInt = 4 * ((sI (sI (sI w 92 ((w.1 91 0).toInt.toNat) a0) 93 ((w.1 91 0).toInt.toNat) b0) 94 ((w.1 91 0).toInt.toNat) 0).1 91 0).toInt + 3) ∧ (((-1) : Int32).toInt = -1) ∧ (((-1) : Int32).toInt = -1) ∧ (((-1) : Int32).toInt = -1) ∧ (((-1) : Int32).toInt = -1) ∧ (((w.1 91 0) + (1 : Int32)).toInt = ((sI (sI (sI w 92 ((w.1 91 0).toInt.toNat) a0) 93 ((w.1 91 0).toInt.toNat) b0) 94 ((w.1 91 0).toInt.toNat) 0).1 91 0).toInt + 1) := by have := bd_91_0 hI; have := (by decide : (((-1) : Int32)).toInt = (-1)); have : ((sI (sI (sI w 92 ((w.1 91 0).toInt.toNat) a0) 93 ((w.1 91 0).toInt.toNat) b0) 94 ((w.1 91 0).toInt.toNat) 0).1 91 0).toInt = (w.1 91 0).toInt := rfl; have := (by decide : ((20 : Int32)).toInt = 20); have := ti_mul2 (Eq.refl (w.1 91 0).toInt) (by decide : ((4 : Int32)).toInt = 4) (by omega) (by omega); have := ti_add2 (Eq.refl ((w.1 91 0) * (4 : Int32)).toInt) (by decide : ((0 : Int32)).toInt = 0) (by omega) (by omega); have := ti_add2 (by decide : ((0 : Int32)).toInt = 0) (by decide : ((1 : Int32)).toInt = 1) (by omega) (by omega); have := ti_add2 (Eq.refl ((w.1 91 0) * (4 : Int32)).toInt) (Eq.refl ((0 : Int32) + (1 : Int32)).toInt) (by omega) (by omega); have := ti_add2 (Eq.refl ((0 : Int32) + (1 : Int32)).toInt) (by decide : ((1 : Int32)).toInt = 1) (by omega) (by omega); have := ti_add2 (Eq.refl ((w.1 91 0) * (4 : Int32)).toInt) (Eq.refl (((0 : Int32) + (1 : Int32)) + (1 : Int32)).toInt) (by omega) (by omega); have := ti_add2 (Eq.refl (((0 : Int32) + (1 : Int32)) + (1 : Int32)).toInt) (by decide : ((1 : Int32)).toInt = 1) (by omega) (by omega); have := ti_add2 (Eq.refl ((w.1 91 0) * (4 : Int32)).toInt) (Eq.refl ((((0 : Int32) + (1 : Int32)) + (1 : Int32)) + (1 : Int32)).toInt) (by omega) (by omega); have := ti_add2 (Eq.refl (w.1 91 0).toInt) (by decide : ((1 : Int32)).toInt = 1) (by omega) (by omega); exact ⟨by omega, by omega, by omega, by omega, by omega, by omega, by omega, by omega, by omega⟩
            have hW587 : PJ9 (sI (sI (sI (sI (sI (sI (sI (sI w 92 ((w.1 91 0).toInt.toNat) a0) 93 ((w.1 91 0).toInt.toNat) b0) 94 ((w.1 91 0).toInt.toNat) 0) 98 ((((w.1 91 0) * (4 : Int32)) + (0 : Int32)).toInt.toNat) (-1)) 98 ((((w.1 91 0) * (4 : Int32)) + ((0 : Int32) + (1 : Int32))).toInt.toNat) (-1)) 98 ((((w.1 91 0) * (4 : Int32)) + (((0 : Int32) + (1 : Int32)) + (1 : Int32))).toInt.toNat) (-1)) 98 ((((w.1 91 0) * (4 : Int32)) + ((((0 : Int32) + (1 : Int32)) + (1 : Int32)) + (1 : Int32))).toInt.toNat) (-1)) 91 0 ((w.1 91 0) + (1 : Int32))) := (pj9_add hW585 o586.1 o586.2.1 o586.2.2.1 o586.2.2.2.1 o586.2.2.2.2.1 o586.2.2.2.2.2.1 o586.2.2.2.2.2.2.1 o586.2.2.2.2.2.2.2.1 o586.2.2.2.2.2.2.2.2)
            have hW588 : PL9 (sI w 92 ((w.1 91 0).toInt.toNat) a0) := (PL9_fr (l := [(92, none)]) (FR.I (FR.refl _ w) (k := 92) (j := (w.1 91 0).toInt.toNat) (v := a0) rfl) rfl hf_PL9)
            have hW589 : PL9 (sI (sI w 92 ((w.1 91 0).toInt.toNat) a0) 93 ((w.1 91 0).toInt.toNat) b0) := (PL9_fr (l := [(93, none)]) (FR.I (FR.refl _ (sI w 92 ((w.1 91 0).toInt.toNat) a0)) (k := 93) (j := (w.1 91 0).toInt.toNat) (v := b0) rfl) rfl hW588)
            have hW590 : PL9 (sI (sI (sI w 92 ((w.1 91 0).toInt.toNat) a0) 93 ((w.1 91 0).toInt.toNat) b0) 94 ((w.1 91 0).toInt.toNat) 0) := (PL9_fr (l := [(94, none)]) (FR.I (FR.refl _ (sI (sI w 92 ((w.1 91 0).toInt.toNat) a0) 93 ((w.1 91 0).toInt.toNat) b0)) (k := 94) (j := (w.1 91 0).toInt.toNat) (v := 0) rfl) rfl hW589)
            have hW591 : PL9 (sI (sI (sI (sI w 92 ((w.1 91 0).toInt.toNat) a0) 93 ((w.1 91 0).toInt.toNat) b0) 94 ((w.1 91 0).toInt.toNat) 0) 98 ((((w.1 91 0) * (4 : Int32)) + (0 : Int32)).toInt.toNat) (-1)) := (PL9_fr (l := [(98, none)]) (FR.I (FR.refl _ (sI (sI (sI w 92 ((w.1 91 0).toInt.toNat) a0) 93 ((w.1 91 0).toInt.toNat) b0) 94 ((w.1 91 0).toInt.toNat) 0)) (k := 98) (j := (((w.1 91 0) * (4 : Int32)) + (0 : Int32)).toInt.toNat) (v := (-1)) rfl) rfl hW590)
            have hW592 : PL9 (sI (sI (sI (sI (sI w 92 ((w.1 91 0).toInt.toNat) a0) 93 ((w.1 91 0).toInt.toNat) b0) 94 ((w.1 91 0).toInt.toNat) 0) 98 ((((w.1 91 0) * (4 : Int32)) + (0 : Int32)).toInt.toNat) (-1)) 98 ((((w.1 91 0) * (4 : Int32)) + ((0 : Int32) + (1 : Int32))).toInt.toNat) (-1)) := (PL9_fr (l := [(98, none)]) (FR.I (FR.refl _ (sI (sI (sI (sI w 92 ((w.1 91 0).toInt.toNat) a0) 93 ((w.1 91 0).toInt.toNat) b0) 94 ((w.1 91 0).toInt.toNat) 0) 98 ((((w.1 91 0) * (4 : Int32)) + (0 : Int32)).toInt.toNat) (-1))) (k := 98) (j := (((w.1 91 0) * (4 : Int32)) + ((0 : Int32) + (1 : Int32))).toInt.toNat) (v := (-1)) rfl) rfl hW591)
            have hW593 : PL9 (sI (sI (sI (sI (sI (sI w 92 ((w.1 91 0).toInt.toNat) a0) 93 ((w.1 91 0).toInt.toNat) b0) 94 ((w.1 91 0).toInt.toNat) 0) 98 ((((w.1 91 0) * (4 : Int32)) + (0 : Int32)).toInt.toNat) (-1)) 98 ((((w.1 91 0) * (4 : Int32)) + ((0 : Int32) + (1 : Int32))).toInt.toNat) (-1)) 98 ((((w.1 91 0) * (4 : Int32)) + (((0 : Int32) + (1 : Int32)) + (1 : Int32))).toInt.toNat) (-1)) := (PL9_fr (l := [(98, none)]) (FR.I (FR.refl _ (sI (sI (sI (sI (sI w 92 ((w.1 91 0).toInt.toNat) a0) 93 ((w.1 91 0).toInt.toNat) b0) 94 ((w.1 91 0).toInt.toNat) 0) 98 ((((w.1 91 0) * (4 : Int32)) + (0 : Int32)).toInt.toNat) (-1)) 98 ((((w.1 91 0) * (4 : Int32)) + ((0 : Int32) + (1 : Int32))).toInt.toNat) (-1))) (k := 98) (j := (((w.1 91 0) * (4 : Int32)) + (((0 : Int32) + (1 : Int32)) + (1 : Int32))).toInt.toNat) (v := (-1)) rfl) rfl hW592)
            have hW594 : PL9 (sI (sI (sI (sI (sI (sI (sI w 92 ((w.1 91 0).toInt.toNat) a0) 93 ((w.1 91 0).toInt.toNat) b0) 94 ((w.1 91 0).toInt.toNat) 0) 98 ((((w.1 91 0) * (4 : Int32)) + (0 : Int32)).toInt.toNat) (-1)) 98 ((((w.1 91 0) * (4 : Int32)) + ((0 : Int32) + (1 : Int32))).toInt.toNat) (-1)) 98 ((((w.1 91 0) * (4 : Int32)) + (((0 : Int32) + (1 : Int32)) + (1 : Int32))).toInt.toNat) (-1)) 98 ((((w.1 91 0) * (4 : Int32)) + ((((0 : Int32) + (1 : Int32)) + (1 : Int32)) + (1 : Int32))).toInt.toNat) (-1)) := (PL9_fr (l := [(98, none)]) (FR.I (FR.refl _ (sI (sI (sI (sI (sI (sI w 92 ((w.1 91 0).toInt.toNat) a0) 93 ((w.1 91 0).toInt.toNat) b0) 94 ((w.1 91 0).toInt.toNat) 0) 98 ((((w.1 91 0) * (4 : Int32)) + (0 : Int32)).toInt.toNat) (-1)) 98 ((((w.1 91 0) * (4 : Int32)) + ((0 : Int32) + (1 : Int32))).toInt.toNat) (-1)) 98 ((((w.1 91 0) * (4 : Int32)) + (((0 : Int32) + (1 : Int32)) + (1 : Int32))).toInt.toNat) (-1))) (k := 98) (j := (((w.1 91 0) * (4 : Int32)) + ((((0 : Int32) + (1 : Int32)) + (1 : Int32)) + (1 : Int32))).toInt.toNat) (v := (-1)) rfl) rfl hW593)
            have hW595 : PL9 (sI (sI (sI (sI (sI (sI (sI (sI w 92 ((w.1 91 0).toInt.toNat) a0) 93 ((w.1 91 0).toInt.toNat) b0) 94 ((w.1 91 0).toInt.toNat) 0) 98 ((((w.1 91 0) * (4 : Int32)) + (0 : Int32)).toInt.toNat) (-1)) 98 ((((w.1 91 0) * (4 : Int32)) + ((0 : Int32) + (1 : Int32))).toInt.toNat) (-1)) 98 ((((w.1 91 0) * (4 : Int32)) + (((0 : Int32) + (1 : Int32)) + (1 : Int32))).toInt.toNat) (-1)) 98 ((((w.1 91 0) * (4 : Int32)) + ((((0 : Int32) + (1 : Int32)) + (1 : Int32)) + (1 : Int32))).toInt.toNat) (-1)) 91 0 ((w.1 91 0) + (1 : Int32))) := (pl9_things hW594 (by have := bd_91_0 hI; have : ((sI (sI (sI (sI (sI (sI (sI w 92 ((w.1 91 0).toInt.toNat) a0) 93 ((w.1 91 0).toInt.toNat) b0) 94 ((w.1 91 0).toInt.toNat) 0) 98 ((((w.1 91 0) * (4 : Int32)) + (0 : Int32)).toInt.toNat) (-1)) 98 ((((w.1 91 0) * (4 : Int32)) + ((0 : Int32) + (1 : Int32))).toInt.toNat) (-1)) 98 ((((w.1 91 0) * (4 : Int32)) + (((0 : Int32) + (1 : Int32)) + (1 : Int32))).toInt.toNat) (-1)) 98 ((((w.1 91 0) * (4 : Int32)) + ((((0 : Int32) + (1 : Int32)) + (1 : Int32)) + (1 : Int32))).toInt.toNat) (-1)).1 91 0).toInt = (w.1 91 0).toInt := rfl; have := (by decide : ((20 : Int32)).toInt = 20); have := ti_add2 (Eq.refl (w.1 91 0).toInt) (by decide : ((1 : Int32)).toInt = 1) (by omega) (by omega); omega))
            have o596 : (0 ≤ (1 : Int32).toInt) ∧ ((1 : Int32).toInt ≤ 1) := by have := (by decide : ((1 : Int32)).toInt = 1); exact ⟨by omega, by omega⟩
            exact hQ _ _ hI576 (FR.I (FR.I (FR.I (FR.I (FR.I (FR.I (FR.I (FR.I (FR.refl _ w) (k := 92) (j := (w.1 91 0).toInt.toNat) (v := a0) rfl) (k := 93) (j := (w.1 91 0).toInt.toNat) (v := b0) rfl) (k := 94) (j := (w.1 91 0).toInt.toNat) (v := 0) rfl) (k := 98) (j := (((w.1 91 0) * (4 : Int32)) + (0 : Int32)).toInt.toNat) (v := (-1)) rfl) (k := 98) (j := (((w.1 91 0) * (4 : Int32)) + ((0 : Int32) + (1 : Int32))).toInt.toNat) (v := (-1)) rfl) (k := 98) (j := (((w.1 91 0) * (4 : Int32)) + (((0 : Int32) + (1 : Int32)) + (1 : Int32))).toInt.toNat) (v := (-1)) rfl) (k := 98) (j := (((w.1 91 0) * (4 : Int32)) + ((((0 : Int32) + (1 : Int32)) + (1 : Int32)) + (1 : Int32))).toInt.toNat) (v := (-1)) rfl) (k := 91) (j := 0) (v := ((w.1 91 0) + (1 : Int32))) rfl) (Or.inr hW582) (Or.inr hW587) (Or.inr hW595)  o596.1 o596.2
          · replace h566 : ¬ (4 ≤ (((((0 : Int32) + (1 : Int32)) + (1 : Int32)) + (1 : Int32)) + (1 : Int32)).toInt) := h566
            exfalso; have := bd_91_0 hI; have := (by decide : ((20 : Int32)).toInt = 20); have := (by decide : ((4 : Int32)).toInt = 4); have := ti_add2 (by decide : ((0 : Int32)).toInt = 0) (by decide : ((1 : Int32)).toInt = 1) (by omega) (by omega); have := ti_add2 (Eq.refl ((0 : Int32) + (1 : Int32)).toInt) (by decide : ((1 : Int32)).toInt = 1) (by omega) (by omega); have := ti_add2 (Eq.refl (((0 : Int32) + (1 : Int32)) + (1 : Int32)).toInt) (by decide : ((1 : Int32)).toInt = 1) (by omega) (by omega); have := ti_add2 (Eq.refl ((((0 : Int32) + (1 : Int32)) + (1 : Int32)) + (1 : Int32)).toInt) (by decide : ((1 : Int32)).toInt = 1) (by omega) (by omega); omega
  · replace h555 : ¬ ((w.1 91 0).toInt < 20) := h555
    have o597 : (0 ≤ (0 : Int32).toInt) ∧ ((0 : Int32).toInt ≤ 1) := by have := (by decide : ((0 : Int32)).toInt = 0); exact ⟨by omega, by omega⟩
    exact hQ _ _ hI (FR.refl _ w) (Or.inl (by have := (by decide : ((0 : Int32)).toInt = 0); omega)) (Or.inl (by have := (by decide : ((0 : Int32)).toInt = 0); omega)) (Or.inl (by have := (by decide : ((0 : Int32)).toInt = 0); omega))  o597.1 o597.2
def l_Pl_joinss91 : Pl := [(94, none), (96, none), (97, none), (98, none)]
set_option maxRecDepth 20000 in
set_option maxHeartbeats 2000000 in
theorem h_Pl_joinss91 {w : MW} {a0 : Int32} {b0 : Int32} {Q : Int32 → MW → Prop} (hI : BND w) (hf_PJ9 : PJ9 w) (hf_PL9 : PL9 w) (hp0 : 0 ≤ a0.toInt) (hp1 : a0.toInt ≤ 47) (hp2 : (-1) ≤ b0.toInt) (hp3 : b0.toInt ≤ 9999999) (hp4 : 2 * (w.1 91 1).toInt ≤ a0.toInt) (hp5 : PLs a0 w) (hp6 : PEs a0 w) (hQ : ∀ (r : Int32) (w' : MW), BND w' → FR l_Pl_joinss91 w w' → PJ9 w' → PL9 w' → 0 ≤ r.toInt → r.toInt ≤ 1 → r.toInt = 0 ∨ PLs1 a0 w' → r.toInt = 0 ∨ PEs1 a0 w' → Q r w') : p_Pl_joinss91 w a0 b0 Q := by
  refine Eq.mpr (p_Pl_joinss91.eq_1 _ _ _ _) ?_
  have o598 : 0 ≤ a0.toInt ∧ a0.toInt < 48 := by have := bd_91_1 hI; omega
  refine ⟨o598, ?_⟩
  have o599 : 0 ≤ a0.toInt ∧ a0.toInt < 48 := by have := bd_91_1 hI; omega
  refine ⟨o599, ?_⟩
  refine ⟨fun h600 => ?_, fun h600 => ?_⟩
  · replace h600 : ¬ b0.toInt = (-1) := h600
    refine ⟨fun h601 => ?_, fun h601 => ?_⟩
    · replace h601 : (w.1 91 0).toInt ≤ b0.toInt := h601
      have o603 : (-1) ≤ b0.toInt ∧ b0.toInt ≤ 9999999 := by have := (by decide : (((-1) : Int32)).toInt = (-1)); have := bd_91_0 hI; omega
      have hI602 : BND (sI w 96 a0.toInt.toNat b0) := wbd_96 hI a0.toInt.toNat o603.1 o603.2
      have hI604 : BND (sI (sI w 96 a0.toInt.toNat b0) 97 a0.toInt.toNat 0) := wbd_97 hI602 a0.toInt.toNat (by decide) (by decide)
      have hW605 : PJ9 (sI w 96 a0.toInt.toNat b0) := (PJ9_fr (l := [(96, none)]) (FR.I (FR.refl _ w) (k := 96) (j := a0.toInt.toNat) (v := b0) rfl) rfl hf_PJ9)
      have hW606 : PEs a0 (sI w 96 a0.toInt.toNat b0) := (PEs_fr (l := [(96, none)]) (FR.I (FR.refl _ w) (k := 96) (j := a0.toInt.toNat) (v := b0) rfl) rfl hp6)
      have hW607 : PJ9 (sI (sI w 96 a0.toInt.toNat b0) 97 a0.toInt.toNat 0) := (pj9_97 hW605 hW606 (by have := (by decide : ((0 : Int32)).toInt = 0); have := bd_91_1 hI; omega))
      have hW608 : PL9 (sI w 96 a0.toInt.toNat b0) := (pl9_96 hf_PL9 (by have := bd_91_1 hI; have := (by decide : (((-1) : Int32)).toInt = (-1)); have := bd_91_0 hI; omega))
      have hW609 : PL9 (sI (sI w 96 a0.toInt.toNat b0) 97 a0.toInt.toNat 0) := (PL9_fr (l := [(97, none)]) (FR.I (FR.refl _ (sI w 96 a0.toInt.toNat b0)) (k := 97) (j := a0.toInt.toNat) (v := 0) rfl) rfl hW608)
      have o610 : (0 ≤ (0 : Int32).toInt) ∧ ((0 : Int32).toInt ≤ 1) := by have := (by decide : ((0 : Int32)).toInt = 0); exact ⟨by omega, by omega⟩
      exact hQ _ _ hI604 (FR.I (FR.I (FR.refl _ w) (k := 96) (j := a0.toInt.toNat) (v := b0) rfl) (k := 97) (j := a0.toInt.toNat) (v := 0) rfl) hW607 hW609  o610.1 o610.2 (Or.inl (by have := (by decide : ((0 : Int32)).toInt = 0); omega)) (Or.inl (by have := (by decide : ((0 : Int32)).toInt = 0); omega))
    · replace h601 : ¬ ((w.1 91 0).toInt ≤ b0.toInt) := h601
      have o611 : 0 ≤ b0.toInt ∧ b0.toInt < 20 := by have := (by decide : (((-1) : Int32)).toInt = (-1)); have := bd_91_0 hI; omega
      refine ⟨o611, ?_⟩
      have o612 : 0 ≤ b0.toInt ∧ b0.toInt < 20 := by have := (by decide : (((-1) : Int32)).toInt = (-1)); have := bd_91_0 hI; omega
      refine ⟨o612, ?_⟩
      have o613 : 0 ≤ (w.1 92 b0.toInt.toNat).toInt ∧ (w.1 92 b0.toInt.toNat).toInt < 10 := by have := bd_92 hI b0.toInt.toNat; omega
      refine ⟨o613, ?_⟩
      refine ⟨fun h614 => ?_, fun h614 => ?_⟩
      · replace h614 : (w.1 94 b0.toInt.toNat).toInt < ((stT 1000).getD ((w.1 92 b0.toInt.toNat).toInt.toNat) 0).toInt := h614
        have o615 : 0 ≤ b0.toInt ∧ b0.toInt < 20 := by have := (by decide : (((-1) : Int32)).toInt = (-1)); have := bd_91_0 hI; omega
        refine ⟨o615, ?_⟩
        refine ⟨fun h616 => ?_, fun h616 => ?_⟩
        · replace h616 : (w.1 92 b0.toInt.toNat).toInt = 9 := h616
          have o617 : 0 ≤ b0.toInt ∧ b0.toInt < 20 := by have := (by decide : (((-1) : Int32)).toInt = (-1)); have := bd_91_0 hI; omega
          refine ⟨o617, ?_⟩
          have o618 : 0 ≤ b0.toInt ∧ b0.toInt < 20 := by have := (by decide : (((-1) : Int32)).toInt = (-1)); have := bd_91_0 hI; omega
          refine ⟨o618, ?_⟩
          have o620 : (-1) ≤ b0.toInt ∧ b0.toInt ≤ 9999999 := by have := (by decide : (((-1) : Int32)).toInt = (-1)); have := bd_91_0 hI; omega
          have hI619 : BND (sI w 96 a0.toInt.toNat b0) := wbd_96 hI a0.toInt.toNat o620.1 o620.2
          have hI621 : BND (sI (sI w 96 a0.toInt.toNat b0) 97 a0.toInt.toNat 0) := wbd_97 hI619 a0.toInt.toNat (by decide) (by decide)
          have o623 : 0 ≤ ((w.1 94 b0.toInt.toNat) + (1 : Int32)).toInt ∧ ((w.1 94 b0.toInt.toNat) + (1 : Int32)).toInt ≤ 48 := by have := bd_94 hI b0.toInt.toNat; have := bd_92 hI b0.toInt.toNat; have := (by decide : ((9 : Int32)).toInt = 9); have := ti_add2 (Eq.refl (w.1 94 b0.toInt.toNat).toInt) (by decide : ((1 : Int32)).toInt = 1) (by omega) (by omega); have := st_1000 (w.1 92 b0.toInt.toNat) (by omega); omega
          have hI622 : BND (sI (sI (sI w 96 a0.toInt.toNat b0) 97 a0.toInt.toNat 0) 94 b0.toInt.toNat ((w.1 94 b0.toInt.toNat) + (1 : Int32))) := wbd_94 hI621 b0.toInt.toNat o623.1 o623.2
          have hW624 : PJ9 (sI w 96 a0.toInt.toNat b0) := (PJ9_fr (l := [(96, none)]) (FR.I (FR.refl _ w) (k := 96) (j := a0.toInt.toNat) (v := b0) rfl) rfl hf_PJ9)
          have hW625 : PEs a0 (sI w 96 a0.toInt.toNat b0) := (PEs_fr (l := [(96, none)]) (FR.I (FR.refl _ w) (k := 96) (j := a0.toInt.toNat) (v := b0) rfl) rfl hp6)
          have hW626 : PJ9 (sI (sI w 96 a0.toInt.toNat b0) 97 a0.toInt.toNat 0) := (pj9_97 hW624 hW625 (by have := (by decide : ((0 : Int32)).toInt = 0); have := bd_91_1 hI; omega))
          have hW627 : PJ9 (sI (sI (sI w 96 a0.toInt.toNat b0) 97 a0.toInt.toNat 0) 94 b0.toInt.toNat ((w.1 94 b0.toInt.toNat) + (1 : Int32))) := (PJ9_fr (l := [(94, none)]) (FR.I (FR.refl _ (sI (sI w 96 a0.toInt.toNat b0) 97 a0.toInt.toNat 0)) (k := 94) (j := b0.toInt.toNat) (v := ((w.1 94 b0.toInt.toNat) + (1 : Int32))) rfl) rfl hW626)
          have hW628 : PL9 (sI w 96 a0.toInt.toNat b0) := (pl9_96 hf_PL9 (by have := bd_91_1 hI; have := (by decide : (((-1) : Int32)).toInt = (-1)); have := bd_91_0 hI; omega))
          have hW629 : PL9 (sI (sI w 96 a0.toInt.toNat b0) 97 a0.toInt.toNat 0) := (PL9_fr (l := [(97, none)]) (FR.I (FR.refl _ (sI w 96 a0.toInt.toNat b0)) (k := 97) (j := a0.toInt.toNat) (v := 0) rfl) rfl hW628)
          have hW630 : PL9 (sI (sI (sI w 96 a0.toInt.toNat b0) 97 a0.toInt.toNat 0) 94 b0.toInt.toNat ((w.1 94 b0.toInt.toNat) + (1 : Int32))) := (PL9_fr (l := [(94, none)]) (FR.I (FR.refl _ (sI (sI w 96 a0.toInt.toNat b0) 97 a0.toInt.toNat 0)) (k := 94) (j := b0.toInt.toNat) (v := ((w.1 94 b0.toInt.toNat) + (1 : Int32))) rfl) rfl hW629)
          have o631 : (0 ≤ (1 : Int32).toInt) ∧ ((1 : Int32).toInt ≤ 1) := by have := (by decide : ((1 : Int32)).toInt = 1); exact ⟨by omega, by omega⟩
          have o633 : (a0.toInt = a0.toInt) ∧ (0 ≤ a0.toInt) ∧ (b0.toInt < (w.1 91 0).toInt) := by have := bd_91_0 hI; have := bd_91_1 hI; have := (by decide : (((-1) : Int32)).toInt = (-1)); exact ⟨by omega, by omega, by omega⟩
          have hW634 : PLs1 a0 (sI (sI w 96 a0.toInt.toNat b0) 97 a0.toInt.toNat 0) := (PLs1_fr (l := [(97, none)]) (FR.I (FR.refl _ (sI w 96 a0.toInt.toNat b0)) (k := 97) (j := a0.toInt.toNat) (v := 0) rfl) rfl (pls1_96 hp5 o633.1 o633.2.1 o633.2.2))
          have hW635 : PLs1 a0 (sI (sI (sI w 96 a0.toInt.toNat b0) 97 a0.toInt.toNat 0) 94 b0.toInt.toNat ((w.1 94 b0.toInt.toNat) + (1 : Int32))) := (PLs1_fr (l := [(94, none)]) (FR.I (FR.refl _ (sI (sI w 96 a0.toInt.toNat b0) 97 a0.toInt.toNat 0)) (k := 94) (j := b0.toInt.toNat) (v := ((w.1 94 b0.toInt.toNat) + (1 : Int32))) rfl) rfl hW634)
          have hW636 : PEs a0 (sI (sI w 96 a0.toInt.toNat b0) 97 a0.toInt.toNat 0) := (PEs_fr (l := [(97, none)]) (FR.I (FR.refl _ (sI w 96 a0.toInt.toNat b0)) (k := 97) (j := a0.toInt.toNat) (v := 0) rfl) rfl hW625)
          have hW637 : PEs a0 (sI (sI (sI w 96 a0.toInt.toNat b0) 97 a0.toInt.toNat 0) 94 b0.toInt.toNat ((w.1 94 b0.toInt.toNat) + (1 : Int32))) := (PEs_fr (l := [(94, none)]) (FR.I (FR.refl _ (sI (sI w 96 a0.toInt.toNat b0) 97 a0.toInt.toNat 0)) (k := 94) (j := b0.toInt.toNat) (v := ((w.1 94 b0.toInt.toNat) + (1 : Int32))) rfl) rfl hW636)
          have hW638 : PEs1 a0 (sI (sI (sI w 96 a0.toInt.toNat b0) 97 a0.toInt.toNat 0) 94 b0.toInt.toNat ((w.1 94 b0.toInt.toNat) + (1 : Int32))) := (pes1_pes hW637 (by have := bd_91_1 hI; omega))
          exact hQ _ _ hI622 (FR.I (FR.I (FR.I (FR.refl _ w) (k := 96) (j := a0.toInt.toNat) (v := b0) rfl) (k := 97) (j := a0.toInt.toNat) (v := 0) rfl) (k := 94) (j := b0.toInt.toNat) (v := ((w.1 94 b0.toInt.toNat) + (1 : Int32))) rfl) hW627 hW630  o631.1 o631.2 (Or.inr hW635) (Or.inr hW638)
        · replace h616 : ¬ ((w.1 92 b0.toInt.toNat).toInt = 9) := h616
          have o639 : 0 ≤ b0.toInt ∧ b0.toInt < 20 := by have := (by decide : (((-1) : Int32)).toInt = (-1)); have := bd_91_0 hI; omega
          refine ⟨o639, ?_⟩
          have o640 : 0 ≤ a0.toInt ∧ a0.toInt < 48 := by have := bd_91_1 hI; omega
          refine ⟨o640, ?_⟩
          have o641 : 0 ≤ b0.toInt ∧ b0.toInt < 20 := by have := (by decide : (((-1) : Int32)).toInt = (-1)); have := bd_91_0 hI; omega
          refine ⟨o641, ?_⟩
          have o642 : 0 ≤ ((b0 * (4 : Int32)) + (w.1 94 b0.toInt.toNat)).toInt ∧ ((b0 * (4 : Int32)) + (w.1 94 b0.toInt.toNat)).toInt < 80 := by have := bd_94 hI b0.toInt.toNat; have := (by decide : (((-1) : Int32)).toInt = (-1)); have := bd_91_0 hI; have := bd_92 hI b0.toInt.toNat; have := (by decide : ((9 : Int32)).toInt = 9); have := ti_mul2 (Eq.refl b0.toInt) (by decide : ((4 : Int32)).toInt = 4) (by omega) (by omega); have := ti_add2 (Eq.refl (b0 * (4 : Int32)).toInt) (Eq.refl (w.1 94 b0.toInt.toNat).toInt) (by omega) (by omega); have := st_1000 (w.1 92 b0.toInt.toNat) (by omega); omega
          refine ⟨o642, ?_⟩
          have o643 : 0 ≤ b0.toInt ∧ b0.toInt < 20 := by have := (by decide : (((-1) : Int32)).toInt = (-1)); have := bd_91_0 hI; omega
          refine ⟨o643, ?_⟩
          have o644 : 0 ≤ b0.toInt ∧ b0.toInt < 20 := by have := (by decide : (((-1) : Int32)).toInt = (-1)); have := bd_91_0 hI; omega
          refine ⟨o644, ?_⟩
          have o646 : (-1) ≤ b0.toInt ∧ b0.toInt ≤ 9999999 := by have := (by decide : (((-1) : Int32)).toInt = (-1)); have := bd_91_0 hI; omega
          have hI645 : BND (sI w 96 a0.toInt.toNat b0) := wbd_96 hI a0.toInt.toNat o646.1 o646.2
          have hI647 : BND (sI (sI w 96 a0.toInt.toNat b0) 97 a0.toInt.toNat 0) := wbd_97 hI645 a0.toInt.toNat (by decide) (by decide)
          have o649 : 0 ≤ (w.1 94 b0.toInt.toNat).toInt ∧ (w.1 94 b0.toInt.toNat).toInt ≤ 3 := by have := bd_94 hI b0.toInt.toNat; have := bd_92 hI b0.toInt.toNat; have := (by decide : ((9 : Int32)).toInt = 9); have := st_1000 (w.1 92 b0.toInt.toNat) (by omega); omega
          have hI648 : BND (sI (sI (sI w 96 a0.toInt.toNat b0) 97 a0.toInt.toNat 0) 97 a0.toInt.toNat (w.1 94 b0.toInt.toNat)) := wbd_97 hI647 a0.toInt.toNat o649.1 o649.2
          have o651 : (-1) ≤ a0.toInt ∧ a0.toInt ≤ 47 := by have := bd_91_1 hI; omega
          have hI650 : BND (sI (sI (sI (sI w 96 a0.toInt.toNat b0) 97 a0.toInt.toNat 0) 97 a0.toInt.toNat (w.1 94 b0.toInt.toNat)) 98 (((b0 * (4 : Int32)) + (w.1 94 b0.toInt.toNat)).toInt.toNat) a0) := wbd_98 hI648 (((b0 * (4 : Int32)) + (w.1 94 b0.toInt.toNat)).toInt.toNat) o651.1 o651.2
          have o653 : 0 ≤ ((w.1 94 b0.toInt.toNat) + (1 : Int32)).toInt ∧ ((w.1 94 b0.toInt.toNat) + (1 : Int32)).toInt ≤ 48 := by have := bd_94 hI b0.toInt.toNat; have := bd_92 hI b0.toInt.toNat; have := (by decide : ((9 : Int32)).toInt = 9); have := ti_add2 (Eq.refl (w.1 94 b0.toInt.toNat).toInt) (by decide : ((1 : Int32)).toInt = 1) (by omega) (by omega); have := st_1000 (w.1 92 b0.toInt.toNat) (by omega); omega
          have hI652 : BND (sI (sI (sI (sI (sI w 96 a0.toInt.toNat b0) 97 a0.toInt.toNat 0) 97 a0.toInt.toNat (w.1 94 b0.toInt.toNat)) 98 (((b0 * (4 : Int32)) + (w.1 94 b0.toInt.toNat)).toInt.toNat) a0) 94 b0.toInt.toNat ((w.1 94 b0.toInt.toNat) + (1 : Int32))) := wbd_94 hI650 b0.toInt.toNat o653.1 o653.2
          have hW654 : PJ9 (sI w 96 a0.toInt.toNat b0) := (PJ9_fr (l := [(96, none)]) (FR.I (FR.refl _ w) (k := 96) (j := a0.toInt.toNat) (v := b0) rfl) rfl hf_PJ9)
          have hW655 : PEs a0 (sI w 96 a0.toInt.toNat b0) := (PEs_fr (l := [(96, none)]) (FR.I (FR.refl _ w) (k := 96) (j := a0.toInt.toNat) (v := b0) rfl) rfl hp6)
          have hW656 : PJ9 (sI (sI w 96 a0.toInt.toNat b0) 97 a0.toInt.toNat 0) := (pj9_97 hW654 hW655 (by have := (by decide : ((0 : Int32)).toInt = 0); have := bd_91_1 hI; omega))
          have hW657 : PEs a0 (sI (sI w 96 a0.toInt.toNat b0) 97 a0.toInt.toNat 0) := (PEs_fr (l := [(97, none)]) (FR.I (FR.refl _ (sI w 96 a0.toInt.toNat b0)) (k := 97) (j := a0.toInt.toNat) (v := 0) rfl) rfl hW655)
          have hW658 : PJ9 (sI (sI (sI w 96 a0.toInt.toNat b0) 97 a0.toInt.toNat 0) 97 a0.toInt.toNat (w.1 94 b0.toInt.toNat)) := (pj9_97 hW656 hW657 (by have := bd_94 hI b0.toInt.toNat; have := bd_91_1 hI; have := bd_92 hI b0.toInt.toNat; have := (by decide : ((9 : Int32)).toInt = 9); have := st_1000 (w.1 92 b0.toInt.toNat) (by omega); omega))
          have o659 : (0 ≤ ((b0 * (4 : Int32)) + (w.1 94 b0.toInt.toNat)).toInt) ∧ (((sI (sI (sI w 96 a0.toInt.toNat b0) 97 a0.toInt.toNat 0) 97 a0.toInt.toNat (w.1 94 b0.toInt.toNat)).1 97 a0.toInt.toNat).toInt = ((b0 * (4 : Int32)) + (w.1 94 b0.toInt.toNat)).toInt % 4) := by have := bd_94 hI b0.toInt.toNat; have := (congrArg Int32.toInt (sI_same (sI (sI w 96 a0.toInt.toNat b0) 97 a0.toInt.toNat 0) 97 a0.toInt.toNat (w.1 94 b0.toInt.toNat))); have := bd_97 hI648 a0.toInt.toNat; have := bd_91_1 hI; have := (by decide : (((-1) : Int32)).toInt = (-1)); have := bd_91_0 hI; have := bd_92 hI b0.toInt.toNat; have := (by decide : ((9 : Int32)).toInt = 9); have := ti_mul2 (Eq.refl b0.toInt) (by decide : ((4 : Int32)).toInt = 4) (by omega) (by omega); have := ti_add2 (Eq.refl (b0 * (4 : Int32)).toInt) (Eq.refl (w.1 94 b0.toInt.toNat).toInt) (by omega) (by omega); have := st_1000 (w.1 92 b0.toInt.toNat) (by omega); exact ⟨by omega, by omega⟩
          have hW660 : PJ9 (sI (sI (sI (sI (sI w 96 a0.toInt.toNat b0) 97 a0.toInt.toNat 0) 97 a0.toInt.toNat (w.1 94 b0.toInt.toNat)) 98 (((b0 * (4 : Int32)) + (w.1 94 b0.toInt.toNat)).toInt.toNat) a0) 94 b0.toInt.toNat ((w.1 94 b0.toInt.toNat) + (1 : Int32))) := (PJ9_fr (l := [(94, none)]) (FR.I (FR.refl _ (sI (sI (sI (sI w 96 a0.toInt.toNat b0) 97 a0.toInt.toNat 0) 97 a0.toInt.toNat (w.1 94 b0.toInt.toNat)) 98 (((b0 * (4 : Int32)) + (w.1 94 b0.toInt.toNat)).toInt.toNat) a0)) (k := 94) (j := b0.toInt.toNat) (v := ((w.1 94 b0.toInt.toNat) + (1 : Int32))) rfl) rfl (pj9_98 hW658 o659.1 o659.2))
          have hW661 : PL9 (sI w 96 a0.toInt.toNat b0) := (pl9_96 hf_PL9 (by have := bd_91_1 hI; have := (by decide : (((-1) : Int32)).toInt = (-1)); have := bd_91_0 hI; omega))
          have hW662 : PL9 (sI (sI w 96 a0.toInt.toNat b0) 97 a0.toInt.toNat 0) := (PL9_fr (l := [(97, none)]) (FR.I (FR.refl _ (sI w 96 a0.toInt.toNat b0)) (k := 97) (j := a0.toInt.toNat) (v := 0) rfl) rfl hW661)
          have hW663 : PL9 (sI (sI (sI w 96 a0.toInt.toNat b0) 97 a0.toInt.toNat 0) 97 a0.toInt.toNat (w.1 94 b0.toInt.toNat)) := (PL9_fr (l := [(97, none)]) (FR.I (FR.refl _ (sI (sI w 96 a0.toInt.toNat b0) 97 a0.toInt.toNat 0)) (k := 97) (j := a0.toInt.toNat) (v := (w.1 94 b0.toInt.toNat)) rfl) rfl hW662)
          have hW664 : PL9 (sI (sI (sI (sI w 96 a0.toInt.toNat b0) 97 a0.toInt.toNat 0) 97 a0.toInt.toNat (w.1 94 b0.toInt.toNat)) 98 (((b0 * (4 : Int32)) + (w.1 94 b0.toInt.toNat)).toInt.toNat) a0) := (PL9_fr (l := [(98, none)]) (FR.I (FR.refl _ (sI (sI (sI w 96 a0.toInt.toNat b0) 97 a0.toInt.toNat 0) 97 a0.toInt.toNat (w.1 94 b0.toInt.toNat))) (k := 98) (j := ((b0 * (4 : Int32)) + (w.1 94 b0.toInt.toNat)).toInt.toNat) (v := a0) rfl) rfl hW663)
          have hW665 : PL9 (sI (sI (sI (sI (sI w 96 a0.toInt.toNat b0) 97 a0.toInt.toNat 0) 97 a0.toInt.toNat (w.1 94 b0.toInt.toNat)) 98 (((b0 * (4 : Int32)) + (w.1 94 b0.toInt.toNat)).toInt.toNat) a0) 94 b0.toInt.toNat ((w.1 94 b0.toInt.toNat) + (1 : Int32))) := (PL9_fr (l := [(94, none)]) (FR.I (FR.refl _ (sI (sI (sI (sI w 96 a0.toInt.toNat b0) 97 a0.toInt.toNat 0) 97 a0.toInt.toNat (w.1 94 b0.toInt.toNat)) 98 (((b0 * (4 : Int32)) + (w.1 94 b0.toInt.toNat)).toInt.toNat) a0)) (k := 94) (j := b0.toInt.toNat) (v := ((w.1 94 b0.toInt.toNat) + (1 : Int32))) rfl) rfl hW664)
          have o666 : (0 ≤ (1 : Int32).toInt) ∧ ((1 : Int32).toInt ≤ 1) := by have := (by decide : ((1 : Int32)).toInt = 1); exact ⟨by omega, by omega⟩
          have o668 : (a0.toInt = a0.toInt) ∧ (0 ≤ a0.toInt) ∧ (b0.toInt < (w.1 91 0).toInt) := by have := bd_91_0 hI; have := bd_91_1 hI; have := (by decide : (((-1) : Int32)).toInt = (-1)); exact ⟨by omega, by omega, by omega⟩
          have hW669 : PLs1 a0 (sI (sI w 96 a0.toInt.toNat b0) 97 a0.toInt.toNat 0) := (PLs1_fr (l := [(97, none)]) (FR.I (FR.refl _ (sI w 96 a0.toInt.toNat b0)) (k := 97) (j := a0.toInt.toNat) (v := 0) rfl) rfl (pls1_96 hp5 o668.1 o668.2.1 o668.2.2))
          have hW670 : PLs1 a0 (sI (sI (sI w 96 a0.toInt.toNat b0) 97 a0.toInt.toNat 0) 97 a0.toInt.toNat (w.1 94 b0.toInt.toNat)) := (PLs1_fr (l := [(97, none)]) (FR.I (FR.refl _ (sI (sI w 96 a0.toInt.toNat b0) 97 a0.toInt.toNat 0)) (k := 97) (j := a0.toInt.toNat) (v := (w.1 94 b0.toInt.toNat)) rfl) rfl hW669)
          have hW671 : PLs1 a0 (sI (sI (sI (sI w 96 a0.toInt.toNat b0) 97 a0.toInt.toNat 0) 97 a0.toInt.toNat (w.1 94 b0.toInt.toNat)) 98 (((b0 * (4 : Int32)) + (w.1 94 b0.toInt.toNat)).toInt.toNat) a0) := (PLs1_fr (l := [(98, none)]) (FR.I (FR.refl _ (sI (sI (sI w 96 a0.toInt.toNat b0) 97 a0.toInt.toNat 0) 97 a0.toInt.toNat (w.1 94 b0.toInt.toNat))) (k := 98) (j := ((b0 * (4 : Int32)) + (w.1 94 b0.toInt.toNat)).toInt.toNat) (v := a0) rfl) rfl hW670)
          have hW672 : PLs1 a0 (sI (sI (sI (sI (sI w 96 a0.toInt.toNat b0) 97 a0.toInt.toNat 0) 97 a0.toInt.toNat (w.1 94 b0.toInt.toNat)) 98 (((b0 * (4 : Int32)) + (w.1 94 b0.toInt.toNat)).toInt.toNat) a0) 94 b0.toInt.toNat ((w.1 94 b0.toInt.toNat) + (1 : Int32))) := (PLs1_fr (l := [(94, none)]) (FR.I (FR.refl _ (sI (sI (sI (sI w 96 a0.toInt.toNat b0) 97 a0.toInt.toNat 0) 97 a0.toInt.toNat (w.1 94 b0.toInt.toNat)) 98 (((b0 * (4 : Int32)) + (w.1 94 b0.toInt.toNat)).toInt.toNat) a0)) (k := 94) (j := b0.toInt.toNat) (v := ((w.1 94 b0.toInt.toNat) + (1 : Int32))) rfl) rfl hW671)
          have hW673 : PEs a0 (sI (sI (sI w 96 a0.toInt.toNat b0) 97 a0.toInt.toNat 0) 97 a0.toInt.toNat (w.1 94 b0.toInt.toNat)) := (PEs_fr (l := [(97, none)]) (FR.I (FR.refl _ (sI (sI w 96 a0.toInt.toNat b0) 97 a0.toInt.toNat 0)) (k := 97) (j := a0.toInt.toNat) (v := (w.1 94 b0.toInt.toNat)) rfl) rfl hW657)
          have hW674 : PEs1 a0 (sI (sI (sI (sI w 96 a0.toInt.toNat b0) 97 a0.toInt.toNat 0) 97 a0.toInt.toNat (w.1 94 b0.toInt.toNat)) 98 (((b0 * (4 : Int32)) + (w.1 94 b0.toInt.toNat)).toInt.toNat) a0) := (pes1_98 hW673 (by have := bd_94 hI b0.toInt.toNat; have := bd_91_1 hI; have := (by decide : (((-1) : Int32)).toInt = (-1)); have := bd_91_0 hI; have := bd_92 hI b0.toInt.toNat; have := (by decide : ((9 : Int32)).toInt = 9); have := ti_mul2 (Eq.refl b0.toInt) (by decide : ((4 : Int32)).toInt = 4) (by omega) (by omega); have := ti_add2 (Eq.refl (b0 * (4 : Int32)).toInt) (Eq.refl (w.1 94 b0.toInt.toNat).toInt) (by omega) (by omega); have := st_1000 (w.1 92 b0.toInt.toNat) (by omega); omega))
          have hW675 : PEs1 a0 (sI (sI (sI (sI (sI w 96 a0.toInt.toNat b0) 97 a0.toInt.toNat 0) 97 a0.toInt.toNat (w.1 94 b0.toInt.toNat)) 98 (((b0 * (4 : Int32)) + (w.1 94 b0.toInt.toNat)).toInt.toNat) a0) 94 b0.toInt.toNat ((w.1 94 b0.toInt.toNat) + (1 : Int32))) := (PEs1_fr (l := [(94, none)]) (FR.I (FR.refl _ (sI (sI (sI (sI w 96 a0.toInt.toNat b0) 97 a0.toInt.toNat 0) 97 a0.toInt.toNat (w.1 94 b0.toInt.toNat)) 98 (((b0 * (4 : Int32)) + (w.1 94 b0.toInt.toNat)).toInt.toNat) a0)) (k := 94) (j := b0.toInt.toNat) (v := ((w.1 94 b0.toInt.toNat) + (1 : Int32))) rfl) rfl hW674)
          exact hQ _ _ hI652 (FR.I (FR.I (FR.I (FR.I (FR.I (FR.refl _ w) (k := 96) (j := a0.toInt.toNat) (v := b0) rfl) (k := 97) (j := a0.toInt.toNat) (v := 0) rfl) (k := 97) (j := a0.toInt.toNat) (v := (w.1 94 b0.toInt.toNat)) rfl) (k := 98) (j := ((b0 * (4 : Int32)) + (w.1 94 b0.toInt.toNat)).toInt.toNat) (v := a0) rfl) (k := 94) (j := b0.toInt.toNat) (v := ((w.1 94 b0.toInt.toNat) + (1 : Int32))) rfl) hW660 hW665  o666.1 o666.2 (Or.inr hW672) (Or.inr hW675)
      · replace h614 : ¬ ((w.1 94 b0.toInt.toNat).toInt < ((stT 1000).getD ((w.1 92 b0.toInt.toNat).toInt.toNat) 0).toInt) := h614
        have o677 : (-1) ≤ b0.toInt ∧ b0.toInt ≤ 9999999 := by have := (by decide : (((-1) : Int32)).toInt = (-1)); have := bd_91_0 hI; omega
        have hI676 : BND (sI w 96 a0.toInt.toNat b0) := wbd_96 hI a0.toInt.toNat o677.1 o677.2
        have hI678 : BND (sI (sI w 96 a0.toInt.toNat b0) 97 a0.toInt.toNat 0) := wbd_97 hI676 a0.toInt.toNat (by decide) (by decide)
        have hW679 : PJ9 (sI w 96 a0.toInt.toNat b0) := (PJ9_fr (l := [(96, none)]) (FR.I (FR.refl _ w) (k := 96) (j := a0.toInt.toNat) (v := b0) rfl) rfl hf_PJ9)
        have hW680 : PEs a0 (sI w 96 a0.toInt.toNat b0) := (PEs_fr (l := [(96, none)]) (FR.I (FR.refl _ w) (k := 96) (j := a0.toInt.toNat) (v := b0) rfl) rfl hp6)
        have hW681 : PJ9 (sI (sI w 96 a0.toInt.toNat b0) 97 a0.toInt.toNat 0) := (pj9_97 hW679 hW680 (by have := (by decide : ((0 : Int32)).toInt = 0); have := bd_91_1 hI; omega))
        have hW682 : PL9 (sI w 96 a0.toInt.toNat b0) := (pl9_96 hf_PL9 (by have := bd_91_1 hI; have := (by decide : (((-1) : Int32)).toInt = (-1)); have := bd_91_0 hI; omega))
        have hW683 : PL9 (sI (sI w 96 a0.toInt.toNat b0) 97 a0.toInt.toNat 0) := (PL9_fr (l := [(97, none)]) (FR.I (FR.refl _ (sI w 96 a0.toInt.toNat b0)) (k := 97) (j := a0.toInt.toNat) (v := 0) rfl) rfl hW682)
        have o684 : (0 ≤ (0 : Int32).toInt) ∧ ((0 : Int32).toInt ≤ 1) := by have := (by decide : ((0 : Int32)).toInt = 0); exact ⟨by omega, by omega⟩
        exact hQ _ _ hI678 (FR.I (FR.I (FR.refl _ w) (k := 96) (j := a0.toInt.toNat) (v := b0) rfl) (k := 97) (j := a0.toInt.toNat) (v := 0) rfl) hW681 hW683  o684.1 o684.2 (Or.inl (by have := (by decide : ((0 : Int32)).toInt = 0); omega)) (Or.inl (by have := (by decide : ((0 : Int32)).toInt = 0); omega))
  · replace h600 : ¬ (¬ b0.toInt = (-1)) := h600
    have o686 : (-1) ≤ b0.toInt ∧ b0.toInt ≤ 9999999 := by have := (by decide : (((-1) : Int32)).toInt = (-1)); omega
    have hI685 : BND (sI w 96 a0.toInt.toNat b0) := wbd_96 hI a0.toInt.toNat o686.1 o686.2
    have hI687 : BND (sI (sI w 96 a0.toInt.toNat b0) 97 a0.toInt.toNat 0) := wbd_97 hI685 a0.toInt.toNat (by decide) (by decide)
    have hW688 : PJ9 (sI w 96 a0.toInt.toNat b0) := (PJ9_fr (l := [(96, none)]) (FR.I (FR.refl _ w) (k := 96) (j := a0.toInt.toNat) (v := b0) rfl) rfl hf_PJ9)
    have hW689 : PEs a0 (sI w 96 a0.toInt.toNat b0) := (PEs_fr (l := [(96, none)]) (FR.I (FR.refl _ w) (k := 96) (j := a0.toInt.toNat) (v := b0) rfl) rfl hp6)
    have hW690 : PJ9 (sI (sI w 96 a0.toInt.toNat b0) 97 a0.toInt.toNat 0) := (pj9_97 hW688 hW689 (by have := (by decide : ((0 : Int32)).toInt = 0); have := bd_91_1 hI; omega))
    have hW691 : PL9 (sI w 96 a0.toInt.toNat b0) := (pl9_96 hf_PL9 (by have := bd_91_1 hI; have := (by decide : (((-1) : Int32)).toInt = (-1)); omega))
    have hW692 : PL9 (sI (sI w 96 a0.toInt.toNat b0) 97 a0.toInt.toNat 0) := (PL9_fr (l := [(97, none)]) (FR.I (FR.refl _ (sI w 96 a0.toInt.toNat b0)) (k := 97) (j := a0.toInt.toNat) (v := 0) rfl) rfl hW691)
    have o693 : (0 ≤ (1 : Int32).toInt) ∧ ((1 : Int32).toInt ≤ 1) := by have := (by decide : ((1 : Int32)).toInt = 1); exact ⟨by omega, by omega⟩
    have o695 : (a0.toInt = a0.toInt) ∧ (0 ≤ a0.toInt) ∧ (b0.toInt < (w.1 91 0).toInt) := by have := bd_91_0 hI; have := bd_91_1 hI; have := (by decide : (((-1) : Int32)).toInt = (-1)); exact ⟨by omega, by omega, by omega⟩
    have hW696 : PLs1 a0 (sI (sI w 96 a0.toInt.toNat b0) 97 a0.toInt.toNat 0) := (PLs1_fr (l := [(97, none)]) (FR.I (FR.refl _ (sI w 96 a0.toInt.toNat b0)) (k := 97) (j := a0.toInt.toNat) (v := 0) rfl) rfl (pls1_96 hp5 o695.1 o695.2.1 o695.2.2))
    have hW697 : PEs a0 (sI (sI w 96 a0.toInt.toNat b0) 97 a0.toInt.toNat 0) := (PEs_fr (l := [(97, none)]) (FR.I (FR.refl _ (sI w 96 a0.toInt.toNat b0)) (k := 97) (j := a0.toInt.toNat) (v := 0) rfl) rfl hW689)
    have hW698 : PEs1 a0 (sI (sI w 96 a0.toInt.toNat b0) 97 a0.toInt.toNat 0) := (pes1_pes hW697 (by have := bd_91_1 hI; omega))
    exact hQ _ _ hI687 (FR.I (FR.I (FR.refl _ w) (k := 96) (j := a0.toInt.toNat) (v := b0) rfl) (k := 97) (j := a0.toInt.toNat) (v := 0) rfl) hW690 hW692  o693.1 o693.2 (Or.inr hW696) (Or.inr hW698)
