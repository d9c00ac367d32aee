def l_Mo_holdsLiquid : Pl := []
set_option maxRecDepth 20000 in
set_option maxHeartbeats 2000000 in
theorem h_Mo_holdsLiquid {w : MW} {a0 : Int32} {Q : Int32 → MW → Prop} (hI : BND w)  (hQ : ∀ (r : Int32) (w' : MW), BND w' → FR l_Mo_holdsLiquid w w' → 0 ≤ r.toInt → r.toInt ≤ 1 → r.toInt = 0 ∨ (0 ≤ a0.toInt ∧ a0.toInt < (w.1 127 4).toInt + (w.1 127 11).toInt) → Q r w') : p_Mo_holdsLiquid w a0 Q := by
  refine Eq.mpr (p_Mo_holdsLiquid.eq_1 _ _ _) ?_
  refine Eq.mpr (p_Mo_isTank.eq_1 _ _ _) ?_
  refine Eq.mpr (p_Mo_isThing.eq_1 _ _ _) ?_
  refine ⟨fun h9566 => ?_, fun h9566 => ?_⟩
  · refine ⟨fun _ => ?_, fun h => absurd (by decide) h⟩
    refine ⟨fun h => absurd h (by decide), fun _ => ?_⟩
    refine Eq.mpr (p_Mo_isPipe.eq_1 _ _ _) ?_
    refine ⟨fun h9567 => ?_, fun h9567 => ?_⟩
    · refine ⟨fun _ => ?_, fun h => absurd (by decide) h⟩
      have o9568 : (0 ≤ (0 : Int32).toInt) ∧ ((0 : Int32).toInt ≤ 1) ∧ ((0 : Int32).toInt = 0 ∨ (0 ≤ a0.toInt ∧ a0.toInt < (w.1 127 4).toInt + (w.1 127 11).toInt)) := by have := (by decide : ((0 : Int32)).toInt = 0); have := bd_127_4 hI; have := bd_127_11 hI; exact ⟨by omega, by omega, by omega⟩
      exact hQ _ _ hI (FR.refl _ w)  o9568.1 o9568.2.1 o9568.2.2
    · exfalso; have := (by decide : ((0 : Int32)).toInt = 0); have := bd_127_4 hI; omega
  · refine ⟨fun h9569 => ?_, fun h9569 => ?_⟩
    · refine ⟨fun _ => ?_, fun h => absurd (by decide) h⟩
      refine ⟨fun h => absurd h (by decide), fun _ => ?_⟩
      refine Eq.mpr (p_Mo_isPipe.eq_1 _ _ _) ?_
      refine ⟨fun h9570 => ?_, fun h9570 => ?_⟩
      · refine ⟨fun _ => ?_, fun h => absurd (by decide) h⟩
        have o9571 : (0 ≤ (0 : Int32).toInt) ∧ ((0 : Int32).toInt ≤ 1) ∧ ((0 : Int32).toInt = 0 ∨ (0 ≤ a0.toInt ∧ a0.toInt < (w.1 127 4).toInt + (w.1 127 11).toInt)) := by have := (by decide : ((0 : Int32)).toInt = 0); have := bd_127_4 hI; have := bd_127_11 hI; exact ⟨by omega, by omega, by omega⟩
        exact hQ _ _ hI (FR.refl _ w)  o9571.1 o9571.2.1 o9571.2.2
      · refine ⟨fun h9572 => ?_, fun h9572 => ?_⟩
        · refine ⟨fun _ => ?_, fun h => absurd (by decide) h⟩
          have o9573 : (0 ≤ (0 : Int32).toInt) ∧ ((0 : Int32).toInt ≤ 1) ∧ ((0 : Int32).toInt = 0 ∨ (0 ≤ a0.toInt ∧ a0.toInt < (w.1 127 4).toInt + (w.1 127 11).toInt)) := by have := (by decide : ((0 : Int32)).toInt = 0); have := bd_127_4 hI; have := bd_127_11 hI; have := ti_add2 (Eq.refl (w.1 127 4).toInt) (Eq.refl (w.1 127 11).toInt) (by omega) (by omega); exact ⟨by omega, by omega, by omega⟩
          exact hQ _ _ hI (FR.refl _ w)  o9573.1 o9573.2.1 o9573.2.2
        · refine ⟨fun h => absurd h (by decide), fun _ => ?_⟩
          have o9574 : (0 ≤ (1 : Int32).toInt) ∧ ((1 : Int32).toInt ≤ 1) ∧ ((1 : Int32).toInt = 0 ∨ (0 ≤ a0.toInt ∧ a0.toInt < (w.1 127 4).toInt + (w.1 127 11).toInt)) := by have := (by decide : ((1 : Int32)).toInt = 1); have := bd_127_4 hI; have := bd_127_11 hI; have := (by decide : ((0 : Int32)).toInt = 0); have := ti_add2 (Eq.refl (w.1 127 4).toInt) (Eq.refl (w.1 127 11).toInt) (by omega) (by omega); exact ⟨by omega, by omega, by omega⟩
          exact hQ _ _ hI (FR.refl _ w)  o9574.1 o9574.2.1 o9574.2.2
    · refine ⟨fun h => absurd h (by decide), fun _ => ?_⟩
      have o9575 : 0 ≤ a0.toInt ∧ a0.toInt < 20 := by have := (by decide : ((0 : Int32)).toInt = 0); have := bd_127_4 hI; omega
      refine ⟨o9575, ?_⟩
      refine ⟨fun h9576 => ?_, fun h9576 => ?_⟩
      · refine ⟨fun h => absurd h (by decide), fun _ => ?_⟩
        refine Eq.mpr (p_Mo_isPipe.eq_1 _ _ _) ?_
        refine ⟨fun h9577 => ?_, fun h9577 => ?_⟩
        · refine ⟨fun _ => ?_, fun h => absurd (by decide) h⟩
          have o9578 : (0 ≤ (0 : Int32).toInt) ∧ ((0 : Int32).toInt ≤ 1) ∧ ((0 : Int32).toInt = 0 ∨ (0 ≤ a0.toInt ∧ a0.toInt < (w.1 127 4).toInt + (w.1 127 11).toInt)) := by have := (by decide : ((0 : Int32)).toInt = 0); have := bd_127_4 hI; have := bd_127_11 hI; exact ⟨by omega, by omega, by omega⟩
          exact hQ _ _ hI (FR.refl _ w)  o9578.1 o9578.2.1 o9578.2.2
        · refine ⟨fun h9579 => ?_, fun h9579 => ?_⟩
          · refine ⟨fun _ => ?_, fun h => absurd (by decide) h⟩
            have o9580 : (0 ≤ (0 : Int32).toInt) ∧ ((0 : Int32).toInt ≤ 1) ∧ ((0 : Int32).toInt = 0 ∨ (0 ≤ a0.toInt ∧ a0.toInt < (w.1 127 4).toInt + (w.1 127 11).toInt)) := by have := (by decide : ((0 : Int32)).toInt = 0); have := bd_127_4 hI; have := bd_127_11 hI; have := ti_add2 (Eq.refl (w.1 127 4).toInt) (Eq.refl (w.1 127 11).toInt) (by omega) (by omega); exact ⟨by omega, by omega, by omega⟩
            exact hQ _ _ hI (FR.refl _ w)  o9580.1 o9580.2.1 o9580.2.2
          · refine ⟨fun h => absurd h (by decide), fun _ => ?_⟩
            have o9581 : (0 ≤ (1 : Int32).toInt) ∧ ((1 : Int32).toInt ≤ 1) ∧ ((1 : Int32).toInt = 0 ∨ (0 ≤ a0.toInt ∧ a0.toInt < (w.1 127 4).toInt + (w.1 127 11).toInt)) := by have := (by decide : ((1 : Int32)).toInt = 1); have := bd_127_4 hI; have := bd_127_11 hI; have := (by decide : ((0 : Int32)).toInt = 0); have := ti_add2 (Eq.refl (w.1 127 4).toInt) (Eq.refl (w.1 127 11).toInt) (by omega) (by omega); exact ⟨by omega, by omega, by omega⟩
            exact hQ _ _ hI (FR.refl _ w)  o9581.1 o9581.2.1 o9581.2.2
      · refine ⟨fun _ => ?_, fun h => absurd (by decide) h⟩
        have o9582 : (0 ≤ (1 : Int32).toInt) ∧ ((1 : Int32).toInt ≤ 1) ∧ ((1 : Int32).toInt = 0 ∨ (0 ≤ a0.toInt ∧ a0.toInt < (w.1 127 4).toInt + (w.1 127 11).toInt)) := by have := (by decide : ((1 : Int32)).toInt = 1); have := bd_127_4 hI; have := bd_127_11 hI; have := (by decide : ((0 : Int32)).toInt = 0); exact ⟨by omega, by omega, by omega⟩
        exact hQ _ _ hI (FR.refl _ w)  o9582.1 o9582.2.1 o9582.2.2
def l_Mo_level_57 : Pl := []
def l_Mo_level_23 : Pl := []
def l_Mo_level : Pl := []
set_option maxRecDepth 20000 in
set_option maxHeartbeats 2000000 in
theorem hq_Mo_level_23 {x23_1 : Int32} {E : MW → Prop} {Q : Int32 → MW → Prop} (n : Nat) : ∀ (x23_2 : Int32) (x23_3 : Int32) (w : MW), BND w → 0 ≤ x23_1.toInt → x23_1.toInt ≤ 43 → (-1) ≤ x23_2.toInt → 0 ≤ x23_3.toInt → x23_3.toInt ≤ 5 → (x23_3.toInt - 0).toNat < n → (∀ (w' : MW), BND w' → FR l_Mo_level_23 w w' → E w') → (∀ (r : Int32) (w' : MW), BND w' → FR l_Mo_level_23 w w' → 1 ≤ r.toInt → r.toInt ≤ 5 → Q r w') → q_Mo_level_23 x23_1 E Q n x23_2 x23_3 w := by
  induction n with
  | zero => intros; omega
  | succ n ih =>
    intro x23_2 x23_3 w hI  hp0 hp1 hp2 hp3 hp4 hm hE hQ
    rw [q_Mo_level_23.eq_2]
    refine ⟨fun h9583 => ?_, fun h9583 => ?_⟩
    · exact hE _ hI (FR.refl _ w)
    · have o9584 : 0 ≤ (((6 : Int32) * x23_1) + x23_3).toInt ∧ (((6 : Int32) * x23_1) + x23_3).toInt < 264 := by have := (by decide : ((0 : Int32)).toInt = 0); have := ti_mul2 (by decide : ((6 : Int32)).toInt = 6) (Eq.refl x23_1.toInt) (by omega) (by omega); have := ti_add2 (Eq.refl ((6 : Int32) * x23_1).toInt) (Eq.refl x23_3.toInt) (by omega) (by omega); omega
      refine ⟨o9584, ?_⟩
      refine ⟨fun h9585 => ?_, fun h9585 => ?_⟩
      · refine Eq.mpr (q_Mo_level_57.eq_1 _ _ _ _ _ _ _) ?_
        refine ⟨fun h9586 => ?_, fun h9586 => ?_⟩
        · have o9587 : (0 ≤ x23_1.toInt) ∧ (x23_1.toInt ≤ 43) ∧ ((-1) ≤ x23_2.toInt) ∧ (0 ≤ (x23_3 + ((-1) : Int32)).toInt) ∧ ((x23_3 + ((-1) : Int32)).toInt ≤ 5) := by have := (by decide : ((0 : Int32)).toInt = 0); have := ti_dec x23_3 (by omega); exact ⟨by omega, by omega, by omega, by omega, by omega⟩
          exact ih _ _ w hI  o9587.1 o9587.2.1 o9587.2.2.1 o9587.2.2.2.1 o9587.2.2.2.2 (by have := (by decide : ((0 : Int32)).toInt = 0); have := ti_dec x23_3 (by omega); omega) (fun w9 hI9 hF9 => hE w9 hI9 ((FR.refl _ w).tr hF9 rfl) ) (fun r w9 hI9 hF9 q0 q1 => hQ r w9 hI9 ((FR.refl _ w).tr hF9 rfl) (by have := (by decide : ((0 : Int32)).toInt = 0); have := ti_dec x23_3 (by omega); omega) (by have := (by decide : ((0 : Int32)).toInt = 0); have := ti_dec x23_3 (by omega); omega))
        · have o9588 : 0 ≤ x23_3.toInt ∧ x23_3.toInt < 6 := by have := (by decide : ((0 : Int32)).toInt = 0); omega
          refine ⟨o9588, ?_⟩
          refine ⟨fun h9589 => ?_, fun h9589 => ?_⟩
          · have o9590 : (0 ≤ x23_1.toInt) ∧ (x23_1.toInt ≤ 43) ∧ ((-1) ≤ x23_2.toInt) ∧ (0 ≤ (x23_3 + ((-1) : Int32)).toInt) ∧ ((x23_3 + ((-1) : Int32)).toInt ≤ 5) := by have := (by decide : ((0 : Int32)).toInt = 0); have := bd_177 hI x23_3.toInt.toNat; have := ti_dec x23_3 (by omega); have := True.intro; exact ⟨by omega, by omega, by omega, by omega, by omega⟩
            exact ih _ _ w hI  o9590.1 o9590.2.1 o9590.2.2.1 o9590.2.2.2.1 o9590.2.2.2.2 (by have := (by decide : ((0 : Int32)).toInt = 0); have := bd_177 hI x23_3.toInt.toNat; have := ti_dec x23_3 (by omega); have := True.intro; omega) (fun w9 hI9 hF9 => hE w9 hI9 ((FR.refl _ w).tr hF9 rfl) ) (fun r w9 hI9 hF9 q0 q1 => hQ r w9 hI9 ((FR.refl _ w).tr hF9 rfl) (by have := (by decide : ((0 : Int32)).toInt = 0); have := bd_177 hI x23_3.toInt.toNat; have := ti_dec x23_3 (by omega); have := True.intro; omega) (by have := (by decide : ((0 : Int32)).toInt = 0); have := bd_177 hI x23_3.toInt.toNat; have := ti_dec x23_3 (by omega); have := True.intro; omega))
          · have o9591 : (1 ≤ x23_3.toInt) ∧ (x23_3.toInt ≤ 5) := by have := (by decide : ((0 : Int32)).toInt = 0); exact ⟨by omega, by omega⟩
            exact hQ _ _ hI (FR.refl _ w)  o9591.1 o9591.2
      · have o9592 : 0 ≤ (((6 : Int32) * x23_1) + x23_3).toInt ∧ (((6 : Int32) * x23_1) + x23_3).toInt < 264 := by have := (by decide : ((0 : Int32)).toInt = 0); have := ti_mul2 (by decide : ((6 : Int32)).toInt = 6) (Eq.refl x23_1.toInt) (by omega) (by omega); have := ti_add2 (Eq.refl ((6 : Int32) * x23_1).toInt) (Eq.refl x23_3.toInt) (by omega) (by omega); omega
        refine ⟨o9592, ?_⟩
        refine Eq.mpr (q_Mo_level_57.eq_1 _ _ _ _ _ _ _) ?_
        refine ⟨fun h9593 => ?_, fun h9593 => ?_⟩
        · exfalso; have := (by decide : ((0 : Int32)).toInt = 0); omega
        · have o9594 : 0 ≤ x23_3.toInt ∧ x23_3.toInt < 6 := by have := (by decide : ((0 : Int32)).toInt = 0); omega
          refine ⟨o9594, ?_⟩
          refine ⟨fun h9595 => ?_, fun h9595 => ?_⟩
          · have o9596 : (0 ≤ x23_1.toInt) ∧ (x23_1.toInt ≤ 43) ∧ ((-1) ≤ (w.1 174 ((((6 : Int32) * x23_1) + x23_3).toInt.toNat)).toInt) ∧ (0 ≤ (x23_3 + ((-1) : Int32)).toInt) ∧ ((x23_3 + ((-1) : Int32)).toInt ≤ 5) := by have := (by decide : ((0 : Int32)).toInt = 0); have := bd_177 hI x23_3.toInt.toNat; have := ti_dec x23_3 (by omega); have := True.intro; exact ⟨by omega, by omega, by omega, by omega, by omega⟩
            exact ih _ _ w hI  o9596.1 o9596.2.1 o9596.2.2.1 o9596.2.2.2.1 o9596.2.2.2.2 (by have := (by decide : ((0 : Int32)).toInt = 0); have := bd_177 hI x23_3.toInt.toNat; have := ti_dec x23_3 (by omega); have := True.intro; omega) (fun w9 hI9 hF9 => hE w9 hI9 ((FR.refl _ w).tr hF9 rfl) ) (fun r w9 hI9 hF9 q0 q1 => hQ r w9 hI9 ((FR.refl _ w).tr hF9 rfl) (by have := (by decide : ((0 : Int32)).toInt = 0); have := bd_177 hI x23_3.toInt.toNat; have := ti_dec x23_3 (by omega); have := True.intro; omega) (by have := (by decide : ((0 : Int32)).toInt = 0); have := bd_177 hI x23_3.toInt.toNat; have := ti_dec x23_3 (by omega); have := True.intro; omega))
          · have o9597 : (1 ≤ x23_3.toInt) ∧ (x23_3.toInt ≤ 5) := by have := (by decide : ((0 : Int32)).toInt = 0); exact ⟨by omega, by omega⟩
            exact hQ _ _ hI (FR.refl _ w)  o9597.1 o9597.2
set_option maxRecDepth 20000 in
set_option maxHeartbeats 2000000 in
theorem h_Mo_level {w : MW} {a0 : Int32} {Q : Int32 → MW → Prop} (hI : BND w) (hp0 : 0 ≤ a0.toInt) (hp1 : a0.toInt ≤ 43) (hp2 : a0.toInt < (w.1 127 4).toInt + (w.1 127 11).toInt) (hQ : ∀ (r : Int32) (w' : MW), BND w' → FR l_Mo_level w w' → 0 ≤ r.toInt → r.toInt ≤ 5 → Q r w') : p_Mo_level w a0 Q := by
  refine Eq.mpr (p_Mo_level.eq_1 _ _ _) ?_
  have o9598 : (0 ≤ a0.toInt) ∧ (a0.toInt ≤ 43) ∧ (a0.toInt < (w.1 127 4).toInt + (w.1 127 11).toInt) := by have := bd_127_4 hI; have := bd_127_11 hI; exact ⟨by omega, by omega, by omega⟩
  refine h_Mo_liquidIn hI  o9598.1 o9598.2.1 o9598.2.2 (fun r9602 w9599 hI9600 hL9601 p9603 p9604 => ?_)
  have hF9605 : FR l_Mo_level w w9599 := (FR.refl _ w).tr hL9601 rfl
  refine ⟨fun h9606 => ?_, fun h9606 => ?_⟩
  · have o9607 : (0 ≤ (0 : Int32).toInt) ∧ ((0 : Int32).toInt ≤ 5) := by have := (by decide : ((0 : Int32)).toInt = 0); exact ⟨by omega, by omega⟩
    exact hQ _ _ hI9600 hF9605  o9607.1 o9607.2
  · have o9608 : 0 ≤ a0.toInt ∧ a0.toInt < 44 := by have := bd_127_4 hI; have := bd_127_11 hI; omega
    refine ⟨o9608, ?_⟩
    refine ⟨fun h9609 => ?_, fun h9609 => ?_⟩
    · have o9610 : (0 ≤ a0.toInt) ∧ (a0.toInt ≤ 43) ∧ ((-1) ≤ ((-1) : Int32).toInt) ∧ (0 ≤ (5 : Int32).toInt) ∧ ((5 : Int32).toInt ≤ 5) := by have := (by decide : (((-1) : Int32)).toInt = (-1)); have := (by decide : ((5 : Int32)).toInt = 5); have := bd_127_4 hI; have := bd_127_11 hI; exact ⟨by omega, by omega, by omega, by omega, by omega⟩
      refine hq_Mo_level_23 FU _ _ w9599 hI9600  o9610.1 o9610.2.1 o9610.2.2.1 o9610.2.2.2.1 o9610.2.2.2.2 (fu_lt (by have := (by decide : (((-1) : Int32)).toInt = (-1)); have := (by decide : ((5 : Int32)).toInt = 5); have := bd_127_4 hI; have := bd_127_11 hI; omega)) (fun w9611 hI9612 hL9613  => ?_) (fun r w9 hI9 hF9 q0 q1 => hQ r w9 hI9 ((hF9605).tr hF9 rfl) (by have := (by decide : (((-1) : Int32)).toInt = (-1)); have := (by decide : ((5 : Int32)).toInt = 5); have := bd_127_4 hI; have := bd_127_11 hI; omega) (by have := (by decide : (((-1) : Int32)).toInt = (-1)); have := (by decide : ((5 : Int32)).toInt = 5); have := bd_127_4 hI; have := bd_127_11 hI; omega))
      have hF9614 : FR l_Mo_level w w9611 := hF9605.tr hL9613 rfl
      have o9615 : (0 ≤ (0 : Int32).toInt) ∧ ((0 : Int32).toInt ≤ 5) := by have := (by decide : ((0 : Int32)).toInt = 0); exact ⟨by omega, by omega⟩
      exact hQ _ _ hI9612 hF9614  o9615.1 o9615.2
    · have o9616 : (0 ≤ (0 : Int32).toInt) ∧ ((0 : Int32).toInt ≤ 5) := by have := (by decide : ((0 : Int32)).toInt = 0); exact ⟨by omega, by omega⟩
      exact hQ _ _ hI9600 hF9605  o9616.1 o9616.2
def l_Mo_litresIn_19 : Pl := []
def l_Mo_litresIn : Pl := []
set_option maxRecDepth 20000 in
set_option maxHeartbeats 2000000 in
theorem hq_Mo_litresIn_19 {x19_1 : Int32} {E : Int32 → MW → Prop} {Q : Int32 → MW → Prop} (n : Nat) : ∀ (x19_2 : Int32) (x19_3 : Int32) (w : MW), BND w → 0 ≤ x19_1.toInt → x19_1.toInt ≤ 43 → 0 ≤ x19_3.toInt → x19_3.toInt ≤ 200 → (w.1 127 4).toInt ≤ x19_1.toInt → x19_1.toInt < (w.1 127 4).toInt + (w.1 127 11).toInt → (200 - x19_3.toInt).toNat < n → (∀ (e19_2 : Int32) (w' : MW), BND w' → FR l_Mo_litresIn_19 w w' → E e19_2 w') → (∀ (r : Int32) (w' : MW), BND w' → FR l_Mo_litresIn_19 w w' → False → Q r w') → q_Mo_litresIn_19 x19_1 E Q n x19_2 x19_3 w := by
  induction n with
  | zero => intros; omega
  | succ n ih =>
    intro x19_2 x19_3 w hI  hp0 hp1 hp2 hp3 hp4 hp5 hm hE hQ
    rw [q_Mo_litresIn_19.eq_2]
    have o9617 : 0 ≤ (x19_1 - (w.1 127 4)).toInt ∧ (x19_1 - (w.1 127 4)).toInt < 24 := by have := bd_127_4 hI; have := bd_127_11 hI; have := ti_sub2 (Eq.refl x19_1.toInt) (Eq.refl (w.1 127 4).toInt) (by omega) (by omega); omega
    refine ⟨o9617, ?_⟩
    refine ⟨fun h9618 => ?_, fun h9618 => ?_⟩
    · exact hE _ _ hI (FR.refl _ w)
    · have o9619 : 0 ≤ (((200 : Int32) * (x19_1 - (w.1 127 4))) + x19_3).toInt ∧ (((200 : Int32) * (x19_1 - (w.1 127 4))) + x19_3).toInt < 4800 := by have := bd_127_4 hI; have := bd_127_11 hI; have := bd_169 hI ((x19_1 - (w.1 127 4)).toInt.toNat); have := ti_sub2 (Eq.refl x19_1.toInt) (Eq.refl (w.1 127 4).toInt) (by omega) (by omega); have := ti_mul2 (by decide : ((200 : Int32)).toInt = 200) (Eq.refl (x19_1 - (w.1 127 4)).toInt) (by omega) (by omega); have := ti_add2 (Eq.refl ((200 : Int32) * (x19_1 - (w.1 127 4))).toInt) (Eq.refl x19_3.toInt) (by omega) (by omega); omega
      refine ⟨o9619, ?_⟩
      refine ⟨fun h9620 => ?_, fun h9620 => ?_⟩
      · have o9621 : (0 ≤ x19_1.toInt) ∧ (x19_1.toInt ≤ 43) ∧ (0 ≤ (x19_3 + (1 : Int32)).toInt) ∧ ((x19_3 + (1 : Int32)).toInt ≤ 200) ∧ ((w.1 127 4).toInt ≤ x19_1.toInt) ∧ (x19_1.toInt < (w.1 127 4).toInt + (w.1 127 11).toInt) := by have := ti_lo x19_2; have := ti_hi x19_2; have := bd_127_4 hI; have := bd_127_11 hI; have := bd_169 hI ((x19_1 - (w.1 127 4)).toInt.toNat); have := True.intro; have := ti_add2 (Eq.refl x19_3.toInt) (by decide : ((1 : Int32)).toInt = 1) (by omega) (by omega); exact ⟨by omega, by omega, by omega, by omega, by omega, by omega⟩
        exact ih _ _ w hI  o9621.1 o9621.2.1 o9621.2.2.1 o9621.2.2.2.1 o9621.2.2.2.2.1 o9621.2.2.2.2.2 (by have := ti_lo x19_2; have := ti_hi x19_2; have := bd_169 hI ((x19_1 - (w.1 127 4)).toInt.toNat); have := True.intro; have := ti_add2 (Eq.refl x19_3.toInt) (by decide : ((1 : Int32)).toInt = 1) (by omega) (by omega); omega) (fun e0 w9 hI9 hF9 => hE e0 w9 hI9 ((FR.refl _ w).tr hF9 rfl) ) (fun r w9 hI9 hF9 q0 => q0.elim)
      · have o9622 : (0 ≤ x19_1.toInt) ∧ (x19_1.toInt ≤ 43) ∧ (0 ≤ (x19_3 + (1 : Int32)).toInt) ∧ ((x19_3 + (1 : Int32)).toInt ≤ 200) ∧ ((w.1 127 4).toInt ≤ x19_1.toInt) ∧ (x19_1.toInt < (w.1 127 4).toInt + (w.1 127 11).toInt) := by have := ti_lo x19_2; have := ti_hi x19_2; have := bd_127_4 hI; have := bd_127_11 hI; have := bd_169 hI ((x19_1 - (w.1 127 4)).toInt.toNat); have := ti_add2 (Eq.refl x19_2.toInt) (by decide : ((0 : Int32)).toInt = 0) (by omega) (by omega); have := ti_add2 (Eq.refl x19_3.toInt) (by decide : ((1 : Int32)).toInt = 1) (by omega) (by omega); exact ⟨by omega, by omega, by omega, by omega, by omega, by omega⟩
        exact ih _ _ w hI  o9622.1 o9622.2.1 o9622.2.2.1 o9622.2.2.2.1 o9622.2.2.2.2.1 o9622.2.2.2.2.2 (by have := ti_lo x19_2; have := ti_hi x19_2; have := bd_169 hI ((x19_1 - (w.1 127 4)).toInt.toNat); have := ti_add2 (Eq.refl x19_2.toInt) (by decide : ((0 : Int32)).toInt = 0) (by omega) (by omega); have := ti_add2 (Eq.refl x19_3.toInt) (by decide : ((1 : Int32)).toInt = 1) (by omega) (by omega); omega) (fun e0 w9 hI9 hF9 => hE e0 w9 hI9 ((FR.refl _ w).tr hF9 rfl) ) (fun r w9 hI9 hF9 q0 => q0.elim)
set_option maxRecDepth 20000 in
set_option maxHeartbeats 2000000 in
theorem h_Mo_litresIn {w : MW} {a0 : Int32} {Q : Int32 → MW → Prop} (hI : BND w) (hp0 : 0 ≤ a0.toInt) (hp1 : a0.toInt ≤ 43) (hp2 : a0.toInt < (w.1 127 4).toInt + (w.1 127 11).toInt) (hQ : ∀ (r : Int32) (w' : MW), BND w' → FR l_Mo_litresIn w w' → Q r w') : p_Mo_litresIn w a0 Q := by
  refine Eq.mpr (p_Mo_litresIn.eq_1 _ _ _) ?_
  refine ⟨fun h9623 => ?_, fun h9623 => ?_⟩
  · have o9624 : (0 ≤ a0.toInt) ∧ (a0.toInt ≤ 43) ∧ (0 ≤ (0 : Int32).toInt) ∧ ((0 : Int32).toInt ≤ 200) ∧ ((w.1 127 4).toInt ≤ a0.toInt) ∧ (a0.toInt < (w.1 127 4).toInt + (w.1 127 11).toInt) := by have := (by decide : ((0 : Int32)).toInt = 0); have := bd_127_4 hI; have := bd_127_11 hI; exact ⟨by omega, by omega, by omega, by omega, by omega, by omega⟩
    refine hq_Mo_litresIn_19 FU _ _ w hI  o9624.1 o9624.2.1 o9624.2.2.1 o9624.2.2.2.1 o9624.2.2.2.2.1 o9624.2.2.2.2.2 (fu_lt (by have := (by decide : ((0 : Int32)).toInt = 0); have := bd_127_4 hI; have := bd_127_11 hI; omega)) (fun e9628 w9625 hI9626 hL9627  => ?_) (fun r w9 hI9 hF9 q0 => q0.elim)
    have hF9629 : FR l_Mo_litresIn w w9625 := (FR.refl _ w).tr hL9627 rfl
    exact hQ _ _ hI9626 hF9629 
  · have o9630 : 0 ≤ a0.toInt ∧ a0.toInt < 20 := by have := bd_127_4 hI; have := bd_127_11 hI; omega
    refine ⟨o9630, ?_⟩
    exact hQ _ _ hI (FR.refl _ w) 
def l_Mo_space : Pl := []
set_option maxRecDepth 20000 in
set_option maxHeartbeats 2000000 in
theorem h_Mo_space {w : MW} {a0 : Int32} {b0 : Int32} {Q : Int32 → MW → Prop} (hI : BND w)  (hQ : ∀ (r : Int32) (w' : MW), BND w' → FR l_Mo_space w w' → Q r w') : p_Mo_space w a0 b0 Q := by
  refine Eq.mpr (p_Mo_space.eq_1 _ _ _ _) ?_
  refine ⟨fun h9631 => ?_, fun h9631 => ?_⟩
  · refine h_Mo_holdsLiquid hI   (fun r9635 w9632 hI9633 hL9634 p9636 p9637 p9638 => ?_)
    have hF9639 : FR l_Mo_space w w9632 := (FR.refl _ w).tr hL9634 rfl
    refine ⟨fun h9640 => ?_, fun h9640 => ?_⟩
    · exact hQ _ _ hI9633 hF9639
    · refine ⟨fun h9641 => ?_, fun h9641 => ?_⟩
      · exact hQ _ _ hI9633 hF9639
      · refine ⟨fun h9642 => ?_, fun h9642 => ?_⟩
        · refine ⟨fun h9643 => ?_, fun h9643 => ?_⟩
          · refine ⟨fun h9644 => ?_, fun h9644 => ?_⟩
            · refine ⟨fun h9645 => ?_, fun h9645 => ?_⟩
              · have o9646 : (0 ≤ a0.toInt) ∧ (a0.toInt ≤ 43) ∧ (a0.toInt < (w9632.1 127 4).toInt + (w9632.1 127 11).toInt) := by have := ti_lo a0; have := ti_hi a0; have := bd_127_4 hI9633; have := bd_127_4 hI; have := (congrArg Int32.toInt (hL9634 127 4 rfl).1); have := bd_127_11 hI9633; have := bd_127_11 hI; have := (congrArg Int32.toInt (hL9634 127 11 rfl).1); have := (by decide : ((0 : Int32)).toInt = 0); exact ⟨by omega, by omega, by omega⟩
                refine h_Mo_level hI9633  o9646.1 o9646.2.1 o9646.2.2 (fun r9650 w9647 hI9648 hL9649 p9651 p9652 => ?_)
                have hF9653 : FR l_Mo_space w w9647 := hF9639.tr hL9649 rfl
                exact hQ _ _ hI9648 hF9653 
              · have o9654 : 0 ≤ a0.toInt ∧ a0.toInt < 44 := by have := ti_lo a0; have := ti_hi a0; have := bd_127_4 hI; have := bd_127_11 hI; have := (by decide : ((0 : Int32)).toInt = 0); omega
                refine ⟨o9654, ?_⟩
                exact hQ _ _ hI9633 hF9639 
            · have o9655 : (0 ≤ a0.toInt) ∧ (a0.toInt ≤ 43) ∧ (a0.toInt < (w9632.1 127 4).toInt + (w9632.1 127 11).toInt) := by have := ti_lo a0; have := ti_hi a0; have := bd_127_4 hI9633; have := bd_127_4 hI; have := (congrArg Int32.toInt (hL9634 127 4 rfl).1); have := bd_127_11 hI9633; have := bd_127_11 hI; have := (congrArg Int32.toInt (hL9634 127 11 rfl).1); have := (by decide : ((0 : Int32)).toInt = 0); exact ⟨by omega, by omega, by omega⟩
              refine h_Mo_litresIn hI9633  o9655.1 o9655.2.1 o9655.2.2 (fun r9659 w9656 hI9657 hL9658  => ?_)
              have hF9660 : FR l_Mo_space w w9656 := hF9639.tr hL9658 rfl
              exact hQ _ _ hI9657 hF9660 
          · have o9661 : (0 ≤ a0.toInt) ∧ (a0.toInt ≤ 43) ∧ (a0.toInt < (w9632.1 127 4).toInt + (w9632.1 127 11).toInt) := by have := ti_lo a0; have := ti_hi a0; have := bd_127_4 hI9633; have := bd_127_4 hI; have := (congrArg Int32.toInt (hL9634 127 4 rfl).1); have := bd_127_11 hI9633; have := bd_127_11 hI; have := (congrArg Int32.toInt (hL9634 127 11 rfl).1); have := (by decide : ((0 : Int32)).toInt = 0); exact ⟨by omega, by omega, by omega⟩
            refine h_Mo_liquidIn hI9633  o9661.1 o9661.2.1 o9661.2.2 (fun r9665 w9662 hI9663 hL9664 p9666 p9667 => ?_)
            have hF9668 : FR l_Mo_space w w9662 := hF9639.tr hL9664 rfl
            exact hQ _ _ hI9663 hF9668 
        · exact hQ _ _ hI9633 hF9639
  · refine Eq.mpr (p_Mo_isValve.eq_1 _ _ _) ?_
    refine Eq.mpr (p_Mo_isThing.eq_1 _ _ _) ?_
    refine ⟨fun h9669 => ?_, fun h9669 => ?_⟩
    · refine ⟨fun _ => ?_, fun h => absurd (by decide) h⟩
      refine ⟨fun _ => ?_, fun h => absurd (by decide) h⟩
      exact hQ _ _ hI (FR.refl _ w) 
    · refine ⟨fun h9670 => ?_, fun h9670 => ?_⟩
      · refine ⟨fun _ => ?_, fun h => absurd (by decide) h⟩
        refine ⟨fun _ => ?_, fun h => absurd (by decide) h⟩
        exact hQ _ _ hI (FR.refl _ w) 
      · refine ⟨fun h => absurd h (by decide), fun _ => ?_⟩
        have o9671 : 0 ≤ a0.toInt ∧ a0.toInt < 20 := by have := (by decide : ((0 : Int32)).toInt = 0); have := bd_127_4 hI; omega
        refine ⟨o9671, ?_⟩
        refine ⟨fun h9672 => ?_, fun h9672 => ?_⟩
        · refine ⟨fun _ => ?_, fun h => absurd (by decide) h⟩
          exact hQ _ _ hI (FR.refl _ w) 
        · refine ⟨fun h => absurd h (by decide), fun _ => ?_⟩
          have o9673 : 0 ≤ a0.toInt ∧ a0.toInt < 20 := by have := (by decide : ((0 : Int32)).toInt = 0); have := bd_127_4 hI; omega
          refine ⟨o9673, ?_⟩
          exact hQ _ _ hI (FR.refl _ w) 
def l_Mo_mayCome_69 : Pl := []
def l_Mo_mayCome : Pl := []
set_option maxRecDepth 20000 in
set_option maxHeartbeats 2000000 in
theorem h_Mo_mayCome {w : MW} {a0 : Int32} {b0 : Int32} {Q : Int32 → MW → Prop} (hI : BND w) (hp0 : 0 ≤ a0.toInt) (hp1 : a0.toInt ≤ 15) (hp2 : 0 ≤ b0.toInt) (hp3 : b0.toInt ≤ 43) (hp4 : b0.toInt < (w.1 127 4).toInt + (w.1 127 11).toInt) (hQ : ∀ (r : Int32) (w' : MW), BND w' → FR l_Mo_mayCome w w' → 0 ≤ r.toInt → r.toInt ≤ 1 → Q r w') : p_Mo_mayCome w a0 b0 Q := by
  refine Eq.mpr (p_Mo_mayCome.eq_1 _ _ _ _) ?_
  have o9674 : (0 ≤ b0.toInt) ∧ (b0.toInt ≤ 43) ∧ (b0.toInt < (w.1 127 4).toInt + (w.1 127 11).toInt) := by have := bd_127_4 hI; have := bd_127_11 hI; exact ⟨by omega, by omega, by omega⟩
  refine h_Mo_liquidIn hI  o9674.1 o9674.2.1 o9674.2.2 (fun r9678 w9675 hI9676 hL9677 p9679 p9680 => ?_)
  have hF9681 : FR l_Mo_mayCome w w9675 := (FR.refl _ w).tr hL9677 rfl
  refine ⟨fun h9682 => ?_, fun h9682 => ?_⟩
  · have o9683 : 0 ≤ b0.toInt ∧ b0.toInt < 44 := by have := bd_127_4 hI; have := bd_127_11 hI; omega
    refine ⟨o9683, ?_⟩
    refine ⟨fun h9684 => ?_, fun h9684 => ?_⟩
    · have o9685 : 0 ≤ b0.toInt ∧ b0.toInt < 44 := by have := bd_127_4 hI; have := bd_127_11 hI; omega
      refine ⟨o9685, ?_⟩
      refine ⟨fun h9686 => ?_, fun h9686 => ?_⟩
      · refine Eq.mpr (q_Mo_mayCome_69.eq_1 _ _ _ _) ?_
        refine ⟨fun h => absurd h (by decide), fun _ => ?_⟩
        have o9687 : (0 ≤ b0.toInt) ∧ (b0.toInt ≤ 43) ∧ (b0.toInt < (w9675.1 127 4).toInt + (w9675.1 127 11).toInt) := by have := bd_127_4 hI9676; have := bd_127_4 hI; have := (congrArg Int32.toInt (hL9677 127 4 rfl).1); have := bd_127_11 hI9676; have := bd_127_11 hI; have := (congrArg Int32.toInt (hL9677 127 11 rfl).1); exact ⟨by omega, by omega, by omega⟩
        refine h_Mo_level hI9676  o9687.1 o9687.2.1 o9687.2.2 (fun r9691 w9688 hI9689 hL9690 p9692 p9693 => ?_)
        have hF9694 : FR l_Mo_mayCome w w9688 := hF9681.tr hL9690 rfl
        refine ⟨fun h9695 => ?_, fun h9695 => ?_⟩
        · replace h9695 : r9691.toInt < 5 := h9695
          have o9696 : (0 ≤ (0 : Int32).toInt) ∧ ((0 : Int32).toInt ≤ 1) := by have := (by decide : ((0 : Int32)).toInt = 0); exact ⟨by omega, by omega⟩
          exact hQ _ _ hI9689 hF9694  o9696.1 o9696.2
        · replace h9695 : ¬ (r9691.toInt < 5) := h9695
          have o9697 : (0 ≤ (1 : Int32).toInt) ∧ ((1 : Int32).toInt ≤ 1) := by have := (by decide : ((1 : Int32)).toInt = 1); exact ⟨by omega, by omega⟩
          exact hQ _ _ hI9689 hF9694  o9697.1 o9697.2
      · refine ⟨fun h9698 => ?_, fun h9698 => ?_⟩
        · have o9699 : 0 ≤ b0.toInt ∧ b0.toInt < 44 := by have := bd_127_4 hI; have := bd_127_11 hI; omega
          refine ⟨o9699, ?_⟩
          have o9700 : 0 ≤ (((16 : Int32) * (w9675.1 173 b0.toInt.toNat)) + a0).toInt ∧ (((16 : Int32) * (w9675.1 173 b0.toInt.toNat)) + a0).toInt < 256 := by have := bd_173 hI9676 b0.toInt.toNat; have := bd_173 hI b0.toInt.toNat; have := (congrArg Int32.toInt (hL9677 173 b0.toInt.toNat rfl).1); have := (by decide : ((0 : Int32)).toInt = 0); have := (by decide : ((15 : Int32)).toInt = 15); have := ti_mul2 (by decide : ((16 : Int32)).toInt = 16) (Eq.refl (w9675.1 173 b0.toInt.toNat).toInt) (by omega) (by omega); have := ti_add2 (Eq.refl ((16 : Int32) * (w9675.1 173 b0.toInt.toNat)).toInt) (Eq.refl a0.toInt) (by omega) (by omega); omega
          refine ⟨o9700, ?_⟩
          refine Eq.mpr (q_Mo_mayCome_69.eq_1 _ _ _ _) ?_
          refine ⟨fun h9701 => ?_, fun h9701 => ?_⟩
          · have o9702 : (0 ≤ (1 : Int32).toInt) ∧ ((1 : Int32).toInt ≤ 1) := by have := (by decide : ((1 : Int32)).toInt = 1); exact ⟨by omega, by omega⟩
            exact hQ _ _ hI9676 hF9681  o9702.1 o9702.2
          · have o9703 : (0 ≤ b0.toInt) ∧ (b0.toInt ≤ 43) ∧ (b0.toInt < (w9675.1 127 4).toInt + (w9675.1 127 11).toInt) := by have := bd_127_4 hI9676; have := bd_127_4 hI; have := (congrArg Int32.toInt (hL9677 127 4 rfl).1); have := bd_127_11 hI9676; have := bd_127_11 hI; have := (congrArg Int32.toInt (hL9677 127 11 rfl).1); exact ⟨by omega, by omega, by omega⟩
            refine h_Mo_level hI9676  o9703.1 o9703.2.1 o9703.2.2 (fun r9707 w9704 hI9705 hL9706 p9708 p9709 => ?_)
            have hF9710 : FR l_Mo_mayCome w w9704 := hF9681.tr hL9706 rfl
            refine ⟨fun h9711 => ?_, fun h9711 => ?_⟩
            · have o9712 : (0 ≤ (0 : Int32).toInt) ∧ ((0 : Int32).toInt ≤ 1) := by have := (by decide : ((0 : Int32)).toInt = 0); exact ⟨by omega, by omega⟩
              exact hQ _ _ hI9705 hF9710  o9712.1 o9712.2
            · have o9713 : (0 ≤ (1 : Int32).toInt) ∧ ((1 : Int32).toInt ≤ 1) := by have := (by decide : ((1 : Int32)).toInt = 1); exact ⟨by omega, by omega⟩
              exact hQ _ _ hI9705 hF9710  o9713.1 o9713.2
        · refine Eq.mpr (q_Mo_mayCome_69.eq_1 _ _ _ _) ?_
          refine ⟨fun h => absurd h (by decide), fun _ => ?_⟩
          have o9714 : (0 ≤ b0.toInt) ∧ (b0.toInt ≤ 43) ∧ (b0.toInt < (w9675.1 127 4).toInt + (w9675.1 127 11).toInt) := by have := bd_127_4 hI9676; have := bd_127_4 hI; have := (congrArg Int32.toInt (hL9677 127 4 rfl).1); have := bd_127_11 hI9676; have := bd_127_11 hI; have := (congrArg Int32.toInt (hL9677 127 11 rfl).1); exact ⟨by omega, by omega, by omega⟩
          refine h_Mo_level hI9676  o9714.1 o9714.2.1 o9714.2.2 (fun r9718 w9715 hI9716 hL9717 p9719 p9720 => ?_)
          have hF9721 : FR l_Mo_mayCome w w9715 := hF9681.tr hL9717 rfl
          refine ⟨fun h9722 => ?_, fun h9722 => ?_⟩
          · replace h9722 : r9718.toInt < 5 := h9722
            have o9723 : (0 ≤ (0 : Int32).toInt) ∧ ((0 : Int32).toInt ≤ 1) := by have := (by decide : ((0 : Int32)).toInt = 0); exact ⟨by omega, by omega⟩
            exact hQ _ _ hI9716 hF9721  o9723.1 o9723.2
          · replace h9722 : ¬ (r9718.toInt < 5) := h9722
            have o9724 : (0 ≤ (1 : Int32).toInt) ∧ ((1 : Int32).toInt ≤ 1) := by have := (by decide : ((1 : Int32)).toInt = 1); exact ⟨by omega, by omega⟩
            exact hQ _ _ hI9716 hF9721  o9724.1 o9724.2
    · have o9725 : (0 ≤ (1 : Int32).toInt) ∧ ((1 : Int32).toInt ≤ 1) := by have := (by decide : ((1 : Int32)).toInt = 1); exact ⟨by omega, by omega⟩
      exact hQ _ _ hI9676 hF9681  o9725.1 o9725.2
  · refine ⟨fun h9726 => ?_, fun h9726 => ?_⟩
    · have o9727 : (0 ≤ (0 : Int32).toInt) ∧ ((0 : Int32).toInt ≤ 1) := by have := (by decide : ((0 : Int32)).toInt = 0); exact ⟨by omega, by omega⟩
      exact hQ _ _ hI9676 hF9681  o9727.1 o9727.2
    · have o9728 : (0 ≤ (1 : Int32).toInt) ∧ ((1 : Int32).toInt ≤ 1) := by have := (by decide : ((1 : Int32)).toInt = 1); exact ⟨by omega, by omega⟩
      exact hQ _ _ hI9676 hF9681  o9728.1 o9728.2
def l_Mo_may_46 : Pl := [(175, none)]
def l_Mo_may : Pl := [(175, none)]
set_option maxRecDepth 20000 in
set_option maxHeartbeats 2000000 in
theorem h_Mo_may {w : MW} {a0 : Int32} {b0 : Int32} {Q : Int32 → MW → Prop} (hI : BND w)  (hQ : ∀ (r : Int32) (w' : MW), BND w' → FR l_Mo_may w w' → 0 ≤ r.toInt → r.toInt ≤ 1 → Q r w') : p_Mo_may w a0 b0 Q := by
  refine Eq.mpr (p_Mo_may.eq_1 _ _ _ _) ?_
  refine ⟨fun h9729 => ?_, fun h9729 => ?_⟩
  · refine Eq.mpr (q_Mo_may_46.eq_1 _ _ _ _ _) ?_
    refine ⟨fun _ => ?_, fun h => absurd (by decide) h⟩
    refine ⟨by decide, ?_⟩
    have o9730 : (0 ≤ (0 : Int32).toInt) ∧ ((0 : Int32).toInt ≤ 1) := by have := (by decide : ((0 : Int32)).toInt = 0); exact ⟨by omega, by omega⟩
    exact hQ _ _ hI (FR.refl _ w)  o9730.1 o9730.2
  · refine ⟨fun h9731 => ?_, fun h9731 => ?_⟩
    · refine Eq.mpr (q_Mo_may_46.eq_1 _ _ _ _ _) ?_
      refine ⟨fun _ => ?_, fun h => absurd (by decide) h⟩
      refine ⟨by decide, ?_⟩
      have o9732 : (0 ≤ (0 : Int32).toInt) ∧ ((0 : Int32).toInt ≤ 1) := by have := (by decide : ((0 : Int32)).toInt = 0); exact ⟨by omega, by omega⟩
      exact hQ _ _ hI (FR.refl _ w)  o9732.1 o9732.2
    · refine ⟨fun h9733 => ?_, fun h9733 => ?_⟩
      · refine Eq.mpr (q_Mo_may_46.eq_1 _ _ _ _ _) ?_
        refine ⟨fun _ => ?_, fun h => absurd (by decide) h⟩
        refine ⟨by decide, ?_⟩
        have o9734 : (0 ≤ (0 : Int32).toInt) ∧ ((0 : Int32).toInt ≤ 1) := by have := (by decide : ((0 : Int32)).toInt = 0); exact ⟨by omega, by omega⟩
        exact hQ _ _ hI (FR.refl _ w)  o9734.1 o9734.2
      · refine ⟨fun h9735 => ?_, fun h9735 => ?_⟩
        · refine Eq.mpr (q_Mo_may_46.eq_1 _ _ _ _ _) ?_
          refine ⟨fun _ => ?_, fun h => absurd (by decide) h⟩
          refine ⟨by decide, ?_⟩
          have o9736 : (0 ≤ (0 : Int32).toInt) ∧ ((0 : Int32).toInt ≤ 1) := by have := (by decide : ((0 : Int32)).toInt = 0); exact ⟨by omega, by omega⟩
          exact hQ _ _ hI (FR.refl _ w)  o9736.1 o9736.2
        · refine ⟨fun h9737 => ?_, fun h9737 => ?_⟩
          · refine Eq.mpr (q_Mo_may_46.eq_1 _ _ _ _ _) ?_
            refine ⟨fun _ => ?_, fun h => absurd (by decide) h⟩
            refine ⟨by decide, ?_⟩
            have o9738 : (0 ≤ (0 : Int32).toInt) ∧ ((0 : Int32).toInt ≤ 1) := by have := (by decide : ((0 : Int32)).toInt = 0); exact ⟨by omega, by omega⟩
            exact hQ _ _ hI (FR.refl _ w)  o9738.1 o9738.2
          · have o9739 : 0 ≤ (((16 : Int32) * a0) + b0).toInt ∧ (((16 : Int32) * a0) + b0).toInt < 256 := by have := (by decide : ((1 : Int32)).toInt = 1); have := (by decide : ((14 : Int32)).toInt = 14); have := ti_mul2 (by decide : ((16 : Int32)).toInt = 16) (Eq.refl a0.toInt) (by omega) (by omega); have := ti_add2 (Eq.refl ((16 : Int32) * a0).toInt) (Eq.refl b0.toInt) (by omega) (by omega); omega
            refine ⟨o9739, ?_⟩
            refine ⟨fun h9740 => ?_, fun h9740 => ?_⟩
            · refine Eq.mpr (q_Mo_may_46.eq_1 _ _ _ _ _) ?_
              refine ⟨fun _ => ?_, fun h => absurd (by decide) h⟩
              refine ⟨by decide, ?_⟩
              have o9741 : (0 ≤ (0 : Int32).toInt) ∧ ((0 : Int32).toInt ≤ 1) := by have := (by decide : ((0 : Int32)).toInt = 0); exact ⟨by omega, by omega⟩
              exact hQ _ _ hI (FR.refl _ w)  o9741.1 o9741.2
            · refine Eq.mpr (q_Mo_may_46.eq_1 _ _ _ _ _) ?_
              refine ⟨fun h => absurd h (by decide), fun _ => ?_⟩
              have o9742 : 0 ≤ (((16 : Int32) * a0) + b0).toInt ∧ (((16 : Int32) * a0) + b0).toInt < 256 := by have := (by decide : ((1 : Int32)).toInt = 1); have := (by decide : ((14 : Int32)).toInt = 14); have := ti_mul2 (by decide : ((16 : Int32)).toInt = 16) (Eq.refl a0.toInt) (by omega) (by omega); have := ti_add2 (Eq.refl ((16 : Int32) * a0).toInt) (Eq.refl b0.toInt) (by omega) (by omega); omega
              refine ⟨o9742, ?_⟩
              have o9743 : 0 ≤ (((16 : Int32) * b0) + a0).toInt ∧ (((16 : Int32) * b0) + a0).toInt < 256 := by have := (by decide : ((1 : Int32)).toInt = 1); have := (by decide : ((14 : Int32)).toInt = 14); have := ti_mul2 (by decide : ((16 : Int32)).toInt = 16) (Eq.refl b0.toInt) (by omega) (by omega); have := ti_add2 (Eq.refl ((16 : Int32) * b0).toInt) (Eq.refl a0.toInt) (by omega) (by omega); omega
              refine ⟨o9743, ?_⟩
              refine ⟨by decide, ?_⟩
              have o9745 : 0 ≤ (vp_nar .boolean (1 : Int32)).toInt ∧ (vp_nar .boolean (1 : Int32)).toInt ≤ 1 := by have := nb_bool1; omega
              have hI9744 : BND (sI w 175 ((((16 : Int32) * a0) + b0).toInt.toNat) (vp_nar .boolean (1 : Int32))) := wbd_175 hI ((((16 : Int32) * a0) + b0).toInt.toNat) o9745.1 o9745.2
              have o9747 : 0 ≤ (vp_nar .boolean (1 : Int32)).toInt ∧ (vp_nar .boolean (1 : Int32)).toInt ≤ 1 := by have := nb_bool1; omega
              have hI9746 : BND (sI (sI w 175 ((((16 : Int32) * a0) + b0).toInt.toNat) (vp_nar .boolean (1 : Int32))) 175 ((((16 : Int32) * b0) + a0).toInt.toNat) (vp_nar .boolean (1 : Int32))) := wbd_175 hI9744 ((((16 : Int32) * b0) + a0).toInt.toNat) o9747.1 o9747.2
              have o9748 : (0 ≤ (1 : Int32).toInt) ∧ ((1 : Int32).toInt ≤ 1) := by have := (by decide : ((1 : Int32)).toInt = 1); exact ⟨by omega, by omega⟩
              exact hQ _ _ hI9746 (FR.I (FR.I (FR.refl _ w) (k := 175) (j := (((16 : Int32) * a0) + b0).toInt.toNat) (v := (vp_nar .boolean (1 : Int32))) rfl) (k := 175) (j := (((16 : Int32) * b0) + a0).toInt.toNat) (v := (vp_nar .boolean (1 : Int32))) rfl)  o9748.1 o9748.2
def l_Mo_need : Pl := [(176, none)]
set_option maxRecDepth 20000 in
set_option maxHeartbeats 2000000 in
theorem h_Mo_need {w : MW} {a0 : Int32} {b0 : Int32} {c0 : Int32} {Q : Int32 → MW → Prop} (hI : BND w)  (hQ : ∀ (r : Int32) (w' : MW), BND w' → FR l_Mo_need w w' → 0 ≤ r.toInt → r.toInt ≤ 1 → Q r w') : p_Mo_need w a0 b0 c0 Q := by
  refine Eq.mpr (p_Mo_need.eq_1 _ _ _ _ _) ?_
  refine ⟨fun h9749 => ?_, fun h9749 => ?_⟩
  · have o9750 : (0 ≤ (0 : Int32).toInt) ∧ ((0 : Int32).toInt ≤ 1) := by have := (by decide : ((0 : Int32)).toInt = 0); exact ⟨by omega, by omega⟩
    exact hQ _ _ hI (FR.refl _ w)  o9750.1 o9750.2
  · refine ⟨fun h9751 => ?_, fun h9751 => ?_⟩
    · have o9752 : (0 ≤ (0 : Int32).toInt) ∧ ((0 : Int32).toInt ≤ 1) := by have := (by decide : ((0 : Int32)).toInt = 0); exact ⟨by omega, by omega⟩
      exact hQ _ _ hI (FR.refl _ w)  o9752.1 o9752.2
    · refine ⟨fun h9753 => ?_, fun h9753 => ?_⟩
      · have o9754 : (0 ≤ (0 : Int32).toInt) ∧ ((0 : Int32).toInt ≤ 1) := by have := (by decide : ((0 : Int32)).toInt = 0); exact ⟨by omega, by omega⟩
        exact hQ _ _ hI (FR.refl _ w)  o9754.1 o9754.2
      · refine ⟨fun h9755 => ?_, fun h9755 => ?_⟩
        · have o9756 : (0 ≤ (0 : Int32).toInt) ∧ ((0 : Int32).toInt ≤ 1) := by have := (by decide : ((0 : Int32)).toInt = 0); exact ⟨by omega, by omega⟩
          exact hQ _ _ hI (FR.refl _ w)  o9756.1 o9756.2
        · refine ⟨fun h9757 => ?_, fun h9757 => ?_⟩
          · have o9758 : (0 ≤ (0 : Int32).toInt) ∧ ((0 : Int32).toInt ≤ 1) := by have := (by decide : ((0 : Int32)).toInt = 0); exact ⟨by omega, by omega⟩
            exact hQ _ _ hI (FR.refl _ w)  o9758.1 o9758.2
          · refine ⟨fun h9759 => ?_, fun h9759 => ?_⟩
            · have o9760 : 0 ≤ (((16 : Int32) * a0) + b0).toInt ∧ (((16 : Int32) * a0) + b0).toInt < 256 := by have := (by decide : ((1 : Int32)).toInt = 1); have := (by decide : ((14 : Int32)).toInt = 14); have := ti_mul2 (by decide : ((16 : Int32)).toInt = 16) (Eq.refl a0.toInt) (by omega) (by omega); have := ti_add2 (Eq.refl ((16 : Int32) * a0).toInt) (Eq.refl b0.toInt) (by omega) (by omega); omega
              refine ⟨o9760, ?_⟩
              have o9762 : 0 ≤ c0.toInt ∧ c0.toInt ≤ 5 := by have := (by decide : ((0 : Int32)).toInt = 0); have := (by decide : ((5 : Int32)).toInt = 5); omega
              have hI9761 : BND (sI w 176 ((((16 : Int32) * a0) + b0).toInt.toNat) c0) := wbd_176 hI ((((16 : Int32) * a0) + b0).toInt.toNat) o9762.1 o9762.2
              have o9763 : (0 ≤ (1 : Int32).toInt) ∧ ((1 : Int32).toInt ≤ 1) := by have := (by decide : ((1 : Int32)).toInt = 1); exact ⟨by omega, by omega⟩
              exact hQ _ _ hI9761 (FR.I (FR.refl _ w) (k := 176) (j := (((16 : Int32) * a0) + b0).toInt.toNat) (v := c0) rfl)  o9763.1 o9763.2
            · have o9764 : (0 ≤ (0 : Int32).toInt) ∧ ((0 : Int32).toInt ≤ 1) := by have := (by decide : ((0 : Int32)).toInt = 0); exact ⟨by omega, by omega⟩
              exact hQ _ _ hI (FR.refl _ w)  o9764.1 o9764.2
def l_Mo_lasts : Pl := [(177, none)]
set_option maxRecDepth 20000 in
set_option maxHeartbeats 2000000 in
theorem h_Mo_lasts {w : MW} {a0 : Int32} {b0 : Int32} {Q : Int32 → MW → Prop} (hI : BND w)  (hQ : ∀ (r : Int32) (w' : MW), BND w' → FR l_Mo_lasts w w' → 0 ≤ r.toInt → r.toInt ≤ 1 → Q r w') : p_Mo_lasts w a0 b0 Q := by
  refine Eq.mpr (p_Mo_lasts.eq_1 _ _ _ _) ?_
  refine ⟨fun h9765 => ?_, fun h9765 => ?_⟩
  · have o9766 : (0 ≤ (0 : Int32).toInt) ∧ ((0 : Int32).toInt ≤ 1) := by have := (by decide : ((0 : Int32)).toInt = 0); exact ⟨by omega, by omega⟩
    exact hQ _ _ hI (FR.refl _ w)  o9766.1 o9766.2
  · refine ⟨fun h9767 => ?_, fun h9767 => ?_⟩
    · have o9768 : (0 ≤ (0 : Int32).toInt) ∧ ((0 : Int32).toInt ≤ 1) := by have := (by decide : ((0 : Int32)).toInt = 0); exact ⟨by omega, by omega⟩
      exact hQ _ _ hI (FR.refl _ w)  o9768.1 o9768.2
    · refine ⟨fun h9769 => ?_, fun h9769 => ?_⟩
      · have o9770 : (0 ≤ (0 : Int32).toInt) ∧ ((0 : Int32).toInt ≤ 1) := by have := (by decide : ((0 : Int32)).toInt = 0); exact ⟨by omega, by omega⟩
        exact hQ _ _ hI (FR.refl _ w)  o9770.1 o9770.2
      · refine ⟨fun h9771 => ?_, fun h9771 => ?_⟩
        · have o9772 : 0 ≤ a0.toInt ∧ a0.toInt < 6 := by have := (by decide : ((1 : Int32)).toInt = 1); have := (by decide : ((5 : Int32)).toInt = 5); omega
          refine ⟨o9772, ?_⟩
          have o9774 : 0 ≤ b0.toInt ∧ b0.toInt ≤ 1000000 := by have := (by decide : ((0 : Int32)).toInt = 0); have := (by decide : ((1000000 : Int32)).toInt = 1000000); omega
          have hI9773 : BND (sI w 177 a0.toInt.toNat b0) := wbd_177 hI a0.toInt.toNat o9774.1 o9774.2
          have o9775 : (0 ≤ (1 : Int32).toInt) ∧ ((1 : Int32).toInt ≤ 1) := by have := (by decide : ((1 : Int32)).toInt = 1); exact ⟨by omega, by omega⟩
          exact hQ _ _ hI9773 (FR.I (FR.refl _ w) (k := 177) (j := a0.toInt.toNat) (v := b0) rfl)  o9775.1 o9775.2
        · have o9776 : (0 ≤ (0 : Int32).toInt) ∧ ((0 : Int32).toInt ≤ 1) := by have := (by decide : ((0 : Int32)).toInt = 0); exact ⟨by omega, by omega⟩
          exact hQ _ _ hI (FR.refl _ w)  o9776.1 o9776.2
def l_Mo_bind_72 : Pl := [(197, none), (198, none), (199, none), (200, none)]
def l_Mo_bind_53 : Pl := [(197, none), (198, none), (199, none), (200, none)]
def l_Mo_bind_36 : Pl := [(197, none), (198, none), (199, none), (200, none)]
def l_Mo_bind : Pl := [(197, none), (198, none), (199, none), (200, none)]
set_option maxRecDepth 20000 in
set_option maxHeartbeats 2000000 in
theorem h_Mo_bind {w : MW} {a0 : Int32} {b0 : Int32} {c0 : Int32} {e0 : Int32} {f0 : Int32} {Q : Int32 → MW → Prop} (hI : BND w)  (hQ : ∀ (r : Int32) (w' : MW), BND w' → FR l_Mo_bind w w' → 0 ≤ r.toInt → r.toInt ≤ 1 → Q r w') : p_Mo_bind w a0 b0 c0 e0 f0 Q := by
  refine Eq.mpr (p_Mo_bind.eq_1 _ _ _ _ _ _ _) ?_
  refine ⟨fun h9777 => ?_, fun h9777 => ?_⟩
  · have o9778 : (0 ≤ (0 : Int32).toInt) ∧ ((0 : Int32).toInt ≤ 1) := by have := (by decide : ((0 : Int32)).toInt = 0); exact ⟨by omega, by omega⟩
    exact hQ _ _ hI (FR.refl _ w)  o9778.1 o9778.2
  · refine ⟨fun h9779 => ?_, fun h9779 => ?_⟩
    · have o9780 : (0 ≤ (0 : Int32).toInt) ∧ ((0 : Int32).toInt ≤ 1) := by have := (by decide : ((0 : Int32)).toInt = 0); exact ⟨by omega, by omega⟩
      exact hQ _ _ hI (FR.refl _ w)  o9780.1 o9780.2
    · refine ⟨fun h9781 => ?_, fun h9781 => ?_⟩
      · have o9782 : (0 ≤ (0 : Int32).toInt) ∧ ((0 : Int32).toInt ≤ 1) := by have := (by decide : ((0 : Int32)).toInt = 0); exact ⟨by omega, by omega⟩
        exact hQ _ _ hI (FR.refl _ w)  o9782.1 o9782.2
      · refine ⟨fun h9783 => ?_, fun h9783 => ?_⟩
        · have o9784 : (0 ≤ (0 : Int32).toInt) ∧ ((0 : Int32).toInt ≤ 1) := by have := (by decide : ((0 : Int32)).toInt = 0); exact ⟨by omega, by omega⟩
          exact hQ _ _ hI (FR.refl _ w)  o9784.1 o9784.2
        · refine ⟨fun h9785 => ?_, fun h9785 => ?_⟩
          · refine Eq.mpr (q_Mo_bind_36.eq_1 _ _ _ _ _ _ _) ?_
            refine ⟨fun h9786 => ?_, fun h9786 => ?_⟩
            · refine Eq.mpr (q_Mo_bind_53.eq_1 _ _ _ _ _ _ _) ?_
              refine ⟨fun h9787 => ?_, fun h9787 => ?_⟩
              · refine Eq.mpr (q_Mo_bind_72.eq_1 _ _ _ _ _ _ _) ?_
                have o9788 : 0 ≤ a0.toInt ∧ a0.toInt < 32 := by have := (by decide : ((0 : Int32)).toInt = 0); have := (by decide : ((31 : Int32)).toInt = 31); omega
                refine ⟨o9788, ?_⟩
                have o9789 : 0 ≤ a0.toInt ∧ a0.toInt < 32 := by have := (by decide : ((0 : Int32)).toInt = 0); have := (by decide : ((31 : Int32)).toInt = 31); omega
                refine ⟨o9789, ?_⟩
                have o9790 : 0 ≤ a0.toInt ∧ a0.toInt < 32 := by have := (by decide : ((0 : Int32)).toInt = 0); have := (by decide : ((31 : Int32)).toInt = 31); omega
                refine ⟨o9790, ?_⟩
                have o9791 : 0 ≤ a0.toInt ∧ a0.toInt < 32 := by have := (by decide : ((0 : Int32)).toInt = 0); have := (by decide : ((31 : Int32)).toInt = 31); omega
                refine ⟨o9791, ?_⟩
                have o9793 : (-1) ≤ b0.toInt ∧ b0.toInt ≤ 4 := by have := (by decide : ((0 : Int32)).toInt = 0); have := (by decide : ((4 : Int32)).toInt = 4); have := (by decide : ((2 : Int32)).toInt = 2); have := (by decide : ((3 : Int32)).toInt = 3); omega
                have hI9792 : BND (sI w 197 a0.toInt.toNat b0) := wbd_197 hI a0.toInt.toNat o9793.1 o9793.2
                have hI9794 : BND (sI (sI w 197 a0.toInt.toNat b0) 198 a0.toInt.toNat c0) := wbd_198 hI9792 a0.toInt.toNat
                have hI9795 : BND (sI (sI (sI w 197 a0.toInt.toNat b0) 198 a0.toInt.toNat c0) 199 a0.toInt.toNat e0) := wbd_199 hI9794 a0.toInt.toNat
                have hI9796 : BND (sI (sI (sI (sI w 197 a0.toInt.toNat b0) 198 a0.toInt.toNat c0) 199 a0.toInt.toNat e0) 200 a0.toInt.toNat f0) := wbd_200 hI9795 a0.toInt.toNat
                have o9797 : (0 ≤ (1 : Int32).toInt) ∧ ((1 : Int32).toInt ≤ 1) := by have := (by decide : ((1 : Int32)).toInt = 1); exact ⟨by omega, by omega⟩
                exact hQ _ _ hI9796 (FR.I (FR.I (FR.I (FR.I (FR.refl _ w) (k := 197) (j := a0.toInt.toNat) (v := b0) rfl) (k := 198) (j := a0.toInt.toNat) (v := c0) rfl) (k := 199) (j := a0.toInt.toNat) (v := e0) rfl) (k := 200) (j := a0.toInt.toNat) (v := f0) rfl)  o9797.1 o9797.2
              · refine ⟨fun h9798 => ?_, fun h9798 => ?_⟩
                · have o9799 : (0 ≤ (0 : Int32).toInt) ∧ ((0 : Int32).toInt ≤ 1) := by have := (by decide : ((0 : Int32)).toInt = 0); exact ⟨by omega, by omega⟩
                  exact hQ _ _ hI (FR.refl _ w)  o9799.1 o9799.2
                · refine ⟨fun h9800 => ?_, fun h9800 => ?_⟩
                  · refine Eq.mpr (q_Mo_bind_72.eq_1 _ _ _ _ _ _ _) ?_
                    have o9801 : 0 ≤ a0.toInt ∧ a0.toInt < 32 := by have := (by decide : ((0 : Int32)).toInt = 0); have := (by decide : ((31 : Int32)).toInt = 31); omega
                    refine ⟨o9801, ?_⟩
                    have o9802 : 0 ≤ a0.toInt ∧ a0.toInt < 32 := by have := (by decide : ((0 : Int32)).toInt = 0); have := (by decide : ((31 : Int32)).toInt = 31); omega
                    refine ⟨o9802, ?_⟩
                    have o9803 : 0 ≤ a0.toInt ∧ a0.toInt < 32 := by have := (by decide : ((0 : Int32)).toInt = 0); have := (by decide : ((31 : Int32)).toInt = 31); omega
                    refine ⟨o9803, ?_⟩
                    have o9804 : 0 ≤ a0.toInt ∧ a0.toInt < 32 := by have := (by decide : ((0 : Int32)).toInt = 0); have := (by decide : ((31 : Int32)).toInt = 31); omega
                    refine ⟨o9804, ?_⟩
                    have o9806 : (-1) ≤ b0.toInt ∧ b0.toInt ≤ 4 := by have := (by decide : ((0 : Int32)).toInt = 0); have := (by decide : ((4 : Int32)).toInt = 4); have := (by decide : ((2 : Int32)).toInt = 2); have := (by decide : ((3 : Int32)).toInt = 3); omega
                    have hI9805 : BND (sI w 197 a0.toInt.toNat b0) := wbd_197 hI a0.toInt.toNat o9806.1 o9806.2
                    have hI9807 : BND (sI (sI w 197 a0.toInt.toNat b0) 198 a0.toInt.toNat c0) := wbd_198 hI9805 a0.toInt.toNat
                    have hI9808 : BND (sI (sI (sI w 197 a0.toInt.toNat b0) 198 a0.toInt.toNat c0) 199 a0.toInt.toNat e0) := wbd_199 hI9807 a0.toInt.toNat
                    have hI9809 : BND (sI (sI (sI (sI w 197 a0.toInt.toNat b0) 198 a0.toInt.toNat c0) 199 a0.toInt.toNat e0) 200 a0.toInt.toNat f0) := wbd_200 hI9808 a0.toInt.toNat
                    have o9810 : (0 ≤ (1 : Int32).toInt) ∧ ((1 : Int32).toInt ≤ 1) := by have := (by decide : ((1 : Int32)).toInt = 1); exact ⟨by omega, by omega⟩
                    exact hQ _ _ hI9809 (FR.I (FR.I (FR.I (FR.I (FR.refl _ w) (k := 197) (j := a0.toInt.toNat) (v := b0) rfl) (k := 198) (j := a0.toInt.toNat) (v := c0) rfl) (k := 199) (j := a0.toInt.toNat) (v := e0) rfl) (k := 200) (j := a0.toInt.toNat) (v := f0) rfl)  o9810.1 o9810.2
                  · have o9811 : (0 ≤ (0 : Int32).toInt) ∧ ((0 : Int32).toInt ≤ 1) := by have := (by decide : ((0 : Int32)).toInt = 0); exact ⟨by omega, by omega⟩
                    exact hQ _ _ hI (FR.refl _ w)  o9811.1 o9811.2
            · refine ⟨fun h9812 => ?_, fun h9812 => ?_⟩
              · have o9813 : (0 ≤ (0 : Int32).toInt) ∧ ((0 : Int32).toInt ≤ 1) := by have := (by decide : ((0 : Int32)).toInt = 0); exact ⟨by omega, by omega⟩
                exact hQ _ _ hI (FR.refl _ w)  o9813.1 o9813.2
              · refine ⟨fun h9814 => ?_, fun h9814 => ?_⟩
                · have o9815 : (0 ≤ (0 : Int32).toInt) ∧ ((0 : Int32).toInt ≤ 1) := by have := (by decide : ((0 : Int32)).toInt = 0); exact ⟨by omega, by omega⟩
                  exact hQ _ _ hI (FR.refl _ w)  o9815.1 o9815.2
                · refine Eq.mpr (q_Mo_bind_53.eq_1 _ _ _ _ _ _ _) ?_
                  refine ⟨fun h9816 => ?_, fun h9816 => ?_⟩
                  · refine Eq.mpr (q_Mo_bind_72.eq_1 _ _ _ _ _ _ _) ?_
                    have o9817 : 0 ≤ a0.toInt ∧ a0.toInt < 32 := by have := (by decide : ((0 : Int32)).toInt = 0); have := (by decide : ((31 : Int32)).toInt = 31); omega
                    refine ⟨o9817, ?_⟩
                    have o9818 : 0 ≤ a0.toInt ∧ a0.toInt < 32 := by have := (by decide : ((0 : Int32)).toInt = 0); have := (by decide : ((31 : Int32)).toInt = 31); omega
                    refine ⟨o9818, ?_⟩
                    have o9819 : 0 ≤ a0.toInt ∧ a0.toInt < 32 := by have := (by decide : ((0 : Int32)).toInt = 0); have := (by decide : ((31 : Int32)).toInt = 31); omega
                    refine ⟨o9819, ?_⟩
                    have o9820 : 0 ≤ a0.toInt ∧ a0.toInt < 32 := by have := (by decide : ((0 : Int32)).toInt = 0); have := (by decide : ((31 : Int32)).toInt = 31); omega
                    refine ⟨o9820, ?_⟩
                    have o9822 : (-1) ≤ b0.toInt ∧ b0.toInt ≤ 4 := by have := (by decide : ((0 : Int32)).toInt = 0); have := (by decide : ((4 : Int32)).toInt = 4); have := (by decide : ((2 : Int32)).toInt = 2); have := (by decide : ((3 : Int32)).toInt = 3); omega
                    have hI9821 : BND (sI w 197 a0.toInt.toNat b0) := wbd_197 hI a0.toInt.toNat o9822.1 o9822.2
                    have hI9823 : BND (sI (sI w 197 a0.toInt.toNat b0) 198 a0.toInt.toNat c0) := wbd_198 hI9821 a0.toInt.toNat
                    have hI9824 : BND (sI (sI (sI w 197 a0.toInt.toNat b0) 198 a0.toInt.toNat c0) 199 a0.toInt.toNat e0) := wbd_199 hI9823 a0.toInt.toNat
                    have hI9825 : BND (sI (sI (sI (sI w 197 a0.toInt.toNat b0) 198 a0.toInt.toNat c0) 199 a0.toInt.toNat e0) 200 a0.toInt.toNat f0) := wbd_200 hI9824 a0.toInt.toNat
                    have o9826 : (0 ≤ (1 : Int32).toInt) ∧ ((1 : Int32).toInt ≤ 1) := by have := (by decide : ((1 : Int32)).toInt = 1); exact ⟨by omega, by omega⟩
                    exact hQ _ _ hI9825 (FR.I (FR.I (FR.I (FR.I (FR.refl _ w) (k := 197) (j := a0.toInt.toNat) (v := b0) rfl) (k := 198) (j := a0.toInt.toNat) (v := c0) rfl) (k := 199) (j := a0.toInt.toNat) (v := e0) rfl) (k := 200) (j := a0.toInt.toNat) (v := f0) rfl)  o9826.1 o9826.2
                  · exfalso; have := (by decide : ((0 : Int32)).toInt = 0); have := (by decide : ((31 : Int32)).toInt = 31); have := (by decide : ((4 : Int32)).toInt = 4); have := (by decide : ((2 : Int32)).toInt = 2); have := (by decide : ((9 : Int32)).toInt = 9); have := (by decide : ((3 : Int32)).toInt = 3); omega
          · refine ⟨fun h9827 => ?_, fun h9827 => ?_⟩
            · have o9828 : (0 ≤ (0 : Int32).toInt) ∧ ((0 : Int32).toInt ≤ 1) := by have := (by decide : ((0 : Int32)).toInt = 0); exact ⟨by omega, by omega⟩
              exact hQ _ _ hI (FR.refl _ w)  o9828.1 o9828.2
            · refine ⟨fun h9829 => ?_, fun h9829 => ?_⟩
              · have o9830 : (0 ≤ (0 : Int32).toInt) ∧ ((0 : Int32).toInt ≤ 1) := by have := (by decide : ((0 : Int32)).toInt = 0); exact ⟨by omega, by omega⟩
                exact hQ _ _ hI (FR.refl _ w)  o9830.1 o9830.2
              · refine Eq.mpr (q_Mo_bind_36.eq_1 _ _ _ _ _ _ _) ?_
                refine ⟨fun h9831 => ?_, fun h9831 => ?_⟩
                · refine Eq.mpr (q_Mo_bind_53.eq_1 _ _ _ _ _ _ _) ?_
                  refine ⟨fun h9832 => ?_, fun h9832 => ?_⟩
                  · refine Eq.mpr (q_Mo_bind_72.eq_1 _ _ _ _ _ _ _) ?_
                    have o9833 : 0 ≤ a0.toInt ∧ a0.toInt < 32 := by have := (by decide : ((0 : Int32)).toInt = 0); have := (by decide : ((31 : Int32)).toInt = 31); omega
                    refine ⟨o9833, ?_⟩
                    have o9834 : 0 ≤ a0.toInt ∧ a0.toInt < 32 := by have := (by decide : ((0 : Int32)).toInt = 0); have := (by decide : ((31 : Int32)).toInt = 31); omega
                    refine ⟨o9834, ?_⟩
                    have o9835 : 0 ≤ a0.toInt ∧ a0.toInt < 32 := by have := (by decide : ((0 : Int32)).toInt = 0); have := (by decide : ((31 : Int32)).toInt = 31); omega
                    refine ⟨o9835, ?_⟩
                    have o9836 : 0 ≤ a0.toInt ∧ a0.toInt < 32 := by have := (by decide : ((0 : Int32)).toInt = 0); have := (by decide : ((31 : Int32)).toInt = 31); omega
                    refine ⟨o9836, ?_⟩
                    have o9838 : (-1) ≤ b0.toInt ∧ b0.toInt ≤ 4 := by have := (by decide : ((0 : Int32)).toInt = 0); have := (by decide : ((4 : Int32)).toInt = 4); have := (by decide : ((2 : Int32)).toInt = 2); have := (by decide : ((3 : Int32)).toInt = 3); omega
                    have hI9837 : BND (sI w 197 a0.toInt.toNat b0) := wbd_197 hI a0.toInt.toNat o9838.1 o9838.2
                    have hI9839 : BND (sI (sI w 197 a0.toInt.toNat b0) 198 a0.toInt.toNat c0) := wbd_198 hI9837 a0.toInt.toNat
                    have hI9840 : BND (sI (sI (sI w 197 a0.toInt.toNat b0) 198 a0.toInt.toNat c0) 199 a0.toInt.toNat e0) := wbd_199 hI9839 a0.toInt.toNat
                    have hI9841 : BND (sI (sI (sI (sI w 197 a0.toInt.toNat b0) 198 a0.toInt.toNat c0) 199 a0.toInt.toNat e0) 200 a0.toInt.toNat f0) := wbd_200 hI9840 a0.toInt.toNat
                    have o9842 : (0 ≤ (1 : Int32).toInt) ∧ ((1 : Int32).toInt ≤ 1) := by have := (by decide : ((1 : Int32)).toInt = 1); exact ⟨by omega, by omega⟩
                    exact hQ _ _ hI9841 (FR.I (FR.I (FR.I (FR.I (FR.refl _ w) (k := 197) (j := a0.toInt.toNat) (v := b0) rfl) (k := 198) (j := a0.toInt.toNat) (v := c0) rfl) (k := 199) (j := a0.toInt.toNat) (v := e0) rfl) (k := 200) (j := a0.toInt.toNat) (v := f0) rfl)  o9842.1 o9842.2
                  · exfalso; have := (by decide : ((0 : Int32)).toInt = 0); have := (by decide : ((31 : Int32)).toInt = 31); have := (by decide : ((4 : Int32)).toInt = 4); have := (by decide : ((1 : Int32)).toInt = 1); have := (by decide : ((100 : Int32)).toInt = 100); have := (by decide : ((2 : Int32)).toInt = 2); have := (by decide : ((3 : Int32)).toInt = 3); omega
                · exfalso; have := (by decide : ((0 : Int32)).toInt = 0); have := (by decide : ((31 : Int32)).toInt = 31); have := (by decide : ((4 : Int32)).toInt = 4); have := (by decide : ((1 : Int32)).toInt = 1); have := (by decide : ((100 : Int32)).toInt = 100); have := (by decide : ((2 : Int32)).toInt = 2); omega
def l_Mo_isOnWay_34 : Pl := []
def l_Mo_isOnWay_2 : Pl := []
def l_Mo_isOnWay : Pl := []
set_option maxRecDepth 20000 in
set_option maxHeartbeats 2000000 in
theorem hq_Mo_isOnWay_34 {x34_1 : Int32} {x34_2 : Int32} {E : MW → Prop} {Q : Int32 → MW → Prop} (n : Nat) : ∀ (x34_3 : Int32) (w : MW), BND w → 0 ≤ x34_1.toInt → x34_1.toInt ≤ 43 → 0 ≤ x34_2.toInt → x34_2.toInt ≤ 23 → 0 ≤ x34_3.toInt → x34_3.toInt ≤ 24 → (24 - x34_3.toInt).toNat < n → (∀ (w' : MW), BND w' → FR l_Mo_isOnWay_34 w w' → E w') → (∀ (r : Int32) (w' : MW), BND w' → FR l_Mo_isOnWay_34 w w' → 1 ≤ r.toInt → r.toInt ≤ 1 → Q r w') → q_Mo_isOnWay_34 x34_1 x34_2 E Q n x34_3 w := by
  induction n with
  | zero => intros; omega
  | succ n ih =>
    intro x34_3 w hI  hp0 hp1 hp2 hp3 hp4 hp5 hm hE hQ
    rw [q_Mo_isOnWay_34.eq_2]
    have o9843 : 0 ≤ x34_2.toInt ∧ x34_2.toInt < 24 := by omega
    refine ⟨o9843, ?_⟩
    refine ⟨fun h9844 => ?_, fun h9844 => ?_⟩
    · exact hE _ hI (FR.refl _ w)
    · have o9845 : 0 ≤ (((24 : Int32) * x34_2) + x34_3).toInt ∧ (((24 : Int32) * x34_2) + x34_3).toInt < 576 := by have := bd_185 hI x34_2.toInt.toNat; have := ti_mul2 (by decide : ((24 : Int32)).toInt = 24) (Eq.refl x34_2.toInt) (by omega) (by omega); have := ti_add2 (Eq.refl ((24 : Int32) * x34_2).toInt) (Eq.refl x34_3.toInt) (by omega) (by omega); omega
      refine ⟨o9845, ?_⟩
      refine ⟨fun h9846 => ?_, fun h9846 => ?_⟩
      · have o9847 : (0 ≤ x34_1.toInt) ∧ (x34_1.toInt ≤ 43) ∧ (0 ≤ x34_2.toInt) ∧ (x34_2.toInt ≤ 23) ∧ (0 ≤ (x34_3 + (1 : Int32)).toInt) ∧ ((x34_3 + (1 : Int32)).toInt ≤ 24) := by have := bd_185 hI x34_2.toInt.toNat; have := ti_add2 (Eq.refl x34_3.toInt) (by decide : ((1 : Int32)).toInt = 1) (by omega) (by omega); exact ⟨by omega, by omega, by omega, by omega, by omega, by omega⟩
        exact ih _ w hI  o9847.1 o9847.2.1 o9847.2.2.1 o9847.2.2.2.1 o9847.2.2.2.2.1 o9847.2.2.2.2.2 (by have := bd_185 hI x34_2.toInt.toNat; have := ti_add2 (Eq.refl x34_3.toInt) (by decide : ((1 : Int32)).toInt = 1) (by omega) (by omega); omega) (fun w9 hI9 hF9 => hE w9 hI9 ((FR.refl _ w).tr hF9 rfl) ) (fun r w9 hI9 hF9 q0 q1 => hQ r w9 hI9 ((FR.refl _ w).tr hF9 rfl) (by have := bd_185 hI x34_2.toInt.toNat; have := ti_add2 (Eq.refl x34_3.toInt) (by decide : ((1 : Int32)).toInt = 1) (by omega) (by omega); omega) (by have := bd_185 hI x34_2.toInt.toNat; have := ti_add2 (Eq.refl x34_3.toInt) (by decide : ((1 : Int32)).toInt = 1) (by omega) (by omega); omega))
      · have o9848 : (1 ≤ (1 : Int32).toInt) ∧ ((1 : Int32).toInt ≤ 1) := by have := (by decide : ((1 : Int32)).toInt = 1); exact ⟨by omega, by omega⟩
        exact hQ _ _ hI (FR.refl _ w)  o9848.1 o9848.2
set_option maxRecDepth 20000 in
set_option maxHeartbeats 2000000 in
theorem hq_Mo_isOnWay_2 {x2_1 : Int32} {E : MW → Prop} {Q : Int32 → MW → Prop} (n : Nat) : ∀ (x2_2 : Int32) (w : MW), BND w → 0 ≤ x2_1.toInt → x2_1.toInt ≤ 43 → 0 ≤ x2_2.toInt → x2_2.toInt ≤ 24 → (24 - x2_2.toInt).toNat < n → (∀ (w' : MW), BND w' → FR l_Mo_isOnWay_2 w w' → E w') → (∀ (r : Int32) (w' : MW), BND w' → FR l_Mo_isOnWay_2 w w' → 1 ≤ r.toInt → r.toInt ≤ 1 → Q r w') → q_Mo_isOnWay_2 x2_1 E Q n x2_2 w := by
  induction n with
  | zero => intros; omega
  | succ n ih =>
    intro x2_2 w hI  hp0 hp1 hp2 hp3 hm hE hQ
    rw [q_Mo_isOnWay_2.eq_2]
    refine ⟨fun h9849 => ?_, fun h9849 => ?_⟩
    · exact hE _ hI (FR.refl _ w)
    · have o9850 : 0 ≤ x2_2.toInt ∧ x2_2.toInt < 24 := by have := bd_127_26 hI; omega
      refine ⟨o9850, ?_⟩
      refine ⟨fun h9851 => ?_, fun h9851 => ?_⟩
      · have o9852 : (1 ≤ (1 : Int32).toInt) ∧ ((1 : Int32).toInt ≤ 1) := by have := (by decide : ((1 : Int32)).toInt = 1); exact ⟨by omega, by omega⟩
        exact hQ _ _ hI (FR.refl _ w)  o9852.1 o9852.2
      · have o9853 : 0 ≤ x2_2.toInt ∧ x2_2.toInt < 24 := by have := bd_127_26 hI; omega
        refine ⟨o9853, ?_⟩
        refine ⟨fun h9854 => ?_, fun h9854 => ?_⟩
        · have o9855 : (0 ≤ x2_1.toInt) ∧ (x2_1.toInt ≤ 43) ∧ (0 ≤ x2_2.toInt) ∧ (x2_2.toInt ≤ 23) ∧ (0 ≤ (0 : Int32).toInt) ∧ ((0 : Int32).toInt ≤ 24) := by have := (by decide : ((0 : Int32)).toInt = 0); have := bd_127_26 hI; have := bd_181 hI x2_2.toInt.toNat; have := bd_182 hI x2_2.toInt.toNat; exact ⟨by omega, by omega, by omega, by omega, by omega, by omega⟩
          refine hq_Mo_isOnWay_34 FU _ w hI  o9855.1 o9855.2.1 o9855.2.2.1 o9855.2.2.2.1 o9855.2.2.2.2.1 o9855.2.2.2.2.2 (fu_lt (by have := (by decide : ((0 : Int32)).toInt = 0); have := bd_127_26 hI; have := bd_181 hI x2_2.toInt.toNat; have := bd_182 hI x2_2.toInt.toNat; omega)) (fun w9856 hI9857 hL9858  => ?_) (fun r w9 hI9 hF9 q0 q1 => hQ r w9 hI9 (((FR.refl _ w)).tr hF9 rfl) (by have := (by decide : ((0 : Int32)).toInt = 0); have := bd_127_26 hI; have := bd_181 hI x2_2.toInt.toNat; have := bd_182 hI x2_2.toInt.toNat; omega) (by have := (by decide : ((0 : Int32)).toInt = 0); have := bd_127_26 hI; have := bd_181 hI x2_2.toInt.toNat; have := bd_182 hI x2_2.toInt.toNat; omega))
          have hF9859 : FR l_Mo_isOnWay_2 w w9856 := (FR.refl _ w).tr hL9858 rfl
          have o9860 : (0 ≤ x2_1.toInt) ∧ (x2_1.toInt ≤ 43) ∧ (0 ≤ (x2_2 + (1 : Int32)).toInt) ∧ ((x2_2 + (1 : Int32)).toInt ≤ 24) := by have := bd_127_26 hI; have := ti_add2 (Eq.refl x2_2.toInt) (by decide : ((1 : Int32)).toInt = 1) (by omega) (by omega); exact ⟨by omega, by omega, by omega, by omega⟩
          exact ih _ w9856 hI9857  o9860.1 o9860.2.1 o9860.2.2.1 o9860.2.2.2 (by have := bd_127_26 hI; have := ti_add2 (Eq.refl x2_2.toInt) (by decide : ((1 : Int32)).toInt = 1) (by omega) (by omega); omega) (fun w9 hI9 hF9 => hE w9 hI9 (hF9859.tr hF9 rfl) ) (fun r w9 hI9 hF9 q0 q1 => hQ r w9 hI9 (hF9859.tr hF9 rfl) (by have := bd_127_26 hI; have := ti_add2 (Eq.refl x2_2.toInt) (by decide : ((1 : Int32)).toInt = 1) (by omega) (by omega); omega) (by have := bd_127_26 hI; have := ti_add2 (Eq.refl x2_2.toInt) (by decide : ((1 : Int32)).toInt = 1) (by omega) (by omega); omega))
        · have o9861 : (1 ≤ (1 : Int32).toInt) ∧ ((1 : Int32).toInt ≤ 1) := by have := (by decide : ((1 : Int32)).toInt = 1); exact ⟨by omega, by omega⟩
          exact hQ _ _ hI (FR.refl _ w)  o9861.1 o9861.2
set_option maxRecDepth 20000 in
set_option maxHeartbeats 2000000 in
theorem h_Mo_isOnWay {w : MW} {a0 : Int32} {Q : Int32 → MW → Prop} (hI : BND w) (hp0 : 0 ≤ a0.toInt) (hp1 : a0.toInt ≤ 43) (hQ : ∀ (r : Int32) (w' : MW), BND w' → FR l_Mo_isOnWay w w' → 0 ≤ r.toInt → r.toInt ≤ 1 → Q r w') : p_Mo_isOnWay w a0 Q := by
  refine Eq.mpr (p_Mo_isOnWay.eq_1 _ _ _) ?_
  have o9862 : (0 ≤ a0.toInt) ∧ (a0.toInt ≤ 43) ∧ (0 ≤ (0 : Int32).toInt) ∧ ((0 : Int32).toInt ≤ 24) := by have := (by decide : ((0 : Int32)).toInt = 0); exact ⟨by omega, by omega, by omega, by omega⟩
  refine hq_Mo_isOnWay_2 FU _ w hI  o9862.1 o9862.2.1 o9862.2.2.1 o9862.2.2.2 (fu_lt (by have := (by decide : ((0 : Int32)).toInt = 0); omega)) (fun w9863 hI9864 hL9865  => ?_) (fun r w9 hI9 hF9 q0 q1 => hQ r w9 hI9 (((FR.refl _ w)).tr hF9 rfl) (by have := (by decide : ((0 : Int32)).toInt = 0); omega) (by have := (by decide : ((0 : Int32)).toInt = 0); omega))
  have hF9866 : FR l_Mo_isOnWay w w9863 := (FR.refl _ w).tr hL9865 rfl
  have o9867 : (0 ≤ (0 : Int32).toInt) ∧ ((0 : Int32).toInt ≤ 1) := by have := (by decide : ((0 : Int32)).toInt = 0); exact ⟨by omega, by omega⟩
  exact hQ _ _ hI9864 hF9866  o9867.1 o9867.2
