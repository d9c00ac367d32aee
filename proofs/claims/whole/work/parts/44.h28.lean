def l_Mo_held_2 : Pl := []
def l_Mo_held : Pl := []
set_option maxRecDepth 20000 in
set_option maxHeartbeats 2000000 in
theorem hq_Mo_held_2 {x2_1 : Int32} {E : MW → Prop} {Q : Int32 → MW → Prop} (n : Nat) : ∀ (x2_2 : Int32) (w : MW), BND w → 0 ≤ x2_1.toInt → x2_1.toInt ≤ 19 → 0 ≤ x2_2.toInt → x2_2.toInt ≤ 24 → (24 - x2_2.toInt).toNat < n → (∀ (w' : MW), BND w' → FR l_Mo_held_2 w w' → E w') → (∀ (r : Int32) (w' : MW), BND w' → FR l_Mo_held_2 w w' → 0 ≤ r.toInt → r.toInt ≤ 9 → Q r w') → q_Mo_held_2 x2_1 E Q n x2_2 w := by
  induction n with
  | zero => intros; omega
  | succ n ih =>
    intro x2_2 w hI  hp0 hp1 hp2 hp3 hm hE hQ
    rw [q_Mo_held_2.eq_2]
    refine ⟨fun h6533 => ?_, fun h6533 => ?_⟩
    · exact hE _ hI (FR.refl _ w)
    · have o6534 : 0 ≤ (((20 : Int32) * x2_2) + x2_1).toInt ∧ (((20 : Int32) * x2_2) + x2_1).toInt < 480 := by have := bd_127_26 hI; have := ti_mul2 (by decide : ((20 : Int32)).toInt = 20) (Eq.refl x2_2.toInt) (by omega) (by omega); have := ti_add2 (Eq.refl ((20 : Int32) * x2_2).toInt) (Eq.refl x2_1.toInt) (by omega) (by omega); omega
      refine ⟨o6534, ?_⟩
      refine ⟨fun h6535 => ?_, fun h6535 => ?_⟩
      · have o6536 : (0 ≤ x2_1.toInt) ∧ (x2_1.toInt ≤ 19) ∧ (0 ≤ (x2_2 + (1 : Int32)).toInt) ∧ ((x2_2 + (1 : Int32)).toInt ≤ 24) := by have := bd_127_26 hI; have := ti_add2 (Eq.refl x2_2.toInt) (by decide : ((1 : Int32)).toInt = 1) (by omega) (by omega); exact ⟨by omega, by omega, by omega, by omega⟩
        exact ih _ w hI  o6536.1 o6536.2.1 o6536.2.2.1 o6536.2.2.2 (by have := bd_127_26 hI; have := ti_add2 (Eq.refl x2_2.toInt) (by decide : ((1 : Int32)).toInt = 1) (by omega) (by omega); omega) (fun w9 hI9 hF9 => hE w9 hI9 ((FR.refl _ w).tr hF9 rfl) ) (fun r w9 hI9 hF9 q0 q1 => hQ r w9 hI9 ((FR.refl _ w).tr hF9 rfl) (by have := bd_127_26 hI; have := ti_add2 (Eq.refl x2_2.toInt) (by decide : ((1 : Int32)).toInt = 1) (by omega) (by omega); omega) (by have := bd_127_26 hI; have := ti_add2 (Eq.refl x2_2.toInt) (by decide : ((1 : Int32)).toInt = 1) (by omega) (by omega); omega))
      · have o6537 : 0 ≤ (((20 : Int32) * x2_2) + x2_1).toInt ∧ (((20 : Int32) * x2_2) + x2_1).toInt < 480 := by have := bd_127_26 hI; have := ti_mul2 (by decide : ((20 : Int32)).toInt = 20) (Eq.refl x2_2.toInt) (by omega) (by omega); have := ti_add2 (Eq.refl ((20 : Int32) * x2_2).toInt) (Eq.refl x2_1.toInt) (by omega) (by omega); omega
        refine ⟨o6537, ?_⟩
        have o6538 : (0 ≤ (w.1 187 ((((20 : Int32) * x2_2) + x2_1).toInt.toNat)).toInt) ∧ ((w.1 187 ((((20 : Int32) * x2_2) + x2_1).toInt.toNat)).toInt ≤ 9) := by have := bd_187 hI ((((20 : Int32) * x2_2) + x2_1).toInt.toNat); have := (by decide : (((-1) : Int32)).toInt = (-1)); exact ⟨by omega, by omega⟩
        exact hQ _ _ hI (FR.refl _ w)  o6538.1 o6538.2
set_option maxRecDepth 20000 in
set_option maxHeartbeats 2000000 in
theorem h_Mo_held {w : MW} {a0 : Int32} {Q : Int32 → MW → Prop} (hI : BND w) (hp0 : 0 ≤ a0.toInt) (hp1 : a0.toInt ≤ 19) (hQ : ∀ (r : Int32) (w' : MW), BND w' → FR l_Mo_held w w' → (-1) ≤ r.toInt → r.toInt ≤ 9 → Q r w') : p_Mo_held w a0 Q := by
  refine Eq.mpr (p_Mo_held.eq_1 _ _ _) ?_
  have o6539 : (0 ≤ a0.toInt) ∧ (a0.toInt ≤ 19) ∧ (0 ≤ (0 : Int32).toInt) ∧ ((0 : Int32).toInt ≤ 24) := by have := (by decide : ((0 : Int32)).toInt = 0); exact ⟨by omega, by omega, by omega, by omega⟩
  refine hq_Mo_held_2 FU _ w hI  o6539.1 o6539.2.1 o6539.2.2.1 o6539.2.2.2 (fu_lt (by have := (by decide : ((0 : Int32)).toInt = 0); omega)) (fun w6540 hI6541 hL6542  => ?_) (fun r w9 hI9 hF9 q0 q1 => hQ r w9 hI9 (((FR.refl _ w)).tr hF9 rfl) (by have := (by decide : ((0 : Int32)).toInt = 0); omega) (by have := (by decide : ((0 : Int32)).toInt = 0); omega))
  have hF6543 : FR l_Mo_held w w6540 := (FR.refl _ w).tr hL6542 rfl
  have o6544 : ((-1) ≤ ((-1) : Int32).toInt) ∧ (((-1) : Int32).toInt ≤ 9) := by have := (by decide : (((-1) : Int32)).toInt = (-1)); exact ⟨by omega, by omega⟩
  exact hQ _ _ hI6541 hF6543  o6544.1 o6544.2
def l_Mo_close_40 : Pl := [(167, none), (187, none)]
def l_Mo_close_2 : Pl := [(167, none), (187, none)]
def l_Mo_close_177 : Pl := [(186, none)]
def l_Mo_close_215 : Pl := [(187, none)]
def l_Mo_close_95 : Pl := [(181, none), (182, none), (183, none), (184, none), (185, none), (186, none), (187, none)]
def l_Mo_close : Pl := [(127, some 26), (167, none), (181, none), (182, none), (183, none), (184, none), (185, none), (186, none), (187, none)]
set_option maxRecDepth 20000 in
set_option maxHeartbeats 2000000 in
theorem hq_Mo_close_2 {x2_1 : Int32} {E : MW → Prop} {Q : MW → Prop} (n : Nat) : ∀ (x2_2 : Int32) (w : MW), BND w → 0 ≤ x2_1.toInt → x2_1.toInt ≤ 23 → 0 ≤ x2_2.toInt → x2_2.toInt ≤ 20 → (20 - x2_2.toInt).toNat < n → (∀ (w' : MW), BND w' → FR l_Mo_close_2 w w' → E w') → (∀ (w' : MW), BND w' → FR l_Mo_close_2 w w' → False → Q w') → q_Mo_close_2 x2_1 E Q n x2_2 w := by
  induction n with
  | zero => intros; omega
  | succ n ih =>
    intro x2_2 w hI  hp0 hp1 hp2 hp3 hm hE hQ
    rw [q_Mo_close_2.eq_2]
    refine ⟨fun h6545 => ?_, fun h6545 => ?_⟩
    · exact hE _ hI (FR.refl _ w)
    · have o6546 : 0 ≤ (((20 : Int32) * x2_1) + x2_2).toInt ∧ (((20 : Int32) * x2_1) + x2_2).toInt < 480 := by have := bd_127_4 hI; have := ti_mul2 (by decide : ((20 : Int32)).toInt = 20) (Eq.refl x2_1.toInt) (by omega) (by omega); have := ti_add2 (Eq.refl ((20 : Int32) * x2_1).toInt) (Eq.refl x2_2.toInt) (by omega) (by omega); omega
      refine ⟨o6546, ?_⟩
      refine ⟨fun h6547 => ?_, fun h6547 => ?_⟩
      · refine Eq.mpr (q_Mo_close_40.eq_1 _ _ _ _ _ _ _) ?_
        have o6548 : 0 ≤ (((20 : Int32) * x2_1) + x2_2).toInt ∧ (((20 : Int32) * x2_1) + x2_2).toInt < 480 := by have := bd_127_4 hI; have := ti_mul2 (by decide : ((20 : Int32)).toInt = 20) (Eq.refl x2_1.toInt) (by omega) (by omega); have := ti_add2 (Eq.refl ((20 : Int32) * x2_1).toInt) (Eq.refl x2_2.toInt) (by omega) (by omega); omega
        refine ⟨o6548, ?_⟩
        refine ⟨fun _ => ?_, fun h => absurd (by decide) h⟩
        have hI6549 : BND (sI w 187 ((((20 : Int32) * x2_1) + x2_2).toInt.toNat) (-1)) := wbd_187 hI ((((20 : Int32) * x2_1) + x2_2).toInt.toNat) (by decide) (by decide)
        have o6550 : (0 ≤ x2_1.toInt) ∧ (x2_1.toInt ≤ 23) ∧ (0 ≤ (x2_2 + (1 : Int32)).toInt) ∧ ((x2_2 + (1 : Int32)).toInt ≤ 20) := by have := bd_127_4 hI; have := ti_add2 (Eq.refl x2_2.toInt) (by decide : ((1 : Int32)).toInt = 1) (by omega) (by omega); exact ⟨by omega, by omega, by omega, by omega⟩
        exact ih _ (sI w 187 ((((20 : Int32) * x2_1) + x2_2).toInt.toNat) (-1)) hI6549  o6550.1 o6550.2.1 o6550.2.2.1 o6550.2.2.2 (by have := bd_127_4 hI; have := ti_add2 (Eq.refl x2_2.toInt) (by decide : ((1 : Int32)).toInt = 1) (by omega) (by omega); omega) (fun w9 hI9 hF9 => hE w9 hI9 ((FR.I (FR.refl _ w) (k := 187) (j := (((20 : Int32) * x2_1) + x2_2).toInt.toNat) (v := (-1)) rfl).tr hF9 rfl) ) (fun w9 hI9 hF9 q0 => q0.elim)
      · have o6551 : 0 ≤ x2_2.toInt ∧ x2_2.toInt < 20 := by have := bd_127_4 hI; omega
        refine ⟨o6551, ?_⟩
        refine ⟨fun h6552 => ?_, fun h6552 => ?_⟩
        · refine Eq.mpr (q_Mo_close_40.eq_1 _ _ _ _ _ _ _) ?_
          have o6553 : 0 ≤ (((20 : Int32) * x2_1) + x2_2).toInt ∧ (((20 : Int32) * x2_1) + x2_2).toInt < 480 := by have := bd_127_4 hI; have := ti_mul2 (by decide : ((20 : Int32)).toInt = 20) (Eq.refl x2_1.toInt) (by omega) (by omega); have := ti_add2 (Eq.refl ((20 : Int32) * x2_1).toInt) (Eq.refl x2_2.toInt) (by omega) (by omega); omega
          refine ⟨o6553, ?_⟩
          refine ⟨fun _ => ?_, fun h => absurd (by decide) h⟩
          have hI6554 : BND (sI w 187 ((((20 : Int32) * x2_1) + x2_2).toInt.toNat) (-1)) := wbd_187 hI ((((20 : Int32) * x2_1) + x2_2).toInt.toNat) (by decide) (by decide)
          have o6555 : (0 ≤ x2_1.toInt) ∧ (x2_1.toInt ≤ 23) ∧ (0 ≤ (x2_2 + (1 : Int32)).toInt) ∧ ((x2_2 + (1 : Int32)).toInt ≤ 20) := by have := bd_127_4 hI; have := ti_add2 (Eq.refl x2_2.toInt) (by decide : ((1 : Int32)).toInt = 1) (by omega) (by omega); exact ⟨by omega, by omega, by omega, by omega⟩
          exact ih _ (sI w 187 ((((20 : Int32) * x2_1) + x2_2).toInt.toNat) (-1)) hI6554  o6555.1 o6555.2.1 o6555.2.2.1 o6555.2.2.2 (by have := bd_127_4 hI; have := ti_add2 (Eq.refl x2_2.toInt) (by decide : ((1 : Int32)).toInt = 1) (by omega) (by omega); omega) (fun w9 hI9 hF9 => hE w9 hI9 ((FR.I (FR.refl _ w) (k := 187) (j := (((20 : Int32) * x2_1) + x2_2).toInt.toNat) (v := (-1)) rfl).tr hF9 rfl) ) (fun w9 hI9 hF9 q0 => q0.elim)
        · refine Eq.mpr (q_Mo_close_40.eq_1 _ _ _ _ _ _ _) ?_
          have o6556 : 0 ≤ (((20 : Int32) * x2_1) + x2_2).toInt ∧ (((20 : Int32) * x2_1) + x2_2).toInt < 480 := by have := bd_127_4 hI; have := ti_mul2 (by decide : ((20 : Int32)).toInt = 20) (Eq.refl x2_1.toInt) (by omega) (by omega); have := ti_add2 (Eq.refl ((20 : Int32) * x2_1).toInt) (Eq.refl x2_2.toInt) (by omega) (by omega); omega
          refine ⟨o6556, ?_⟩
          refine ⟨fun h => absurd h (by decide), fun _ => ?_⟩
          have hI6557 : BND (sI w 187 ((((20 : Int32) * x2_1) + x2_2).toInt.toNat) (-1)) := wbd_187 hI ((((20 : Int32) * x2_1) + x2_2).toInt.toNat) (by decide) (by decide)
          have o6558 : (0 ≤ x2_2.toInt) ∧ (x2_2.toInt ≤ 19) := by have := bd_127_4 hI; exact ⟨by omega, by omega⟩
          refine h_Mo_held hI6557  o6558.1 o6558.2 (fun r6562 w6559 hI6560 hL6561 p6563 p6564 => ?_)
          have hF6565 : FR l_Mo_close_2 w w6559 := (FR.I (FR.refl _ w) (k := 187) (j := (((20 : Int32) * x2_1) + x2_2).toInt.toNat) (v := (-1)) rfl).tr hL6561 rfl
          refine ⟨fun h6566 => ?_, fun h6566 => ?_⟩
          · have o6567 : (0 ≤ x2_1.toInt) ∧ (x2_1.toInt ≤ 23) ∧ (0 ≤ (x2_2 + (1 : Int32)).toInt) ∧ ((x2_2 + (1 : Int32)).toInt ≤ 20) := by have := bd_127_4 hI; have := ti_add2 (Eq.refl x2_2.toInt) (by decide : ((1 : Int32)).toInt = 1) (by omega) (by omega); exact ⟨by omega, by omega, by omega, by omega⟩
            exact ih _ w6559 hI6560  o6567.1 o6567.2.1 o6567.2.2.1 o6567.2.2.2 (by have := bd_127_4 hI; have := ti_add2 (Eq.refl x2_2.toInt) (by decide : ((1 : Int32)).toInt = 1) (by omega) (by omega); omega) (fun w9 hI9 hF9 => hE w9 hI9 (hF6565.tr hF9 rfl) ) (fun w9 hI9 hF9 q0 => q0.elim)
          · have o6568 : 0 ≤ x2_2.toInt ∧ x2_2.toInt < 20 := by have := bd_127_4 hI; omega
            refine ⟨o6568, ?_⟩
            refine ⟨fun h6569 => ?_, fun h6569 => ?_⟩
            · have o6570 : 0 ≤ x2_2.toInt ∧ x2_2.toInt < 20 := by have := bd_127_4 hI; omega
              refine ⟨o6570, ?_⟩
              have hI6571 : BND (sI w6559 167 x2_2.toInt.toNat 0) := wbd_167 hI6560 x2_2.toInt.toNat (by decide) (by decide)
              have o6572 : (0 ≤ x2_1.toInt) ∧ (x2_1.toInt ≤ 23) ∧ (0 ≤ (x2_2 + (1 : Int32)).toInt) ∧ ((x2_2 + (1 : Int32)).toInt ≤ 20) := by have := bd_127_4 hI; have := ti_add2 (Eq.refl x2_2.toInt) (by decide : ((1 : Int32)).toInt = 1) (by omega) (by omega); exact ⟨by omega, by omega, by omega, by omega⟩
              exact ih _ (sI w6559 167 x2_2.toInt.toNat 0) hI6571  o6572.1 o6572.2.1 o6572.2.2.1 o6572.2.2.2 (by have := bd_127_4 hI; have := ti_add2 (Eq.refl x2_2.toInt) (by decide : ((1 : Int32)).toInt = 1) (by omega) (by omega); omega) (fun w9 hI9 hF9 => hE w9 hI9 ((FR.I hF6565 (k := 167) (j := x2_2.toInt.toNat) (v := 0) rfl).tr hF9 rfl) ) (fun w9 hI9 hF9 q0 => q0.elim)
            · have o6573 : 0 ≤ x2_2.toInt ∧ x2_2.toInt < 20 := by have := bd_127_4 hI; omega
              refine ⟨o6573, ?_⟩
              have hI6574 : BND (sI w6559 167 x2_2.toInt.toNat 2) := wbd_167 hI6560 x2_2.toInt.toNat (by decide) (by decide)
              have o6575 : (0 ≤ x2_1.toInt) ∧ (x2_1.toInt ≤ 23) ∧ (0 ≤ (x2_2 + (1 : Int32)).toInt) ∧ ((x2_2 + (1 : Int32)).toInt ≤ 20) := by have := bd_127_4 hI; have := ti_add2 (Eq.refl x2_2.toInt) (by decide : ((1 : Int32)).toInt = 1) (by omega) (by omega); exact ⟨by omega, by omega, by omega, by omega⟩
              exact ih _ (sI w6559 167 x2_2.toInt.toNat 2) hI6574  o6575.1 o6575.2.1 o6575.2.2.1 o6575.2.2.2 (by have := bd_127_4 hI; have := ti_add2 (Eq.refl x2_2.toInt) (by decide : ((1 : Int32)).toInt = 1) (by omega) (by omega); omega) (fun w9 hI9 hF9 => hE w9 hI9 ((FR.I hF6565 (k := 167) (j := x2_2.toInt.toNat) (v := 2) rfl).tr hF9 rfl) ) (fun w9 hI9 hF9 q0 => q0.elim)
set_option maxRecDepth 20000 in
set_option maxHeartbeats 2000000 in
theorem hq_Mo_close_177 {x177_2 : Int32} {E : MW → Prop} {Q : MW → Prop} (n : Nat) : ∀ (x177_3 : Int32) (w : MW), BND w → 0 ≤ x177_2.toInt → x177_2.toInt ≤ 22 → 0 ≤ x177_3.toInt → x177_3.toInt ≤ 24 → (24 - x177_3.toInt).toNat < n → (∀ (w' : MW), BND w' → FR l_Mo_close_177 w w' → E w') → (∀ (w' : MW), BND w' → FR l_Mo_close_177 w w' → False → Q w') → q_Mo_close_177 x177_2 E Q n x177_3 w := by
  induction n with
  | zero => intros; omega
  | succ n ih =>
    intro x177_3 w hI  hp0 hp1 hp2 hp3 hm hE hQ
    rw [q_Mo_close_177.eq_2]
    refine ⟨fun h6576 => ?_, fun h6576 => ?_⟩
    · exact hE _ hI (FR.refl _ w)
    · have o6577 : 0 ≤ (((24 : Int32) * (x177_2 + (1 : Int32))) + x177_3).toInt ∧ (((24 : Int32) * (x177_2 + (1 : Int32))) + x177_3).toInt < 576 := by have := (by decide : ((24 : Int32)).toInt = 24); have := ti_add2 (Eq.refl x177_2.toInt) (by decide : ((1 : Int32)).toInt = 1) (by omega) (by omega); have := ti_mul2 (by decide : ((24 : Int32)).toInt = 24) (Eq.refl (x177_2 + (1 : Int32)).toInt) (by omega) (by omega); have := ti_add2 (Eq.refl ((24 : Int32) * (x177_2 + (1 : Int32))).toInt) (Eq.refl x177_3.toInt) (by omega) (by omega); omega
      refine ⟨o6577, ?_⟩
      have o6578 : 0 ≤ (((24 : Int32) * x177_2) + x177_3).toInt ∧ (((24 : Int32) * x177_2) + x177_3).toInt < 576 := by have := (by decide : ((24 : Int32)).toInt = 24); have := ti_mul2 (by decide : ((24 : Int32)).toInt = 24) (Eq.refl x177_2.toInt) (by omega) (by omega); have := ti_add2 (Eq.refl ((24 : Int32) * x177_2).toInt) (Eq.refl x177_3.toInt) (by omega) (by omega); omega
      refine ⟨o6578, ?_⟩
      have o6580 : 0 ≤ (w.1 186 ((((24 : Int32) * (x177_2 + (1 : Int32))) + x177_3).toInt.toNat)).toInt ∧ (w.1 186 ((((24 : Int32) * (x177_2 + (1 : Int32))) + x177_3).toInt.toNat)).toInt ≤ 47 := by have := bd_186 hI ((((24 : Int32) * (x177_2 + (1 : Int32))) + x177_3).toInt.toNat); omega
      have hI6579 : BND (sI w 186 ((((24 : Int32) * x177_2) + x177_3).toInt.toNat) (w.1 186 ((((24 : Int32) * (x177_2 + (1 : Int32))) + x177_3).toInt.toNat))) := wbd_186 hI ((((24 : Int32) * x177_2) + x177_3).toInt.toNat) o6580.1 o6580.2
      have o6581 : (0 ≤ x177_2.toInt) ∧ (x177_2.toInt ≤ 22) ∧ (0 ≤ (x177_3 + (1 : Int32)).toInt) ∧ ((x177_3 + (1 : Int32)).toInt ≤ 24) := by have := (by decide : ((24 : Int32)).toInt = 24); have := ti_add2 (Eq.refl x177_3.toInt) (by decide : ((1 : Int32)).toInt = 1) (by omega) (by omega); exact ⟨by omega, by omega, by omega, by omega⟩
      exact ih _ (sI w 186 ((((24 : Int32) * x177_2) + x177_3).toInt.toNat) (w.1 186 ((((24 : Int32) * (x177_2 + (1 : Int32))) + x177_3).toInt.toNat))) hI6579  o6581.1 o6581.2.1 o6581.2.2.1 o6581.2.2.2 (by have := (by decide : ((24 : Int32)).toInt = 24); have := ti_add2 (Eq.refl x177_3.toInt) (by decide : ((1 : Int32)).toInt = 1) (by omega) (by omega); omega) (fun w9 hI9 hF9 => hE w9 hI9 ((FR.I (FR.refl _ w) (k := 186) (j := (((24 : Int32) * x177_2) + x177_3).toInt.toNat) (v := (w.1 186 ((((24 : Int32) * (x177_2 + (1 : Int32))) + x177_3).toInt.toNat))) rfl).tr hF9 rfl) ) (fun w9 hI9 hF9 q0 => q0.elim)
set_option maxRecDepth 20000 in
set_option maxHeartbeats 2000000 in
theorem hq_Mo_close_215 {x215_2 : Int32} {E : MW → Prop} {Q : MW → Prop} (n : Nat) : ∀ (x215_3 : Int32) (w : MW), BND w → 0 ≤ x215_2.toInt → x215_2.toInt ≤ 22 → 0 ≤ x215_3.toInt → x215_3.toInt ≤ 20 → (20 - x215_3.toInt).toNat < n → (∀ (w' : MW), BND w' → FR l_Mo_close_215 w w' → E w') → (∀ (w' : MW), BND w' → FR l_Mo_close_215 w w' → False → Q w') → q_Mo_close_215 x215_2 E Q n x215_3 w := by
  induction n with
  | zero => intros; omega
  | succ n ih =>
    intro x215_3 w hI  hp0 hp1 hp2 hp3 hm hE hQ
    rw [q_Mo_close_215.eq_2]
    refine ⟨fun h6582 => ?_, fun h6582 => ?_⟩
    · exact hE _ hI (FR.refl _ w)
    · have o6583 : 0 ≤ (((20 : Int32) * (x215_2 + (1 : Int32))) + x215_3).toInt ∧ (((20 : Int32) * (x215_2 + (1 : Int32))) + x215_3).toInt < 480 := by have := (by decide : ((20 : Int32)).toInt = 20); have := ti_add2 (Eq.refl x215_2.toInt) (by decide : ((1 : Int32)).toInt = 1) (by omega) (by omega); have := ti_mul2 (by decide : ((20 : Int32)).toInt = 20) (Eq.refl (x215_2 + (1 : Int32)).toInt) (by omega) (by omega); have := ti_add2 (Eq.refl ((20 : Int32) * (x215_2 + (1 : Int32))).toInt) (Eq.refl x215_3.toInt) (by omega) (by omega); omega
      refine ⟨o6583, ?_⟩
      have o6584 : 0 ≤ (((20 : Int32) * x215_2) + x215_3).toInt ∧ (((20 : Int32) * x215_2) + x215_3).toInt < 480 := by have := (by decide : ((20 : Int32)).toInt = 20); have := ti_mul2 (by decide : ((20 : Int32)).toInt = 20) (Eq.refl x215_2.toInt) (by omega) (by omega); have := ti_add2 (Eq.refl ((20 : Int32) * x215_2).toInt) (Eq.refl x215_3.toInt) (by omega) (by omega); omega
      refine ⟨o6584, ?_⟩
      have o6586 : (-1) ≤ (w.1 187 ((((20 : Int32) * (x215_2 + (1 : Int32))) + x215_3).toInt.toNat)).toInt ∧ (w.1 187 ((((20 : Int32) * (x215_2 + (1 : Int32))) + x215_3).toInt.toNat)).toInt ≤ 9 := by have := bd_187 hI ((((20 : Int32) * (x215_2 + (1 : Int32))) + x215_3).toInt.toNat); omega
      have hI6585 : BND (sI w 187 ((((20 : Int32) * x215_2) + x215_3).toInt.toNat) (w.1 187 ((((20 : Int32) * (x215_2 + (1 : Int32))) + x215_3).toInt.toNat))) := wbd_187 hI ((((20 : Int32) * x215_2) + x215_3).toInt.toNat) o6586.1 o6586.2
      have o6587 : (0 ≤ x215_2.toInt) ∧ (x215_2.toInt ≤ 22) ∧ (0 ≤ (x215_3 + (1 : Int32)).toInt) ∧ ((x215_3 + (1 : Int32)).toInt ≤ 20) := by have := (by decide : ((20 : Int32)).toInt = 20); have := ti_add2 (Eq.refl x215_3.toInt) (by decide : ((1 : Int32)).toInt = 1) (by omega) (by omega); exact ⟨by omega, by omega, by omega, by omega⟩
      exact ih _ (sI w 187 ((((20 : Int32) * x215_2) + x215_3).toInt.toNat) (w.1 187 ((((20 : Int32) * (x215_2 + (1 : Int32))) + x215_3).toInt.toNat))) hI6585  o6587.1 o6587.2.1 o6587.2.2.1 o6587.2.2.2 (by have := (by decide : ((20 : Int32)).toInt = 20); have := ti_add2 (Eq.refl x215_3.toInt) (by decide : ((1 : Int32)).toInt = 1) (by omega) (by omega); omega) (fun w9 hI9 hF9 => hE w9 hI9 ((FR.I (FR.refl _ w) (k := 187) (j := (((20 : Int32) * x215_2) + x215_3).toInt.toNat) (v := (w.1 187 ((((20 : Int32) * (x215_2 + (1 : Int32))) + x215_3).toInt.toNat))) rfl).tr hF9 rfl) ) (fun w9 hI9 hF9 q0 => q0.elim)
set_option maxRecDepth 20000 in
set_option maxHeartbeats 2000000 in
theorem hq_Mo_close_95 {E : MW → Prop} {Q : MW → Prop} (n : Nat) : ∀ (x95_2 : Int32) (w : MW), BND w → 0 ≤ x95_2.toInt → x95_2.toInt ≤ 23 → (23 - x95_2.toInt).toNat < n → (∀ (w' : MW), BND w' → FR l_Mo_close_95 w w' → E w') → (∀ (w' : MW), BND w' → FR l_Mo_close_95 w w' → False → Q w') → q_Mo_close_95 E Q n x95_2 w := by
  induction n with
  | zero => intros; omega
  | succ n ih =>
    intro x95_2 w hI  hp0 hp1 hm hE hQ
    rw [q_Mo_close_95.eq_2]
    refine ⟨fun h6588 => ?_, fun h6588 => ?_⟩
    · exact hE _ hI (FR.refl _ w)
    · have o6589 : 0 ≤ (x95_2 + (1 : Int32)).toInt ∧ (x95_2 + (1 : Int32)).toInt < 24 := by have := bd_127_26 hI; have := ti_add2 (Eq.refl x95_2.toInt) (by decide : ((1 : Int32)).toInt = 1) (by omega) (by omega); omega
      refine ⟨o6589, ?_⟩
      have o6590 : 0 ≤ x95_2.toInt ∧ x95_2.toInt < 24 := by have := bd_127_26 hI; have := ti_add2 (Eq.refl x95_2.toInt) (by decide : ((1 : Int32)).toInt = 1) (by omega) (by omega); omega
      refine ⟨o6590, ?_⟩
      have o6591 : 0 ≤ (x95_2 + (1 : Int32)).toInt ∧ (x95_2 + (1 : Int32)).toInt < 24 := by have := bd_127_26 hI; have := ti_add2 (Eq.refl x95_2.toInt) (by decide : ((1 : Int32)).toInt = 1) (by omega) (by omega); omega
      refine ⟨o6591, ?_⟩
      have o6592 : 0 ≤ x95_2.toInt ∧ x95_2.toInt < 24 := by have := bd_127_26 hI; have := ti_add2 (Eq.refl x95_2.toInt) (by decide : ((1 : Int32)).toInt = 1) (by omega) (by omega); omega
      refine ⟨o6592, ?_⟩
      have o6593 : 0 ≤ (x95_2 + (1 : Int32)).toInt ∧ (x95_2 + (1 : Int32)).toInt < 24 := by have := bd_127_26 hI; have := ti_add2 (Eq.refl x95_2.toInt) (by decide : ((1 : Int32)).toInt = 1) (by omega) (by omega); omega
      refine ⟨o6593, ?_⟩
      have o6594 : 0 ≤ x95_2.toInt ∧ x95_2.toInt < 24 := by have := bd_127_26 hI; have := ti_add2 (Eq.refl x95_2.toInt) (by decide : ((1 : Int32)).toInt = 1) (by omega) (by omega); omega
      refine ⟨o6594, ?_⟩
      have o6595 : 0 ≤ (x95_2 + (1 : Int32)).toInt ∧ (x95_2 + (1 : Int32)).toInt < 24 := by have := bd_127_26 hI; have := ti_add2 (Eq.refl x95_2.toInt) (by decide : ((1 : Int32)).toInt = 1) (by omega) (by omega); omega
      refine ⟨o6595, ?_⟩
      have o6596 : 0 ≤ x95_2.toInt ∧ x95_2.toInt < 24 := by have := bd_127_26 hI; have := ti_add2 (Eq.refl x95_2.toInt) (by decide : ((1 : Int32)).toInt = 1) (by omega) (by omega); omega
      refine ⟨o6596, ?_⟩
      have o6597 : 0 ≤ (x95_2 + (1 : Int32)).toInt ∧ (x95_2 + (1 : Int32)).toInt < 24 := by have := bd_127_26 hI; have := ti_add2 (Eq.refl x95_2.toInt) (by decide : ((1 : Int32)).toInt = 1) (by omega) (by omega); omega
      refine ⟨o6597, ?_⟩
      have o6598 : 0 ≤ x95_2.toInt ∧ x95_2.toInt < 24 := by have := bd_127_26 hI; have := ti_add2 (Eq.refl x95_2.toInt) (by decide : ((1 : Int32)).toInt = 1) (by omega) (by omega); omega
      refine ⟨o6598, ?_⟩
      have o6600 : 0 ≤ (w.1 181 ((x95_2 + (1 : Int32)).toInt.toNat)).toInt ∧ (w.1 181 ((x95_2 + (1 : Int32)).toInt.toNat)).toInt ≤ 19 := by have := bd_181 hI ((x95_2 + (1 : Int32)).toInt.toNat); omega
      have hI6599 : BND (sI w 181 x95_2.toInt.toNat (w.1 181 ((x95_2 + (1 : Int32)).toInt.toNat))) := wbd_181 hI x95_2.toInt.toNat o6600.1 o6600.2
      have o6602 : 0 ≤ (w.1 182 ((x95_2 + (1 : Int32)).toInt.toNat)).toInt ∧ (w.1 182 ((x95_2 + (1 : Int32)).toInt.toNat)).toInt ≤ 19 := by have := bd_182 hI ((x95_2 + (1 : Int32)).toInt.toNat); omega
      have hI6601 : BND (sI (sI w 181 x95_2.toInt.toNat (w.1 181 ((x95_2 + (1 : Int32)).toInt.toNat))) 182 x95_2.toInt.toNat (w.1 182 ((x95_2 + (1 : Int32)).toInt.toNat))) := wbd_182 hI6599 x95_2.toInt.toNat o6602.1 o6602.2
      have o6604 : 0 ≤ (w.1 183 ((x95_2 + (1 : Int32)).toInt.toNat)).toInt ∧ (w.1 183 ((x95_2 + (1 : Int32)).toInt.toNat)).toInt ≤ 15 := by have := bd_183 hI ((x95_2 + (1 : Int32)).toInt.toNat); omega
      have hI6603 : BND (sI (sI (sI w 181 x95_2.toInt.toNat (w.1 181 ((x95_2 + (1 : Int32)).toInt.toNat))) 182 x95_2.toInt.toNat (w.1 182 ((x95_2 + (1 : Int32)).toInt.toNat))) 183 x95_2.toInt.toNat (w.1 183 ((x95_2 + (1 : Int32)).toInt.toNat))) := wbd_183 hI6601 x95_2.toInt.toNat o6604.1 o6604.2
      have o6606 : 0 ≤ (w.1 184 ((x95_2 + (1 : Int32)).toInt.toNat)).toInt ∧ (w.1 184 ((x95_2 + (1 : Int32)).toInt.toNat)).toInt ≤ 100 := by have := bd_184 hI ((x95_2 + (1 : Int32)).toInt.toNat); omega
      have hI6605 : BND (sI (sI (sI (sI w 181 x95_2.toInt.toNat (w.1 181 ((x95_2 + (1 : Int32)).toInt.toNat))) 182 x95_2.toInt.toNat (w.1 182 ((x95_2 + (1 : Int32)).toInt.toNat))) 183 x95_2.toInt.toNat (w.1 183 ((x95_2 + (1 : Int32)).toInt.toNat))) 184 x95_2.toInt.toNat (w.1 184 ((x95_2 + (1 : Int32)).toInt.toNat))) := wbd_184 hI6603 x95_2.toInt.toNat o6606.1 o6606.2
      have o6608 : 0 ≤ (w.1 185 ((x95_2 + (1 : Int32)).toInt.toNat)).toInt ∧ (w.1 185 ((x95_2 + (1 : Int32)).toInt.toNat)).toInt ≤ 24 := by have := bd_185 hI ((x95_2 + (1 : Int32)).toInt.toNat); omega
      have hI6607 : BND (sI (sI (sI (sI (sI w 181 x95_2.toInt.toNat (w.1 181 ((x95_2 + (1 : Int32)).toInt.toNat))) 182 x95_2.toInt.toNat (w.1 182 ((x95_2 + (1 : Int32)).toInt.toNat))) 183 x95_2.toInt.toNat (w.1 183 ((x95_2 + (1 : Int32)).toInt.toNat))) 184 x95_2.toInt.toNat (w.1 184 ((x95_2 + (1 : Int32)).toInt.toNat))) 185 x95_2.toInt.toNat (w.1 185 ((x95_2 + (1 : Int32)).toInt.toNat))) := wbd_185 hI6605 x95_2.toInt.toNat o6608.1 o6608.2
      have o6609 : (0 ≤ x95_2.toInt) ∧ (x95_2.toInt ≤ 22) ∧ (0 ≤ (0 : Int32).toInt) ∧ ((0 : Int32).toInt ≤ 24) := by have := (by decide : ((0 : Int32)).toInt = 0); have := bd_127_26 hI; have := ti_add2 (Eq.refl x95_2.toInt) (by decide : ((1 : Int32)).toInt = 1) (by omega) (by omega); exact ⟨by omega, by omega, by omega, by omega⟩
      refine hq_Mo_close_177 FU _ (sI (sI (sI (sI (sI w 181 x95_2.toInt.toNat (w.1 181 ((x95_2 + (1 : Int32)).toInt.toNat))) 182 x95_2.toInt.toNat (w.1 182 ((x95_2 + (1 : Int32)).toInt.toNat))) 183 x95_2.toInt.toNat (w.1 183 ((x95_2 + (1 : Int32)).toInt.toNat))) 184 x95_2.toInt.toNat (w.1 184 ((x95_2 + (1 : Int32)).toInt.toNat))) 185 x95_2.toInt.toNat (w.1 185 ((x95_2 + (1 : Int32)).toInt.toNat))) hI6607  o6609.1 o6609.2.1 o6609.2.2.1 o6609.2.2.2 (fu_lt (by have := (by decide : ((0 : Int32)).toInt = 0); have := bd_127_26 hI; have := ti_add2 (Eq.refl x95_2.toInt) (by decide : ((1 : Int32)).toInt = 1) (by omega) (by omega); omega)) (fun w6610 hI6611 hL6612  => ?_) (fun w9 hI9 hF9 q0 => q0.elim)
      have hF6613 : FR l_Mo_close_95 w w6610 := (FR.I (FR.I (FR.I (FR.I (FR.I (FR.refl _ w) (k := 181) (j := x95_2.toInt.toNat) (v := (w.1 181 ((x95_2 + (1 : Int32)).toInt.toNat))) rfl) (k := 182) (j := x95_2.toInt.toNat) (v := (w.1 182 ((x95_2 + (1 : Int32)).toInt.toNat))) rfl) (k := 183) (j := x95_2.toInt.toNat) (v := (w.1 183 ((x95_2 + (1 : Int32)).toInt.toNat))) rfl) (k := 184) (j := x95_2.toInt.toNat) (v := (w.1 184 ((x95_2 + (1 : Int32)).toInt.toNat))) rfl) (k := 185) (j := x95_2.toInt.toNat) (v := (w.1 185 ((x95_2 + (1 : Int32)).toInt.toNat))) rfl).tr hL6612 rfl
      have o6614 : (0 ≤ x95_2.toInt) ∧ (x95_2.toInt ≤ 22) ∧ (0 ≤ (0 : Int32).toInt) ∧ ((0 : Int32).toInt ≤ 20) := by have := (by decide : ((0 : Int32)).toInt = 0); have := bd_127_26 hI; have := ti_add2 (Eq.refl x95_2.toInt) (by decide : ((1 : Int32)).toInt = 1) (by omega) (by omega); exact ⟨by omega, by omega, by omega, by omega⟩
      refine hq_Mo_close_215 FU _ w6610 hI6611  o6614.1 o6614.2.1 o6614.2.2.1 o6614.2.2.2 (fu_lt (by have := (by decide : ((0 : Int32)).toInt = 0); have := bd_127_26 hI; have := ti_add2 (Eq.refl x95_2.toInt) (by decide : ((1 : Int32)).toInt = 1) (by omega) (by omega); omega)) (fun w6615 hI6616 hL6617  => ?_) (fun w9 hI9 hF9 q0 => q0.elim)
      have hF6618 : FR l_Mo_close_95 w w6615 := hF6613.tr hL6617 rfl
      have o6619 : (0 ≤ (x95_2 + (1 : Int32)).toInt) ∧ ((x95_2 + (1 : Int32)).toInt ≤ 23) := by have := bd_127_26 hI; have := ti_add2 (Eq.refl x95_2.toInt) (by decide : ((1 : Int32)).toInt = 1) (by omega) (by omega); exact ⟨by omega, by omega⟩
      exact ih _ w6615 hI6616  o6619.1 o6619.2 (by have := bd_127_26 hI; have := ti_add2 (Eq.refl x95_2.toInt) (by decide : ((1 : Int32)).toInt = 1) (by omega) (by omega); omega) (fun w9 hI9 hF9 => hE w9 hI9 (hF6618.tr hF9 rfl) ) (fun w9 hI9 hF9 q0 => q0.elim)
set_option maxRecDepth 20000 in
set_option maxHeartbeats 2000000 in
theorem h_Mo_close {w : MW} {a0 : Int32} {Q : MW → Prop} (hI : BND w) (hp0 : 0 ≤ a0.toInt) (hp1 : a0.toInt ≤ 23) (hp2 : a0.toInt < (w.1 127 26).toInt) (hQ : ∀ (w' : MW), BND w' → FR l_Mo_close w w' → (w'.1 127 26).toInt = (w.1 127 26).toInt - 1 → Q w') : p_Mo_close w a0 Q := by
  refine Eq.mpr (p_Mo_close.eq_1 _ _ _) ?_
  have o6620 : (0 ≤ a0.toInt) ∧ (a0.toInt ≤ 23) ∧ (0 ≤ (0 : Int32).toInt) ∧ ((0 : Int32).toInt ≤ 20) := by have := (by decide : ((0 : Int32)).toInt = 0); have := bd_127_26 hI; exact ⟨by omega, by omega, by omega, by omega⟩
  refine hq_Mo_close_2 FU _ w hI  o6620.1 o6620.2.1 o6620.2.2.1 o6620.2.2.2 (fu_lt (by have := (by decide : ((0 : Int32)).toInt = 0); have := bd_127_26 hI; omega)) (fun w6621 hI6622 hL6623  => ?_) (fun w9 hI9 hF9 q0 => q0.elim)
  have hF6624 : FR l_Mo_close w w6621 := (FR.refl _ w).tr hL6623 rfl
  have o6625 : (0 ≤ a0.toInt) ∧ (a0.toInt ≤ 23) := by have := bd_127_26 hI; exact ⟨by omega, by omega⟩
  refine hq_Mo_close_95 FU _ w6621 hI6622  o6625.1 o6625.2 (fu_lt (by have := bd_127_26 hI; omega)) (fun w6626 hI6627 hL6628  => ?_) (fun w9 hI9 hF9 q0 => q0.elim)
  have hF6629 : FR l_Mo_close w w6626 := hF6624.tr hL6628 rfl
  have o6631 : 0 ≤ ((w6626.1 127 26) - (1 : Int32)).toInt ∧ ((w6626.1 127 26) - (1 : Int32)).toInt ≤ 24 := by have := bd_127_26 hI6627; have := bd_127_26 hI6622; have := bd_127_26 hI; have := (congrArg Int32.toInt (hL6623 127 26 rfl).1); have := (congrArg Int32.toInt (hL6628 127 26 rfl).1); have := ti_sub2 (Eq.refl (w6626.1 127 26).toInt) (by decide : ((1 : Int32)).toInt = 1) (by omega) (by omega); omega
  have hI6630 : BND (sI w6626 127 26 ((w6626.1 127 26) - (1 : Int32))) := wbd_127_26 hI6627 o6631.1 o6631.2
  exact hQ _ hI6630 (FR.I hF6629 (k := 127) (j := 26) (v := ((w6626.1 127 26) - (1 : Int32))) rfl)  (by have := bd_127_26 hI6627; have := bd_127_26 hI6622; have := bd_127_26 hI; have := (congrArg Int32.toInt (hL6623 127 26 rfl).1); have := (congrArg Int32.toInt (hL6628 127 26 rfl).1); have : ((sI w6626 127 26 ((w6626.1 127 26) - (1 : Int32))).1 127 26).toInt = ((w6626.1 127 26) - (1 : Int32)).toInt := rfl; have := ti_sub2 (Eq.refl (w6626.1 127 26).toInt) (by decide : ((1 : Int32)).toInt = 1) (by omega) (by omega); omega)
def l_Mo_closeAll_0 : Pl := [(127, some 26), (167, none), (181, none), (182, none), (183, none), (184, none), (185, none), (186, none), (187, none)]
def l_Mo_closeAll : Pl := [(127, some 26), (167, none), (181, none), (182, none), (183, none), (184, none), (185, none), (186, none), (187, none)]
set_option maxRecDepth 20000 in
set_option maxHeartbeats 2000000 in
theorem hq_Mo_closeAll_0 {E : MW → Prop} {Q : MW → Prop} (n : Nat) : ∀ (w : MW), BND w → ((w.1 127 26).toInt - 0).toNat < n → (∀ (w' : MW), BND w' → FR l_Mo_closeAll_0 w w' → E w') → (∀ (w' : MW), BND w' → FR l_Mo_closeAll_0 w w' → False → Q w') → q_Mo_closeAll_0 E Q n w := by
  induction n with
  | zero => intros; omega
  | succ n ih =>
    intro w hI   hm hE hQ
    rw [q_Mo_closeAll_0.eq_2]
    refine ⟨fun h6632 => ?_, fun h6632 => ?_⟩
    · exact hE _ hI (FR.refl _ w)
    · have o6633 : (0 ≤ ((w.1 127 26) - (1 : Int32)).toInt) ∧ (((w.1 127 26) - (1 : Int32)).toInt ≤ 23) ∧ (((w.1 127 26) - (1 : Int32)).toInt < (w.1 127 26).toInt) := by have := bd_127_26 hI; have := (by decide : ((0 : Int32)).toInt = 0); have := ti_sub2 (Eq.refl (w.1 127 26).toInt) (by decide : ((1 : Int32)).toInt = 1) (by omega) (by omega); exact ⟨by omega, by omega, by omega⟩
      refine h_Mo_close hI  o6633.1 o6633.2.1 o6633.2.2 (fun w6634 hI6635 hL6636 p6638 => ?_)
      have hF6639 : FR l_Mo_closeAll_0 w w6634 := (FR.refl _ w).tr hL6636 rfl
      exact ih w6634 hI6635   (by have := bd_127_26 hI6635; have := bd_127_26 hI; have := (by decide : ((0 : Int32)).toInt = 0); omega) (fun w9 hI9 hF9 => hE w9 hI9 (hF6639.tr hF9 rfl) ) (fun w9 hI9 hF9 q0 => q0.elim)
set_option maxRecDepth 20000 in
set_option maxHeartbeats 2000000 in
theorem h_Mo_closeAll {w : MW} {Q : MW → Prop} (hI : BND w)  (hQ : ∀ (w' : MW), BND w' → FR l_Mo_closeAll w w' → Q w') : p_Mo_closeAll w Q := by
  refine Eq.mpr (p_Mo_closeAll.eq_1 _ _) ?_
  refine hq_Mo_closeAll_0 FU w hI   (fu_lt (by have := bd_127_26 hI; omega)) (fun w6640 hI6641 hL6642  => ?_) (fun w9 hI9 hF9 q0 => q0.elim)
  have hF6643 : FR l_Mo_closeAll w w6640 := (FR.refl _ w).tr hL6642 rfl
  exact hQ _ hI6641 hF6643 
def l_Mo_forget_2 : Pl := [(174, none)]
def l_Mo_forget : Pl := [(174, none)]
set_option maxRecDepth 20000 in
set_option maxHeartbeats 2000000 in
theorem hq_Mo_forget_2 {x2_1 : Int32} {E : MW → Prop} {Q : MW → Prop} (n : Nat) : ∀ (x2_2 : Int32) (w : MW), BND w → 0 ≤ x2_1.toInt → x2_1.toInt ≤ 43 → 0 ≤ x2_2.toInt → x2_2.toInt ≤ 6 → (6 - x2_2.toInt).toNat < n → (∀ (w' : MW), BND w' → FR l_Mo_forget_2 w w' → E w') → (∀ (w' : MW), BND w' → FR l_Mo_forget_2 w w' → False → Q w') → q_Mo_forget_2 x2_1 E Q n x2_2 w := by
  induction n with
  | zero => intros; omega
  | succ n ih =>
    intro x2_2 w hI  hp0 hp1 hp2 hp3 hm hE hQ
    rw [q_Mo_forget_2.eq_2]
    refine ⟨fun h6644 => ?_, fun h6644 => ?_⟩
    · exact hE _ hI (FR.refl _ w)
    · have o6645 : 0 ≤ (((6 : Int32) * x2_1) + x2_2).toInt ∧ (((6 : Int32) * x2_1) + x2_2).toInt < 264 := by have := (by decide : ((6 : Int32)).toInt = 6); have := ti_mul2 (by decide : ((6 : Int32)).toInt = 6) (Eq.refl x2_1.toInt) (by omega) (by omega); have := ti_add2 (Eq.refl ((6 : Int32) * x2_1).toInt) (Eq.refl x2_2.toInt) (by omega) (by omega); omega
      refine ⟨o6645, ?_⟩
      have hI6646 : BND (sI w 174 ((((6 : Int32) * x2_1) + x2_2).toInt.toNat) (-1)) := wbd_174 hI ((((6 : Int32) * x2_1) + x2_2).toInt.toNat)
      have o6647 : (0 ≤ x2_1.toInt) ∧ (x2_1.toInt ≤ 43) ∧ (0 ≤ (x2_2 + (1 : Int32)).toInt) ∧ ((x2_2 + (1 : Int32)).toInt ≤ 6) := by have := (by decide : ((6 : Int32)).toInt = 6); have := ti_add2 (Eq.refl x2_2.toInt) (by decide : ((1 : Int32)).toInt = 1) (by omega) (by omega); exact ⟨by omega, by omega, by omega, by omega⟩
      exact ih _ (sI w 174 ((((6 : Int32) * x2_1) + x2_2).toInt.toNat) (-1)) hI6646  o6647.1 o6647.2.1 o6647.2.2.1 o6647.2.2.2 (by have := (by decide : ((6 : Int32)).toInt = 6); have := ti_add2 (Eq.refl x2_2.toInt) (by decide : ((1 : Int32)).toInt = 1) (by omega) (by omega); omega) (fun w9 hI9 hF9 => hE w9 hI9 ((FR.I (FR.refl _ w) (k := 174) (j := (((6 : Int32) * x2_1) + x2_2).toInt.toNat) (v := (-1)) rfl).tr hF9 rfl) ) (fun w9 hI9 hF9 q0 => q0.elim)
set_option maxRecDepth 20000 in
set_option maxHeartbeats 2000000 in
theorem h_Mo_forget {w : MW} {a0 : Int32} {Q : MW → Prop} (hI : BND w) (hp0 : 0 ≤ a0.toInt) (hp1 : a0.toInt ≤ 43) (hQ : ∀ (w' : MW), BND w' → FR l_Mo_forget w w' → Q w') : p_Mo_forget w a0 Q := by
  refine Eq.mpr (p_Mo_forget.eq_1 _ _ _) ?_
  have o6648 : (0 ≤ a0.toInt) ∧ (a0.toInt ≤ 43) ∧ (0 ≤ (0 : Int32).toInt) ∧ ((0 : Int32).toInt ≤ 6) := by have := (by decide : ((0 : Int32)).toInt = 0); exact ⟨by omega, by omega, by omega, by omega⟩
  refine hq_Mo_forget_2 FU _ w hI  o6648.1 o6648.2.1 o6648.2.2.1 o6648.2.2.2 (fu_lt (by have := (by decide : ((0 : Int32)).toInt = 0); omega)) (fun w6649 hI6650 hL6651  => ?_) (fun w9 hI9 hF9 q0 => q0.elim)
  have hF6652 : FR l_Mo_forget w w6649 := (FR.refl _ w).tr hL6651 rfl
  exact hQ _ hI6650 hF6652 
def l_Mo_isNew_255 : Pl := [(127, some 86), (180, none)]
def l_Mo_isNew_214 : Pl := [(127, some 86), (180, none)]
def l_Mo_isNew_187 : Pl := [(127, some 86), (180, none)]
def l_Mo_isNew_91 : Pl := [(127, some 85), (179, none), (180, none)]
def l_Mo_isNew_61 : Pl := [(127, some 85), (179, none), (180, none)]
def l_Mo_isNew_40 : Pl := [(127, some 85), (179, none), (180, none)]
def l_Mo_isNew : Pl := [(127, some 85), (127, some 86), (179, none), (180, none)]
set_option maxRecDepth 20000 in
set_option maxHeartbeats 2000000 in
theorem hq_Mo_isNew_214 {y214_2 : Int32} {y214_3 : Int32} {y214_4 : Int32} {w : MW} {Q : Int32 → MW → Prop} (hI : BND w) (hp0 : (-2) ≤ y214_2.toInt) (hp1 : y214_2.toInt ≤ 19) (hp2 : (-2) ≤ y214_3.toInt) (hp3 : y214_3.toInt ≤ 19) (hp4 : 0 ≤ y214_4.toInt) (hp5 : y214_4.toInt ≤ 1) (hp6 : (w.1 127 86).toInt < 24) (hQ : ∀ (r : Int32) (w' : MW), BND w' → FR l_Mo_isNew_214 w w' → 0 ≤ r.toInt → r.toInt ≤ 1 → Q r w') : q_Mo_isNew_214 y214_2 y214_3 y214_4 w Q := by
  refine Eq.mpr (q_Mo_isNew_214.eq_1 _ _ _ _ _) ?_
  refine ⟨fun h6653 => ?_, fun h6653 => ?_⟩
  · refine ⟨fun h6654 => ?_, fun h6654 => ?_⟩
    · refine Eq.mpr (q_Mo_isNew_255.eq_1 _ _ _) ?_
      refine ⟨fun _ => ?_, fun h => absurd h6653 h⟩
      have o6656 : 0 ≤ ((w.1 127 86) + (1 : Int32)).toInt ∧ ((w.1 127 86) + (1 : Int32)).toInt ≤ 24 := by have := bd_127_86 hI; have := ti_add2 (Eq.refl (w.1 127 86).toInt) (by decide : ((1 : Int32)).toInt = 1) (by omega) (by omega); omega
      have hI6655 : BND (sI w 127 86 ((w.1 127 86) + (1 : Int32))) := wbd_127_86 hI o6656.1 o6656.2
      have o6657 : (0 ≤ (1 : Int32).toInt) ∧ ((1 : Int32).toInt ≤ 1) := by have := (by decide : ((1 : Int32)).toInt = 1); exact ⟨by omega, by omega⟩
      exact hQ _ _ hI6655 (FR.I (FR.refl _ w) (k := 127) (j := 86) (v := ((w.1 127 86) + (1 : Int32))) rfl)  o6657.1 o6657.2
    · have o6658 : 0 ≤ y214_2.toInt ∧ y214_2.toInt < 20 := by have := (by decide : ((0 : Int32)).toInt = 0); omega
      refine ⟨o6658, ?_⟩
      have o6659 : 0 ≤ y214_2.toInt ∧ y214_2.toInt < 20 := by have := (by decide : ((0 : Int32)).toInt = 0); omega
      refine ⟨o6659, ?_⟩
      refine Eq.mpr (q_Mo_isNew_255.eq_1 _ _ _) ?_
      refine ⟨fun _ => ?_, fun h => absurd h6653 h⟩
      have hI6660 : BND (sI w 180 y214_2.toInt.toNat ((w.1 180 y214_2.toInt.toNat) + (1 : Int32))) := wbd_180 hI y214_2.toInt.toNat
      have o6662 : 0 ≤ (((sI w 180 y214_2.toInt.toNat ((w.1 180 y214_2.toInt.toNat) + (1 : Int32))).1 127 86) + (1 : Int32)).toInt ∧ (((sI w 180 y214_2.toInt.toNat ((w.1 180 y214_2.toInt.toNat) + (1 : Int32))).1 127 86) + (1 : Int32)).toInt ≤ 24 := by have := bd_127_86 hI; have : ((sI w 180 y214_2.toInt.toNat ((w.1 180 y214_2.toInt.toNat) + (1 : Int32))).1 127 86).toInt = (w.1 127 86).toInt := rfl; have := ti_add2 (Eq.refl ((sI w 180 y214_2.toInt.toNat ((w.1 180 y214_2.toInt.toNat) + (1 : Int32))).1 127 86).toInt) (by decide : ((1 : Int32)).toInt = 1) (by omega) (by omega); omega
      have hI6661 : BND (sI (sI w 180 y214_2.toInt.toNat ((w.1 180 y214_2.toInt.toNat) + (1 : Int32))) 127 86 (((sI w 180 y214_2.toInt.toNat ((w.1 180 y214_2.toInt.toNat) + (1 : Int32))).1 127 86) + (1 : Int32))) := wbd_127_86 hI6660 o6662.1 o6662.2
      have o6663 : (0 ≤ (1 : Int32).toInt) ∧ ((1 : Int32).toInt ≤ 1) := by have := (by decide : ((1 : Int32)).toInt = 1); exact ⟨by omega, by omega⟩
      exact hQ _ _ hI6661 (FR.I (FR.I (FR.refl _ w) (k := 180) (j := y214_2.toInt.toNat) (v := ((w.1 180 y214_2.toInt.toNat) + (1 : Int32))) rfl) (k := 127) (j := 86) (v := (((sI w 180 y214_2.toInt.toNat ((w.1 180 y214_2.toInt.toNat) + (1 : Int32))).1 127 86) + (1 : Int32))) rfl)  o6663.1 o6663.2
  · have o6664 : 0 ≤ y214_3.toInt ∧ y214_3.toInt < 20 := by have := (by decide : ((0 : Int32)).toInt = 0); omega
    refine ⟨o6664, ?_⟩
    have o6665 : 0 ≤ y214_3.toInt ∧ y214_3.toInt < 20 := by have := (by decide : ((0 : Int32)).toInt = 0); omega
    refine ⟨o6665, ?_⟩
    refine Eq.mpr (p_Mo_room.eq_1 _ _ _) ?_
    refine ⟨fun h6666 => ?_, fun h6666 => ?_⟩
    · refine ⟨fun h6667 => ?_, fun h6667 => ?_⟩
      · refine ⟨fun h6668 => ?_, fun h6668 => ?_⟩
        · refine ⟨fun h6669 => ?_, fun h6669 => ?_⟩
          · replace h6669 : ((w.1 180 y214_3.toInt.toNat) + y214_4).toInt < 3 := h6669
            refine ⟨fun h6670 => ?_, fun h6670 => ?_⟩
            · refine Eq.mpr (q_Mo_isNew_255.eq_1 _ _ _) ?_
              refine ⟨fun h => absurd h h6653, fun _ => ?_⟩
              have o6671 : 0 ≤ y214_3.toInt ∧ y214_3.toInt < 20 := by have := (by decide : ((0 : Int32)).toInt = 0); omega
              refine ⟨o6671, ?_⟩
              have o6672 : 0 ≤ y214_3.toInt ∧ y214_3.toInt < 20 := by have := (by decide : ((0 : Int32)).toInt = 0); omega
              refine ⟨o6672, ?_⟩
              have hI6673 : BND (sI w 180 y214_3.toInt.toNat ((w.1 180 y214_3.toInt.toNat) + (1 : Int32))) := wbd_180 hI y214_3.toInt.toNat
              have o6675 : 0 ≤ ((w.1 127 86) + (1 : Int32)).toInt ∧ ((w.1 127 86) + (1 : Int32)).toInt ≤ 24 := by have := bd_127_86 hI; have := ti_add2 (Eq.refl (w.1 127 86).toInt) (by decide : ((1 : Int32)).toInt = 1) (by omega) (by omega); omega
              have hI6674 : BND (sI (sI w 180 y214_3.toInt.toNat ((w.1 180 y214_3.toInt.toNat) + (1 : Int32))) 127 86 ((w.1 127 86) + (1 : Int32))) := wbd_127_86 hI6673 o6675.1 o6675.2
              have o6676 : (0 ≤ (1 : Int32).toInt) ∧ ((1 : Int32).toInt ≤ 1) := by have := (by decide : ((1 : Int32)).toInt = 1); exact ⟨by omega, by omega⟩
              exact hQ _ _ hI6674 (FR.I (FR.I (FR.refl _ w) (k := 180) (j := y214_3.toInt.toNat) (v := ((w.1 180 y214_3.toInt.toNat) + (1 : Int32))) rfl) (k := 127) (j := 86) (v := ((w.1 127 86) + (1 : Int32))) rfl)  o6676.1 o6676.2
            · have o6677 : 0 ≤ y214_2.toInt ∧ y214_2.toInt < 20 := by have := (by decide : ((0 : Int32)).toInt = 0); omega
              refine ⟨o6677, ?_⟩
              have o6678 : 0 ≤ y214_2.toInt ∧ y214_2.toInt < 20 := by have := (by decide : ((0 : Int32)).toInt = 0); omega
              refine ⟨o6678, ?_⟩
              refine Eq.mpr (q_Mo_isNew_255.eq_1 _ _ _) ?_
              refine ⟨fun h => absurd h h6653, fun _ => ?_⟩
              have o6679 : 0 ≤ y214_3.toInt ∧ y214_3.toInt < 20 := by have := (by decide : ((0 : Int32)).toInt = 0); omega
              refine ⟨o6679, ?_⟩
              have o6680 : 0 ≤ y214_3.toInt ∧ y214_3.toInt < 20 := by have := (by decide : ((0 : Int32)).toInt = 0); omega
              refine ⟨o6680, ?_⟩
              have hI6681 : BND (sI w 180 y214_2.toInt.toNat ((w.1 180 y214_2.toInt.toNat) + (1 : Int32))) := wbd_180 hI y214_2.toInt.toNat
              have hI6682 : BND (sI (sI w 180 y214_2.toInt.toNat ((w.1 180 y214_2.toInt.toNat) + (1 : Int32))) 180 y214_3.toInt.toNat (((sI w 180 y214_2.toInt.toNat ((w.1 180 y214_2.toInt.toNat) + (1 : Int32))).1 180 y214_3.toInt.toNat) + (1 : Int32))) := wbd_180 hI6681 y214_3.toInt.toNat
              have o6684 : 0 ≤ (((sI w 180 y214_2.toInt.toNat ((w.1 180 y214_2.toInt.toNat) + (1 : Int32))).1 127 86) + (1 : Int32)).toInt ∧ (((sI w 180 y214_2.toInt.toNat ((w.1 180 y214_2.toInt.toNat) + (1 : Int32))).1 127 86) + (1 : Int32)).toInt ≤ 24 := by have := bd_127_86 hI; have : ((sI w 180 y214_2.toInt.toNat ((w.1 180 y214_2.toInt.toNat) + (1 : Int32))).1 127 86).toInt = (w.1 127 86).toInt := rfl; have := ti_add2 (Eq.refl ((sI w 180 y214_2.toInt.toNat ((w.1 180 y214_2.toInt.toNat) + (1 : Int32))).1 127 86).toInt) (by decide : ((1 : Int32)).toInt = 1) (by omega) (by omega); omega
              have hI6683 : BND (sI (sI (sI w 180 y214_2.toInt.toNat ((w.1 180 y214_2.toInt.toNat) + (1 : Int32))) 180 y214_3.toInt.toNat (((sI w 180 y214_2.toInt.toNat ((w.1 180 y214_2.toInt.toNat) + (1 : Int32))).1 180 y214_3.toInt.toNat) + (1 : Int32))) 127 86 (((sI w 180 y214_2.toInt.toNat ((w.1 180 y214_2.toInt.toNat) + (1 : Int32))).1 127 86) + (1 : Int32))) := wbd_127_86 hI6682 o6684.1 o6684.2
              have o6685 : (0 ≤ (1 : Int32).toInt) ∧ ((1 : Int32).toInt ≤ 1) := by have := (by decide : ((1 : Int32)).toInt = 1); exact ⟨by omega, by omega⟩
              exact hQ _ _ hI6683 (FR.I (FR.I (FR.I (FR.refl _ w) (k := 180) (j := y214_2.toInt.toNat) (v := ((w.1 180 y214_2.toInt.toNat) + (1 : Int32))) rfl) (k := 180) (j := y214_3.toInt.toNat) (v := (((sI w 180 y214_2.toInt.toNat ((w.1 180 y214_2.toInt.toNat) + (1 : Int32))).1 180 y214_3.toInt.toNat) + (1 : Int32))) rfl) (k := 127) (j := 86) (v := (((sI w 180 y214_2.toInt.toNat ((w.1 180 y214_2.toInt.toNat) + (1 : Int32))).1 127 86) + (1 : Int32))) rfl)  o6685.1 o6685.2
          · replace h6669 : ¬ (((w.1 180 y214_3.toInt.toNat) + y214_4).toInt < 3) := h6669
            have o6686 : (0 ≤ (0 : Int32).toInt) ∧ ((0 : Int32).toInt ≤ 1) := by have := (by decide : ((0 : Int32)).toInt = 0); exact ⟨by omega, by omega⟩
            exact hQ _ _ hI (FR.refl _ w)  o6686.1 o6686.2
        · refine ⟨fun h6687 => ?_, fun h6687 => ?_⟩
          · refine ⟨fun h6688 => ?_, fun h6688 => ?_⟩
            · refine ⟨fun h6689 => ?_, fun h6689 => ?_⟩
              · refine ⟨fun h6690 => ?_, fun h6690 => ?_⟩
                · replace h6690 : ((w.1 180 y214_3.toInt.toNat) + y214_4).toInt < 2 := h6690
                  refine ⟨fun h6691 => ?_, fun h6691 => ?_⟩
                  · refine Eq.mpr (q_Mo_isNew_255.eq_1 _ _ _) ?_
                    refine ⟨fun h => absurd h h6653, fun _ => ?_⟩
                    have o6692 : 0 ≤ y214_3.toInt ∧ y214_3.toInt < 20 := by have := (by decide : ((0 : Int32)).toInt = 0); omega
                    refine ⟨o6692, ?_⟩
                    have o6693 : 0 ≤ y214_3.toInt ∧ y214_3.toInt < 20 := by have := (by decide : ((0 : Int32)).toInt = 0); omega
                    refine ⟨o6693, ?_⟩
                    have hI6694 : BND (sI w 180 y214_3.toInt.toNat ((w.1 180 y214_3.toInt.toNat) + (1 : Int32))) := wbd_180 hI y214_3.toInt.toNat
                    have o6696 : 0 ≤ ((w.1 127 86) + (1 : Int32)).toInt ∧ ((w.1 127 86) + (1 : Int32)).toInt ≤ 24 := by have := bd_127_86 hI; have := ti_add2 (Eq.refl (w.1 127 86).toInt) (by decide : ((1 : Int32)).toInt = 1) (by omega) (by omega); omega
                    have hI6695 : BND (sI (sI w 180 y214_3.toInt.toNat ((w.1 180 y214_3.toInt.toNat) + (1 : Int32))) 127 86 ((w.1 127 86) + (1 : Int32))) := wbd_127_86 hI6694 o6696.1 o6696.2
                    have o6697 : (0 ≤ (1 : Int32).toInt) ∧ ((1 : Int32).toInt ≤ 1) := by have := (by decide : ((1 : Int32)).toInt = 1); exact ⟨by omega, by omega⟩
                    exact hQ _ _ hI6695 (FR.I (FR.I (FR.refl _ w) (k := 180) (j := y214_3.toInt.toNat) (v := ((w.1 180 y214_3.toInt.toNat) + (1 : Int32))) rfl) (k := 127) (j := 86) (v := ((w.1 127 86) + (1 : Int32))) rfl)  o6697.1 o6697.2
                  · have o6698 : 0 ≤ y214_2.toInt ∧ y214_2.toInt < 20 := by have := (by decide : ((0 : Int32)).toInt = 0); omega
                    refine ⟨o6698, ?_⟩
                    have o6699 : 0 ≤ y214_2.toInt ∧ y214_2.toInt < 20 := by have := (by decide : ((0 : Int32)).toInt = 0); omega
                    refine ⟨o6699, ?_⟩
                    refine Eq.mpr (q_Mo_isNew_255.eq_1 _ _ _) ?_
                    refine ⟨fun h => absurd h h6653, fun _ => ?_⟩
                    have o6700 : 0 ≤ y214_3.toInt ∧ y214_3.toInt < 20 := by have := (by decide : ((0 : Int32)).toInt = 0); omega
                    refine ⟨o6700, ?_⟩
                    have o6701 : 0 ≤ y214_3.toInt ∧ y214_3.toInt < 20 := by have := (by decide : ((0 : Int32)).toInt = 0); omega
                    refine ⟨o6701, ?_⟩
                    have hI6702 : BND (sI w 180 y214_2.toInt.toNat ((w.1 180 y214_2.toInt.toNat) + (1 : Int32))) := wbd_180 hI y214_2.toInt.toNat
                    have hI6703 : BND (sI (sI w 180 y214_2.toInt.toNat ((w.1 180 y214_2.toInt.toNat) + (1 : Int32))) 180 y214_3.toInt.toNat (((sI w 180 y214_2.toInt.toNat ((w.1 180 y214_2.toInt.toNat) + (1 : Int32))).1 180 y214_3.toInt.toNat) + (1 : Int32))) := wbd_180 hI6702 y214_3.toInt.toNat
                    have o6705 : 0 ≤ (((sI w 180 y214_2.toInt.toNat ((w.1 180 y214_2.toInt.toNat) + (1 : Int32))).1 127 86) + (1 : Int32)).toInt ∧ (((sI w 180 y214_2.toInt.toNat ((w.1 180 y214_2.toInt.toNat) + (1 : Int32))).1 127 86) + (1 : Int32)).toInt ≤ 24 := by have := bd_127_86 hI; have : ((sI w 180 y214_2.toInt.toNat ((w.1 180 y214_2.toInt.toNat) + (1 : Int32))).1 127 86).toInt = (w.1 127 86).toInt := rfl; have := ti_add2 (Eq.refl ((sI w 180 y214_2.toInt.toNat ((w.1 180 y214_2.toInt.toNat) + (1 : Int32))).1 127 86).toInt) (by decide : ((1 : Int32)).toInt = 1) (by omega) (by omega); omega
                    have hI6704 : BND (sI (sI (sI w 180 y214_2.toInt.toNat ((w.1 180 y214_2.toInt.toNat) + (1 : Int32))) 180 y214_3.toInt.toNat (((sI w 180 y214_2.toInt.toNat ((w.1 180 y214_2.toInt.toNat) + (1 : Int32))).1 180 y214_3.toInt.toNat) + (1 : Int32))) 127 86 (((sI w 180 y214_2.toInt.toNat ((w.1 180 y214_2.toInt.toNat) + (1 : Int32))).1 127 86) + (1 : Int32))) := wbd_127_86 hI6703 o6705.1 o6705.2
                    have o6706 : (0 ≤ (1 : Int32).toInt) ∧ ((1 : Int32).toInt ≤ 1) := by have := (by decide : ((1 : Int32)).toInt = 1); exact ⟨by omega, by omega⟩
                    exact hQ _ _ hI6704 (FR.I (FR.I (FR.I (FR.refl _ w) (k := 180) (j := y214_2.toInt.toNat) (v := ((w.1 180 y214_2.toInt.toNat) + (1 : Int32))) rfl) (k := 180) (j := y214_3.toInt.toNat) (v := (((sI w 180 y214_2.toInt.toNat ((w.1 180 y214_2.toInt.toNat) + (1 : Int32))).1 180 y214_3.toInt.toNat) + (1 : Int32))) rfl) (k := 127) (j := 86) (v := (((sI w 180 y214_2.toInt.toNat ((w.1 180 y214_2.toInt.toNat) + (1 : Int32))).1 127 86) + (1 : Int32))) rfl)  o6706.1 o6706.2
                · replace h6690 : ¬ (((w.1 180 y214_3.toInt.toNat) + y214_4).toInt < 2) := h6690
                  have o6707 : (0 ≤ (0 : Int32).toInt) ∧ ((0 : Int32).toInt ≤ 1) := by have := (by decide : ((0 : Int32)).toInt = 0); exact ⟨by omega, by omega⟩
                  exact hQ _ _ hI (FR.refl _ w)  o6707.1 o6707.2
              · refine ⟨fun h6708 => ?_, fun h6708 => ?_⟩
                · replace h6708 : ((w.1 180 y214_3.toInt.toNat) + y214_4).toInt < 1 := h6708
                  refine ⟨fun h6709 => ?_, fun h6709 => ?_⟩
                  · refine Eq.mpr (q_Mo_isNew_255.eq_1 _ _ _) ?_
                    refine ⟨fun h => absurd h h6653, fun _ => ?_⟩
                    have o6710 : 0 ≤ y214_3.toInt ∧ y214_3.toInt < 20 := by have := (by decide : ((0 : Int32)).toInt = 0); omega
                    refine ⟨o6710, ?_⟩
                    have o6711 : 0 ≤ y214_3.toInt ∧ y214_3.toInt < 20 := by have := (by decide : ((0 : Int32)).toInt = 0); omega
                    refine ⟨o6711, ?_⟩
                    have hI6712 : BND (sI w 180 y214_3.toInt.toNat ((w.1 180 y214_3.toInt.toNat) + (1 : Int32))) := wbd_180 hI y214_3.toInt.toNat
                    have o6714 : 0 ≤ ((w.1 127 86) + (1 : Int32)).toInt ∧ ((w.1 127 86) + (1 : Int32)).toInt ≤ 24 := by have := bd_127_86 hI; have := ti_add2 (Eq.refl (w.1 127 86).toInt) (by decide : ((1 : Int32)).toInt = 1) (by omega) (by omega); omega
                    have hI6713 : BND (sI (sI w 180 y214_3.toInt.toNat ((w.1 180 y214_3.toInt.toNat) + (1 : Int32))) 127 86 ((w.1 127 86) + (1 : Int32))) := wbd_127_86 hI6712 o6714.1 o6714.2
                    have o6715 : (0 ≤ (1 : Int32).toInt) ∧ ((1 : Int32).toInt ≤ 1) := by have := (by decide : ((1 : Int32)).toInt = 1); exact ⟨by omega, by omega⟩
                    exact hQ _ _ hI6713 (FR.I (FR.I (FR.refl _ w) (k := 180) (j := y214_3.toInt.toNat) (v := ((w.1 180 y214_3.toInt.toNat) + (1 : Int32))) rfl) (k := 127) (j := 86) (v := ((w.1 127 86) + (1 : Int32))) rfl)  o6715.1 o6715.2
                  · have o6716 : 0 ≤ y214_2.toInt ∧ y214_2.toInt < 20 := by have := (by decide : ((0 : Int32)).toInt = 0); omega
                    refine ⟨o6716, ?_⟩
                    have o6717 : 0 ≤ y214_2.toInt ∧ y214_2.toInt < 20 := by have := (by decide : ((0 : Int32)).toInt = 0); omega
                    refine ⟨o6717, ?_⟩
                    refine Eq.mpr (q_Mo_isNew_255.eq_1 _ _ _) ?_
                    refine ⟨fun h => absurd h h6653, fun _ => ?_⟩
                    have o6718 : 0 ≤ y214_3.toInt ∧ y214_3.toInt < 20 := by have := (by decide : ((0 : Int32)).toInt = 0); omega
                    refine ⟨o6718, ?_⟩
                    have o6719 : 0 ≤ y214_3.toInt ∧ y214_3.toInt < 20 := by have := (by decide : ((0 : Int32)).toInt = 0); omega
                    refine ⟨o6719, ?_⟩
                    have hI6720 : BND (sI w 180 y214_2.toInt.toNat ((w.1 180 y214_2.toInt.toNat) + (1 : Int32))) := wbd_180 hI y214_2.toInt.toNat
                    have hI6721 : BND (sI (sI w 180 y214_2.toInt.toNat ((w.1 180 y214_2.toInt.toNat) + (1 : Int32))) 180 y214_3.toInt.toNat (((sI w 180 y214_2.toInt.toNat ((w.1 180 y214_2.toInt.toNat) + (1 : Int32))).1 180 y214_3.toInt.toNat) + (1 : Int32))) := wbd_180 hI6720 y214_3.toInt.toNat
                    have o6723 : 0 ≤ (((sI w 180 y214_2.toInt.toNat ((w.1 180 y214_2.toInt.toNat) + (1 : Int32))).1 127 86) + (1 : Int32)).toInt ∧ (((sI w 180 y214_2.toInt.toNat ((w.1 180 y214_2.toInt.toNat) + (1 : Int32))).1 127 86) + (1 : Int32)).toInt ≤ 24 := by have := bd_127_86 hI; have : ((sI w 180 y214_2.toInt.toNat ((w.1 180 y214_2.toInt.toNat) + (1 : Int32))).1 127 86).toInt = (w.1 127 86).toInt := rfl; have := ti_add2 (Eq.refl ((sI w 180 y214_2.toInt.toNat ((w.1 180 y214_2.toInt.toNat) + (1 : Int32))).1 127 86).toInt) (by decide : ((1 : Int32)).toInt = 1) (by omega) (by omega); omega
                    have hI6722 : BND (sI (sI (sI w 180 y214_2.toInt.toNat ((w.1 180 y214_2.toInt.toNat) + (1 : Int32))) 180 y214_3.toInt.toNat (((sI w 180 y214_2.toInt.toNat ((w.1 180 y214_2.toInt.toNat) + (1 : Int32))).1 180 y214_3.toInt.toNat) + (1 : Int32))) 127 86 (((sI w 180 y214_2.toInt.toNat ((w.1 180 y214_2.toInt.toNat) + (1 : Int32))).1 127 86) + (1 : Int32))) := wbd_127_86 hI6721 o6723.1 o6723.2
                    have o6724 : (0 ≤ (1 : Int32).toInt) ∧ ((1 : Int32).toInt ≤ 1) := by have := (by decide : ((1 : Int32)).toInt = 1); exact ⟨by omega, by omega⟩
                    exact hQ _ _ hI6722 (FR.I (FR.I (FR.I (FR.refl _ w) (k := 180) (j := y214_2.toInt.toNat) (v := ((w.1 180 y214_2.toInt.toNat) + (1 : Int32))) rfl) (k := 180) (j := y214_3.toInt.toNat) (v := (((sI w 180 y214_2.toInt.toNat ((w.1 180 y214_2.toInt.toNat) + (1 : Int32))).1 180 y214_3.toInt.toNat) + (1 : Int32))) rfl) (k := 127) (j := 86) (v := (((sI w 180 y214_2.toInt.toNat ((w.1 180 y214_2.toInt.toNat) + (1 : Int32))).1 127 86) + (1 : Int32))) rfl)  o6724.1 o6724.2
                · replace h6708 : ¬ (((w.1 180 y214_3.toInt.toNat) + y214_4).toInt < 1) := h6708
                  have o6725 : (0 ≤ (0 : Int32).toInt) ∧ ((0 : Int32).toInt ≤ 1) := by have := (by decide : ((0 : Int32)).toInt = 0); exact ⟨by omega, by omega⟩
                  exact hQ _ _ hI (FR.refl _ w)  o6725.1 o6725.2
            · refine ⟨fun h6726 => ?_, fun h6726 => ?_⟩
              · replace h6726 : ((w.1 180 y214_3.toInt.toNat) + y214_4).toInt < 4 := h6726
                refine ⟨fun h6727 => ?_, fun h6727 => ?_⟩
                · refine Eq.mpr (q_Mo_isNew_255.eq_1 _ _ _) ?_
                  refine ⟨fun h => absurd h h6653, fun _ => ?_⟩
                  have o6728 : 0 ≤ y214_3.toInt ∧ y214_3.toInt < 20 := by have := (by decide : ((0 : Int32)).toInt = 0); omega
                  refine ⟨o6728, ?_⟩
                  have o6729 : 0 ≤ y214_3.toInt ∧ y214_3.toInt < 20 := by have := (by decide : ((0 : Int32)).toInt = 0); omega
                  refine ⟨o6729, ?_⟩
                  have hI6730 : BND (sI w 180 y214_3.toInt.toNat ((w.1 180 y214_3.toInt.toNat) + (1 : Int32))) := wbd_180 hI y214_3.toInt.toNat
                  have o6732 : 0 ≤ ((w.1 127 86) + (1 : Int32)).toInt ∧ ((w.1 127 86) + (1 : Int32)).toInt ≤ 24 := by have := bd_127_86 hI; have := ti_add2 (Eq.refl (w.1 127 86).toInt) (by decide : ((1 : Int32)).toInt = 1) (by omega) (by omega); omega
                  have hI6731 : BND (sI (sI w 180 y214_3.toInt.toNat ((w.1 180 y214_3.toInt.toNat) + (1 : Int32))) 127 86 ((w.1 127 86) + (1 : Int32))) := wbd_127_86 hI6730 o6732.1 o6732.2
                  have o6733 : (0 ≤ (1 : Int32).toInt) ∧ ((1 : Int32).toInt ≤ 1) := by have := (by decide : ((1 : Int32)).toInt = 1); exact ⟨by omega, by omega⟩
                  exact hQ _ _ hI6731 (FR.I (FR.I (FR.refl _ w) (k := 180) (j := y214_3.toInt.toNat) (v := ((w.1 180 y214_3.toInt.toNat) + (1 : Int32))) rfl) (k := 127) (j := 86) (v := ((w.1 127 86) + (1 : Int32))) rfl)  o6733.1 o6733.2
                · have o6734 : 0 ≤ y214_2.toInt ∧ y214_2.toInt < 20 := by have := (by decide : ((0 : Int32)).toInt = 0); omega
                  refine ⟨o6734, ?_⟩
                  have o6735 : 0 ≤ y214_2.toInt ∧ y214_2.toInt < 20 := by have := (by decide : ((0 : Int32)).toInt = 0); omega
                  refine ⟨o6735, ?_⟩
                  refine Eq.mpr (q_Mo_isNew_255.eq_1 _ _ _) ?_
                  refine ⟨fun h => absurd h h6653, fun _ => ?_⟩
                  have o6736 : 0 ≤ y214_3.toInt ∧ y214_3.toInt < 20 := by have := (by decide : ((0 : Int32)).toInt = 0); omega
                  refine ⟨o6736, ?_⟩
                  have o6737 : 0 ≤ y214_3.toInt ∧ y214_3.toInt < 20 := by have := (by decide : ((0 : Int32)).toInt = 0); omega
                  refine ⟨o6737, ?_⟩
                  have hI6738 : BND (sI w 180 y214_2.toInt.toNat ((w.1 180 y214_2.toInt.toNat) + (1 : Int32))) := wbd_180 hI y214_2.toInt.toNat
                  have hI6739 : BND (sI (sI w 180 y214_2.toInt.toNat ((w.1 180 y214_2.toInt.toNat) + (1 : Int32))) 180 y214_3.toInt.toNat (((sI w 180 y214_2.toInt.toNat ((w.1 180 y214_2.toInt.toNat) + (1 : Int32))).1 180 y214_3.toInt.toNat) + (1 : Int32))) := wbd_180 hI6738 y214_3.toInt.toNat
                  have o6741 : 0 ≤ (((sI w 180 y214_2.toInt.toNat ((w.1 180 y214_2.toInt.toNat) + (1 : Int32))).1 127 86) + (1 : Int32)).toInt ∧ (((sI w 180 y214_2.toInt.toNat ((w.1 180 y214_2.toInt.toNat) + (1 : Int32))).1 127 86) + (1 : Int32)).toInt ≤ 24 := by have := bd_127_86 hI; have : ((sI w 180 y214_2.toInt.toNat ((w.1 180 y214_2.toInt.toNat) + (1 : Int32))).1 127 86).toInt = (w.1 127 86).toInt := rfl; have := ti_add2 (Eq.refl ((sI w 180 y214_2.toInt.toNat ((w.1 180 y214_2.toInt.toNat) + (1 : Int32))).1 127 86).toInt) (by decide : ((1 : Int32)).toInt = 1) (by omega) (by omega); omega
                  have hI6740 : BND (sI (sI (sI w 180 y214_2.toInt.toNat ((w.1 180 y214_2.toInt.toNat) + (1 : Int32))) 180 y214_3.toInt.toNat (((sI w 180 y214_2.toInt.toNat ((w.1 180 y214_2.toInt.toNat) + (1 : Int32))).1 180 y214_3.toInt.toNat) + (1 : Int32))) 127 86 (((sI w 180 y214_2.toInt.toNat ((w.1 180 y214_2.toInt.toNat) + (1 : Int32))).1 127 86) + (1 : Int32))) := wbd_127_86 hI6739 o6741.1 o6741.2
                  have o6742 : (0 ≤ (1 : Int32).toInt) ∧ ((1 : Int32).toInt ≤ 1) := by have := (by decide : ((1 : Int32)).toInt = 1); exact ⟨by omega, by omega⟩
                  exact hQ _ _ hI6740 (FR.I (FR.I (FR.I (FR.refl _ w) (k := 180) (j := y214_2.toInt.toNat) (v := ((w.1 180 y214_2.toInt.toNat) + (1 : Int32))) rfl) (k := 180) (j := y214_3.toInt.toNat) (v := (((sI w 180 y214_2.toInt.toNat ((w.1 180 y214_2.toInt.toNat) + (1 : Int32))).1 180 y214_3.toInt.toNat) + (1 : Int32))) rfl) (k := 127) (j := 86) (v := (((sI w 180 y214_2.toInt.toNat ((w.1 180 y214_2.toInt.toNat) + (1 : Int32))).1 127 86) + (1 : Int32))) rfl)  o6742.1 o6742.2
              · replace h6726 : ¬ (((w.1 180 y214_3.toInt.toNat) + y214_4).toInt < 4) := h6726
                have o6743 : (0 ≤ (0 : Int32).toInt) ∧ ((0 : Int32).toInt ≤ 1) := by have := (by decide : ((0 : Int32)).toInt = 0); exact ⟨by omega, by omega⟩
                exact hQ _ _ hI (FR.refl _ w)  o6743.1 o6743.2
          · refine ⟨fun h6744 => ?_, fun h6744 => ?_⟩
            · replace h6744 : ((w.1 180 y214_3.toInt.toNat) + y214_4).toInt < 3 := h6744
              refine ⟨fun h6745 => ?_, fun h6745 => ?_⟩
              · refine Eq.mpr (q_Mo_isNew_255.eq_1 _ _ _) ?_
                refine ⟨fun h => absurd h h6653, fun _ => ?_⟩
                have o6746 : 0 ≤ y214_3.toInt ∧ y214_3.toInt < 20 := by have := (by decide : ((0 : Int32)).toInt = 0); omega
                refine ⟨o6746, ?_⟩
                have o6747 : 0 ≤ y214_3.toInt ∧ y214_3.toInt < 20 := by have := (by decide : ((0 : Int32)).toInt = 0); omega
                refine ⟨o6747, ?_⟩
                have hI6748 : BND (sI w 180 y214_3.toInt.toNat ((w.1 180 y214_3.toInt.toNat) + (1 : Int32))) := wbd_180 hI y214_3.toInt.toNat
                have o6750 : 0 ≤ ((w.1 127 86) + (1 : Int32)).toInt ∧ ((w.1 127 86) + (1 : Int32)).toInt ≤ 24 := by have := bd_127_86 hI; have := ti_add2 (Eq.refl (w.1 127 86).toInt) (by decide : ((1 : Int32)).toInt = 1) (by omega) (by omega); omega
                have hI6749 : BND (sI (sI w 180 y214_3.toInt.toNat ((w.1 180 y214_3.toInt.toNat) + (1 : Int32))) 127 86 ((w.1 127 86) + (1 : Int32))) := wbd_127_86 hI6748 o6750.1 o6750.2
                have o6751 : (0 ≤ (1 : Int32).toInt) ∧ ((1 : Int32).toInt ≤ 1) := by have := (by decide : ((1 : Int32)).toInt = 1); exact ⟨by omega, by omega⟩
                exact hQ _ _ hI6749 (FR.I (FR.I (FR.refl _ w) (k := 180) (j := y214_3.toInt.toNat) (v := ((w.1 180 y214_3.toInt.toNat) + (1 : Int32))) rfl) (k := 127) (j := 86) (v := ((w.1 127 86) + (1 : Int32))) rfl)  o6751.1 o6751.2
              · have o6752 : 0 ≤ y214_2.toInt ∧ y214_2.toInt < 20 := by have := (by decide : ((0 : Int32)).toInt = 0); omega
                refine ⟨o6752, ?_⟩
                have o6753 : 0 ≤ y214_2.toInt ∧ y214_2.toInt < 20 := by have := (by decide : ((0 : Int32)).toInt = 0); omega
                refine ⟨o6753, ?_⟩
                refine Eq.mpr (q_Mo_isNew_255.eq_1 _ _ _) ?_
                refine ⟨fun h => absurd h h6653, fun _ => ?_⟩
                have o6754 : 0 ≤ y214_3.toInt ∧ y214_3.toInt < 20 := by have := (by decide : ((0 : Int32)).toInt = 0); omega
                refine ⟨o6754, ?_⟩
                have o6755 : 0 ≤ y214_3.toInt ∧ y214_3.toInt < 20 := by have := (by decide : ((0 : Int32)).toInt = 0); omega
                refine ⟨o6755, ?_⟩
                have hI6756 : BND (sI w 180 y214_2.toInt.toNat ((w.1 180 y214_2.toInt.toNat) + (1 : Int32))) := wbd_180 hI y214_2.toInt.toNat
                have hI6757 : BND (sI (sI w 180 y214_2.toInt.toNat ((w.1 180 y214_2.toInt.toNat) + (1 : Int32))) 180 y214_3.toInt.toNat (((sI w 180 y214_2.toInt.toNat ((w.1 180 y214_2.toInt.toNat) + (1 : Int32))).1 180 y214_3.toInt.toNat) + (1 : Int32))) := wbd_180 hI6756 y214_3.toInt.toNat
                have o6759 : 0 ≤ (((sI w 180 y214_2.toInt.toNat ((w.1 180 y214_2.toInt.toNat) + (1 : Int32))).1 127 86) + (1 : Int32)).toInt ∧ (((sI w 180 y214_2.toInt.toNat ((w.1 180 y214_2.toInt.toNat) + (1 : Int32))).1 127 86) + (1 : Int32)).toInt ≤ 24 := by have := bd_127_86 hI; have : ((sI w 180 y214_2.toInt.toNat ((w.1 180 y214_2.toInt.toNat) + (1 : Int32))).1 127 86).toInt = (w.1 127 86).toInt := rfl; have := ti_add2 (Eq.refl ((sI w 180 y214_2.toInt.toNat ((w.1 180 y214_2.toInt.toNat) + (1 : Int32))).1 127 86).toInt) (by decide : ((1 : Int32)).toInt = 1) (by omega) (by omega); omega
                have hI6758 : BND (sI (sI (sI w 180 y214_2.toInt.toNat ((w.1 180 y214_2.toInt.toNat) + (1 : Int32))) 180 y214_3.toInt.toNat (((sI w 180 y214_2.toInt.toNat ((w.1 180 y214_2.toInt.toNat) + (1 : Int32))).1 180 y214_3.toInt.toNat) + (1 : Int32))) 127 86 (((sI w 180 y214_2.toInt.toNat ((w.1 180 y214_2.toInt.toNat) + (1 : Int32))).1 127 86) + (1 : Int32))) := wbd_127_86 hI6757 o6759.1 o6759.2
                have o6760 : (0 ≤ (1 : Int32).toInt) ∧ ((1 : Int32).toInt ≤ 1) := by have := (by decide : ((1 : Int32)).toInt = 1); exact ⟨by omega, by omega⟩
                exact hQ _ _ hI6758 (FR.I (FR.I (FR.I (FR.refl _ w) (k := 180) (j := y214_2.toInt.toNat) (v := ((w.1 180 y214_2.toInt.toNat) + (1 : Int32))) rfl) (k := 180) (j := y214_3.toInt.toNat) (v := (((sI w 180 y214_2.toInt.toNat ((w.1 180 y214_2.toInt.toNat) + (1 : Int32))).1 180 y214_3.toInt.toNat) + (1 : Int32))) rfl) (k := 127) (j := 86) (v := (((sI w 180 y214_2.toInt.toNat ((w.1 180 y214_2.toInt.toNat) + (1 : Int32))).1 127 86) + (1 : Int32))) rfl)  o6760.1 o6760.2
            · replace h6744 : ¬ (((w.1 180 y214_3.toInt.toNat) + y214_4).toInt < 3) := h6744
              have o6761 : (0 ≤ (0 : Int32).toInt) ∧ ((0 : Int32).toInt ≤ 1) := by have := (by decide : ((0 : Int32)).toInt = 0); exact ⟨by omega, by omega⟩
              exact hQ _ _ hI (FR.refl _ w)  o6761.1 o6761.2
      · refine ⟨fun h6762 => ?_, fun h6762 => ?_⟩
        · replace h6762 : ((w.1 180 y214_3.toInt.toNat) + y214_4).toInt < 2 := h6762
          refine ⟨fun h6763 => ?_, fun h6763 => ?_⟩
          · refine Eq.mpr (q_Mo_isNew_255.eq_1 _ _ _) ?_
            refine ⟨fun h => absurd h h6653, fun _ => ?_⟩
            have o6764 : 0 ≤ y214_3.toInt ∧ y214_3.toInt < 20 := by have := (by decide : ((0 : Int32)).toInt = 0); omega
            refine ⟨o6764, ?_⟩
            have o6765 : 0 ≤ y214_3.toInt ∧ y214_3.toInt < 20 := by have := (by decide : ((0 : Int32)).toInt = 0); omega
            refine ⟨o6765, ?_⟩
            have hI6766 : BND (sI w 180 y214_3.toInt.toNat ((w.1 180 y214_3.toInt.toNat) + (1 : Int32))) := wbd_180 hI y214_3.toInt.toNat
            have o6768 : 0 ≤ ((w.1 127 86) + (1 : Int32)).toInt ∧ ((w.1 127 86) + (1 : Int32)).toInt ≤ 24 := by have := bd_127_86 hI; have := ti_add2 (Eq.refl (w.1 127 86).toInt) (by decide : ((1 : Int32)).toInt = 1) (by omega) (by omega); omega
            have hI6767 : BND (sI (sI w 180 y214_3.toInt.toNat ((w.1 180 y214_3.toInt.toNat) + (1 : Int32))) 127 86 ((w.1 127 86) + (1 : Int32))) := wbd_127_86 hI6766 o6768.1 o6768.2
            have o6769 : (0 ≤ (1 : Int32).toInt) ∧ ((1 : Int32).toInt ≤ 1) := by have := (by decide : ((1 : Int32)).toInt = 1); exact ⟨by omega, by omega⟩
            exact hQ _ _ hI6767 (FR.I (FR.I (FR.refl _ w) (k := 180) (j := y214_3.toInt.toNat) (v := ((w.1 180 y214_3.toInt.toNat) + (1 : Int32))) rfl) (k := 127) (j := 86) (v := ((w.1 127 86) + (1 : Int32))) rfl)  o6769.1 o6769.2
          · have o6770 : 0 ≤ y214_2.toInt ∧ y214_2.toInt < 20 := by have := (by decide : ((0 : Int32)).toInt = 0); omega
            refine ⟨o6770, ?_⟩
            have o6771 : 0 ≤ y214_2.toInt ∧ y214_2.toInt < 20 := by have := (by decide : ((0 : Int32)).toInt = 0); omega
            refine ⟨o6771, ?_⟩
            refine Eq.mpr (q_Mo_isNew_255.eq_1 _ _ _) ?_
            refine ⟨fun h => absurd h h6653, fun _ => ?_⟩
            have o6772 : 0 ≤ y214_3.toInt ∧ y214_3.toInt < 20 := by have := (by decide : ((0 : Int32)).toInt = 0); omega
            refine ⟨o6772, ?_⟩
            have o6773 : 0 ≤ y214_3.toInt ∧ y214_3.toInt < 20 := by have := (by decide : ((0 : Int32)).toInt = 0); omega
            refine ⟨o6773, ?_⟩
            have hI6774 : BND (sI w 180 y214_2.toInt.toNat ((w.1 180 y214_2.toInt.toNat) + (1 : Int32))) := wbd_180 hI y214_2.toInt.toNat
            have hI6775 : BND (sI (sI w 180 y214_2.toInt.toNat ((w.1 180 y214_2.toInt.toNat) + (1 : Int32))) 180 y214_3.toInt.toNat (((sI w 180 y214_2.toInt.toNat ((w.1 180 y214_2.toInt.toNat) + (1 : Int32))).1 180 y214_3.toInt.toNat) + (1 : Int32))) := wbd_180 hI6774 y214_3.toInt.toNat
            have o6777 : 0 ≤ (((sI w 180 y214_2.toInt.toNat ((w.1 180 y214_2.toInt.toNat) + (1 : Int32))).1 127 86) + (1 : Int32)).toInt ∧ (((sI w 180 y214_2.toInt.toNat ((w.1 180 y214_2.toInt.toNat) + (1 : Int32))).1 127 86) + (1 : Int32)).toInt ≤ 24 := by have := bd_127_86 hI; have : ((sI w 180 y214_2.toInt.toNat ((w.1 180 y214_2.toInt.toNat) + (1 : Int32))).1 127 86).toInt = (w.1 127 86).toInt := rfl; have := ti_add2 (Eq.refl ((sI w 180 y214_2.toInt.toNat ((w.1 180 y214_2.toInt.toNat) + (1 : Int32))).1 127 86).toInt) (by decide : ((1 : Int32)).toInt = 1) (by omega) (by omega); omega
            have hI6776 : BND (sI (sI (sI w 180 y214_2.toInt.toNat ((w.1 180 y214_2.toInt.toNat) + (1 : Int32))) 180 y214_3.toInt.toNat (((sI w 180 y214_2.toInt.toNat ((w.1 180 y214_2.toInt.toNat) + (1 : Int32))).1 180 y214_3.toInt.toNat) + (1 : Int32))) 127 86 (((sI w 180 y214_2.toInt.toNat ((w.1 180 y214_2.toInt.toNat) + (1 : Int32))).1 127 86) + (1 : Int32))) := wbd_127_86 hI6775 o6777.1 o6777.2
            have o6778 : (0 ≤ (1 : Int32).toInt) ∧ ((1 : Int32).toInt ≤ 1) := by have := (by decide : ((1 : Int32)).toInt = 1); exact ⟨by omega, by omega⟩
            exact hQ _ _ hI6776 (FR.I (FR.I (FR.I (FR.refl _ w) (k := 180) (j := y214_2.toInt.toNat) (v := ((w.1 180 y214_2.toInt.toNat) + (1 : Int32))) rfl) (k := 180) (j := y214_3.toInt.toNat) (v := (((sI w 180 y214_2.toInt.toNat ((w.1 180 y214_2.toInt.toNat) + (1 : Int32))).1 180 y214_3.toInt.toNat) + (1 : Int32))) rfl) (k := 127) (j := 86) (v := (((sI w 180 y214_2.toInt.toNat ((w.1 180 y214_2.toInt.toNat) + (1 : Int32))).1 127 86) + (1 : Int32))) rfl)  o6778.1 o6778.2
        · replace h6762 : ¬ (((w.1 180 y214_3.toInt.toNat) + y214_4).toInt < 2) := h6762
          have o6779 : (0 ≤ (0 : Int32).toInt) ∧ ((0 : Int32).toInt ≤ 1) := by have := (by decide : ((0 : Int32)).toInt = 0); exact ⟨by omega, by omega⟩
          exact hQ _ _ hI (FR.refl _ w)  o6779.1 o6779.2
    · refine ⟨fun h6780 => ?_, fun h6780 => ?_⟩
      · replace h6780 : ((w.1 180 y214_3.toInt.toNat) + y214_4).toInt < 1000 := h6780
        refine ⟨fun h6781 => ?_, fun h6781 => ?_⟩
        · refine Eq.mpr (q_Mo_isNew_255.eq_1 _ _ _) ?_
          refine ⟨fun h => absurd h h6653, fun _ => ?_⟩
          have o6782 : 0 ≤ y214_3.toInt ∧ y214_3.toInt < 20 := by have := (by decide : ((0 : Int32)).toInt = 0); omega
          refine ⟨o6782, ?_⟩
          have o6783 : 0 ≤ y214_3.toInt ∧ y214_3.toInt < 20 := by have := (by decide : ((0 : Int32)).toInt = 0); omega
          refine ⟨o6783, ?_⟩
          have hI6784 : BND (sI w 180 y214_3.toInt.toNat ((w.1 180 y214_3.toInt.toNat) + (1 : Int32))) := wbd_180 hI y214_3.toInt.toNat
          have o6786 : 0 ≤ ((w.1 127 86) + (1 : Int32)).toInt ∧ ((w.1 127 86) + (1 : Int32)).toInt ≤ 24 := by have := bd_127_86 hI; have := ti_add2 (Eq.refl (w.1 127 86).toInt) (by decide : ((1 : Int32)).toInt = 1) (by omega) (by omega); omega
          have hI6785 : BND (sI (sI w 180 y214_3.toInt.toNat ((w.1 180 y214_3.toInt.toNat) + (1 : Int32))) 127 86 ((w.1 127 86) + (1 : Int32))) := wbd_127_86 hI6784 o6786.1 o6786.2
          have o6787 : (0 ≤ (1 : Int32).toInt) ∧ ((1 : Int32).toInt ≤ 1) := by have := (by decide : ((1 : Int32)).toInt = 1); exact ⟨by omega, by omega⟩
          exact hQ _ _ hI6785 (FR.I (FR.I (FR.refl _ w) (k := 180) (j := y214_3.toInt.toNat) (v := ((w.1 180 y214_3.toInt.toNat) + (1 : Int32))) rfl) (k := 127) (j := 86) (v := ((w.1 127 86) + (1 : Int32))) rfl)  o6787.1 o6787.2
        · have o6788 : 0 ≤ y214_2.toInt ∧ y214_2.toInt < 20 := by have := (by decide : ((0 : Int32)).toInt = 0); omega
          refine ⟨o6788, ?_⟩
          have o6789 : 0 ≤ y214_2.toInt ∧ y214_2.toInt < 20 := by have := (by decide : ((0 : Int32)).toInt = 0); omega
          refine ⟨o6789, ?_⟩
          refine Eq.mpr (q_Mo_isNew_255.eq_1 _ _ _) ?_
          refine ⟨fun h => absurd h h6653, fun _ => ?_⟩
          have o6790 : 0 ≤ y214_3.toInt ∧ y214_3.toInt < 20 := by have := (by decide : ((0 : Int32)).toInt = 0); omega
          refine ⟨o6790, ?_⟩
          have o6791 : 0 ≤ y214_3.toInt ∧ y214_3.toInt < 20 := by have := (by decide : ((0 : Int32)).toInt = 0); omega
          refine ⟨o6791, ?_⟩
          have hI6792 : BND (sI w 180 y214_2.toInt.toNat ((w.1 180 y214_2.toInt.toNat) + (1 : Int32))) := wbd_180 hI y214_2.toInt.toNat
          have hI6793 : BND (sI (sI w 180 y214_2.toInt.toNat ((w.1 180 y214_2.toInt.toNat) + (1 : Int32))) 180 y214_3.toInt.toNat (((sI w 180 y214_2.toInt.toNat ((w.1 180 y214_2.toInt.toNat) + (1 : Int32))).1 180 y214_3.toInt.toNat) + (1 : Int32))) := wbd_180 hI6792 y214_3.toInt.toNat
          have o6795 : 0 ≤ (((sI w 180 y214_2.toInt.toNat ((w.1 180 y214_2.toInt.toNat) + (1 : Int32))).1 127 86) + (1 : Int32)).toInt ∧ (((sI w 180 y214_2.toInt.toNat ((w.1 180 y214_2.toInt.toNat) + (1 : Int32))).1 127 86) + (1 : Int32)).toInt ≤ 24 := by have := bd_127_86 hI; have : ((sI w 180 y214_2.toInt.toNat ((w.1 180 y214_2.toInt.toNat) + (1 : Int32))).1 127 86).toInt = (w.1 127 86).toInt := rfl; have := ti_add2 (Eq.refl ((sI w 180 y214_2.toInt.toNat ((w.1 180 y214_2.toInt.toNat) + (1 : Int32))).1 127 86).toInt) (by decide : ((1 : Int32)).toInt = 1) (by omega) (by omega); omega
          have hI6794 : BND (sI (sI (sI w 180 y214_2.toInt.toNat ((w.1 180 y214_2.toInt.toNat) + (1 : Int32))) 180 y214_3.toInt.toNat (((sI w 180 y214_2.toInt.toNat ((w.1 180 y214_2.toInt.toNat) + (1 : Int32))).1 180 y214_3.toInt.toNat) + (1 : Int32))) 127 86 (((sI w 180 y214_2.toInt.toNat ((w.1 180 y214_2.toInt.toNat) + (1 : Int32))).1 127 86) + (1 : Int32))) := wbd_127_86 hI6793 o6795.1 o6795.2
          have o6796 : (0 ≤ (1 : Int32).toInt) ∧ ((1 : Int32).toInt ≤ 1) := by have := (by decide : ((1 : Int32)).toInt = 1); exact ⟨by omega, by omega⟩
          exact hQ _ _ hI6794 (FR.I (FR.I (FR.I (FR.refl _ w) (k := 180) (j := y214_2.toInt.toNat) (v := ((w.1 180 y214_2.toInt.toNat) + (1 : Int32))) rfl) (k := 180) (j := y214_3.toInt.toNat) (v := (((sI w 180 y214_2.toInt.toNat ((w.1 180 y214_2.toInt.toNat) + (1 : Int32))).1 180 y214_3.toInt.toNat) + (1 : Int32))) rfl) (k := 127) (j := 86) (v := (((sI w 180 y214_2.toInt.toNat ((w.1 180 y214_2.toInt.toNat) + (1 : Int32))).1 127 86) + (1 : Int32))) rfl)  o6796.1 o6796.2
      · replace h6780 : ¬ (((w.1 180 y214_3.toInt.toNat) + y214_4).toInt < 1000) := h6780
        have o6797 : (0 ≤ (0 : Int32).toInt) ∧ ((0 : Int32).toInt ≤ 1) := by have := (by decide : ((0 : Int32)).toInt = 0); exact ⟨by omega, by omega⟩
        exact hQ _ _ hI (FR.refl _ w)  o6797.1 o6797.2
set_option maxRecDepth 20000 in
set_option maxHeartbeats 2000000 in
theorem hq_Mo_isNew_187 {y187_2 : Int32} {y187_3 : Int32} {ys187_0 : Int32} {w : MW} {Q : Int32 → MW → Prop} (hI : BND w) (hp0 : (-2) ≤ y187_2.toInt) (hp1 : y187_2.toInt ≤ 19) (hp2 : (-2) ≤ y187_3.toInt) (hp3 : y187_3.toInt ≤ 19) (hp4 : 0 ≤ ys187_0.toInt) (hp5 : ys187_0.toInt ≤ 1) (hp6 : (w.1 127 86).toInt < 24) (hQ : ∀ (r : Int32) (w' : MW), BND w' → FR l_Mo_isNew_187 w w' → 0 ≤ r.toInt → r.toInt ≤ 1 → Q r w') : q_Mo_isNew_187 y187_2 y187_3 ys187_0 w Q := by
  refine Eq.mpr (q_Mo_isNew_187.eq_1 _ _ _ _ _) ?_
  refine ⟨fun h6798 => ?_, fun h6798 => ?_⟩
  · have o6799 : ((-2) ≤ y187_2.toInt) ∧ (y187_2.toInt ≤ 19) ∧ ((-2) ≤ y187_3.toInt) ∧ (y187_3.toInt ≤ 19) ∧ (0 ≤ ys187_0.toInt) ∧ (ys187_0.toInt ≤ 1) ∧ ((w.1 127 86).toInt < 24) := by have := bd_127_86 hI; have := (by decide : ((0 : Int32)).toInt = 0); exact ⟨by omega, by omega, by omega, by omega, by omega, by omega, by omega⟩
    exact hq_Mo_isNew_214 hI  o6799.1 o6799.2.1 o6799.2.2.1 o6799.2.2.2.1 o6799.2.2.2.2.1 o6799.2.2.2.2.2.1 o6799.2.2.2.2.2.2 (fun r w9 hI9 hF9 q0 q1 => hQ r w9 hI9 ((FR.refl _ w).tr hF9 rfl) (by have := (by decide : ((0 : Int32)).toInt = 0); omega) (by have := (by decide : ((0 : Int32)).toInt = 0); omega))
  · have o6800 : 0 ≤ y187_2.toInt ∧ y187_2.toInt < 20 := by have := (by decide : ((0 : Int32)).toInt = 0); omega
    refine ⟨o6800, ?_⟩
    have o6801 : 0 ≤ y187_2.toInt ∧ y187_2.toInt < 20 := by have := (by decide : ((0 : Int32)).toInt = 0); omega
    refine ⟨o6801, ?_⟩
    refine Eq.mpr (p_Mo_room.eq_1 _ _ _) ?_
    refine ⟨fun h6802 => ?_, fun h6802 => ?_⟩
    · refine ⟨fun h6803 => ?_, fun h6803 => ?_⟩
      · refine ⟨fun h6804 => ?_, fun h6804 => ?_⟩
        · refine ⟨fun h6805 => ?_, fun h6805 => ?_⟩
          · replace h6805 : 3 ≤ ((w.1 180 y187_2.toInt.toNat) + ys187_0).toInt := h6805
            have o6806 : (0 ≤ (0 : Int32).toInt) ∧ ((0 : Int32).toInt ≤ 1) := by have := (by decide : ((0 : Int32)).toInt = 0); exact ⟨by omega, by omega⟩
            exact hQ _ _ hI (FR.refl _ w)  o6806.1 o6806.2
          · replace h6805 : ¬ (3 ≤ ((w.1 180 y187_2.toInt.toNat) + ys187_0).toInt) := h6805
            have o6807 : ((-2) ≤ y187_2.toInt) ∧ (y187_2.toInt ≤ 19) ∧ ((-2) ≤ y187_3.toInt) ∧ (y187_3.toInt ≤ 19) ∧ (0 ≤ ys187_0.toInt) ∧ (ys187_0.toInt ≤ 1) ∧ ((w.1 127 86).toInt < 24) := by have := bd_127_86 hI; have := (by decide : ((0 : Int32)).toInt = 0); have := (by decide : ((3 : Int32)).toInt = 3); have := True.intro; exact ⟨by omega, by omega, by omega, by omega, by omega, by omega, by omega⟩
            exact hq_Mo_isNew_214 hI  o6807.1 o6807.2.1 o6807.2.2.1 o6807.2.2.2.1 o6807.2.2.2.2.1 o6807.2.2.2.2.2.1 o6807.2.2.2.2.2.2 (fun r w9 hI9 hF9 q0 q1 => hQ r w9 hI9 ((FR.refl _ w).tr hF9 rfl) (by have := (by decide : ((0 : Int32)).toInt = 0); have := (by decide : ((3 : Int32)).toInt = 3); have := True.intro; omega) (by have := (by decide : ((0 : Int32)).toInt = 0); have := (by decide : ((3 : Int32)).toInt = 3); have := True.intro; omega))
        · refine ⟨fun h6808 => ?_, fun h6808 => ?_⟩
          · refine ⟨fun h6809 => ?_, fun h6809 => ?_⟩
            · refine ⟨fun h6810 => ?_, fun h6810 => ?_⟩
              · refine ⟨fun h6811 => ?_, fun h6811 => ?_⟩
                · replace h6811 : 2 ≤ ((w.1 180 y187_2.toInt.toNat) + ys187_0).toInt := h6811
                  have o6812 : (0 ≤ (0 : Int32).toInt) ∧ ((0 : Int32).toInt ≤ 1) := by have := (by decide : ((0 : Int32)).toInt = 0); exact ⟨by omega, by omega⟩
                  exact hQ _ _ hI (FR.refl _ w)  o6812.1 o6812.2
                · replace h6811 : ¬ (2 ≤ ((w.1 180 y187_2.toInt.toNat) + ys187_0).toInt) := h6811
                  have o6813 : ((-2) ≤ y187_2.toInt) ∧ (y187_2.toInt ≤ 19) ∧ ((-2) ≤ y187_3.toInt) ∧ (y187_3.toInt ≤ 19) ∧ (0 ≤ ys187_0.toInt) ∧ (ys187_0.toInt ≤ 1) ∧ ((w.1 127 86).toInt < 24) := by have := bd_127_86 hI; have := (by decide : ((0 : Int32)).toInt = 0); have := (by decide : ((2 : Int32)).toInt = 2); have := True.intro; exact ⟨by omega, by omega, by omega, by omega, by omega, by omega, by omega⟩
                  exact hq_Mo_isNew_214 hI  o6813.1 o6813.2.1 o6813.2.2.1 o6813.2.2.2.1 o6813.2.2.2.2.1 o6813.2.2.2.2.2.1 o6813.2.2.2.2.2.2 (fun r w9 hI9 hF9 q0 q1 => hQ r w9 hI9 ((FR.refl _ w).tr hF9 rfl) (by have := (by decide : ((0 : Int32)).toInt = 0); have := (by decide : ((2 : Int32)).toInt = 2); have := True.intro; omega) (by have := (by decide : ((0 : Int32)).toInt = 0); have := (by decide : ((2 : Int32)).toInt = 2); have := True.intro; omega))
              · refine ⟨fun h6814 => ?_, fun h6814 => ?_⟩
                · replace h6814 : 1 ≤ ((w.1 180 y187_2.toInt.toNat) + ys187_0).toInt := h6814
                  have o6815 : (0 ≤ (0 : Int32).toInt) ∧ ((0 : Int32).toInt ≤ 1) := by have := (by decide : ((0 : Int32)).toInt = 0); exact ⟨by omega, by omega⟩
                  exact hQ _ _ hI (FR.refl _ w)  o6815.1 o6815.2
                · replace h6814 : ¬ (1 ≤ ((w.1 180 y187_2.toInt.toNat) + ys187_0).toInt) := h6814
                  have o6816 : ((-2) ≤ y187_2.toInt) ∧ (y187_2.toInt ≤ 19) ∧ ((-2) ≤ y187_3.toInt) ∧ (y187_3.toInt ≤ 19) ∧ (0 ≤ ys187_0.toInt) ∧ (ys187_0.toInt ≤ 1) ∧ ((w.1 127 86).toInt < 24) := by have := bd_127_86 hI; have := (by decide : ((0 : Int32)).toInt = 0); have := (by decide : ((1 : Int32)).toInt = 1); have := True.intro; exact ⟨by omega, by omega, by omega, by omega, by omega, by omega, by omega⟩
                  exact hq_Mo_isNew_214 hI  o6816.1 o6816.2.1 o6816.2.2.1 o6816.2.2.2.1 o6816.2.2.2.2.1 o6816.2.2.2.2.2.1 o6816.2.2.2.2.2.2 (fun r w9 hI9 hF9 q0 q1 => hQ r w9 hI9 ((FR.refl _ w).tr hF9 rfl) (by have := (by decide : ((0 : Int32)).toInt = 0); have := (by decide : ((1 : Int32)).toInt = 1); have := True.intro; omega) (by have := (by decide : ((0 : Int32)).toInt = 0); have := (by decide : ((1 : Int32)).toInt = 1); have := True.intro; omega))
            · refine ⟨fun h6817 => ?_, fun h6817 => ?_⟩
              · replace h6817 : 4 ≤ ((w.1 180 y187_2.toInt.toNat) + ys187_0).toInt := h6817
                have o6818 : (0 ≤ (0 : Int32).toInt) ∧ ((0 : Int32).toInt ≤ 1) := by have := (by decide : ((0 : Int32)).toInt = 0); exact ⟨by omega, by omega⟩
                exact hQ _ _ hI (FR.refl _ w)  o6818.1 o6818.2
              · replace h6817 : ¬ (4 ≤ ((w.1 180 y187_2.toInt.toNat) + ys187_0).toInt) := h6817
                have o6819 : ((-2) ≤ y187_2.toInt) ∧ (y187_2.toInt ≤ 19) ∧ ((-2) ≤ y187_3.toInt) ∧ (y187_3.toInt ≤ 19) ∧ (0 ≤ ys187_0.toInt) ∧ (ys187_0.toInt ≤ 1) ∧ ((w.1 127 86).toInt < 24) := by have := bd_127_86 hI; have := (by decide : ((0 : Int32)).toInt = 0); have := (by decide : ((4 : Int32)).toInt = 4); have := True.intro; exact ⟨by omega, by omega, by omega, by omega, by omega, by omega, by omega⟩
                exact hq_Mo_isNew_214 hI  o6819.1 o6819.2.1 o6819.2.2.1 o6819.2.2.2.1 o6819.2.2.2.2.1 o6819.2.2.2.2.2.1 o6819.2.2.2.2.2.2 (fun r w9 hI9 hF9 q0 q1 => hQ r w9 hI9 ((FR.refl _ w).tr hF9 rfl) (by have := (by decide : ((0 : Int32)).toInt = 0); have := (by decide : ((4 : Int32)).toInt = 4); have := True.intro; omega) (by have := (by decide : ((0 : Int32)).toInt = 0); have := (by decide : ((4 : Int32)).toInt = 4); have := True.intro; omega))
          · refine ⟨fun h6820 => ?_, fun h6820 => ?_⟩
            · replace h6820 : 3 ≤ ((w.1 180 y187_2.toInt.toNat) + ys187_0).toInt := h6820
              have o6821 : (0 ≤ (0 : Int32).toInt) ∧ ((0 : Int32).toInt ≤ 1) := by have := (by decide : ((0 : Int32)).toInt = 0); exact ⟨by omega, by omega⟩
              exact hQ _ _ hI (FR.refl _ w)  o6821.1 o6821.2
            · replace h6820 : ¬ (3 ≤ ((w.1 180 y187_2.toInt.toNat) + ys187_0).toInt) := h6820
              have o6822 : ((-2) ≤ y187_2.toInt) ∧ (y187_2.toInt ≤ 19) ∧ ((-2) ≤ y187_3.toInt) ∧ (y187_3.toInt ≤ 19) ∧ (0 ≤ ys187_0.toInt) ∧ (ys187_0.toInt ≤ 1) ∧ ((w.1 127 86).toInt < 24) := by have := bd_127_86 hI; have := (by decide : ((0 : Int32)).toInt = 0); have := (by decide : ((3 : Int32)).toInt = 3); have := True.intro; exact ⟨by omega, by omega, by omega, by omega, by omega, by omega, by omega⟩
              exact hq_Mo_isNew_214 hI  o6822.1 o6822.2.1 o6822.2.2.1 o6822.2.2.2.1 o6822.2.2.2.2.1 o6822.2.2.2.2.2.1 o6822.2.2.2.2.2.2 (fun r w9 hI9 hF9 q0 q1 => hQ r w9 hI9 ((FR.refl _ w).tr hF9 rfl) (by have := (by decide : ((0 : Int32)).toInt = 0); have := (by decide : ((3 : Int32)).toInt = 3); have := True.intro; omega) (by have := (by decide : ((0 : Int32)).toInt = 0); have := (by decide : ((3 : Int32)).toInt = 3); have := True.intro; omega))
      · refine ⟨fun h6823 => ?_, fun h6823 => ?_⟩
        · replace h6823 : 2 ≤ ((w.1 180 y187_2.toInt.toNat) + ys187_0).toInt := h6823
          have o6824 : (0 ≤ (0 : Int32).toInt) ∧ ((0 : Int32).toInt ≤ 1) := by have := (by decide : ((0 : Int32)).toInt = 0); exact ⟨by omega, by omega⟩
          exact hQ _ _ hI (FR.refl _ w)  o6824.1 o6824.2
        · replace h6823 : ¬ (2 ≤ ((w.1 180 y187_2.toInt.toNat) + ys187_0).toInt) := h6823
          have o6825 : ((-2) ≤ y187_2.toInt) ∧ (y187_2.toInt ≤ 19) ∧ ((-2) ≤ y187_3.toInt) ∧ (y187_3.toInt ≤ 19) ∧ (0 ≤ ys187_0.toInt) ∧ (ys187_0.toInt ≤ 1) ∧ ((w.1 127 86).toInt < 24) := by have := bd_127_86 hI; have := (by decide : ((0 : Int32)).toInt = 0); have := (by decide : ((2 : Int32)).toInt = 2); have := True.intro; exact ⟨by omega, by omega, by omega, by omega, by omega, by omega, by omega⟩
          exact hq_Mo_isNew_214 hI  o6825.1 o6825.2.1 o6825.2.2.1 o6825.2.2.2.1 o6825.2.2.2.2.1 o6825.2.2.2.2.2.1 o6825.2.2.2.2.2.2 (fun r w9 hI9 hF9 q0 q1 => hQ r w9 hI9 ((FR.refl _ w).tr hF9 rfl) (by have := (by decide : ((0 : Int32)).toInt = 0); have := (by decide : ((2 : Int32)).toInt = 2); have := True.intro; omega) (by have := (by decide : ((0 : Int32)).toInt = 0); have := (by decide : ((2 : Int32)).toInt = 2); have := True.intro; omega))
    · refine ⟨fun h6826 => ?_, fun h6826 => ?_⟩
      · replace h6826 : 1000 ≤ ((w.1 180 y187_2.toInt.toNat) + ys187_0).toInt := h6826
        have o6827 : (0 ≤ (0 : Int32).toInt) ∧ ((0 : Int32).toInt ≤ 1) := by have := (by decide : ((0 : Int32)).toInt = 0); exact ⟨by omega, by omega⟩
        exact hQ _ _ hI (FR.refl _ w)  o6827.1 o6827.2
      · replace h6826 : ¬ (1000 ≤ ((w.1 180 y187_2.toInt.toNat) + ys187_0).toInt) := h6826
        have o6828 : ((-2) ≤ y187_2.toInt) ∧ (y187_2.toInt ≤ 19) ∧ ((-2) ≤ y187_3.toInt) ∧ (y187_3.toInt ≤ 19) ∧ (0 ≤ ys187_0.toInt) ∧ (ys187_0.toInt ≤ 1) ∧ ((w.1 127 86).toInt < 24) := by have := bd_127_86 hI; have := (by decide : ((0 : Int32)).toInt = 0); have := (by decide : ((1000 : Int32)).toInt = 1000); have := True.intro; exact ⟨by omega, by omega, by omega, by omega, by omega, by omega, by omega⟩
        exact hq_Mo_isNew_214 hI  o6828.1 o6828.2.1 o6828.2.2.1 o6828.2.2.2.1 o6828.2.2.2.2.1 o6828.2.2.2.2.2.1 o6828.2.2.2.2.2.2 (fun r w9 hI9 hF9 q0 q1 => hQ r w9 hI9 ((FR.refl _ w).tr hF9 rfl) (by have := (by decide : ((0 : Int32)).toInt = 0); have := (by decide : ((1000 : Int32)).toInt = 1000); have := True.intro; omega) (by have := (by decide : ((0 : Int32)).toInt = 0); have := (by decide : ((1000 : Int32)).toInt = 1000); have := True.intro; omega))
set_option maxRecDepth 20000 in
set_option maxHeartbeats 2000000 in
theorem hq_Mo_isNew_61 {y61_1 : Int32} {ys61_0 : Int32} {w : MW} {Q : Int32 → MW → Prop} (hI : BND w) (hp0 : 0 ≤ y61_1.toInt) (hp1 : y61_1.toInt ≤ 2) (hp2 : 0 ≤ ys61_0.toInt) (hp3 : ys61_0.toInt ≤ 1) (hp4 : ys61_0.toInt = 0 ∨ (w.1 127 85).toInt < 20) (hp5 : ys61_0.toInt = 0 ∨ ¬ y61_1.toInt = 2 ∨ (0 ≤ (w.1 178 0).toInt ∧ (w.1 178 0).toInt ≤ 7)) (hp6 : ¬ y61_1.toInt = 3) (hQ : ∀ (r : Int32) (w' : MW), BND w' → FR l_Mo_isNew_61 w w' → 0 ≤ r.toInt → r.toInt ≤ 1 → Q r w') : q_Mo_isNew_61 y61_1 ys61_0 w Q := by
  refine Eq.mpr (q_Mo_isNew_61.eq_1 _ _ _ _) ?_
  refine ⟨fun h6829 => ?_, fun h6829 => ?_⟩
  · have o6830 : ys61_0.toInt = 0 ∨ ys61_0.toInt = 1 := by have := bd_127_85 hI; have := bd_178 hI 0; have := (by decide : ((0 : Int32)).toInt = 0); omega
    refine ⟨o6830, ?_⟩
    have o6831 : (0 ≤ ys61_0.toInt) ∧ (ys61_0.toInt ≤ 1) := by have := bd_127_85 hI; have := bd_178 hI 0; have := (by decide : ((0 : Int32)).toInt = 0); exact ⟨by omega, by omega⟩
    exact hQ _ _ hI (FR.refl _ w)  o6831.1 o6831.2
  · refine ⟨fun h6832 => ?_, fun h6832 => ?_⟩
    · refine Eq.mpr (q_Mo_isNew_91.eq_1 _ _ _ _ _) ?_
      have o6833 : 0 ≤ (w.1 127 85).toInt ∧ (w.1 127 85).toInt < 20 := by have := bd_127_85 hI; have := bd_178 hI 0; have := (by decide : ((0 : Int32)).toInt = 0); have := (by decide : ((2 : Int32)).toInt = 2); omega
      refine ⟨o6833, ?_⟩
      have o6834 : 0 ≤ (w.1 127 85).toInt ∧ (w.1 127 85).toInt < 20 := by have := bd_127_85 hI; have := bd_178 hI 0; have := (by decide : ((0 : Int32)).toInt = 0); have := (by decide : ((2 : Int32)).toInt = 2); omega
      refine ⟨o6834, ?_⟩
      have o6835 : ys61_0.toInt = 0 ∨ ys61_0.toInt = 1 := by have := bd_127_85 hI; have := bd_178 hI 0; have := (by decide : ((0 : Int32)).toInt = 0); have := (by decide : ((2 : Int32)).toInt = 2); omega
      refine ⟨o6835, ?_⟩
      have o6837 : 0 ≤ y61_1.toInt ∧ y61_1.toInt ≤ 9 := by have := bd_178 hI 0; have := (by decide : ((0 : Int32)).toInt = 0); have := (by decide : ((2 : Int32)).toInt = 2); have := bd_127_85 hI; omega
      have hI6836 : BND (sI w 179 ((w.1 127 85).toInt.toNat) y61_1) := wbd_179 hI ((w.1 127 85).toInt.toNat) o6837.1 o6837.2
      have hI6838 : BND (sI (sI w 179 ((w.1 127 85).toInt.toNat) y61_1) 180 ((w.1 127 85).toInt.toNat) 0) := wbd_180 hI6836 ((w.1 127 85).toInt.toNat)
      have o6840 : 0 ≤ ((w.1 127 85) + (1 : Int32)).toInt ∧ ((w.1 127 85) + (1 : Int32)).toInt ≤ 20 := by have := bd_127_85 hI; have := bd_178 hI 0; have := (by decide : ((0 : Int32)).toInt = 0); have := (by decide : ((2 : Int32)).toInt = 2); have := ti_add2 (Eq.refl (w.1 127 85).toInt) (by decide : ((1 : Int32)).toInt = 1) (by omega) (by omega); omega
      have hI6839 : BND (sI (sI (sI w 179 ((w.1 127 85).toInt.toNat) y61_1) 180 ((w.1 127 85).toInt.toNat) 0) 127 85 ((w.1 127 85) + (1 : Int32))) := wbd_127_85 hI6838 o6840.1 o6840.2
      have o6841 : (0 ≤ ys61_0.toInt) ∧ (ys61_0.toInt ≤ 1) := by have := bd_127_85 hI; have := bd_178 hI 0; have := (by decide : ((0 : Int32)).toInt = 0); have := (by decide : ((2 : Int32)).toInt = 2); exact ⟨by omega, by omega⟩
      exact hQ _ _ hI6839 (FR.I (FR.I (FR.I (FR.refl _ w) (k := 179) (j := (w.1 127 85).toInt.toNat) (v := y61_1) rfl) (k := 180) (j := (w.1 127 85).toInt.toNat) (v := 0) rfl) (k := 127) (j := 85) (v := ((w.1 127 85) + (1 : Int32))) rfl)  o6841.1 o6841.2
    · refine Eq.mpr (q_Mo_isNew_91.eq_1 _ _ _ _ _) ?_
      have o6842 : 0 ≤ (w.1 127 85).toInt ∧ (w.1 127 85).toInt < 20 := by have := bd_127_85 hI; have := bd_178 hI 0; have := (by decide : ((0 : Int32)).toInt = 0); have := (by decide : ((2 : Int32)).toInt = 2); omega
      refine ⟨o6842, ?_⟩
      have o6843 : 0 ≤ (w.1 127 85).toInt ∧ (w.1 127 85).toInt < 20 := by have := bd_127_85 hI; have := bd_178 hI 0; have := (by decide : ((0 : Int32)).toInt = 0); have := (by decide : ((2 : Int32)).toInt = 2); omega
      refine ⟨o6843, ?_⟩
      have o6844 : ys61_0.toInt = 0 ∨ ys61_0.toInt = 1 := by have := bd_127_85 hI; have := bd_178 hI 0; have := (by decide : ((0 : Int32)).toInt = 0); have := (by decide : ((2 : Int32)).toInt = 2); omega
      refine ⟨o6844, ?_⟩
      have o6846 : 0 ≤ ((2 : Int32) + (w.1 178 0)).toInt ∧ ((2 : Int32) + (w.1 178 0)).toInt ≤ 9 := by have := bd_178 hI 0; have := (by decide : ((0 : Int32)).toInt = 0); have := (by decide : ((2 : Int32)).toInt = 2); have := bd_127_85 hI; have := ti_add2 (by decide : ((2 : Int32)).toInt = 2) (Eq.refl (w.1 178 0).toInt) (by omega) (by omega); omega
      have hI6845 : BND (sI w 179 ((w.1 127 85).toInt.toNat) ((2 : Int32) + (w.1 178 0))) := wbd_179 hI ((w.1 127 85).toInt.toNat) o6846.1 o6846.2
      have hI6847 : BND (sI (sI w 179 ((w.1 127 85).toInt.toNat) ((2 : Int32) + (w.1 178 0))) 180 ((w.1 127 85).toInt.toNat) 0) := wbd_180 hI6845 ((w.1 127 85).toInt.toNat)
      have o6849 : 0 ≤ ((w.1 127 85) + (1 : Int32)).toInt ∧ ((w.1 127 85) + (1 : Int32)).toInt ≤ 20 := by have := bd_127_85 hI; have := bd_178 hI 0; have := (by decide : ((0 : Int32)).toInt = 0); have := (by decide : ((2 : Int32)).toInt = 2); have := ti_add2 (Eq.refl (w.1 127 85).toInt) (by decide : ((1 : Int32)).toInt = 1) (by omega) (by omega); omega
      have hI6848 : BND (sI (sI (sI w 179 ((w.1 127 85).toInt.toNat) ((2 : Int32) + (w.1 178 0))) 180 ((w.1 127 85).toInt.toNat) 0) 127 85 ((w.1 127 85) + (1 : Int32))) := wbd_127_85 hI6847 o6849.1 o6849.2
      have o6850 : (0 ≤ ys61_0.toInt) ∧ (ys61_0.toInt ≤ 1) := by have := bd_127_85 hI; have := bd_178 hI 0; have := (by decide : ((0 : Int32)).toInt = 0); have := (by decide : ((2 : Int32)).toInt = 2); exact ⟨by omega, by omega⟩
      exact hQ _ _ hI6848 (FR.I (FR.I (FR.I (FR.refl _ w) (k := 179) (j := (w.1 127 85).toInt.toNat) (v := ((2 : Int32) + (w.1 178 0))) rfl) (k := 180) (j := (w.1 127 85).toInt.toNat) (v := 0) rfl) (k := 127) (j := 85) (v := ((w.1 127 85) + (1 : Int32))) rfl)  o6850.1 o6850.2
set_option maxRecDepth 20000 in
set_option maxHeartbeats 2000000 in
theorem hq_Mo_isNew_40 {y40_1 : Int32} {w : MW} {Q : Int32 → MW → Prop} (hI : BND w) (hp0 : 0 ≤ y40_1.toInt) (hp1 : y40_1.toInt ≤ 2) (hp2 : (w.1 127 85).toInt < 20) (hp3 : y40_1.toInt = 1 ∨ 0 ≤ (w.1 178 0).toInt) (hp4 : ¬ y40_1.toInt = 3) (hQ : ∀ (r : Int32) (w' : MW), BND w' → FR l_Mo_isNew_40 w w' → 0 ≤ r.toInt → r.toInt ≤ 1 → Q r w') : q_Mo_isNew_40 y40_1 w Q := by
  refine Eq.mpr (q_Mo_isNew_40.eq_1 _ _ _) ?_
  refine ⟨fun h6851 => ?_, fun h6851 => ?_⟩
  · have o6852 : (0 ≤ y40_1.toInt) ∧ (y40_1.toInt ≤ 2) ∧ (0 ≤ (1 : Int32).toInt) ∧ ((1 : Int32).toInt ≤ 1) ∧ ((1 : Int32).toInt = 0 ∨ (w.1 127 85).toInt < 20) ∧ ((1 : Int32).toInt = 0 ∨ ¬ y40_1.toInt = 2 ∨ (0 ≤ (w.1 178 0).toInt ∧ (w.1 178 0).toInt ≤ 7)) ∧ (¬ y40_1.toInt = 3) := by have := (by decide : ((1 : Int32)).toInt = 1); have := bd_127_85 hI; have := bd_178 hI 0; have := (by decide : ((2 : Int32)).toInt = 2); exact ⟨by omega, by omega, by omega, by omega, by omega, by omega, by omega⟩
    exact hq_Mo_isNew_61 hI  o6852.1 o6852.2.1 o6852.2.2.1 o6852.2.2.2.1 o6852.2.2.2.2.1 o6852.2.2.2.2.2.1 o6852.2.2.2.2.2.2 (fun r w9 hI9 hF9 q0 q1 => hQ r w9 hI9 ((FR.refl _ w).tr hF9 rfl) (by have := (by decide : ((1 : Int32)).toInt = 1); have := bd_178 hI 0; have := (by decide : ((2 : Int32)).toInt = 2); omega) (by have := (by decide : ((1 : Int32)).toInt = 1); have := bd_178 hI 0; have := (by decide : ((2 : Int32)).toInt = 2); omega))
  · refine ⟨fun h6853 => ?_, fun h6853 => ?_⟩
    · have o6854 : (0 ≤ y40_1.toInt) ∧ (y40_1.toInt ≤ 2) ∧ (0 ≤ (0 : Int32).toInt) ∧ ((0 : Int32).toInt ≤ 1) ∧ ((0 : Int32).toInt = 0 ∨ (w.1 127 85).toInt < 20) ∧ ((0 : Int32).toInt = 0 ∨ ¬ y40_1.toInt = 2 ∨ (0 ≤ (w.1 178 0).toInt ∧ (w.1 178 0).toInt ≤ 7)) ∧ (¬ y40_1.toInt = 3) := by have := (by decide : ((0 : Int32)).toInt = 0); have := bd_127_85 hI; have := bd_178 hI 0; have := (by decide : ((2 : Int32)).toInt = 2); have := (by decide : ((7 : Int32)).toInt = 7); exact ⟨by omega, by omega, by omega, by omega, by omega, by omega, by omega⟩
      exact hq_Mo_isNew_61 hI  o6854.1 o6854.2.1 o6854.2.2.1 o6854.2.2.2.1 o6854.2.2.2.2.1 o6854.2.2.2.2.2.1 o6854.2.2.2.2.2.2 (fun r w9 hI9 hF9 q0 q1 => hQ r w9 hI9 ((FR.refl _ w).tr hF9 rfl) (by have := (by decide : ((0 : Int32)).toInt = 0); have := bd_178 hI 0; have := (by decide : ((2 : Int32)).toInt = 2); have := (by decide : ((7 : Int32)).toInt = 7); omega) (by have := (by decide : ((0 : Int32)).toInt = 0); have := bd_178 hI 0; have := (by decide : ((2 : Int32)).toInt = 2); have := (by decide : ((7 : Int32)).toInt = 7); omega))
    · have o6855 : (0 ≤ y40_1.toInt) ∧ (y40_1.toInt ≤ 2) ∧ (0 ≤ (1 : Int32).toInt) ∧ ((1 : Int32).toInt ≤ 1) ∧ ((1 : Int32).toInt = 0 ∨ (w.1 127 85).toInt < 20) ∧ ((1 : Int32).toInt = 0 ∨ ¬ y40_1.toInt = 2 ∨ (0 ≤ (w.1 178 0).toInt ∧ (w.1 178 0).toInt ≤ 7)) ∧ (¬ y40_1.toInt = 3) := by have := (by decide : ((1 : Int32)).toInt = 1); have := bd_127_85 hI; have := bd_178 hI 0; have := (by decide : ((2 : Int32)).toInt = 2); have := (by decide : ((7 : Int32)).toInt = 7); exact ⟨by omega, by omega, by omega, by omega, by omega, by omega, by omega⟩
      exact hq_Mo_isNew_61 hI  o6855.1 o6855.2.1 o6855.2.2.1 o6855.2.2.2.1 o6855.2.2.2.2.1 o6855.2.2.2.2.2.1 o6855.2.2.2.2.2.2 (fun r w9 hI9 hF9 q0 q1 => hQ r w9 hI9 ((FR.refl _ w).tr hF9 rfl) (by have := (by decide : ((1 : Int32)).toInt = 1); have := bd_178 hI 0; have := (by decide : ((2 : Int32)).toInt = 2); have := (by decide : ((7 : Int32)).toInt = 7); omega) (by have := (by decide : ((1 : Int32)).toInt = 1); have := bd_178 hI 0; have := (by decide : ((2 : Int32)).toInt = 2); have := (by decide : ((7 : Int32)).toInt = 7); omega))
set_option maxRecDepth 20000 in
set_option maxHeartbeats 2000000 in
theorem h_Mo_isNew {w : MW} {a0 : Int32} {Q : Int32 → MW → Prop} (hI : BND w) (hp0 : 0 ≤ a0.toInt) (hp1 : a0.toInt ≤ 3) (hp2 : a0.toInt = 1 ∨ a0.toInt = 3 ∨ 0 ≤ (w.1 178 0).toInt) (hp3 : ¬ a0.toInt = 3 ∨ (-1 ≤ (w.1 178 0).toInt ∧ -1 ≤ (w.1 178 1).toInt ∧ 0 ≤ (w.1 178 2).toInt)) (hQ : ∀ (r : Int32) (w' : MW), BND w' → FR l_Mo_isNew w w' → 0 ≤ r.toInt → r.toInt ≤ 1 → Q r w') : p_Mo_isNew w a0 Q := by
  refine Eq.mpr (p_Mo_isNew.eq_1 _ _ _) ?_
  refine ⟨fun h6856 => ?_, fun h6856 => ?_⟩
  · refine ⟨fun h6857 => ?_, fun h6857 => ?_⟩
    · have o6858 : (0 ≤ (0 : Int32).toInt) ∧ ((0 : Int32).toInt ≤ 1) := by have := (by decide : ((0 : Int32)).toInt = 0); exact ⟨by omega, by omega⟩
      exact hQ _ _ hI (FR.refl _ w)  o6858.1 o6858.2
    · refine ⟨fun h6859 => ?_, fun h6859 => ?_⟩
      · have o6860 : (0 ≤ (0 : Int32).toInt) ∧ ((0 : Int32).toInt ≤ 1) := by have := (by decide : ((0 : Int32)).toInt = 0); exact ⟨by omega, by omega⟩
        exact hQ _ _ hI (FR.refl _ w)  o6860.1 o6860.2
      · refine ⟨fun h6861 => ?_, fun h6861 => ?_⟩
        · have o6862 : (0 ≤ (0 : Int32).toInt) ∧ ((0 : Int32).toInt ≤ 1) := by have := (by decide : ((0 : Int32)).toInt = 0); exact ⟨by omega, by omega⟩
          exact hQ _ _ hI (FR.refl _ w)  o6862.1 o6862.2
        · refine ⟨fun h6863 => ?_, fun h6863 => ?_⟩
          · have o6864 : (0 ≤ (0 : Int32).toInt) ∧ ((0 : Int32).toInt ≤ 1) := by have := (by decide : ((0 : Int32)).toInt = 0); exact ⟨by omega, by omega⟩
            exact hQ _ _ hI (FR.refl _ w)  o6864.1 o6864.2
          · refine ⟨fun h6865 => ?_, fun h6865 => ?_⟩
            · refine ⟨fun h6866 => ?_, fun h6866 => ?_⟩
              · have o6867 : ((-2) ≤ (w.1 178 0).toInt) ∧ ((w.1 178 0).toInt ≤ 19) ∧ ((-2) ≤ (w.1 178 1).toInt) ∧ ((w.1 178 1).toInt ≤ 19) ∧ (0 ≤ (0 : Int32).toInt) ∧ ((0 : Int32).toInt ≤ 1) ∧ ((w.1 127 86).toInt < 24) := by have := bd_178 hI 0; have := bd_178 hI 1; have := (by decide : ((0 : Int32)).toInt = 0); have := bd_127_86 hI; have := bd_178 hI 2; have := (by decide : ((3 : Int32)).toInt = 3); have := (by decide : ((24 : Int32)).toInt = 24); have := (by decide : ((1 : Int32)).toInt = 1); have := (by decide : ((200 : Int32)).toInt = 200); have := bd_127_85 hI; exact ⟨by omega, by omega, by omega, by omega, by omega, by omega, by omega⟩
                exact hq_Mo_isNew_187 hI  o6867.1 o6867.2.1 o6867.2.2.1 o6867.2.2.2.1 o6867.2.2.2.2.1 o6867.2.2.2.2.2.1 o6867.2.2.2.2.2.2 (fun r w9 hI9 hF9 q0 q1 => hQ r w9 hI9 ((FR.refl _ w).tr hF9 rfl) (by have := bd_178 hI 0; have := bd_178 hI 1; have := (by decide : ((0 : Int32)).toInt = 0); have := bd_178 hI 2; have := (by decide : ((3 : Int32)).toInt = 3); have := (by decide : ((1 : Int32)).toInt = 1); have := (by decide : ((200 : Int32)).toInt = 200); have := bd_127_85 hI; omega) (by have := bd_178 hI 0; have := bd_178 hI 1; have := (by decide : ((0 : Int32)).toInt = 0); have := bd_178 hI 2; have := (by decide : ((3 : Int32)).toInt = 3); have := (by decide : ((1 : Int32)).toInt = 1); have := (by decide : ((200 : Int32)).toInt = 200); have := bd_127_85 hI; omega))
              · have o6868 : ((-2) ≤ (w.1 178 0).toInt) ∧ ((w.1 178 0).toInt ≤ 19) ∧ ((-2) ≤ (w.1 178 1).toInt) ∧ ((w.1 178 1).toInt ≤ 19) ∧ (0 ≤ (1 : Int32).toInt) ∧ ((1 : Int32).toInt ≤ 1) ∧ ((w.1 127 86).toInt < 24) := by have := bd_178 hI 0; have := bd_178 hI 1; have := (by decide : ((1 : Int32)).toInt = 1); have := bd_127_86 hI; have := bd_178 hI 2; have := (by decide : ((3 : Int32)).toInt = 3); have := (by decide : ((24 : Int32)).toInt = 24); have := (by decide : ((200 : Int32)).toInt = 200); have := bd_127_85 hI; exact ⟨by omega, by omega, by omega, by omega, by omega, by omega, by omega⟩
                exact hq_Mo_isNew_187 hI  o6868.1 o6868.2.1 o6868.2.2.1 o6868.2.2.2.1 o6868.2.2.2.2.1 o6868.2.2.2.2.2.1 o6868.2.2.2.2.2.2 (fun r w9 hI9 hF9 q0 q1 => hQ r w9 hI9 ((FR.refl _ w).tr hF9 rfl) (by have := bd_178 hI 0; have := bd_178 hI 1; have := (by decide : ((1 : Int32)).toInt = 1); have := bd_178 hI 2; have := (by decide : ((3 : Int32)).toInt = 3); have := (by decide : ((200 : Int32)).toInt = 200); have := bd_127_85 hI; omega) (by have := bd_178 hI 0; have := bd_178 hI 1; have := (by decide : ((1 : Int32)).toInt = 1); have := bd_178 hI 2; have := (by decide : ((3 : Int32)).toInt = 3); have := (by decide : ((200 : Int32)).toInt = 200); have := bd_127_85 hI; omega))
            · have o6869 : (0 ≤ (0 : Int32).toInt) ∧ ((0 : Int32).toInt ≤ 1) := by have := (by decide : ((0 : Int32)).toInt = 0); exact ⟨by omega, by omega⟩
              exact hQ _ _ hI (FR.refl _ w)  o6869.1 o6869.2
  · refine ⟨fun h6870 => ?_, fun h6870 => ?_⟩
    · have o6871 : (0 ≤ a0.toInt) ∧ (a0.toInt ≤ 2) ∧ (0 ≤ (0 : Int32).toInt) ∧ ((0 : Int32).toInt ≤ 1) ∧ ((0 : Int32).toInt = 0 ∨ (w.1 127 85).toInt < 20) ∧ ((0 : Int32).toInt = 0 ∨ ¬ a0.toInt = 2 ∨ (0 ≤ (w.1 178 0).toInt ∧ (w.1 178 0).toInt ≤ 7)) ∧ (¬ a0.toInt = 3) := by have := (by decide : ((0 : Int32)).toInt = 0); have := bd_127_85 hI; have := bd_178 hI 0; have := bd_178 hI 1; have := bd_178 hI 2; have := (by decide : ((3 : Int32)).toInt = 3); have := (by decide : ((20 : Int32)).toInt = 20); exact ⟨by omega, by omega, by omega, by omega, by omega, by omega, by omega⟩
      exact hq_Mo_isNew_61 hI  o6871.1 o6871.2.1 o6871.2.2.1 o6871.2.2.2.1 o6871.2.2.2.2.1 o6871.2.2.2.2.2.1 o6871.2.2.2.2.2.2 (fun r w9 hI9 hF9 q0 q1 => hQ r w9 hI9 ((FR.refl _ w).tr hF9 rfl) (by have := (by decide : ((0 : Int32)).toInt = 0); have := bd_178 hI 0; have := bd_178 hI 1; have := bd_178 hI 2; have := (by decide : ((3 : Int32)).toInt = 3); omega) (by have := (by decide : ((0 : Int32)).toInt = 0); have := bd_178 hI 0; have := bd_178 hI 1; have := bd_178 hI 2; have := (by decide : ((3 : Int32)).toInt = 3); omega))
    · refine ⟨fun h6872 => ?_, fun h6872 => ?_⟩
      · have o6873 : (0 ≤ a0.toInt) ∧ (a0.toInt ≤ 2) ∧ ((w.1 127 85).toInt < 20) ∧ (a0.toInt = 1 ∨ 0 ≤ (w.1 178 0).toInt) ∧ (¬ a0.toInt = 3) := by have := bd_127_85 hI; have := bd_178 hI 0; have := bd_178 hI 1; have := bd_178 hI 2; have := (by decide : ((3 : Int32)).toInt = 3); have := (by decide : ((20 : Int32)).toInt = 20); have := (by decide : ((0 : Int32)).toInt = 0); exact ⟨by omega, by omega, by omega, by omega, by omega⟩
        exact hq_Mo_isNew_40 hI  o6873.1 o6873.2.1 o6873.2.2.1 o6873.2.2.2.1 o6873.2.2.2.2 (fun r w9 hI9 hF9 q0 q1 => hQ r w9 hI9 ((FR.refl _ w).tr hF9 rfl) (by have := bd_178 hI 0; have := bd_178 hI 1; have := bd_178 hI 2; have := (by decide : ((3 : Int32)).toInt = 3); have := (by decide : ((0 : Int32)).toInt = 0); omega) (by have := bd_178 hI 0; have := bd_178 hI 1; have := bd_178 hI 2; have := (by decide : ((3 : Int32)).toInt = 3); have := (by decide : ((0 : Int32)).toInt = 0); omega))
      · refine ⟨fun h6874 => ?_, fun h6874 => ?_⟩
        · have o6875 : (0 ≤ a0.toInt) ∧ (a0.toInt ≤ 2) ∧ (0 ≤ (0 : Int32).toInt) ∧ ((0 : Int32).toInt ≤ 1) ∧ ((0 : Int32).toInt = 0 ∨ (w.1 127 85).toInt < 20) ∧ ((0 : Int32).toInt = 0 ∨ ¬ a0.toInt = 2 ∨ (0 ≤ (w.1 178 0).toInt ∧ (w.1 178 0).toInt ≤ 7)) ∧ (¬ a0.toInt = 3) := by have := (by decide : ((0 : Int32)).toInt = 0); have := bd_127_85 hI; have := bd_178 hI 0; have := bd_178 hI 1; have := bd_178 hI 2; have := (by decide : ((3 : Int32)).toInt = 3); have := (by decide : ((20 : Int32)).toInt = 20); have := (by decide : ((1 : Int32)).toInt = 1); exact ⟨by omega, by omega, by omega, by omega, by omega, by omega, by omega⟩
          exact hq_Mo_isNew_61 hI  o6875.1 o6875.2.1 o6875.2.2.1 o6875.2.2.2.1 o6875.2.2.2.2.1 o6875.2.2.2.2.2.1 o6875.2.2.2.2.2.2 (fun r w9 hI9 hF9 q0 q1 => hQ r w9 hI9 ((FR.refl _ w).tr hF9 rfl) (by have := (by decide : ((0 : Int32)).toInt = 0); have := bd_178 hI 0; have := bd_178 hI 1; have := bd_178 hI 2; have := (by decide : ((3 : Int32)).toInt = 3); have := (by decide : ((1 : Int32)).toInt = 1); omega) (by have := (by decide : ((0 : Int32)).toInt = 0); have := bd_178 hI 0; have := bd_178 hI 1; have := bd_178 hI 2; have := (by decide : ((3 : Int32)).toInt = 3); have := (by decide : ((1 : Int32)).toInt = 1); omega))
        · refine ⟨fun h6876 => ?_, fun h6876 => ?_⟩
          · have o6877 : (0 ≤ a0.toInt) ∧ (a0.toInt ≤ 2) ∧ (0 ≤ (0 : Int32).toInt) ∧ ((0 : Int32).toInt ≤ 1) ∧ ((0 : Int32).toInt = 0 ∨ (w.1 127 85).toInt < 20) ∧ ((0 : Int32).toInt = 0 ∨ ¬ a0.toInt = 2 ∨ (0 ≤ (w.1 178 0).toInt ∧ (w.1 178 0).toInt ≤ 7)) ∧ (¬ a0.toInt = 3) := by have := (by decide : ((0 : Int32)).toInt = 0); have := bd_127_85 hI; have := bd_178 hI 0; have := bd_178 hI 1; have := bd_178 hI 2; have := (by decide : ((3 : Int32)).toInt = 3); have := (by decide : ((20 : Int32)).toInt = 20); have := (by decide : ((1 : Int32)).toInt = 1); have := (by decide : ((100000 : Int32)).toInt = 100000); exact ⟨by omega, by omega, by omega, by omega, by omega, by omega, by omega⟩
            exact hq_Mo_isNew_61 hI  o6877.1 o6877.2.1 o6877.2.2.1 o6877.2.2.2.1 o6877.2.2.2.2.1 o6877.2.2.2.2.2.1 o6877.2.2.2.2.2.2 (fun r w9 hI9 hF9 q0 q1 => hQ r w9 hI9 ((FR.refl _ w).tr hF9 rfl) (by have := (by decide : ((0 : Int32)).toInt = 0); have := bd_178 hI 0; have := bd_178 hI 1; have := bd_178 hI 2; have := (by decide : ((3 : Int32)).toInt = 3); have := (by decide : ((1 : Int32)).toInt = 1); have := (by decide : ((100000 : Int32)).toInt = 100000); omega) (by have := (by decide : ((0 : Int32)).toInt = 0); have := bd_178 hI 0; have := bd_178 hI 1; have := bd_178 hI 2; have := (by decide : ((3 : Int32)).toInt = 3); have := (by decide : ((1 : Int32)).toInt = 1); have := (by decide : ((100000 : Int32)).toInt = 100000); omega))
          · have o6878 : (0 ≤ a0.toInt) ∧ (a0.toInt ≤ 2) ∧ ((w.1 127 85).toInt < 20) ∧ (a0.toInt = 1 ∨ 0 ≤ (w.1 178 0).toInt) ∧ (¬ a0.toInt = 3) := by have := bd_127_85 hI; have := bd_178 hI 0; have := bd_178 hI 1; have := bd_178 hI 2; have := (by decide : ((3 : Int32)).toInt = 3); have := (by decide : ((20 : Int32)).toInt = 20); have := (by decide : ((0 : Int32)).toInt = 0); have := (by decide : ((1 : Int32)).toInt = 1); have := (by decide : ((100000 : Int32)).toInt = 100000); exact ⟨by omega, by omega, by omega, by omega, by omega⟩
            exact hq_Mo_isNew_40 hI  o6878.1 o6878.2.1 o6878.2.2.1 o6878.2.2.2.1 o6878.2.2.2.2 (fun r w9 hI9 hF9 q0 q1 => hQ r w9 hI9 ((FR.refl _ w).tr hF9 rfl) (by have := bd_178 hI 0; have := bd_178 hI 1; have := bd_178 hI 2; have := (by decide : ((3 : Int32)).toInt = 3); have := (by decide : ((0 : Int32)).toInt = 0); have := (by decide : ((1 : Int32)).toInt = 1); have := (by decide : ((100000 : Int32)).toInt = 100000); omega) (by have := bd_178 hI 0; have := bd_178 hI 1; have := bd_178 hI 2; have := (by decide : ((3 : Int32)).toInt = 3); have := (by decide : ((0 : Int32)).toInt = 0); have := (by decide : ((1 : Int32)).toInt = 1); have := (by decide : ((100000 : Int32)).toInt = 100000); omega))
