def l_Mo_liquidIn_49 : Pl := []
def l_Mo_liquidIn : Pl := []
set_option maxRecDepth 20000 in
set_option maxHeartbeats 2000000 in
theorem hq_Mo_liquidIn_49 {x49_2 : Int32} {E : Int32 → MW → Prop} {Q : Int32 → MW → Prop} (n : Nat) : ∀ (x49_3 : Int32) (x49_4 : Int32) (w : MW), BND w → 0 ≤ x49_2.toInt → x49_2.toInt ≤ 23 → 0 ≤ x49_3.toInt → x49_3.toInt ≤ 15 → 0 ≤ x49_4.toInt → x49_4.toInt ≤ 200 → (200 - x49_4.toInt).toNat < n → (∀ (e49_3 : Int32) (w' : MW), BND w' → FR l_Mo_liquidIn_49 w w' → 0 ≤ e49_3.toInt → e49_3.toInt ≤ 15 → E e49_3 w') → (∀ (r : Int32) (w' : MW), BND w' → FR l_Mo_liquidIn_49 w w' → False → Q r w') → q_Mo_liquidIn_49 x49_2 E Q n x49_3 x49_4 w := by
  induction n with
  | zero => intros; omega
  | succ n ih =>
    intro x49_3 x49_4 w hI  hp0 hp1 hp2 hp3 hp4 hp5 hm hE hQ
    rw [q_Mo_liquidIn_49.eq_2]
    have o4497 : 0 ≤ x49_2.toInt ∧ x49_2.toInt < 24 := by omega
    refine ⟨o4497, ?_⟩
    refine ⟨fun h4498 => ?_, fun h4498 => ?_⟩
    · have o4499 : (0 ≤ x49_3.toInt) ∧ (x49_3.toInt ≤ 15) := by exact ⟨by omega, by omega⟩
      exact hE _ _ hI (FR.refl _ w) o4499.1 o4499.2
    · have o4500 : 0 ≤ (((200 : Int32) * x49_2) + x49_4).toInt ∧ (((200 : Int32) * x49_2) + x49_4).toInt < 4800 := by have := ti_mul2 (by decide : ((200 : Int32)).toInt = 200) (Eq.refl x49_2.toInt) (by omega) (by omega); have := ti_add2 (Eq.refl ((200 : Int32) * x49_2).toInt) (Eq.refl x49_4.toInt) (by omega) (by omega); have := bd_169 hI x49_2.toInt.toNat; omega
      refine ⟨o4500, ?_⟩
      refine ⟨fun h4501 => ?_, fun h4501 => ?_⟩
      · have o4502 : (0 ≤ x49_2.toInt) ∧ (x49_2.toInt ≤ 23) ∧ (0 ≤ x49_3.toInt) ∧ (x49_3.toInt ≤ 15) ∧ (0 ≤ (x49_4 + (1 : Int32)).toInt) ∧ ((x49_4 + (1 : Int32)).toInt ≤ 200) := by have := ti_add2 (Eq.refl x49_4.toInt) (by decide : ((1 : Int32)).toInt = 1) (by omega) (by omega); have := bd_169 hI x49_2.toInt.toNat; exact ⟨by omega, by omega, by omega, by omega, by omega, by omega⟩
        exact ih _ _ w hI  o4502.1 o4502.2.1 o4502.2.2.1 o4502.2.2.2.1 o4502.2.2.2.2.1 o4502.2.2.2.2.2 (by have := ti_add2 (Eq.refl x49_4.toInt) (by decide : ((1 : Int32)).toInt = 1) (by omega) (by omega); have := bd_169 hI x49_2.toInt.toNat; omega) (fun e0 w9 hI9 hF9 p0 p1 => hE e0 w9 hI9 ((FR.refl _ w).tr hF9 rfl) p0 p1 ) (fun r w9 hI9 hF9 q0 => q0.elim)
      · refine ⟨fun h4503 => ?_, fun h4503 => ?_⟩
        · refine ⟨fun h4504 => ?_, fun h4504 => ?_⟩
          · have o4505 : (0 ≤ x49_2.toInt) ∧ (x49_2.toInt ≤ 23) ∧ (0 ≤ (15 : Int32).toInt) ∧ ((15 : Int32).toInt ≤ 15) ∧ (0 ≤ (x49_4 + (1 : Int32)).toInt) ∧ ((x49_4 + (1 : Int32)).toInt ≤ 200) := by have := (by decide : ((15 : Int32)).toInt = 15); have := ti_add2 (Eq.refl x49_4.toInt) (by decide : ((1 : Int32)).toInt = 1) (by omega) (by omega); have := bd_169 hI x49_2.toInt.toNat; exact ⟨by omega, by omega, by omega, by omega, by omega, by omega⟩
            exact ih _ _ w hI  o4505.1 o4505.2.1 o4505.2.2.1 o4505.2.2.2.1 o4505.2.2.2.2.1 o4505.2.2.2.2.2 (by have := (by decide : ((15 : Int32)).toInt = 15); have := ti_add2 (Eq.refl x49_4.toInt) (by decide : ((1 : Int32)).toInt = 1) (by omega) (by omega); have := bd_169 hI x49_2.toInt.toNat; omega) (fun e0 w9 hI9 hF9 p0 p1 => hE e0 w9 hI9 ((FR.refl _ w).tr hF9 rfl) p0 p1 ) (fun r w9 hI9 hF9 q0 => q0.elim)
          · have o4506 : (0 ≤ x49_2.toInt) ∧ (x49_2.toInt ≤ 23) ∧ (0 ≤ (w.1 172 ((((200 : Int32) * x49_2) + x49_4).toInt.toNat)).toInt) ∧ ((w.1 172 ((((200 : Int32) * x49_2) + x49_4).toInt.toNat)).toInt ≤ 15) ∧ (0 ≤ (x49_4 + (1 : Int32)).toInt) ∧ ((x49_4 + (1 : Int32)).toInt ≤ 200) := by have := bd_172 hI ((((200 : Int32) * x49_2) + x49_4).toInt.toNat); have := ti_add2 (Eq.refl x49_4.toInt) (by decide : ((1 : Int32)).toInt = 1) (by omega) (by omega); have := bd_169 hI x49_2.toInt.toNat; have := (by decide : ((0 : Int32)).toInt = 0); exact ⟨by omega, by omega, by omega, by omega, by omega, by omega⟩
            exact ih _ _ w hI  o4506.1 o4506.2.1 o4506.2.2.1 o4506.2.2.2.1 o4506.2.2.2.2.1 o4506.2.2.2.2.2 (by have := bd_172 hI ((((200 : Int32) * x49_2) + x49_4).toInt.toNat); have := ti_add2 (Eq.refl x49_4.toInt) (by decide : ((1 : Int32)).toInt = 1) (by omega) (by omega); have := bd_169 hI x49_2.toInt.toNat; have := (by decide : ((0 : Int32)).toInt = 0); omega) (fun e0 w9 hI9 hF9 p0 p1 => hE e0 w9 hI9 ((FR.refl _ w).tr hF9 rfl) p0 p1 ) (fun r w9 hI9 hF9 q0 => q0.elim)
        · have o4507 : (0 ≤ x49_2.toInt) ∧ (x49_2.toInt ≤ 23) ∧ (0 ≤ x49_3.toInt) ∧ (x49_3.toInt ≤ 15) ∧ (0 ≤ (x49_4 + (1 : Int32)).toInt) ∧ ((x49_4 + (1 : Int32)).toInt ≤ 200) := by have := ti_add2 (Eq.refl x49_4.toInt) (by decide : ((1 : Int32)).toInt = 1) (by omega) (by omega); have := bd_169 hI x49_2.toInt.toNat; have := bd_172 hI ((((200 : Int32) * x49_2) + x49_4).toInt.toNat); have := (by decide : ((0 : Int32)).toInt = 0); exact ⟨by omega, by omega, by omega, by omega, by omega, by omega⟩
          exact ih _ _ w hI  o4507.1 o4507.2.1 o4507.2.2.1 o4507.2.2.2.1 o4507.2.2.2.2.1 o4507.2.2.2.2.2 (by have := ti_add2 (Eq.refl x49_4.toInt) (by decide : ((1 : Int32)).toInt = 1) (by omega) (by omega); have := bd_169 hI x49_2.toInt.toNat; have := bd_172 hI ((((200 : Int32) * x49_2) + x49_4).toInt.toNat); have := (by decide : ((0 : Int32)).toInt = 0); omega) (fun e0 w9 hI9 hF9 p0 p1 => hE e0 w9 hI9 ((FR.refl _ w).tr hF9 rfl) p0 p1 ) (fun r w9 hI9 hF9 q0 => q0.elim)
set_option maxRecDepth 20000 in
set_option maxHeartbeats 2000000 in
theorem h_Mo_liquidIn {w : MW} {a0 : Int32} {Q : Int32 → MW → Prop} (hI : BND w) (hp0 : 0 ≤ a0.toInt) (hp1 : a0.toInt ≤ 43) (hp2 : a0.toInt < (w.1 127 4).toInt + (w.1 127 11).toInt) (hQ : ∀ (r : Int32) (w' : MW), BND w' → FR l_Mo_liquidIn w w' → 0 ≤ r.toInt → r.toInt ≤ 15 → Q r w') : p_Mo_liquidIn w a0 Q := by
  refine Eq.mpr (p_Mo_liquidIn.eq_1 _ _ _) ?_
  refine ⟨fun h4508 => ?_, fun h4508 => ?_⟩
  · have o4509 : (0 ≤ (a0 - (w.1 127 4)).toInt) ∧ ((a0 - (w.1 127 4)).toInt ≤ 23) ∧ (0 ≤ (0 : Int32).toInt) ∧ ((0 : Int32).toInt ≤ 15) ∧ (0 ≤ (0 : Int32).toInt) ∧ ((0 : Int32).toInt ≤ 200) := by have := bd_127_4 hI; have := ti_sub2 (Eq.refl a0.toInt) (Eq.refl (w.1 127 4).toInt) (by omega) (by omega); have := (by decide : ((0 : Int32)).toInt = 0); have := bd_127_11 hI; exact ⟨by omega, by omega, by omega, by omega, by omega, by omega⟩
    refine hq_Mo_liquidIn_49 FU _ _ w hI  o4509.1 o4509.2.1 o4509.2.2.1 o4509.2.2.2.1 o4509.2.2.2.2.1 o4509.2.2.2.2.2 (fu_lt (by have := bd_127_4 hI; have := ti_sub2 (Eq.refl a0.toInt) (Eq.refl (w.1 127 4).toInt) (by omega) (by omega); have := (by decide : ((0 : Int32)).toInt = 0); have := bd_127_11 hI; omega)) (fun e4513 w4510 hI4511 hL4512 p4514 p4515 => ?_) (fun r w9 hI9 hF9 q0 => q0.elim)
    have hF4516 : FR l_Mo_liquidIn w w4510 := (FR.refl _ w).tr hL4512 rfl
    have o4517 : (0 ≤ e4513.toInt) ∧ (e4513.toInt ≤ 15) := by exact ⟨by omega, by omega⟩
    exact hQ _ _ hI4511 hF4516  o4517.1 o4517.2
  · have o4518 : 0 ≤ a0.toInt ∧ a0.toInt < 20 := by have := bd_127_4 hI; have := bd_127_11 hI; omega
    refine ⟨o4518, ?_⟩
    refine ⟨fun h4519 => ?_, fun h4519 => ?_⟩
    · have o4520 : (0 ≤ (0 : Int32).toInt) ∧ ((0 : Int32).toInt ≤ 15) := by have := (by decide : ((0 : Int32)).toInt = 0); exact ⟨by omega, by omega⟩
      exact hQ _ _ hI (FR.refl _ w)  o4520.1 o4520.2
    · have o4521 : 0 ≤ a0.toInt ∧ a0.toInt < 20 := by have := bd_127_4 hI; have := bd_127_11 hI; omega
      refine ⟨o4521, ?_⟩
      refine ⟨fun h4522 => ?_, fun h4522 => ?_⟩
      · have o4523 : (0 ≤ (0 : Int32).toInt) ∧ ((0 : Int32).toInt ≤ 15) := by have := (by decide : ((0 : Int32)).toInt = 0); exact ⟨by omega, by omega⟩
        exact hQ _ _ hI (FR.refl _ w)  o4523.1 o4523.2
      · have o4524 : 0 ≤ a0.toInt ∧ a0.toInt < 20 := by have := bd_127_4 hI; have := bd_127_11 hI; omega
        refine ⟨o4524, ?_⟩
        have o4525 : (0 ≤ (w.1 166 a0.toInt.toNat).toInt) ∧ ((w.1 166 a0.toInt.toNat).toInt ≤ 15) := by have := bd_166 hI a0.toInt.toNat; exact ⟨by omega, by omega⟩
        exact hQ _ _ hI (FR.refl _ w)  o4525.1 o4525.2
def l_Mo_look_2 : Pl := [(194, none)]
def l_Mo_look_60 : Pl := [(194, none)]
def l_Mo_look_34 : Pl := [(194, none)]
def l_Mo_look : Pl := [(194, none)]
set_option maxRecDepth 20000 in
set_option maxHeartbeats 2000000 in
theorem hq_Mo_look_2 {E : MW → Prop} {Q : MW → Prop} (n : Nat) : ∀ (x2_1 : Int32) (w : MW), BND w → 0 ≤ x2_1.toInt → x2_1.toInt ≤ 44 → (44 - x2_1.toInt).toNat < n → (∀ (w' : MW), BND w' → FR l_Mo_look_2 w w' → E w') → (∀ (w' : MW), BND w' → FR l_Mo_look_2 w w' → False → Q w') → q_Mo_look_2 E Q n x2_1 w := by
  induction n with
  | zero => intros; omega
  | succ n ih =>
    intro x2_1 w hI  hp0 hp1 hm hE hQ
    rw [q_Mo_look_2.eq_2]
    refine ⟨fun h4526 => ?_, fun h4526 => ?_⟩
    · exact hE _ hI (FR.refl _ w)
    · have o4527 : (0 ≤ x2_1.toInt) ∧ (x2_1.toInt ≤ 43) ∧ (x2_1.toInt < (w.1 127 4).toInt + (w.1 127 11).toInt) := by have := bd_127_4 hI; have := bd_127_11 hI; have := ti_add2 (Eq.refl (w.1 127 4).toInt) (Eq.refl (w.1 127 11).toInt) (by omega) (by omega); exact ⟨by omega, by omega, by omega⟩
      refine h_Mo_liquidIn hI  o4527.1 o4527.2.1 o4527.2.2 (fun r4531 w4528 hI4529 hL4530 p4532 p4533 => ?_)
      have hF4534 : FR l_Mo_look_2 w w4528 := (FR.refl _ w).tr hL4530 rfl
      have o4535 : 0 ≤ x2_1.toInt ∧ x2_1.toInt < 44 := by have := bd_127_4 hI; have := bd_127_11 hI; have := ti_add2 (Eq.refl (w.1 127 4).toInt) (Eq.refl (w.1 127 11).toInt) (by omega) (by omega); omega
      refine ⟨o4535, ?_⟩
      have o4537 : 0 ≤ r4531.toInt ∧ r4531.toInt ≤ 15 := by omega
      have hI4536 : BND (sI w4528 194 x2_1.toInt.toNat r4531) := wbd_194 hI4529 x2_1.toInt.toNat o4537.1 o4537.2
      have o4538 : (0 ≤ (x2_1 + (1 : Int32)).toInt) ∧ ((x2_1 + (1 : Int32)).toInt ≤ 44) := by have := ti_add2 (Eq.refl x2_1.toInt) (by decide : ((1 : Int32)).toInt = 1) (by omega) (by omega); have := bd_127_4 hI; have := bd_127_11 hI; have := ti_add2 (Eq.refl (w.1 127 4).toInt) (Eq.refl (w.1 127 11).toInt) (by omega) (by omega); exact ⟨by omega, by omega⟩
      exact ih _ (sI w4528 194 x2_1.toInt.toNat r4531) hI4536  o4538.1 o4538.2 (by have := ti_add2 (Eq.refl x2_1.toInt) (by decide : ((1 : Int32)).toInt = 1) (by omega) (by omega); have := bd_127_4 hI; have := bd_127_11 hI; have := ti_add2 (Eq.refl (w.1 127 4).toInt) (Eq.refl (w.1 127 11).toInt) (by omega) (by omega); omega) (fun w9 hI9 hF9 => hE w9 hI9 ((FR.I hF4534 (k := 194) (j := x2_1.toInt.toNat) (v := r4531) rfl).tr hF9 rfl) ) (fun w9 hI9 hF9 q0 => q0.elim)
set_option maxRecDepth 20000 in
set_option maxHeartbeats 2000000 in
theorem hq_Mo_look_60 {x60_1 : Int32} {E : MW → Prop} {Q : MW → Prop} (n : Nat) : ∀ (x60_2 : Int32) (w : MW), BND w → 0 ≤ x60_1.toInt → x60_1.toInt ≤ 23 → 0 ≤ x60_2.toInt → x60_2.toInt ≤ 24 → (24 - x60_2.toInt).toNat < n → (∀ (w' : MW), BND w' → FR l_Mo_look_60 w w' → E w') → (∀ (w' : MW), BND w' → FR l_Mo_look_60 w w' → False → Q w') → q_Mo_look_60 x60_1 E Q n x60_2 w := by
  induction n with
  | zero => intros; omega
  | succ n ih =>
    intro x60_2 w hI  hp0 hp1 hp2 hp3 hm hE hQ
    rw [q_Mo_look_60.eq_2]
    have o4539 : 0 ≤ x60_1.toInt ∧ x60_1.toInt < 24 := by omega
    refine ⟨o4539, ?_⟩
    refine ⟨fun h4540 => ?_, fun h4540 => ?_⟩
    · exact hE _ hI (FR.refl _ w)
    · have o4541 : 0 ≤ (((24 : Int32) * x60_1) + x60_2).toInt ∧ (((24 : Int32) * x60_1) + x60_2).toInt < 576 := by have := ti_mul2 (by decide : ((24 : Int32)).toInt = 24) (Eq.refl x60_1.toInt) (by omega) (by omega); have := ti_add2 (Eq.refl ((24 : Int32) * x60_1).toInt) (Eq.refl x60_2.toInt) (by omega) (by omega); have := bd_185 hI x60_1.toInt.toNat; omega
      refine ⟨o4541, ?_⟩
      have o4542 : 0 ≤ x60_1.toInt ∧ x60_1.toInt < 24 := by omega
      refine ⟨o4542, ?_⟩
      refine Eq.mpr (p_Mo_carry.eq_1 _ _ _ _) ?_
      have o4543 : 0 ≤ ((w.1 127 4) + ((w.1 186 ((((24 : Int32) * x60_1) + x60_2).toInt.toNat)) / (2 : Int32))).toInt ∧ ((w.1 127 4) + ((w.1 186 ((((24 : Int32) * x60_1) + x60_2).toInt.toNat)) / (2 : Int32))).toInt < 44 := by have := bd_127_4 hI; have := bd_186 hI ((((24 : Int32) * x60_1) + x60_2).toInt.toNat); have := nb_div (x := (w.1 186 ((((24 : Int32) * x60_1) + x60_2).toInt.toNat))) (by omega) (by decide : ((2 : Int32)).toInt = 2) (by decide); have := ti_add2 (Eq.refl (w.1 127 4).toInt) (Eq.refl ((w.1 186 ((((24 : Int32) * x60_1) + x60_2).toInt.toNat)) / (2 : Int32)).toInt) (by omega) (by omega); omega
      refine ⟨o4543, ?_⟩
      refine ⟨fun h4544 => ?_, fun h4544 => ?_⟩
      · have o4545 : 0 ≤ ((w.1 127 4) + ((w.1 186 ((((24 : Int32) * x60_1) + x60_2).toInt.toNat)) / (2 : Int32))).toInt ∧ ((w.1 127 4) + ((w.1 186 ((((24 : Int32) * x60_1) + x60_2).toInt.toNat)) / (2 : Int32))).toInt < 44 := by have := bd_127_4 hI; have := bd_186 hI ((((24 : Int32) * x60_1) + x60_2).toInt.toNat); have := nb_div (x := (w.1 186 ((((24 : Int32) * x60_1) + x60_2).toInt.toNat))) (by omega) (by decide : ((2 : Int32)).toInt = 2) (by decide); have := ti_add2 (Eq.refl (w.1 127 4).toInt) (Eq.refl ((w.1 186 ((((24 : Int32) * x60_1) + x60_2).toInt.toNat)) / (2 : Int32)).toInt) (by omega) (by omega); omega
        refine ⟨o4545, ?_⟩
        have o4546 : 0 ≤ ((w.1 127 4) + ((w.1 186 ((((24 : Int32) * x60_1) + x60_2).toInt.toNat)) / (2 : Int32))).toInt ∧ ((w.1 127 4) + ((w.1 186 ((((24 : Int32) * x60_1) + x60_2).toInt.toNat)) / (2 : Int32))).toInt < 44 := by have := bd_127_4 hI; have := bd_186 hI ((((24 : Int32) * x60_1) + x60_2).toInt.toNat); have := nb_div (x := (w.1 186 ((((24 : Int32) * x60_1) + x60_2).toInt.toNat))) (by omega) (by decide : ((2 : Int32)).toInt = 2) (by decide); have := ti_add2 (Eq.refl (w.1 127 4).toInt) (Eq.refl ((w.1 186 ((((24 : Int32) * x60_1) + x60_2).toInt.toNat)) / (2 : Int32)).toInt) (by omega) (by omega); omega
        refine ⟨o4546, ?_⟩
        have o4548 : 0 ≤ (w.1 194 (((w.1 127 4) + ((w.1 186 ((((24 : Int32) * x60_1) + x60_2).toInt.toNat)) / (2 : Int32))).toInt.toNat)).toInt ∧ (w.1 194 (((w.1 127 4) + ((w.1 186 ((((24 : Int32) * x60_1) + x60_2).toInt.toNat)) / (2 : Int32))).toInt.toNat)).toInt ≤ 15 := by have := bd_194 hI (((w.1 127 4) + ((w.1 186 ((((24 : Int32) * x60_1) + x60_2).toInt.toNat)) / (2 : Int32))).toInt.toNat); have := (by decide : ((0 : Int32)).toInt = 0); omega
        have hI4547 : BND (sI w 194 (((w.1 127 4) + ((w.1 186 ((((24 : Int32) * x60_1) + x60_2).toInt.toNat)) / (2 : Int32))).toInt.toNat) (w.1 194 (((w.1 127 4) + ((w.1 186 ((((24 : Int32) * x60_1) + x60_2).toInt.toNat)) / (2 : Int32))).toInt.toNat))) := wbd_194 hI (((w.1 127 4) + ((w.1 186 ((((24 : Int32) * x60_1) + x60_2).toInt.toNat)) / (2 : Int32))).toInt.toNat) o4548.1 o4548.2
        have o4549 : (0 ≤ x60_1.toInt) ∧ (x60_1.toInt ≤ 23) ∧ (0 ≤ (x60_2 + (1 : Int32)).toInt) ∧ ((x60_2 + (1 : Int32)).toInt ≤ 24) := by have := ti_add2 (Eq.refl x60_2.toInt) (by decide : ((1 : Int32)).toInt = 1) (by omega) (by omega); have := bd_185 hI x60_1.toInt.toNat; exact ⟨by omega, by omega, by omega, by omega⟩
        exact ih _ (sI w 194 (((w.1 127 4) + ((w.1 186 ((((24 : Int32) * x60_1) + x60_2).toInt.toNat)) / (2 : Int32))).toInt.toNat) (w.1 194 (((w.1 127 4) + ((w.1 186 ((((24 : Int32) * x60_1) + x60_2).toInt.toNat)) / (2 : Int32))).toInt.toNat))) hI4547  o4549.1 o4549.2.1 o4549.2.2.1 o4549.2.2.2 (by have := ti_add2 (Eq.refl x60_2.toInt) (by decide : ((1 : Int32)).toInt = 1) (by omega) (by omega); have := bd_185 hI x60_1.toInt.toNat; omega) (fun w9 hI9 hF9 => hE w9 hI9 ((FR.I (FR.refl _ w) (k := 194) (j := ((w.1 127 4) + ((w.1 186 ((((24 : Int32) * x60_1) + x60_2).toInt.toNat)) / (2 : Int32))).toInt.toNat) (v := (w.1 194 (((w.1 127 4) + ((w.1 186 ((((24 : Int32) * x60_1) + x60_2).toInt.toNat)) / (2 : Int32))).toInt.toNat))) rfl).tr hF9 rfl) ) (fun w9 hI9 hF9 q0 => q0.elim)
      · have o4550 : 0 ≤ ((w.1 127 4) + ((w.1 186 ((((24 : Int32) * x60_1) + x60_2).toInt.toNat)) / (2 : Int32))).toInt ∧ ((w.1 127 4) + ((w.1 186 ((((24 : Int32) * x60_1) + x60_2).toInt.toNat)) / (2 : Int32))).toInt < 44 := by have := bd_127_4 hI; have := bd_186 hI ((((24 : Int32) * x60_1) + x60_2).toInt.toNat); have := nb_div (x := (w.1 186 ((((24 : Int32) * x60_1) + x60_2).toInt.toNat))) (by omega) (by decide : ((2 : Int32)).toInt = 2) (by decide); have := ti_add2 (Eq.refl (w.1 127 4).toInt) (Eq.refl ((w.1 186 ((((24 : Int32) * x60_1) + x60_2).toInt.toNat)) / (2 : Int32)).toInt) (by omega) (by omega); omega
        refine ⟨o4550, ?_⟩
        have o4552 : 0 ≤ (w.1 183 x60_1.toInt.toNat).toInt ∧ (w.1 183 x60_1.toInt.toNat).toInt ≤ 15 := by have := bd_183 hI x60_1.toInt.toNat; omega
        have hI4551 : BND (sI w 194 (((w.1 127 4) + ((w.1 186 ((((24 : Int32) * x60_1) + x60_2).toInt.toNat)) / (2 : Int32))).toInt.toNat) (w.1 183 x60_1.toInt.toNat)) := wbd_194 hI (((w.1 127 4) + ((w.1 186 ((((24 : Int32) * x60_1) + x60_2).toInt.toNat)) / (2 : Int32))).toInt.toNat) o4552.1 o4552.2
        have o4553 : (0 ≤ x60_1.toInt) ∧ (x60_1.toInt ≤ 23) ∧ (0 ≤ (x60_2 + (1 : Int32)).toInt) ∧ ((x60_2 + (1 : Int32)).toInt ≤ 24) := by have := ti_add2 (Eq.refl x60_2.toInt) (by decide : ((1 : Int32)).toInt = 1) (by omega) (by omega); have := bd_185 hI x60_1.toInt.toNat; exact ⟨by omega, by omega, by omega, by omega⟩
        exact ih _ (sI w 194 (((w.1 127 4) + ((w.1 186 ((((24 : Int32) * x60_1) + x60_2).toInt.toNat)) / (2 : Int32))).toInt.toNat) (w.1 183 x60_1.toInt.toNat)) hI4551  o4553.1 o4553.2.1 o4553.2.2.1 o4553.2.2.2 (by have := ti_add2 (Eq.refl x60_2.toInt) (by decide : ((1 : Int32)).toInt = 1) (by omega) (by omega); have := bd_185 hI x60_1.toInt.toNat; omega) (fun w9 hI9 hF9 => hE w9 hI9 ((FR.I (FR.refl _ w) (k := 194) (j := ((w.1 127 4) + ((w.1 186 ((((24 : Int32) * x60_1) + x60_2).toInt.toNat)) / (2 : Int32))).toInt.toNat) (v := (w.1 183 x60_1.toInt.toNat)) rfl).tr hF9 rfl) ) (fun w9 hI9 hF9 q0 => q0.elim)
set_option maxRecDepth 20000 in
set_option maxHeartbeats 2000000 in
theorem hq_Mo_look_34 {E : MW → Prop} {Q : MW → Prop} (n : Nat) : ∀ (x34_1 : Int32) (w : MW), BND w → 0 ≤ x34_1.toInt → x34_1.toInt ≤ 24 → (24 - x34_1.toInt).toNat < n → (∀ (w' : MW), BND w' → FR l_Mo_look_34 w w' → E w') → (∀ (w' : MW), BND w' → FR l_Mo_look_34 w w' → False → Q w') → q_Mo_look_34 E Q n x34_1 w := by
  induction n with
  | zero => intros; omega
  | succ n ih =>
    intro x34_1 w hI  hp0 hp1 hm hE hQ
    rw [q_Mo_look_34.eq_2]
    refine ⟨fun h4554 => ?_, fun h4554 => ?_⟩
    · exact hE _ hI (FR.refl _ w)
    · have o4555 : 0 ≤ x34_1.toInt ∧ x34_1.toInt < 24 := by have := bd_127_26 hI; omega
      refine ⟨o4555, ?_⟩
      have o4556 : 0 ≤ x34_1.toInt ∧ x34_1.toInt < 24 := by have := bd_127_26 hI; omega
      refine ⟨o4556, ?_⟩
      refine Eq.mpr (p_Mo_carry.eq_1 _ _ _ _) ?_
      have o4557 : 0 ≤ (w.1 182 x34_1.toInt.toNat).toInt ∧ (w.1 182 x34_1.toInt.toNat).toInt < 44 := by have := bd_182 hI x34_1.toInt.toNat; omega
      refine ⟨o4557, ?_⟩
      refine ⟨fun h4558 => ?_, fun h4558 => ?_⟩
      · have o4559 : 0 ≤ (w.1 182 x34_1.toInt.toNat).toInt ∧ (w.1 182 x34_1.toInt.toNat).toInt < 44 := by have := bd_182 hI x34_1.toInt.toNat; omega
        refine ⟨o4559, ?_⟩
        have o4560 : 0 ≤ (w.1 182 x34_1.toInt.toNat).toInt ∧ (w.1 182 x34_1.toInt.toNat).toInt < 44 := by have := bd_182 hI x34_1.toInt.toNat; omega
        refine ⟨o4560, ?_⟩
        have o4562 : 0 ≤ (w.1 194 ((w.1 182 x34_1.toInt.toNat).toInt.toNat)).toInt ∧ (w.1 194 ((w.1 182 x34_1.toInt.toNat).toInt.toNat)).toInt ≤ 15 := by have := bd_194 hI ((w.1 182 x34_1.toInt.toNat).toInt.toNat); have := (by decide : ((0 : Int32)).toInt = 0); omega
        have hI4561 : BND (sI w 194 ((w.1 182 x34_1.toInt.toNat).toInt.toNat) (w.1 194 ((w.1 182 x34_1.toInt.toNat).toInt.toNat))) := wbd_194 hI ((w.1 182 x34_1.toInt.toNat).toInt.toNat) o4562.1 o4562.2
        have o4563 : (0 ≤ x34_1.toInt) ∧ (x34_1.toInt ≤ 23) ∧ (0 ≤ (0 : Int32).toInt) ∧ ((0 : Int32).toInt ≤ 24) := by have := (by decide : ((0 : Int32)).toInt = 0); have := bd_127_26 hI; exact ⟨by omega, by omega, by omega, by omega⟩
        refine hq_Mo_look_60 FU _ (sI w 194 ((w.1 182 x34_1.toInt.toNat).toInt.toNat) (w.1 194 ((w.1 182 x34_1.toInt.toNat).toInt.toNat))) hI4561  o4563.1 o4563.2.1 o4563.2.2.1 o4563.2.2.2 (fu_lt (by have := (by decide : ((0 : Int32)).toInt = 0); have := bd_127_26 hI; omega)) (fun w4564 hI4565 hL4566  => ?_) (fun w9 hI9 hF9 q0 => q0.elim)
        have hF4567 : FR l_Mo_look_34 w w4564 := (FR.I (FR.refl _ w) (k := 194) (j := (w.1 182 x34_1.toInt.toNat).toInt.toNat) (v := (w.1 194 ((w.1 182 x34_1.toInt.toNat).toInt.toNat))) rfl).tr hL4566 rfl
        have o4568 : (0 ≤ (x34_1 + (1 : Int32)).toInt) ∧ ((x34_1 + (1 : Int32)).toInt ≤ 24) := by have := ti_add2 (Eq.refl x34_1.toInt) (by decide : ((1 : Int32)).toInt = 1) (by omega) (by omega); have := bd_127_26 hI; exact ⟨by omega, by omega⟩
        exact ih _ w4564 hI4565  o4568.1 o4568.2 (by have := ti_add2 (Eq.refl x34_1.toInt) (by decide : ((1 : Int32)).toInt = 1) (by omega) (by omega); have := bd_127_26 hI; omega) (fun w9 hI9 hF9 => hE w9 hI9 (hF4567.tr hF9 rfl) ) (fun w9 hI9 hF9 q0 => q0.elim)
      · have o4569 : 0 ≤ (w.1 182 x34_1.toInt.toNat).toInt ∧ (w.1 182 x34_1.toInt.toNat).toInt < 44 := by have := bd_182 hI x34_1.toInt.toNat; omega
        refine ⟨o4569, ?_⟩
        have o4571 : 0 ≤ (w.1 183 x34_1.toInt.toNat).toInt ∧ (w.1 183 x34_1.toInt.toNat).toInt ≤ 15 := by have := bd_183 hI x34_1.toInt.toNat; omega
        have hI4570 : BND (sI w 194 ((w.1 182 x34_1.toInt.toNat).toInt.toNat) (w.1 183 x34_1.toInt.toNat)) := wbd_194 hI ((w.1 182 x34_1.toInt.toNat).toInt.toNat) o4571.1 o4571.2
        have o4572 : (0 ≤ x34_1.toInt) ∧ (x34_1.toInt ≤ 23) ∧ (0 ≤ (0 : Int32).toInt) ∧ ((0 : Int32).toInt ≤ 24) := by have := (by decide : ((0 : Int32)).toInt = 0); have := bd_127_26 hI; exact ⟨by omega, by omega, by omega, by omega⟩
        refine hq_Mo_look_60 FU _ (sI w 194 ((w.1 182 x34_1.toInt.toNat).toInt.toNat) (w.1 183 x34_1.toInt.toNat)) hI4570  o4572.1 o4572.2.1 o4572.2.2.1 o4572.2.2.2 (fu_lt (by have := (by decide : ((0 : Int32)).toInt = 0); have := bd_127_26 hI; omega)) (fun w4573 hI4574 hL4575  => ?_) (fun w9 hI9 hF9 q0 => q0.elim)
        have hF4576 : FR l_Mo_look_34 w w4573 := (FR.I (FR.refl _ w) (k := 194) (j := (w.1 182 x34_1.toInt.toNat).toInt.toNat) (v := (w.1 183 x34_1.toInt.toNat)) rfl).tr hL4575 rfl
        have o4577 : (0 ≤ (x34_1 + (1 : Int32)).toInt) ∧ ((x34_1 + (1 : Int32)).toInt ≤ 24) := by have := ti_add2 (Eq.refl x34_1.toInt) (by decide : ((1 : Int32)).toInt = 1) (by omega) (by omega); have := bd_127_26 hI; exact ⟨by omega, by omega⟩
        exact ih _ w4573 hI4574  o4577.1 o4577.2 (by have := ti_add2 (Eq.refl x34_1.toInt) (by decide : ((1 : Int32)).toInt = 1) (by omega) (by omega); have := bd_127_26 hI; omega) (fun w9 hI9 hF9 => hE w9 hI9 (hF4576.tr hF9 rfl) ) (fun w9 hI9 hF9 q0 => q0.elim)
set_option maxRecDepth 20000 in
set_option maxHeartbeats 2000000 in
theorem h_Mo_look {w : MW} {Q : MW → Prop} (hI : BND w)  (hQ : ∀ (w' : MW), BND w' → FR l_Mo_look w w' → Q w') : p_Mo_look w Q := by
  refine Eq.mpr (p_Mo_look.eq_1 _ _) ?_
  have o4578 : (0 ≤ (0 : Int32).toInt) ∧ ((0 : Int32).toInt ≤ 44) := by have := (by decide : ((0 : Int32)).toInt = 0); exact ⟨by omega, by omega⟩
  refine hq_Mo_look_2 FU _ w hI  o4578.1 o4578.2 (fu_lt (by have := (by decide : ((0 : Int32)).toInt = 0); omega)) (fun w4579 hI4580 hL4581  => ?_) (fun w9 hI9 hF9 q0 => q0.elim)
  have hF4582 : FR l_Mo_look w w4579 := (FR.refl _ w).tr hL4581 rfl
  have o4583 : (0 ≤ (0 : Int32).toInt) ∧ ((0 : Int32).toInt ≤ 24) := by have := (by decide : ((0 : Int32)).toInt = 0); exact ⟨by omega, by omega⟩
  refine hq_Mo_look_34 FU _ w4579 hI4580  o4583.1 o4583.2 (fu_lt (by have := (by decide : ((0 : Int32)).toInt = 0); omega)) (fun w4584 hI4585 hL4586  => ?_) (fun w9 hI9 hF9 q0 => q0.elim)
  have hF4587 : FR l_Mo_look w w4584 := hF4582.tr hL4586 rfl
  exact hQ _ hI4585 hF4587 
def l_Mo_holdsLiquid : Pl := []
set_option maxRecDepth 20000 in
set_option maxHeartbeats 2000000 in
theorem h_Mo_holdsLiquid {w : MW} {a0 : Int32} {Q : Int32 → MW → Prop} (hI : BND w)  (hQ : ∀ (r : Int32) (w' : MW), BND w' → FR l_Mo_holdsLiquid w w' → 0 ≤ r.toInt → r.toInt ≤ 1 → r.toInt = 0 ∨ (0 ≤ a0.toInt ∧ a0.toInt < (w.1 127 4).toInt + (w.1 127 11).toInt) → Q r w') : p_Mo_holdsLiquid w a0 Q := by
  refine Eq.mpr (p_Mo_holdsLiquid.eq_1 _ _ _) ?_
  refine Eq.mpr (p_Mo_isTank.eq_1 _ _ _) ?_
  refine Eq.mpr (p_Mo_isThing.eq_1 _ _ _) ?_
  refine ⟨fun h4588 => ?_, fun h4588 => ?_⟩
  · refine ⟨fun _ => ?_, fun h => absurd (by decide) h⟩
    refine ⟨fun h => absurd h (by decide), fun _ => ?_⟩
    refine Eq.mpr (p_Mo_isPipe.eq_1 _ _ _) ?_
    refine ⟨fun h4589 => ?_, fun h4589 => ?_⟩
    · refine ⟨fun _ => ?_, fun h => absurd (by decide) h⟩
      have o4590 : (0 ≤ (0 : Int32).toInt) ∧ ((0 : Int32).toInt ≤ 1) ∧ ((0 : Int32).toInt = 0 ∨ (0 ≤ a0.toInt ∧ a0.toInt < (w.1 127 4).toInt + (w.1 127 11).toInt)) := by have := (by decide : ((0 : Int32)).toInt = 0); have := bd_127_4 hI; have := bd_127_11 hI; exact ⟨by omega, by omega, by omega⟩
      exact hQ _ _ hI (FR.refl _ w)  o4590.1 o4590.2.1 o4590.2.2
    · exfalso; have := (by decide : ((0 : Int32)).toInt = 0); have := bd_127_4 hI; omega
  · refine ⟨fun h4591 => ?_, fun h4591 => ?_⟩
    · refine ⟨fun _ => ?_, fun h => absurd (by decide) h⟩
      refine ⟨fun h => absurd h (by decide), fun _ => ?_⟩
      refine Eq.mpr (p_Mo_isPipe.eq_1 _ _ _) ?_
      refine ⟨fun h4592 => ?_, fun h4592 => ?_⟩
      · refine ⟨fun _ => ?_, fun h => absurd (by decide) h⟩
        have o4593 : (0 ≤ (0 : Int32).toInt) ∧ ((0 : Int32).toInt ≤ 1) ∧ ((0 : Int32).toInt = 0 ∨ (0 ≤ a0.toInt ∧ a0.toInt < (w.1 127 4).toInt + (w.1 127 11).toInt)) := by have := (by decide : ((0 : Int32)).toInt = 0); have := bd_127_4 hI; have := bd_127_11 hI; exact ⟨by omega, by omega, by omega⟩
        exact hQ _ _ hI (FR.refl _ w)  o4593.1 o4593.2.1 o4593.2.2
      · refine ⟨fun h4594 => ?_, fun h4594 => ?_⟩
        · refine ⟨fun _ => ?_, fun h => absurd (by decide) h⟩
          have o4595 : (0 ≤ (0 : Int32).toInt) ∧ ((0 : Int32).toInt ≤ 1) ∧ ((0 : Int32).toInt = 0 ∨ (0 ≤ a0.toInt ∧ a0.toInt < (w.1 127 4).toInt + (w.1 127 11).toInt)) := by have := (by decide : ((0 : Int32)).toInt = 0); have := bd_127_4 hI; have := bd_127_11 hI; have := ti_add2 (Eq.refl (w.1 127 4).toInt) (Eq.refl (w.1 127 11).toInt) (by omega) (by omega); exact ⟨by omega, by omega, by omega⟩
          exact hQ _ _ hI (FR.refl _ w)  o4595.1 o4595.2.1 o4595.2.2
        · refine ⟨fun h => absurd h (by decide), fun _ => ?_⟩
          have o4596 : (0 ≤ (1 : Int32).toInt) ∧ ((1 : Int32).toInt ≤ 1) ∧ ((1 : Int32).toInt = 0 ∨ (0 ≤ a0.toInt ∧ a0.toInt < (w.1 127 4).toInt + (w.1 127 11).toInt)) := by have := (by decide : ((1 : Int32)).toInt = 1); have := bd_127_4 hI; have := bd_127_11 hI; have := ti_add2 (Eq.refl (w.1 127 4).toInt) (Eq.refl (w.1 127 11).toInt) (by omega) (by omega); have := (by decide : ((0 : Int32)).toInt = 0); exact ⟨by omega, by omega, by omega⟩
          exact hQ _ _ hI (FR.refl _ w)  o4596.1 o4596.2.1 o4596.2.2
    · refine ⟨fun h => absurd h (by decide), fun _ => ?_⟩
      have o4597 : 0 ≤ a0.toInt ∧ a0.toInt < 20 := by have := (by decide : ((0 : Int32)).toInt = 0); have := bd_127_4 hI; omega
      refine ⟨o4597, ?_⟩
      refine ⟨fun h4598 => ?_, fun h4598 => ?_⟩
      · refine ⟨fun h => absurd h (by decide), fun _ => ?_⟩
        refine Eq.mpr (p_Mo_isPipe.eq_1 _ _ _) ?_
        refine ⟨fun h4599 => ?_, fun h4599 => ?_⟩
        · refine ⟨fun _ => ?_, fun h => absurd (by decide) h⟩
          have o4600 : (0 ≤ (0 : Int32).toInt) ∧ ((0 : Int32).toInt ≤ 1) ∧ ((0 : Int32).toInt = 0 ∨ (0 ≤ a0.toInt ∧ a0.toInt < (w.1 127 4).toInt + (w.1 127 11).toInt)) := by have := (by decide : ((0 : Int32)).toInt = 0); have := bd_127_4 hI; have := bd_127_11 hI; exact ⟨by omega, by omega, by omega⟩
          exact hQ _ _ hI (FR.refl _ w)  o4600.1 o4600.2.1 o4600.2.2
        · refine ⟨fun h4601 => ?_, fun h4601 => ?_⟩
          · refine ⟨fun _ => ?_, fun h => absurd (by decide) h⟩
            have o4602 : (0 ≤ (0 : Int32).toInt) ∧ ((0 : Int32).toInt ≤ 1) ∧ ((0 : Int32).toInt = 0 ∨ (0 ≤ a0.toInt ∧ a0.toInt < (w.1 127 4).toInt + (w.1 127 11).toInt)) := by have := (by decide : ((0 : Int32)).toInt = 0); have := bd_127_4 hI; have := bd_127_11 hI; have := ti_add2 (Eq.refl (w.1 127 4).toInt) (Eq.refl (w.1 127 11).toInt) (by omega) (by omega); exact ⟨by omega, by omega, by omega⟩
            exact hQ _ _ hI (FR.refl _ w)  o4602.1 o4602.2.1 o4602.2.2
          · refine ⟨fun h => absurd h (by decide), fun _ => ?_⟩
            have o4603 : (0 ≤ (1 : Int32).toInt) ∧ ((1 : Int32).toInt ≤ 1) ∧ ((1 : Int32).toInt = 0 ∨ (0 ≤ a0.toInt ∧ a0.toInt < (w.1 127 4).toInt + (w.1 127 11).toInt)) := by have := (by decide : ((1 : Int32)).toInt = 1); have := bd_127_4 hI; have := bd_127_11 hI; have := ti_add2 (Eq.refl (w.1 127 4).toInt) (Eq.refl (w.1 127 11).toInt) (by omega) (by omega); have := (by decide : ((0 : Int32)).toInt = 0); exact ⟨by omega, by omega, by omega⟩
            exact hQ _ _ hI (FR.refl _ w)  o4603.1 o4603.2.1 o4603.2.2
      · refine ⟨fun _ => ?_, fun h => absurd (by decide) h⟩
        have o4604 : (0 ≤ (1 : Int32).toInt) ∧ ((1 : Int32).toInt ≤ 1) ∧ ((1 : Int32).toInt = 0 ∨ (0 ≤ a0.toInt ∧ a0.toInt < (w.1 127 4).toInt + (w.1 127 11).toInt)) := by have := (by decide : ((1 : Int32)).toInt = 1); have := bd_127_4 hI; have := bd_127_11 hI; have := (by decide : ((0 : Int32)).toInt = 0); exact ⟨by omega, by omega, by omega⟩
        exact hQ _ _ hI (FR.refl _ w)  o4604.1 o4604.2.1 o4604.2.2
def l_Mo_level_57 : Pl := []
def l_Mo_level_23 : Pl := []
def l_Mo_level : Pl := []
set_option maxRecDepth 20000 in
set_option maxHeartbeats 2000000 in
theorem hq_Mo_level_23 {x23_1 : Int32} {E : MW → Prop} {Q : Int32 → MW → Prop} (n : Nat) : ∀ (x23_2 : Int32) (x23_3 : Int32) (w : MW), BND w → 0 ≤ x23_1.toInt → x23_1.toInt ≤ 43 → (-1) ≤ x23_2.toInt → 0 ≤ x23_3.toInt → x23_3.toInt ≤ 5 → (x23_3.toInt - 0).toNat < n → (∀ (w' : MW), BND w' → FR l_Mo_level_23 w w' → E w') → (∀ (r : Int32) (w' : MW), BND w' → FR l_Mo_level_23 w w' → 1 ≤ r.toInt → r.toInt ≤ 5 → Q r w') → q_Mo_level_23 x23_1 E Q n x23_2 x23_3 w := by
  induction n with
  | zero => intros; omega
  | succ n ih =>
    intro x23_2 x23_3 w hI  hp0 hp1 hp2 hp3 hp4 hm hE hQ
    rw [q_Mo_level_23.eq_2]
    refine ⟨fun h4605 => ?_, fun h4605 => ?_⟩
    · exact hE _ hI (FR.refl _ w)
    · have o4606 : 0 ≤ (((6 : Int32) * x23_1) + x23_3).toInt ∧ (((6 : Int32) * x23_1) + x23_3).toInt < 264 := by have := ti_mul2 (by decide : ((6 : Int32)).toInt = 6) (Eq.refl x23_1.toInt) (by omega) (by omega); have := ti_add2 (Eq.refl ((6 : Int32) * x23_1).toInt) (Eq.refl x23_3.toInt) (by omega) (by omega); have := (by decide : ((0 : Int32)).toInt = 0); omega
      refine ⟨o4606, ?_⟩
      refine ⟨fun h4607 => ?_, fun h4607 => ?_⟩
      · refine Eq.mpr (q_Mo_level_57.eq_1 _ _ _ _ _ _ _) ?_
        refine ⟨fun h4608 => ?_, fun h4608 => ?_⟩
        · have o4609 : (0 ≤ x23_1.toInt) ∧ (x23_1.toInt ≤ 43) ∧ ((-1) ≤ x23_2.toInt) ∧ (0 ≤ (x23_3 + ((-1) : Int32)).toInt) ∧ ((x23_3 + ((-1) : Int32)).toInt ≤ 5) := by have := ti_add2 (Eq.refl x23_3.toInt) (by decide : (((-1) : Int32)).toInt = (-1)) (by omega) (by omega); have := (by decide : ((0 : Int32)).toInt = 0); exact ⟨by omega, by omega, by omega, by omega, by omega⟩
          exact ih _ _ w hI  o4609.1 o4609.2.1 o4609.2.2.1 o4609.2.2.2.1 o4609.2.2.2.2 (by have := ti_add2 (Eq.refl x23_3.toInt) (by decide : (((-1) : Int32)).toInt = (-1)) (by omega) (by omega); have := (by decide : ((0 : Int32)).toInt = 0); omega) (fun w9 hI9 hF9 => hE w9 hI9 ((FR.refl _ w).tr hF9 rfl) ) (fun r w9 hI9 hF9 q0 q1 => hQ r w9 hI9 ((FR.refl _ w).tr hF9 rfl) (by have := ti_add2 (Eq.refl x23_3.toInt) (by decide : (((-1) : Int32)).toInt = (-1)) (by omega) (by omega); have := (by decide : ((0 : Int32)).toInt = 0); omega) (by have := ti_add2 (Eq.refl x23_3.toInt) (by decide : (((-1) : Int32)).toInt = (-1)) (by omega) (by omega); have := (by decide : ((0 : Int32)).toInt = 0); omega))
        · have o4610 : 0 ≤ x23_3.toInt ∧ x23_3.toInt < 6 := by have := (by decide : ((0 : Int32)).toInt = 0); omega
          refine ⟨o4610, ?_⟩
          refine ⟨fun h4611 => ?_, fun h4611 => ?_⟩
          · have o4612 : (0 ≤ x23_1.toInt) ∧ (x23_1.toInt ≤ 43) ∧ ((-1) ≤ x23_2.toInt) ∧ (0 ≤ (x23_3 + ((-1) : Int32)).toInt) ∧ ((x23_3 + ((-1) : Int32)).toInt ≤ 5) := by have := ti_add2 (Eq.refl x23_3.toInt) (by decide : (((-1) : Int32)).toInt = (-1)) (by omega) (by omega); have := (by decide : ((0 : Int32)).toInt = 0); have := True.intro; have := bd_177 hI x23_3.toInt.toNat; exact ⟨by omega, by omega, by omega, by omega, by omega⟩
            exact ih _ _ w hI  o4612.1 o4612.2.1 o4612.2.2.1 o4612.2.2.2.1 o4612.2.2.2.2 (by have := ti_add2 (Eq.refl x23_3.toInt) (by decide : (((-1) : Int32)).toInt = (-1)) (by omega) (by omega); have := (by decide : ((0 : Int32)).toInt = 0); have := True.intro; have := bd_177 hI x23_3.toInt.toNat; omega) (fun w9 hI9 hF9 => hE w9 hI9 ((FR.refl _ w).tr hF9 rfl) ) (fun r w9 hI9 hF9 q0 q1 => hQ r w9 hI9 ((FR.refl _ w).tr hF9 rfl) (by have := ti_add2 (Eq.refl x23_3.toInt) (by decide : (((-1) : Int32)).toInt = (-1)) (by omega) (by omega); have := (by decide : ((0 : Int32)).toInt = 0); have := True.intro; have := bd_177 hI x23_3.toInt.toNat; omega) (by have := ti_add2 (Eq.refl x23_3.toInt) (by decide : (((-1) : Int32)).toInt = (-1)) (by omega) (by omega); have := (by decide : ((0 : Int32)).toInt = 0); have := True.intro; have := bd_177 hI x23_3.toInt.toNat; omega))
          · have o4613 : (1 ≤ x23_3.toInt) ∧ (x23_3.toInt ≤ 5) := by have := (by decide : ((0 : Int32)).toInt = 0); exact ⟨by omega, by omega⟩
            exact hQ _ _ hI (FR.refl _ w)  o4613.1 o4613.2
      · have o4614 : 0 ≤ (((6 : Int32) * x23_1) + x23_3).toInt ∧ (((6 : Int32) * x23_1) + x23_3).toInt < 264 := by have := ti_mul2 (by decide : ((6 : Int32)).toInt = 6) (Eq.refl x23_1.toInt) (by omega) (by omega); have := ti_add2 (Eq.refl ((6 : Int32) * x23_1).toInt) (Eq.refl x23_3.toInt) (by omega) (by omega); have := (by decide : ((0 : Int32)).toInt = 0); omega
        refine ⟨o4614, ?_⟩
        refine Eq.mpr (q_Mo_level_57.eq_1 _ _ _ _ _ _ _) ?_
        refine ⟨fun h4615 => ?_, fun h4615 => ?_⟩
        · exfalso; have := (by decide : ((0 : Int32)).toInt = 0); omega
        · have o4616 : 0 ≤ x23_3.toInt ∧ x23_3.toInt < 6 := by have := (by decide : ((0 : Int32)).toInt = 0); omega
          refine ⟨o4616, ?_⟩
          refine ⟨fun h4617 => ?_, fun h4617 => ?_⟩
          · have o4618 : (0 ≤ x23_1.toInt) ∧ (x23_1.toInt ≤ 43) ∧ ((-1) ≤ (w.1 174 ((((6 : Int32) * x23_1) + x23_3).toInt.toNat)).toInt) ∧ (0 ≤ (x23_3 + ((-1) : Int32)).toInt) ∧ ((x23_3 + ((-1) : Int32)).toInt ≤ 5) := by have := ti_add2 (Eq.refl x23_3.toInt) (by decide : (((-1) : Int32)).toInt = (-1)) (by omega) (by omega); have := (by decide : ((0 : Int32)).toInt = 0); have := True.intro; have := bd_177 hI x23_3.toInt.toNat; exact ⟨by omega, by omega, by omega, by omega, by omega⟩
            exact ih _ _ w hI  o4618.1 o4618.2.1 o4618.2.2.1 o4618.2.2.2.1 o4618.2.2.2.2 (by have := ti_add2 (Eq.refl x23_3.toInt) (by decide : (((-1) : Int32)).toInt = (-1)) (by omega) (by omega); have := (by decide : ((0 : Int32)).toInt = 0); have := True.intro; have := bd_177 hI x23_3.toInt.toNat; omega) (fun w9 hI9 hF9 => hE w9 hI9 ((FR.refl _ w).tr hF9 rfl) ) (fun r w9 hI9 hF9 q0 q1 => hQ r w9 hI9 ((FR.refl _ w).tr hF9 rfl) (by have := ti_add2 (Eq.refl x23_3.toInt) (by decide : (((-1) : Int32)).toInt = (-1)) (by omega) (by omega); have := (by decide : ((0 : Int32)).toInt = 0); have := True.intro; have := bd_177 hI x23_3.toInt.toNat; omega) (by have := ti_add2 (Eq.refl x23_3.toInt) (by decide : (((-1) : Int32)).toInt = (-1)) (by omega) (by omega); have := (by decide : ((0 : Int32)).toInt = 0); have := True.intro; have := bd_177 hI x23_3.toInt.toNat; omega))
          · have o4619 : (1 ≤ x23_3.toInt) ∧ (x23_3.toInt ≤ 5) := by have := (by decide : ((0 : Int32)).toInt = 0); exact ⟨by omega, by omega⟩
            exact hQ _ _ hI (FR.refl _ w)  o4619.1 o4619.2
set_option maxRecDepth 20000 in
set_option maxHeartbeats 2000000 in
theorem h_Mo_level {w : MW} {a0 : Int32} {Q : Int32 → MW → Prop} (hI : BND w) (hp0 : 0 ≤ a0.toInt) (hp1 : a0.toInt ≤ 43) (hp2 : a0.toInt < (w.1 127 4).toInt + (w.1 127 11).toInt) (hQ : ∀ (r : Int32) (w' : MW), BND w' → FR l_Mo_level w w' → 0 ≤ r.toInt → r.toInt ≤ 5 → Q r w') : p_Mo_level w a0 Q := by
  refine Eq.mpr (p_Mo_level.eq_1 _ _ _) ?_
  have o4620 : (0 ≤ a0.toInt) ∧ (a0.toInt ≤ 43) ∧ (a0.toInt < (w.1 127 4).toInt + (w.1 127 11).toInt) := by have := bd_127_4 hI; have := bd_127_11 hI; exact ⟨by omega, by omega, by omega⟩
  refine h_Mo_liquidIn hI  o4620.1 o4620.2.1 o4620.2.2 (fun r4624 w4621 hI4622 hL4623 p4625 p4626 => ?_)
  have hF4627 : FR l_Mo_level w w4621 := (FR.refl _ w).tr hL4623 rfl
  refine ⟨fun h4628 => ?_, fun h4628 => ?_⟩
  · have o4629 : (0 ≤ (0 : Int32).toInt) ∧ ((0 : Int32).toInt ≤ 5) := by have := (by decide : ((0 : Int32)).toInt = 0); exact ⟨by omega, by omega⟩
    exact hQ _ _ hI4622 hF4627  o4629.1 o4629.2
  · have o4630 : 0 ≤ a0.toInt ∧ a0.toInt < 44 := by have := bd_127_4 hI; have := bd_127_11 hI; omega
    refine ⟨o4630, ?_⟩
    refine ⟨fun h4631 => ?_, fun h4631 => ?_⟩
    · have o4632 : (0 ≤ a0.toInt) ∧ (a0.toInt ≤ 43) ∧ ((-1) ≤ ((-1) : Int32).toInt) ∧ (0 ≤ (5 : Int32).toInt) ∧ ((5 : Int32).toInt ≤ 5) := by have := (by decide : (((-1) : Int32)).toInt = (-1)); have := (by decide : ((5 : Int32)).toInt = 5); have := bd_127_4 hI; have := bd_127_11 hI; exact ⟨by omega, by omega, by omega, by omega, by omega⟩
      refine hq_Mo_level_23 FU _ _ w4621 hI4622  o4632.1 o4632.2.1 o4632.2.2.1 o4632.2.2.2.1 o4632.2.2.2.2 (fu_lt (by have := (by decide : (((-1) : Int32)).toInt = (-1)); have := (by decide : ((5 : Int32)).toInt = 5); have := bd_127_4 hI; have := bd_127_11 hI; omega)) (fun w4633 hI4634 hL4635  => ?_) (fun r w9 hI9 hF9 q0 q1 => hQ r w9 hI9 ((hF4627).tr hF9 rfl) (by have := (by decide : (((-1) : Int32)).toInt = (-1)); have := (by decide : ((5 : Int32)).toInt = 5); have := bd_127_4 hI; have := bd_127_11 hI; omega) (by have := (by decide : (((-1) : Int32)).toInt = (-1)); have := (by decide : ((5 : Int32)).toInt = 5); have := bd_127_4 hI; have := bd_127_11 hI; omega))
      have hF4636 : FR l_Mo_level w w4633 := hF4627.tr hL4635 rfl
      have o4637 : (0 ≤ (0 : Int32).toInt) ∧ ((0 : Int32).toInt ≤ 5) := by have := (by decide : ((0 : Int32)).toInt = 0); exact ⟨by omega, by omega⟩
      exact hQ _ _ hI4634 hF4636  o4637.1 o4637.2
    · have o4638 : (0 ≤ (0 : Int32).toInt) ∧ ((0 : Int32).toInt ≤ 5) := by have := (by decide : ((0 : Int32)).toInt = 0); exact ⟨by omega, by omega⟩
      exact hQ _ _ hI4622 hF4627  o4638.1 o4638.2
def l_Mo_litresIn_19 : Pl := []
def l_Mo_litresIn : Pl := []
set_option maxRecDepth 20000 in
set_option maxHeartbeats 2000000 in
theorem hq_Mo_litresIn_19 {x19_1 : Int32} {E : Int32 → MW → Prop} {Q : Int32 → MW → Prop} (n : Nat) : ∀ (x19_2 : Int32) (x19_3 : Int32) (w : MW), BND w → 0 ≤ x19_1.toInt → x19_1.toInt ≤ 43 → 0 ≤ x19_3.toInt → x19_3.toInt ≤ 200 → (w.1 127 4).toInt ≤ x19_1.toInt → x19_1.toInt < (w.1 127 4).toInt + (w.1 127 11).toInt → (200 - x19_3.toInt).toNat < n → (∀ (e19_2 : Int32) (w' : MW), BND w' → FR l_Mo_litresIn_19 w w' → E e19_2 w') → (∀ (r : Int32) (w' : MW), BND w' → FR l_Mo_litresIn_19 w w' → False → Q r w') → q_Mo_litresIn_19 x19_1 E Q n x19_2 x19_3 w := by
  induction n with
  | zero => intros; omega
  | succ n ih =>
    intro x19_2 x19_3 w hI  hp0 hp1 hp2 hp3 hp4 hp5 hm hE hQ
    rw [q_Mo_litresIn_19.eq_2]
    have o4639 : 0 ≤ (x19_1 - (w.1 127 4)).toInt ∧ (x19_1 - (w.1 127 4)).toInt < 24 := by have := bd_127_4 hI; have := ti_sub2 (Eq.refl x19_1.toInt) (Eq.refl (w.1 127 4).toInt) (by omega) (by omega); have := bd_127_11 hI; omega
    refine ⟨o4639, ?_⟩
    refine ⟨fun h4640 => ?_, fun h4640 => ?_⟩
    · exact hE _ _ hI (FR.refl _ w)
    · have o4641 : 0 ≤ (((200 : Int32) * (x19_1 - (w.1 127 4))) + x19_3).toInt ∧ (((200 : Int32) * (x19_1 - (w.1 127 4))) + x19_3).toInt < 4800 := by have := bd_127_4 hI; have := ti_sub2 (Eq.refl x19_1.toInt) (Eq.refl (w.1 127 4).toInt) (by omega) (by omega); have := ti_mul2 (by decide : ((200 : Int32)).toInt = 200) (Eq.refl (x19_1 - (w.1 127 4)).toInt) (by omega) (by omega); have := ti_add2 (Eq.refl ((200 : Int32) * (x19_1 - (w.1 127 4))).toInt) (Eq.refl x19_3.toInt) (by omega) (by omega); have := bd_127_11 hI; have := bd_169 hI ((x19_1 - (w.1 127 4)).toInt.toNat); omega
      refine ⟨o4641, ?_⟩
      refine ⟨fun h4642 => ?_, fun h4642 => ?_⟩
      · have o4643 : (0 ≤ x19_1.toInt) ∧ (x19_1.toInt ≤ 43) ∧ (0 ≤ (x19_3 + (1 : Int32)).toInt) ∧ ((x19_3 + (1 : Int32)).toInt ≤ 200) ∧ ((w.1 127 4).toInt ≤ x19_1.toInt) ∧ (x19_1.toInt < (w.1 127 4).toInt + (w.1 127 11).toInt) := by have := ti_lo x19_2; have := ti_hi x19_2; have := True.intro; have := ti_add2 (Eq.refl x19_3.toInt) (by decide : ((1 : Int32)).toInt = 1) (by omega) (by omega); have := bd_127_4 hI; have := bd_127_11 hI; have := bd_169 hI ((x19_1 - (w.1 127 4)).toInt.toNat); exact ⟨by omega, by omega, by omega, by omega, by omega, by omega⟩
        exact ih _ _ w hI  o4643.1 o4643.2.1 o4643.2.2.1 o4643.2.2.2.1 o4643.2.2.2.2.1 o4643.2.2.2.2.2 (by have := ti_lo x19_2; have := ti_hi x19_2; have := True.intro; have := ti_add2 (Eq.refl x19_3.toInt) (by decide : ((1 : Int32)).toInt = 1) (by omega) (by omega); have := bd_169 hI ((x19_1 - (w.1 127 4)).toInt.toNat); omega) (fun e0 w9 hI9 hF9 => hE e0 w9 hI9 ((FR.refl _ w).tr hF9 rfl) ) (fun r w9 hI9 hF9 q0 => q0.elim)
      · have o4644 : (0 ≤ x19_1.toInt) ∧ (x19_1.toInt ≤ 43) ∧ (0 ≤ (x19_3 + (1 : Int32)).toInt) ∧ ((x19_3 + (1 : Int32)).toInt ≤ 200) ∧ ((w.1 127 4).toInt ≤ x19_1.toInt) ∧ (x19_1.toInt < (w.1 127 4).toInt + (w.1 127 11).toInt) := by have := ti_lo x19_2; have := ti_hi x19_2; have := ti_add2 (Eq.refl x19_2.toInt) (by decide : ((0 : Int32)).toInt = 0) (by omega) (by omega); have := ti_add2 (Eq.refl x19_3.toInt) (by decide : ((1 : Int32)).toInt = 1) (by omega) (by omega); have := bd_127_4 hI; have := bd_127_11 hI; have := bd_169 hI ((x19_1 - (w.1 127 4)).toInt.toNat); exact ⟨by omega, by omega, by omega, by omega, by omega, by omega⟩
        exact ih _ _ w hI  o4644.1 o4644.2.1 o4644.2.2.1 o4644.2.2.2.1 o4644.2.2.2.2.1 o4644.2.2.2.2.2 (by have := ti_lo x19_2; have := ti_hi x19_2; have := ti_add2 (Eq.refl x19_2.toInt) (by decide : ((0 : Int32)).toInt = 0) (by omega) (by omega); have := ti_add2 (Eq.refl x19_3.toInt) (by decide : ((1 : Int32)).toInt = 1) (by omega) (by omega); have := bd_169 hI ((x19_1 - (w.1 127 4)).toInt.toNat); omega) (fun e0 w9 hI9 hF9 => hE e0 w9 hI9 ((FR.refl _ w).tr hF9 rfl) ) (fun r w9 hI9 hF9 q0 => q0.elim)
set_option maxRecDepth 20000 in
set_option maxHeartbeats 2000000 in
theorem h_Mo_litresIn {w : MW} {a0 : Int32} {Q : Int32 → MW → Prop} (hI : BND w) (hp0 : 0 ≤ a0.toInt) (hp1 : a0.toInt ≤ 43) (hp2 : a0.toInt < (w.1 127 4).toInt + (w.1 127 11).toInt) (hQ : ∀ (r : Int32) (w' : MW), BND w' → FR l_Mo_litresIn w w' → Q r w') : p_Mo_litresIn w a0 Q := by
  refine Eq.mpr (p_Mo_litresIn.eq_1 _ _ _) ?_
  refine ⟨fun h4645 => ?_, fun h4645 => ?_⟩
  · have o4646 : (0 ≤ a0.toInt) ∧ (a0.toInt ≤ 43) ∧ (0 ≤ (0 : Int32).toInt) ∧ ((0 : Int32).toInt ≤ 200) ∧ ((w.1 127 4).toInt ≤ a0.toInt) ∧ (a0.toInt < (w.1 127 4).toInt + (w.1 127 11).toInt) := by have := (by decide : ((0 : Int32)).toInt = 0); have := bd_127_4 hI; have := bd_127_11 hI; exact ⟨by omega, by omega, by omega, by omega, by omega, by omega⟩
    refine hq_Mo_litresIn_19 FU _ _ w hI  o4646.1 o4646.2.1 o4646.2.2.1 o4646.2.2.2.1 o4646.2.2.2.2.1 o4646.2.2.2.2.2 (fu_lt (by have := (by decide : ((0 : Int32)).toInt = 0); have := bd_127_4 hI; have := bd_127_11 hI; omega)) (fun e4650 w4647 hI4648 hL4649  => ?_) (fun r w9 hI9 hF9 q0 => q0.elim)
    have hF4651 : FR l_Mo_litresIn w w4647 := (FR.refl _ w).tr hL4649 rfl
    exact hQ _ _ hI4648 hF4651 
  · have o4652 : 0 ≤ a0.toInt ∧ a0.toInt < 20 := by have := bd_127_4 hI; have := bd_127_11 hI; omega
    refine ⟨o4652, ?_⟩
    exact hQ _ _ hI (FR.refl _ w) 
def l_Mo_space : Pl := []
set_option maxRecDepth 20000 in
set_option maxHeartbeats 2000000 in
theorem h_Mo_space {w : MW} {a0 : Int32} {b0 : Int32} {Q : Int32 → MW → Prop} (hI : BND w)  (hQ : ∀ (r : Int32) (w' : MW), BND w' → FR l_Mo_space w w' → Q r w') : p_Mo_space w a0 b0 Q := by
  refine Eq.mpr (p_Mo_space.eq_1 _ _ _ _) ?_
  refine ⟨fun h4653 => ?_, fun h4653 => ?_⟩
  · refine h_Mo_holdsLiquid hI   (fun r4657 w4654 hI4655 hL4656 p4658 p4659 p4660 => ?_)
    have hF4661 : FR l_Mo_space w w4654 := (FR.refl _ w).tr hL4656 rfl
    refine ⟨fun h4662 => ?_, fun h4662 => ?_⟩
    · exact hQ _ _ hI4655 hF4661
    · refine ⟨fun h4663 => ?_, fun h4663 => ?_⟩
      · exact hQ _ _ hI4655 hF4661
      · refine ⟨fun h4664 => ?_, fun h4664 => ?_⟩
        · refine ⟨fun h4665 => ?_, fun h4665 => ?_⟩
          · refine ⟨fun h4666 => ?_, fun h4666 => ?_⟩
            · refine ⟨fun h4667 => ?_, fun h4667 => ?_⟩
              · have o4668 : (0 ≤ a0.toInt) ∧ (a0.toInt ≤ 43) ∧ (a0.toInt < (w4654.1 127 4).toInt + (w4654.1 127 11).toInt) := by have := ti_lo a0; have := ti_hi a0; have := bd_127_4 hI4655; have := bd_127_4 hI; have := (congrArg Int32.toInt (hL4656 127 4 rfl).1); have := bd_127_11 hI4655; have := bd_127_11 hI; have := (congrArg Int32.toInt (hL4656 127 11 rfl).1); have := (by decide : ((0 : Int32)).toInt = 0); exact ⟨by omega, by omega, by omega⟩
                refine h_Mo_level hI4655  o4668.1 o4668.2.1 o4668.2.2 (fun r4672 w4669 hI4670 hL4671 p4673 p4674 => ?_)
                have hF4675 : FR l_Mo_space w w4669 := hF4661.tr hL4671 rfl
                exact hQ _ _ hI4670 hF4675 
              · have o4676 : 0 ≤ a0.toInt ∧ a0.toInt < 44 := by have := ti_lo a0; have := ti_hi a0; have := bd_127_4 hI; have := bd_127_11 hI; have := (by decide : ((0 : Int32)).toInt = 0); omega
                refine ⟨o4676, ?_⟩
                exact hQ _ _ hI4655 hF4661 
            · have o4677 : (0 ≤ a0.toInt) ∧ (a0.toInt ≤ 43) ∧ (a0.toInt < (w4654.1 127 4).toInt + (w4654.1 127 11).toInt) := by have := ti_lo a0; have := ti_hi a0; have := bd_127_4 hI4655; have := bd_127_4 hI; have := (congrArg Int32.toInt (hL4656 127 4 rfl).1); have := bd_127_11 hI4655; have := bd_127_11 hI; have := (congrArg Int32.toInt (hL4656 127 11 rfl).1); have := (by decide : ((0 : Int32)).toInt = 0); exact ⟨by omega, by omega, by omega⟩
              refine h_Mo_litresIn hI4655  o4677.1 o4677.2.1 o4677.2.2 (fun r4681 w4678 hI4679 hL4680  => ?_)
              have hF4682 : FR l_Mo_space w w4678 := hF4661.tr hL4680 rfl
              exact hQ _ _ hI4679 hF4682 
          · have o4683 : (0 ≤ a0.toInt) ∧ (a0.toInt ≤ 43) ∧ (a0.toInt < (w4654.1 127 4).toInt + (w4654.1 127 11).toInt) := by have := ti_lo a0; have := ti_hi a0; have := bd_127_4 hI4655; have := bd_127_4 hI; have := (congrArg Int32.toInt (hL4656 127 4 rfl).1); have := bd_127_11 hI4655; have := bd_127_11 hI; have := (congrArg Int32.toInt (hL4656 127 11 rfl).1); have := (by decide : ((0 : Int32)).toInt = 0); exact ⟨by omega, by omega, by omega⟩
            refine h_Mo_liquidIn hI4655  o4683.1 o4683.2.1 o4683.2.2 (fun r4687 w4684 hI4685 hL4686 p4688 p4689 => ?_)
            have hF4690 : FR l_Mo_space w w4684 := hF4661.tr hL4686 rfl
            exact hQ _ _ hI4685 hF4690 
        · exact hQ _ _ hI4655 hF4661
  · refine Eq.mpr (p_Mo_isValve.eq_1 _ _ _) ?_
    refine Eq.mpr (p_Mo_isThing.eq_1 _ _ _) ?_
    refine ⟨fun h4691 => ?_, fun h4691 => ?_⟩
    · refine ⟨fun _ => ?_, fun h => absurd (by decide) h⟩
      refine ⟨fun _ => ?_, fun h => absurd (by decide) h⟩
      exact hQ _ _ hI (FR.refl _ w) 
    · refine ⟨fun h4692 => ?_, fun h4692 => ?_⟩
      · refine ⟨fun _ => ?_, fun h => absurd (by decide) h⟩
        refine ⟨fun _ => ?_, fun h => absurd (by decide) h⟩
        exact hQ _ _ hI (FR.refl _ w) 
      · refine ⟨fun h => absurd h (by decide), fun _ => ?_⟩
        have o4693 : 0 ≤ a0.toInt ∧ a0.toInt < 20 := by have := (by decide : ((0 : Int32)).toInt = 0); have := bd_127_4 hI; omega
        refine ⟨o4693, ?_⟩
        refine ⟨fun h4694 => ?_, fun h4694 => ?_⟩
        · refine ⟨fun _ => ?_, fun h => absurd (by decide) h⟩
          exact hQ _ _ hI (FR.refl _ w) 
        · refine ⟨fun h => absurd h (by decide), fun _ => ?_⟩
          have o4695 : 0 ≤ a0.toInt ∧ a0.toInt < 20 := by have := (by decide : ((0 : Int32)).toInt = 0); have := bd_127_4 hI; omega
          refine ⟨o4695, ?_⟩
          exact hQ _ _ hI (FR.refl _ w) 
def l_Mo_mayCome_69 : Pl := []
def l_Mo_mayCome : Pl := []
set_option maxRecDepth 20000 in
set_option maxHeartbeats 2000000 in
theorem h_Mo_mayCome {w : MW} {a0 : Int32} {b0 : Int32} {Q : Int32 → MW → Prop} (hI : BND w) (hp0 : 0 ≤ a0.toInt) (hp1 : a0.toInt ≤ 15) (hp2 : 0 ≤ b0.toInt) (hp3 : b0.toInt ≤ 43) (hp4 : b0.toInt < (w.1 127 4).toInt + (w.1 127 11).toInt) (hQ : ∀ (r : Int32) (w' : MW), BND w' → FR l_Mo_mayCome w w' → 0 ≤ r.toInt → r.toInt ≤ 1 → Q r w') : p_Mo_mayCome w a0 b0 Q := by
  refine Eq.mpr (p_Mo_mayCome.eq_1 _ _ _ _) ?_
  have o4696 : (0 ≤ b0.toInt) ∧ (b0.toInt ≤ 43) ∧ (b0.toInt < (w.1 127 4).toInt + (w.1 127 11).toInt) := by have := bd_127_4 hI; have := bd_127_11 hI; exact ⟨by omega, by omega, by omega⟩
  refine h_Mo_liquidIn hI  o4696.1 o4696.2.1 o4696.2.2 (fun r4700 w4697 hI4698 hL4699 p4701 p4702 => ?_)
  have hF4703 : FR l_Mo_mayCome w w4697 := (FR.refl _ w).tr hL4699 rfl
  refine ⟨fun h4704 => ?_, fun h4704 => ?_⟩
  · have o4705 : 0 ≤ b0.toInt ∧ b0.toInt < 44 := by have := bd_127_4 hI; have := bd_127_11 hI; omega
    refine ⟨o4705, ?_⟩
    refine ⟨fun h4706 => ?_, fun h4706 => ?_⟩
    · have o4707 : 0 ≤ b0.toInt ∧ b0.toInt < 44 := by have := bd_127_4 hI; have := bd_127_11 hI; omega
      refine ⟨o4707, ?_⟩
      refine ⟨fun h4708 => ?_, fun h4708 => ?_⟩
      · refine Eq.mpr (q_Mo_mayCome_69.eq_1 _ _ _ _) ?_
        refine ⟨fun h => absurd h (by decide), fun _ => ?_⟩
        have o4709 : (0 ≤ b0.toInt) ∧ (b0.toInt ≤ 43) ∧ (b0.toInt < (w4697.1 127 4).toInt + (w4697.1 127 11).toInt) := by have := bd_127_4 hI4698; have := bd_127_4 hI; have := (congrArg Int32.toInt (hL4699 127 4 rfl).1); have := bd_127_11 hI4698; have := bd_127_11 hI; have := (congrArg Int32.toInt (hL4699 127 11 rfl).1); exact ⟨by omega, by omega, by omega⟩
        refine h_Mo_level hI4698  o4709.1 o4709.2.1 o4709.2.2 (fun r4713 w4710 hI4711 hL4712 p4714 p4715 => ?_)
        have hF4716 : FR l_Mo_mayCome w w4710 := hF4703.tr hL4712 rfl
        refine ⟨fun h4717 => ?_, fun h4717 => ?_⟩
        · replace h4717 : r4713.toInt < 5 := h4717
          have o4718 : (0 ≤ (0 : Int32).toInt) ∧ ((0 : Int32).toInt ≤ 1) := by have := (by decide : ((0 : Int32)).toInt = 0); exact ⟨by omega, by omega⟩
          exact hQ _ _ hI4711 hF4716  o4718.1 o4718.2
        · replace h4717 : ¬ (r4713.toInt < 5) := h4717
          have o4719 : (0 ≤ (1 : Int32).toInt) ∧ ((1 : Int32).toInt ≤ 1) := by have := (by decide : ((1 : Int32)).toInt = 1); exact ⟨by omega, by omega⟩
          exact hQ _ _ hI4711 hF4716  o4719.1 o4719.2
      · refine ⟨fun h4720 => ?_, fun h4720 => ?_⟩
        · have o4721 : 0 ≤ b0.toInt ∧ b0.toInt < 44 := by have := bd_127_4 hI; have := bd_127_11 hI; omega
          refine ⟨o4721, ?_⟩
          have o4722 : 0 ≤ (((16 : Int32) * (w4697.1 173 b0.toInt.toNat)) + a0).toInt ∧ (((16 : Int32) * (w4697.1 173 b0.toInt.toNat)) + a0).toInt < 256 := by have := bd_173 hI4698 b0.toInt.toNat; have := bd_173 hI b0.toInt.toNat; have := (congrArg Int32.toInt (hL4699 173 b0.toInt.toNat rfl).1); have := ti_mul2 (by decide : ((16 : Int32)).toInt = 16) (Eq.refl (w4697.1 173 b0.toInt.toNat).toInt) (by omega) (by omega); have := ti_add2 (Eq.refl ((16 : Int32) * (w4697.1 173 b0.toInt.toNat)).toInt) (Eq.refl a0.toInt) (by omega) (by omega); have := (by decide : ((0 : Int32)).toInt = 0); have := (by decide : ((15 : Int32)).toInt = 15); omega
          refine ⟨o4722, ?_⟩
          refine Eq.mpr (q_Mo_mayCome_69.eq_1 _ _ _ _) ?_
          refine ⟨fun h4723 => ?_, fun h4723 => ?_⟩
          · have o4724 : (0 ≤ (1 : Int32).toInt) ∧ ((1 : Int32).toInt ≤ 1) := by have := (by decide : ((1 : Int32)).toInt = 1); exact ⟨by omega, by omega⟩
            exact hQ _ _ hI4698 hF4703  o4724.1 o4724.2
          · have o4725 : (0 ≤ b0.toInt) ∧ (b0.toInt ≤ 43) ∧ (b0.toInt < (w4697.1 127 4).toInt + (w4697.1 127 11).toInt) := by have := bd_127_4 hI4698; have := bd_127_4 hI; have := (congrArg Int32.toInt (hL4699 127 4 rfl).1); have := bd_127_11 hI4698; have := bd_127_11 hI; have := (congrArg Int32.toInt (hL4699 127 11 rfl).1); exact ⟨by omega, by omega, by omega⟩
            refine h_Mo_level hI4698  o4725.1 o4725.2.1 o4725.2.2 (fun r4729 w4726 hI4727 hL4728 p4730 p4731 => ?_)
            have hF4732 : FR l_Mo_mayCome w w4726 := hF4703.tr hL4728 rfl
            refine ⟨fun h4733 => ?_, fun h4733 => ?_⟩
            · have o4734 : (0 ≤ (0 : Int32).toInt) ∧ ((0 : Int32).toInt ≤ 1) := by have := (by decide : ((0 : Int32)).toInt = 0); exact ⟨by omega, by omega⟩
              exact hQ _ _ hI4727 hF4732  o4734.1 o4734.2
            · have o4735 : (0 ≤ (1 : Int32).toInt) ∧ ((1 : Int32).toInt ≤ 1) := by have := (by decide : ((1 : Int32)).toInt = 1); exact ⟨by omega, by omega⟩
              exact hQ _ _ hI4727 hF4732  o4735.1 o4735.2
        · refine Eq.mpr (q_Mo_mayCome_69.eq_1 _ _ _ _) ?_
          refine ⟨fun h => absurd h (by decide), fun _ => ?_⟩
          have o4736 : (0 ≤ b0.toInt) ∧ (b0.toInt ≤ 43) ∧ (b0.toInt < (w4697.1 127 4).toInt + (w4697.1 127 11).toInt) := by have := bd_127_4 hI4698; have := bd_127_4 hI; have := (congrArg Int32.toInt (hL4699 127 4 rfl).1); have := bd_127_11 hI4698; have := bd_127_11 hI; have := (congrArg Int32.toInt (hL4699 127 11 rfl).1); exact ⟨by omega, by omega, by omega⟩
          refine h_Mo_level hI4698  o4736.1 o4736.2.1 o4736.2.2 (fun r4740 w4737 hI4738 hL4739 p4741 p4742 => ?_)
          have hF4743 : FR l_Mo_mayCome w w4737 := hF4703.tr hL4739 rfl
          refine ⟨fun h4744 => ?_, fun h4744 => ?_⟩
          · replace h4744 : r4740.toInt < 5 := h4744
            have o4745 : (0 ≤ (0 : Int32).toInt) ∧ ((0 : Int32).toInt ≤ 1) := by have := (by decide : ((0 : Int32)).toInt = 0); exact ⟨by omega, by omega⟩
            exact hQ _ _ hI4738 hF4743  o4745.1 o4745.2
          · replace h4744 : ¬ (r4740.toInt < 5) := h4744
            have o4746 : (0 ≤ (1 : Int32).toInt) ∧ ((1 : Int32).toInt ≤ 1) := by have := (by decide : ((1 : Int32)).toInt = 1); exact ⟨by omega, by omega⟩
            exact hQ _ _ hI4738 hF4743  o4746.1 o4746.2
    · have o4747 : (0 ≤ (1 : Int32).toInt) ∧ ((1 : Int32).toInt ≤ 1) := by have := (by decide : ((1 : Int32)).toInt = 1); exact ⟨by omega, by omega⟩
      exact hQ _ _ hI4698 hF4703  o4747.1 o4747.2
  · refine ⟨fun h4748 => ?_, fun h4748 => ?_⟩
    · have o4749 : (0 ≤ (0 : Int32).toInt) ∧ ((0 : Int32).toInt ≤ 1) := by have := (by decide : ((0 : Int32)).toInt = 0); exact ⟨by omega, by omega⟩
      exact hQ _ _ hI4698 hF4703  o4749.1 o4749.2
    · have o4750 : (0 ≤ (1 : Int32).toInt) ∧ ((1 : Int32).toInt ≤ 1) := by have := (by decide : ((1 : Int32)).toInt = 1); exact ⟨by omega, by omega⟩
      exact hQ _ _ hI4698 hF4703  o4750.1 o4750.2
def l_Mo_may_46 : Pl := [(175, none)]
def l_Mo_may : Pl := [(175, none)]
set_option maxRecDepth 20000 in
set_option maxHeartbeats 2000000 in
theorem h_Mo_may {w : MW} {a0 : Int32} {b0 : Int32} {Q : Int32 → MW → Prop} (hI : BND w)  (hQ : ∀ (r : Int32) (w' : MW), BND w' → FR l_Mo_may w w' → 0 ≤ r.toInt → r.toInt ≤ 1 → Q r w') : p_Mo_may w a0 b0 Q := by
  refine Eq.mpr (p_Mo_may.eq_1 _ _ _ _) ?_
  refine ⟨fun h4751 => ?_, fun h4751 => ?_⟩
  · refine Eq.mpr (q_Mo_may_46.eq_1 _ _ _ _ _) ?_
    refine ⟨fun _ => ?_, fun h => absurd (by decide) h⟩
    refine ⟨by decide, ?_⟩
    have o4752 : (0 ≤ (0 : Int32).toInt) ∧ ((0 : Int32).toInt ≤ 1) := by have := (by decide : ((0 : Int32)).toInt = 0); exact ⟨by omega, by omega⟩
    exact hQ _ _ hI (FR.refl _ w)  o4752.1 o4752.2
  · refine ⟨fun h4753 => ?_, fun h4753 => ?_⟩
    · refine Eq.mpr (q_Mo_may_46.eq_1 _ _ _ _ _) ?_
      refine ⟨fun _ => ?_, fun h => absurd (by decide) h⟩
      refine ⟨by decide, ?_⟩
      have o4754 : (0 ≤ (0 : Int32).toInt) ∧ ((0 : Int32).toInt ≤ 1) := by have := (by decide : ((0 : Int32)).toInt = 0); exact ⟨by omega, by omega⟩
      exact hQ _ _ hI (FR.refl _ w)  o4754.1 o4754.2
    · refine ⟨fun h4755 => ?_, fun h4755 => ?_⟩
      · refine Eq.mpr (q_Mo_may_46.eq_1 _ _ _ _ _) ?_
        refine ⟨fun _ => ?_, fun h => absurd (by decide) h⟩
        refine ⟨by decide, ?_⟩
        have o4756 : (0 ≤ (0 : Int32).toInt) ∧ ((0 : Int32).toInt ≤ 1) := by have := (by decide : ((0 : Int32)).toInt = 0); exact ⟨by omega, by omega⟩
        exact hQ _ _ hI (FR.refl _ w)  o4756.1 o4756.2
      · refine ⟨fun h4757 => ?_, fun h4757 => ?_⟩
        · refine Eq.mpr (q_Mo_may_46.eq_1 _ _ _ _ _) ?_
          refine ⟨fun _ => ?_, fun h => absurd (by decide) h⟩
          refine ⟨by decide, ?_⟩
          have o4758 : (0 ≤ (0 : Int32).toInt) ∧ ((0 : Int32).toInt ≤ 1) := by have := (by decide : ((0 : Int32)).toInt = 0); exact ⟨by omega, by omega⟩
          exact hQ _ _ hI (FR.refl _ w)  o4758.1 o4758.2
        · refine ⟨fun h4759 => ?_, fun h4759 => ?_⟩
          · refine Eq.mpr (q_Mo_may_46.eq_1 _ _ _ _ _) ?_
            refine ⟨fun _ => ?_, fun h => absurd (by decide) h⟩
            refine ⟨by decide, ?_⟩
            have o4760 : (0 ≤ (0 : Int32).toInt) ∧ ((0 : Int32).toInt ≤ 1) := by have := (by decide : ((0 : Int32)).toInt = 0); exact ⟨by omega, by omega⟩
            exact hQ _ _ hI (FR.refl _ w)  o4760.1 o4760.2
          · have o4761 : 0 ≤ (((16 : Int32) * a0) + b0).toInt ∧ (((16 : Int32) * a0) + b0).toInt < 256 := by have := ti_mul2 (by decide : ((16 : Int32)).toInt = 16) (Eq.refl a0.toInt) (by omega) (by omega); have := ti_add2 (Eq.refl ((16 : Int32) * a0).toInt) (Eq.refl b0.toInt) (by omega) (by omega); have := (by decide : ((1 : Int32)).toInt = 1); have := (by decide : ((14 : Int32)).toInt = 14); omega
            refine ⟨o4761, ?_⟩
            refine ⟨fun h4762 => ?_, fun h4762 => ?_⟩
            · refine Eq.mpr (q_Mo_may_46.eq_1 _ _ _ _ _) ?_
              refine ⟨fun _ => ?_, fun h => absurd (by decide) h⟩
              refine ⟨by decide, ?_⟩
              have o4763 : (0 ≤ (0 : Int32).toInt) ∧ ((0 : Int32).toInt ≤ 1) := by have := (by decide : ((0 : Int32)).toInt = 0); exact ⟨by omega, by omega⟩
              exact hQ _ _ hI (FR.refl _ w)  o4763.1 o4763.2
            · refine Eq.mpr (q_Mo_may_46.eq_1 _ _ _ _ _) ?_
              refine ⟨fun h => absurd h (by decide), fun _ => ?_⟩
              have o4764 : 0 ≤ (((16 : Int32) * a0) + b0).toInt ∧ (((16 : Int32) * a0) + b0).toInt < 256 := by have := ti_mul2 (by decide : ((16 : Int32)).toInt = 16) (Eq.refl a0.toInt) (by omega) (by omega); have := ti_add2 (Eq.refl ((16 : Int32) * a0).toInt) (Eq.refl b0.toInt) (by omega) (by omega); have := (by decide : ((1 : Int32)).toInt = 1); have := (by decide : ((14 : Int32)).toInt = 14); omega
              refine ⟨o4764, ?_⟩
              have o4765 : 0 ≤ (((16 : Int32) * b0) + a0).toInt ∧ (((16 : Int32) * b0) + a0).toInt < 256 := by have := ti_mul2 (by decide : ((16 : Int32)).toInt = 16) (Eq.refl b0.toInt) (by omega) (by omega); have := ti_add2 (Eq.refl ((16 : Int32) * b0).toInt) (Eq.refl a0.toInt) (by omega) (by omega); have := (by decide : ((1 : Int32)).toInt = 1); have := (by decide : ((14 : Int32)).toInt = 14); omega
              refine ⟨o4765, ?_⟩
              refine ⟨by decide, ?_⟩
              have o4767 : 0 ≤ (vp_nar .boolean (1 : Int32)).toInt ∧ (vp_nar .boolean (1 : Int32)).toInt ≤ 1 := by have := nb_bool1; omega
              have hI4766 : BND (sI w 175 ((((16 : Int32) * a0) + b0).toInt.toNat) (vp_nar .boolean (1 : Int32))) := wbd_175 hI ((((16 : Int32) * a0) + b0).toInt.toNat) o4767.1 o4767.2
              have o4769 : 0 ≤ (vp_nar .boolean (1 : Int32)).toInt ∧ (vp_nar .boolean (1 : Int32)).toInt ≤ 1 := by have := nb_bool1; omega
              have hI4768 : BND (sI (sI w 175 ((((16 : Int32) * a0) + b0).toInt.toNat) (vp_nar .boolean (1 : Int32))) 175 ((((16 : Int32) * b0) + a0).toInt.toNat) (vp_nar .boolean (1 : Int32))) := wbd_175 hI4766 ((((16 : Int32) * b0) + a0).toInt.toNat) o4769.1 o4769.2
              have o4770 : (0 ≤ (1 : Int32).toInt) ∧ ((1 : Int32).toInt ≤ 1) := by have := (by decide : ((1 : Int32)).toInt = 1); exact ⟨by omega, by omega⟩
              exact hQ _ _ hI4768 (FR.I (FR.I (FR.refl _ w) (k := 175) (j := (((16 : Int32) * a0) + b0).toInt.toNat) (v := (vp_nar .boolean (1 : Int32))) rfl) (k := 175) (j := (((16 : Int32) * b0) + a0).toInt.toNat) (v := (vp_nar .boolean (1 : Int32))) rfl)  o4770.1 o4770.2
def l_Mo_need : Pl := [(176, none)]
set_option maxRecDepth 20000 in
set_option maxHeartbeats 2000000 in
theorem h_Mo_need {w : MW} {a0 : Int32} {b0 : Int32} {c0 : Int32} {Q : Int32 → MW → Prop} (hI : BND w)  (hQ : ∀ (r : Int32) (w' : MW), BND w' → FR l_Mo_need w w' → 0 ≤ r.toInt → r.toInt ≤ 1 → Q r w') : p_Mo_need w a0 b0 c0 Q := by
  refine Eq.mpr (p_Mo_need.eq_1 _ _ _ _ _) ?_
  refine ⟨fun h4771 => ?_, fun h4771 => ?_⟩
  · have o4772 : (0 ≤ (0 : Int32).toInt) ∧ ((0 : Int32).toInt ≤ 1) := by have := (by decide : ((0 : Int32)).toInt = 0); exact ⟨by omega, by omega⟩
    exact hQ _ _ hI (FR.refl _ w)  o4772.1 o4772.2
  · refine ⟨fun h4773 => ?_, fun h4773 => ?_⟩
    · have o4774 : (0 ≤ (0 : Int32).toInt) ∧ ((0 : Int32).toInt ≤ 1) := by have := (by decide : ((0 : Int32)).toInt = 0); exact ⟨by omega, by omega⟩
      exact hQ _ _ hI (FR.refl _ w)  o4774.1 o4774.2
    · refine ⟨fun h4775 => ?_, fun h4775 => ?_⟩
      · have o4776 : (0 ≤ (0 : Int32).toInt) ∧ ((0 : Int32).toInt ≤ 1) := by have := (by decide : ((0 : Int32)).toInt = 0); exact ⟨by omega, by omega⟩
        exact hQ _ _ hI (FR.refl _ w)  o4776.1 o4776.2
      · refine ⟨fun h4777 => ?_, fun h4777 => ?_⟩
        · have o4778 : (0 ≤ (0 : Int32).toInt) ∧ ((0 : Int32).toInt ≤ 1) := by have := (by decide : ((0 : Int32)).toInt = 0); exact ⟨by omega, by omega⟩
          exact hQ _ _ hI (FR.refl _ w)  o4778.1 o4778.2
        · refine ⟨fun h4779 => ?_, fun h4779 => ?_⟩
          · have o4780 : (0 ≤ (0 : Int32).toInt) ∧ ((0 : Int32).toInt ≤ 1) := by have := (by decide : ((0 : Int32)).toInt = 0); exact ⟨by omega, by omega⟩
            exact hQ _ _ hI (FR.refl _ w)  o4780.1 o4780.2
          · refine ⟨fun h4781 => ?_, fun h4781 => ?_⟩
            · have o4782 : 0 ≤ (((16 : Int32) * a0) + b0).toInt ∧ (((16 : Int32) * a0) + b0).toInt < 256 := by have := ti_mul2 (by decide : ((16 : Int32)).toInt = 16) (Eq.refl a0.toInt) (by omega) (by omega); have := ti_add2 (Eq.refl ((16 : Int32) * a0).toInt) (Eq.refl b0.toInt) (by omega) (by omega); have := (by decide : ((1 : Int32)).toInt = 1); have := (by decide : ((14 : Int32)).toInt = 14); omega
              refine ⟨o4782, ?_⟩
              have o4784 : 0 ≤ c0.toInt ∧ c0.toInt ≤ 5 := by have := (by decide : ((0 : Int32)).toInt = 0); have := (by decide : ((5 : Int32)).toInt = 5); omega
              have hI4783 : BND (sI w 176 ((((16 : Int32) * a0) + b0).toInt.toNat) c0) := wbd_176 hI ((((16 : Int32) * a0) + b0).toInt.toNat) o4784.1 o4784.2
              have o4785 : (0 ≤ (1 : Int32).toInt) ∧ ((1 : Int32).toInt ≤ 1) := by have := (by decide : ((1 : Int32)).toInt = 1); exact ⟨by omega, by omega⟩
              exact hQ _ _ hI4783 (FR.I (FR.refl _ w) (k := 176) (j := (((16 : Int32) * a0) + b0).toInt.toNat) (v := c0) rfl)  o4785.1 o4785.2
            · have o4786 : (0 ≤ (0 : Int32).toInt) ∧ ((0 : Int32).toInt ≤ 1) := by have := (by decide : ((0 : Int32)).toInt = 0); exact ⟨by omega, by omega⟩
              exact hQ _ _ hI (FR.refl _ w)  o4786.1 o4786.2
