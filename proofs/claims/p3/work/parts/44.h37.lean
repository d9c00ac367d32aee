def l_Mr_number_42 : Pl := []
def l_Mr_number_27 : Pl := []
def l_Mr_number : Pl := []
set_option maxRecDepth 20000 in
set_option maxHeartbeats 2000000 in
theorem hq_Mr_number_42 {x42_2 : Int32} {x42_3 : Int32} {E : Int32 → MW → Prop} {Q : Int32 → MW → Prop} (n : Nat) : ∀ (x42_4 : Int32) (x42_5 : Int32) (w : MW), BND w → 15 ≤ x42_2.toInt → x42_2.toInt ≤ 3600 → 1 ≤ x42_3.toInt → x42_3.toInt ≤ 5 → 0 ≤ x42_4.toInt → x42_4.toInt ≤ 9999 → 0 ≤ x42_5.toInt → x42_5.toInt ≤ 5 → 0 ≤ x42_4.toInt → x42_3.toInt - x42_5.toInt ≤ 4 → x42_3.toInt - x42_5.toInt < 0 ∨ x42_4.toInt ≤ 9999 → x42_3.toInt - x42_5.toInt < 1 ∨ x42_4.toInt ≤ 999 → x42_3.toInt - x42_5.toInt < 2 ∨ x42_4.toInt ≤ 99 → x42_3.toInt - x42_5.toInt < 3 ∨ x42_4.toInt ≤ 9 → x42_3.toInt - x42_5.toInt < 4 ∨ x42_4.toInt ≤ 0 → x42_5.toInt ≤ x42_3.toInt → (5 - x42_5.toInt).toNat < n → (∀ (e42_4 : Int32) (w' : MW), BND w' → FR l_Mr_number_42 w w' → 0 ≤ e42_4.toInt → e42_4.toInt ≤ 9999 → 0 ≤ e42_4.toInt → e42_4.toInt ≤ 9999 → E e42_4 w') → (∀ (r : Int32) (w' : MW), BND w' → FR l_Mr_number_42 w w' → (-1) ≤ r.toInt → r.toInt ≤ (-1) → Q r w') → q_Mr_number_42 x42_2 x42_3 E Q n x42_4 x42_5 w := by
  induction n with
  | zero => intros; omega
  | succ n ih =>
    intro x42_4 x42_5 w hI  hp0 hp1 hp2 hp3 hp4 hp5 hp6 hp7 hp8 hp9 hp10 hp11 hp12 hp13 hp14 hp15 hm hE hQ
    rw [q_Mr_number_42.eq_2]
    refine ⟨fun h9636 => ?_, fun h9636 => ?_⟩
    · have o9637 : (0 ≤ x42_4.toInt) ∧ (x42_4.toInt ≤ 9999) ∧ (0 ≤ x42_4.toInt) ∧ (x42_4.toInt ≤ 9999) := by exact ⟨by omega, by omega, by omega, by omega⟩
      exact hE _ _ hI (FR.refl _ w) o9637.1 o9637.2.1 o9637.2.2.1 o9637.2.2.2
    · have o9638 : (0 ≤ x42_5.toInt) ∧ (x42_5.toInt ≤ 6) := by exact ⟨by omega, by omega⟩
      refine h_Mr_at hI  o9638.1 o9638.2 (fun r9642 w9639 hI9640 hL9641 p9643 p9644 => ?_)
      have hF9645 : FR l_Mr_number_42 w w9639 := (FR.refl _ w).tr hL9641 rfl
      refine ⟨fun h9646 => ?_, fun h9646 => ?_⟩
      · have o9647 : ((-1) ≤ ((-1) : Int32).toInt) ∧ (((-1) : Int32).toInt ≤ (-1)) := by have := (by decide : (((-1) : Int32)).toInt = (-1)); exact ⟨by omega, by omega⟩
        exact hQ _ _ hI9640 hF9645  o9647.1 o9647.2
      · refine ⟨fun h9648 => ?_, fun h9648 => ?_⟩
        · have o9649 : (15 ≤ x42_2.toInt) ∧ (x42_2.toInt ≤ 3600) ∧ (1 ≤ x42_3.toInt) ∧ (x42_3.toInt ≤ 5) ∧ (0 ≤ ((((10 : Int32) * x42_4) + r9642) - (48 : Int32)).toInt) ∧ (((((10 : Int32) * x42_4) + r9642) - (48 : Int32)).toInt ≤ 9999) ∧ (0 ≤ (x42_5 + (1 : Int32)).toInt) ∧ ((x42_5 + (1 : Int32)).toInt ≤ 5) ∧ (0 ≤ ((((10 : Int32) * x42_4) + r9642) - (48 : Int32)).toInt) ∧ (x42_3.toInt - (x42_5 + (1 : Int32)).toInt ≤ 4) ∧ (x42_3.toInt - (x42_5 + (1 : Int32)).toInt < 0 ∨ ((((10 : Int32) * x42_4) + r9642) - (48 : Int32)).toInt ≤ 9999) ∧ (x42_3.toInt - (x42_5 + (1 : Int32)).toInt < 1 ∨ ((((10 : Int32) * x42_4) + r9642) - (48 : Int32)).toInt ≤ 999) ∧ (x42_3.toInt - (x42_5 + (1 : Int32)).toInt < 2 ∨ ((((10 : Int32) * x42_4) + r9642) - (48 : Int32)).toInt ≤ 99) ∧ (x42_3.toInt - (x42_5 + (1 : Int32)).toInt < 3 ∨ ((((10 : Int32) * x42_4) + r9642) - (48 : Int32)).toInt ≤ 9) ∧ (x42_3.toInt - (x42_5 + (1 : Int32)).toInt < 4 ∨ ((((10 : Int32) * x42_4) + r9642) - (48 : Int32)).toInt ≤ 0) ∧ ((x42_5 + (1 : Int32)).toInt ≤ x42_3.toInt) := by have := (by decide : ((48 : Int32)).toInt = 48); have := (by decide : ((57 : Int32)).toInt = 57); have := ti_mul2 (by decide : ((10 : Int32)).toInt = 10) (Eq.refl x42_4.toInt) (by omega) (by omega); have := ti_add2 (Eq.refl ((10 : Int32) * x42_4).toInt) (Eq.refl r9642.toInt) (by omega) (by omega); have := ti_sub2 (Eq.refl (((10 : Int32) * x42_4) + r9642).toInt) (by decide : ((48 : Int32)).toInt = 48) (by omega) (by omega); have := ti_add2 (Eq.refl x42_5.toInt) (by decide : ((1 : Int32)).toInt = 1) (by omega) (by omega); exact ⟨by omega, by omega, by omega, by omega, by omega, by omega, by omega, by omega, by omega, by omega, by omega, by omega, by omega, by omega, by omega, by omega⟩
          exact ih _ _ w9639 hI9640  o9649.1 o9649.2.1 o9649.2.2.1 o9649.2.2.2.1 o9649.2.2.2.2.1 o9649.2.2.2.2.2.1 o9649.2.2.2.2.2.2.1 o9649.2.2.2.2.2.2.2.1 o9649.2.2.2.2.2.2.2.2.1 o9649.2.2.2.2.2.2.2.2.2.1 o9649.2.2.2.2.2.2.2.2.2.2.1 o9649.2.2.2.2.2.2.2.2.2.2.2.1 o9649.2.2.2.2.2.2.2.2.2.2.2.2.1 o9649.2.2.2.2.2.2.2.2.2.2.2.2.2.1 o9649.2.2.2.2.2.2.2.2.2.2.2.2.2.2.1 o9649.2.2.2.2.2.2.2.2.2.2.2.2.2.2.2 (by have := (by decide : ((48 : Int32)).toInt = 48); have := (by decide : ((57 : Int32)).toInt = 57); have := ti_mul2 (by decide : ((10 : Int32)).toInt = 10) (Eq.refl x42_4.toInt) (by omega) (by omega); have := ti_add2 (Eq.refl ((10 : Int32) * x42_4).toInt) (Eq.refl r9642.toInt) (by omega) (by omega); have := ti_sub2 (Eq.refl (((10 : Int32) * x42_4) + r9642).toInt) (by decide : ((48 : Int32)).toInt = 48) (by omega) (by omega); have := ti_add2 (Eq.refl x42_5.toInt) (by decide : ((1 : Int32)).toInt = 1) (by omega) (by omega); omega) (fun e0 w9 hI9 hF9 p0 p1 u0 u1 => hE e0 w9 hI9 (hF9645.tr hF9 rfl) p0 p1 (by have := (by decide : ((48 : Int32)).toInt = 48); have := (by decide : ((57 : Int32)).toInt = 57); have := ti_mul2 (by decide : ((10 : Int32)).toInt = 10) (Eq.refl x42_4.toInt) (by omega) (by omega); have := ti_add2 (Eq.refl ((10 : Int32) * x42_4).toInt) (Eq.refl r9642.toInt) (by omega) (by omega); have := ti_sub2 (Eq.refl (((10 : Int32) * x42_4) + r9642).toInt) (by decide : ((48 : Int32)).toInt = 48) (by omega) (by omega); have := ti_add2 (Eq.refl x42_5.toInt) (by decide : ((1 : Int32)).toInt = 1) (by omega) (by omega); omega) (by have := (by decide : ((48 : Int32)).toInt = 48); have := (by decide : ((57 : Int32)).toInt = 57); have := ti_mul2 (by decide : ((10 : Int32)).toInt = 10) (Eq.refl x42_4.toInt) (by omega) (by omega); have := ti_add2 (Eq.refl ((10 : Int32) * x42_4).toInt) (Eq.refl r9642.toInt) (by omega) (by omega); have := ti_sub2 (Eq.refl (((10 : Int32) * x42_4) + r9642).toInt) (by decide : ((48 : Int32)).toInt = 48) (by omega) (by omega); have := ti_add2 (Eq.refl x42_5.toInt) (by decide : ((1 : Int32)).toInt = 1) (by omega) (by omega); omega)) (fun r w9 hI9 hF9 q0 q1 => hQ r w9 hI9 (hF9645.tr hF9 rfl) (by have := (by decide : ((48 : Int32)).toInt = 48); have := (by decide : ((57 : Int32)).toInt = 57); have := ti_mul2 (by decide : ((10 : Int32)).toInt = 10) (Eq.refl x42_4.toInt) (by omega) (by omega); have := ti_add2 (Eq.refl ((10 : Int32) * x42_4).toInt) (Eq.refl r9642.toInt) (by omega) (by omega); have := ti_sub2 (Eq.refl (((10 : Int32) * x42_4) + r9642).toInt) (by decide : ((48 : Int32)).toInt = 48) (by omega) (by omega); have := ti_add2 (Eq.refl x42_5.toInt) (by decide : ((1 : Int32)).toInt = 1) (by omega) (by omega); omega) (by have := (by decide : ((48 : Int32)).toInt = 48); have := (by decide : ((57 : Int32)).toInt = 57); have := ti_mul2 (by decide : ((10 : Int32)).toInt = 10) (Eq.refl x42_4.toInt) (by omega) (by omega); have := ti_add2 (Eq.refl ((10 : Int32) * x42_4).toInt) (Eq.refl r9642.toInt) (by omega) (by omega); have := ti_sub2 (Eq.refl (((10 : Int32) * x42_4) + r9642).toInt) (by decide : ((48 : Int32)).toInt = 48) (by omega) (by omega); have := ti_add2 (Eq.refl x42_5.toInt) (by decide : ((1 : Int32)).toInt = 1) (by omega) (by omega); omega))
        · have o9650 : ((-1) ≤ ((-1) : Int32).toInt) ∧ (((-1) : Int32).toInt ≤ (-1)) := by have := (by decide : (((-1) : Int32)).toInt = (-1)); exact ⟨by omega, by omega⟩
          exact hQ _ _ hI9640 hF9645  o9650.1 o9650.2
set_option maxRecDepth 20000 in
set_option maxHeartbeats 2000000 in
theorem h_Mr_number {w : MW} {a0 : Int32} {b0 : Int32} {Q : Int32 → MW → Prop} (hI : BND w) (hp0 : 0 ≤ a0.toInt) (hp1 : a0.toInt ≤ 1) (hp2 : 15 ≤ b0.toInt) (hp3 : b0.toInt ≤ 3600) (hQ : ∀ (r : Int32) (w' : MW), BND w' → FR l_Mr_number w w' → (-1) ≤ r.toInt → r.toInt ≤ 9999 → -1 ≤ r.toInt → r.toInt < 0 ∨ r.toInt ≤ b0.toInt → r.toInt < 0 ∨ ((w.1 147 5).toInt < (w.1 147 4).toInt ∧ a0.toInt < (w.1 150 ((w.1 147 5).toInt.toNat)).toInt - (w.1 149 ((w.1 147 5).toInt.toNat)).toInt) → Q r w') : p_Mr_number w a0 b0 Q := by
  refine Eq.mpr (p_Mr_number.eq_1 _ _ _ _) ?_
  refine Eq.mpr (p_Mr_wide.eq_1 _ _) ?_
  refine ⟨fun h9651 => ?_, fun h9651 => ?_⟩
  · refine ⟨fun h9652 => ?_, fun h9652 => ?_⟩
    · replace h9652 : 0 ≤ a0.toInt := h9652
      have o9653 : ((-1) ≤ ((-1) : Int32).toInt) ∧ (((-1) : Int32).toInt ≤ 9999) ∧ (-1 ≤ ((-1) : Int32).toInt) ∧ (((-1) : Int32).toInt < 0 ∨ ((-1) : Int32).toInt ≤ b0.toInt) ∧ (((-1) : Int32).toInt < 0 ∨ ((w.1 147 5).toInt < (w.1 147 4).toInt ∧ a0.toInt < (w.1 150 ((w.1 147 5).toInt.toNat)).toInt - (w.1 149 ((w.1 147 5).toInt.toNat)).toInt)) := by have := (by decide : (((-1) : Int32)).toInt = (-1)); have := bd_147_5 hI; have := bd_147_4 hI; have := bd_150 hI ((w.1 147 5).toInt.toNat); have := bd_149 hI ((w.1 147 5).toInt.toNat); exact ⟨by omega, by omega, by omega, by omega, by omega⟩
      exact hQ _ _ hI (FR.refl _ w)  o9653.1 o9653.2.1 o9653.2.2.1 o9653.2.2.2.1 o9653.2.2.2.2
    · replace h9652 : ¬ (0 ≤ a0.toInt) := h9652
      exfalso; have := bd_147_5 hI; have := bd_147_4 hI; have := (by decide : ((0 : Int32)).toInt = 0); omega
  · have o9654 : 0 ≤ (w.1 147 5).toInt ∧ (w.1 147 5).toInt < 4021 := by have := bd_147_5 hI; have := bd_147_4 hI; omega
    refine ⟨o9654, ?_⟩
    have o9655 : 0 ≤ (w.1 147 5).toInt ∧ (w.1 147 5).toInt < 4021 := by have := bd_147_5 hI; have := bd_147_4 hI; omega
    refine ⟨o9655, ?_⟩
    refine ⟨fun h9656 => ?_, fun h9656 => ?_⟩
    · have o9657 : ((-1) ≤ ((-1) : Int32).toInt) ∧ (((-1) : Int32).toInt ≤ 9999) ∧ (-1 ≤ ((-1) : Int32).toInt) ∧ (((-1) : Int32).toInt < 0 ∨ ((-1) : Int32).toInt ≤ b0.toInt) ∧ (((-1) : Int32).toInt < 0 ∨ ((w.1 147 5).toInt < (w.1 147 4).toInt ∧ a0.toInt < (w.1 150 ((w.1 147 5).toInt.toNat)).toInt - (w.1 149 ((w.1 147 5).toInt.toNat)).toInt)) := by have := (by decide : (((-1) : Int32)).toInt = (-1)); have := bd_147_5 hI; have := bd_147_4 hI; have := bd_150 hI ((w.1 147 5).toInt.toNat); have := bd_149 hI ((w.1 147 5).toInt.toNat); have := ti_sub2 (Eq.refl (w.1 150 ((w.1 147 5).toInt.toNat)).toInt) (Eq.refl (w.1 149 ((w.1 147 5).toInt.toNat)).toInt) (by omega) (by omega); exact ⟨by omega, by omega, by omega, by omega, by omega⟩
      exact hQ _ _ hI (FR.refl _ w)  o9657.1 o9657.2.1 o9657.2.2.1 o9657.2.2.2.1 o9657.2.2.2.2
    · have o9658 : (0 ≤ a0.toInt) ∧ (a0.toInt ≤ 6) := by have := bd_150 hI ((w.1 147 5).toInt.toNat); have := bd_149 hI ((w.1 147 5).toInt.toNat); have := ti_sub2 (Eq.refl (w.1 150 ((w.1 147 5).toInt.toNat)).toInt) (Eq.refl (w.1 149 ((w.1 147 5).toInt.toNat)).toInt) (by omega) (by omega); exact ⟨by omega, by omega⟩
      refine h_Mr_at hI  o9658.1 o9658.2 (fun r9662 w9659 hI9660 hL9661 p9663 p9664 => ?_)
      have hF9665 : FR l_Mr_number w w9659 := (FR.refl _ w).tr hL9661 rfl
      refine ⟨fun h9666 => ?_, fun h9666 => ?_⟩
      · refine Eq.mpr (q_Mr_number_27.eq_1 _ _ _ _ _) ?_
        refine ⟨fun h9667 => ?_, fun h9667 => ?_⟩
        · have o9668 : (15 ≤ b0.toInt) ∧ (b0.toInt ≤ 3600) ∧ (1 ≤ ((w.1 150 ((w.1 147 5).toInt.toNat)) - (w.1 149 ((w.1 147 5).toInt.toNat))).toInt) ∧ (((w.1 150 ((w.1 147 5).toInt.toNat)) - (w.1 149 ((w.1 147 5).toInt.toNat))).toInt ≤ 5) ∧ (0 ≤ (0 : Int32).toInt) ∧ ((0 : Int32).toInt ≤ 9999) ∧ (0 ≤ a0.toInt) ∧ (a0.toInt ≤ 5) ∧ (0 ≤ (0 : Int32).toInt) ∧ (((w.1 150 ((w.1 147 5).toInt.toNat)) - (w.1 149 ((w.1 147 5).toInt.toNat))).toInt - a0.toInt ≤ 4) ∧ (((w.1 150 ((w.1 147 5).toInt.toNat)) - (w.1 149 ((w.1 147 5).toInt.toNat))).toInt - a0.toInt < 0 ∨ (0 : Int32).toInt ≤ 9999) ∧ (((w.1 150 ((w.1 147 5).toInt.toNat)) - (w.1 149 ((w.1 147 5).toInt.toNat))).toInt - a0.toInt < 1 ∨ (0 : Int32).toInt ≤ 999) ∧ (((w.1 150 ((w.1 147 5).toInt.toNat)) - (w.1 149 ((w.1 147 5).toInt.toNat))).toInt - a0.toInt < 2 ∨ (0 : Int32).toInt ≤ 99) ∧ (((w.1 150 ((w.1 147 5).toInt.toNat)) - (w.1 149 ((w.1 147 5).toInt.toNat))).toInt - a0.toInt < 3 ∨ (0 : Int32).toInt ≤ 9) ∧ (((w.1 150 ((w.1 147 5).toInt.toNat)) - (w.1 149 ((w.1 147 5).toInt.toNat))).toInt - a0.toInt < 4 ∨ (0 : Int32).toInt ≤ 0) ∧ (a0.toInt ≤ ((w.1 150 ((w.1 147 5).toInt.toNat)) - (w.1 149 ((w.1 147 5).toInt.toNat))).toInt) := by have := bd_150 hI ((w.1 147 5).toInt.toNat); have := bd_149 hI ((w.1 147 5).toInt.toNat); have := (by decide : ((0 : Int32)).toInt = 0); have := ti_sub2 (Eq.refl (w.1 150 ((w.1 147 5).toInt.toNat)).toInt) (Eq.refl (w.1 149 ((w.1 147 5).toInt.toNat)).toInt) (by omega) (by omega); have := ti_add2 (Eq.refl a0.toInt) (by decide : ((4 : Int32)).toInt = 4) (by omega) (by omega); exact ⟨by omega, by omega, by omega, by omega, by omega, by omega, by omega, by omega, by omega, by omega, by omega, by omega, by omega, by omega, by omega, by omega⟩
          refine hq_Mr_number_42 FU _ _ w9659 hI9660  o9668.1 o9668.2.1 o9668.2.2.1 o9668.2.2.2.1 o9668.2.2.2.2.1 o9668.2.2.2.2.2.1 o9668.2.2.2.2.2.2.1 o9668.2.2.2.2.2.2.2.1 o9668.2.2.2.2.2.2.2.2.1 o9668.2.2.2.2.2.2.2.2.2.1 o9668.2.2.2.2.2.2.2.2.2.2.1 o9668.2.2.2.2.2.2.2.2.2.2.2.1 o9668.2.2.2.2.2.2.2.2.2.2.2.2.1 o9668.2.2.2.2.2.2.2.2.2.2.2.2.2.1 o9668.2.2.2.2.2.2.2.2.2.2.2.2.2.2.1 o9668.2.2.2.2.2.2.2.2.2.2.2.2.2.2.2 (fu_lt (by have := bd_150 hI ((w.1 147 5).toInt.toNat); have := bd_149 hI ((w.1 147 5).toInt.toNat); have := (by decide : ((0 : Int32)).toInt = 0); have := ti_sub2 (Eq.refl (w.1 150 ((w.1 147 5).toInt.toNat)).toInt) (Eq.refl (w.1 149 ((w.1 147 5).toInt.toNat)).toInt) (by omega) (by omega); have := ti_add2 (Eq.refl a0.toInt) (by decide : ((4 : Int32)).toInt = 4) (by omega) (by omega); omega)) (fun e9672 w9669 hI9670 hL9671 p9673 p9674 p9675 p9676 => ?_) (fun r w9 hI9 hF9 q0 q1 => hQ r w9 hI9 ((hF9665).tr hF9 rfl) (by have := bd_150 hI ((w.1 147 5).toInt.toNat); have := bd_149 hI ((w.1 147 5).toInt.toNat); have := (by decide : ((0 : Int32)).toInt = 0); have := bd_147_5 hI9660; have := bd_147_5 hI; have := (congrArg Int32.toInt (hL9661 147 5 rfl).1); have := bd_147_4 hI9660; have := bd_147_4 hI; have := (congrArg Int32.toInt (hL9661 147 4 rfl).1); have := bd_150 hI9660 ((w9659.1 147 5).toInt.toNat); have := bd_150 hI ((w9659.1 147 5).toInt.toNat); have := (congrArg Int32.toInt (hL9661 150 ((w9659.1 147 5).toInt.toNat) rfl).1); have := bd_149 hI9660 ((w9659.1 147 5).toInt.toNat); have := bd_149 hI ((w9659.1 147 5).toInt.toNat); have := (congrArg Int32.toInt (hL9661 149 ((w9659.1 147 5).toInt.toNat) rfl).1); have := ti_sub2 (Eq.refl (w.1 150 ((w.1 147 5).toInt.toNat)).toInt) (Eq.refl (w.1 149 ((w.1 147 5).toInt.toNat)).toInt) (by omega) (by omega); have := (by rw [(hL9661 150 _ rfl).1, (hL9661 147 _ rfl).1] : (w9659.1 150 ((w9659.1 147 5).toInt.toNat)).toInt = (w.1 150 ((w.1 147 5).toInt.toNat)).toInt); have := (by rw [(hL9661 149 _ rfl).1, (hL9661 147 _ rfl).1] : (w9659.1 149 ((w9659.1 147 5).toInt.toNat)).toInt = (w.1 149 ((w.1 147 5).toInt.toNat)).toInt); have := ti_add2 (Eq.refl a0.toInt) (by decide : ((4 : Int32)).toInt = 4) (by omega) (by omega); omega) (by have := bd_150 hI ((w.1 147 5).toInt.toNat); have := bd_149 hI ((w.1 147 5).toInt.toNat); have := (by decide : ((0 : Int32)).toInt = 0); have := bd_147_5 hI9660; have := bd_147_5 hI; have := (congrArg Int32.toInt (hL9661 147 5 rfl).1); have := bd_147_4 hI9660; have := bd_147_4 hI; have := (congrArg Int32.toInt (hL9661 147 4 rfl).1); have := bd_150 hI9660 ((w9659.1 147 5).toInt.toNat); have := bd_150 hI ((w9659.1 147 5).toInt.toNat); have := (congrArg Int32.toInt (hL9661 150 ((w9659.1 147 5).toInt.toNat) rfl).1); have := bd_149 hI9660 ((w9659.1 147 5).toInt.toNat); have := bd_149 hI ((w9659.1 147 5).toInt.toNat); have := (congrArg Int32.toInt (hL9661 149 ((w9659.1 147 5).toInt.toNat) rfl).1); have := ti_sub2 (Eq.refl (w.1 150 ((w.1 147 5).toInt.toNat)).toInt) (Eq.refl (w.1 149 ((w.1 147 5).toInt.toNat)).toInt) (by omega) (by omega); have := (by rw [(hL9661 150 _ rfl).1, (hL9661 147 _ rfl).1] : (w9659.1 150 ((w9659.1 147 5).toInt.toNat)).toInt = (w.1 150 ((w.1 147 5).toInt.toNat)).toInt); have := (by rw [(hL9661 149 _ rfl).1, (hL9661 147 _ rfl).1] : (w9659.1 149 ((w9659.1 147 5).toInt.toNat)).toInt = (w.1 149 ((w.1 147 5).toInt.toNat)).toInt); have := ti_add2 (Eq.refl a0.toInt) (by decide : ((4 : Int32)).toInt = 4) (by omega) (by omega); omega) (by have := bd_150 hI ((w.1 147 5).toInt.toNat); have := bd_149 hI ((w.1 147 5).toInt.toNat); have := (by decide : ((0 : Int32)).toInt = 0); have := bd_147_5 hI9660; have := bd_147_5 hI; have := (congrArg Int32.toInt (hL9661 147 5 rfl).1); have := bd_147_4 hI9660; have := bd_147_4 hI; have := (congrArg Int32.toInt (hL9661 147 4 rfl).1); have := bd_150 hI9660 ((w9659.1 147 5).toInt.toNat); have := bd_150 hI ((w9659.1 147 5).toInt.toNat); have := (congrArg Int32.toInt (hL9661 150 ((w9659.1 147 5).toInt.toNat) rfl).1); have := bd_149 hI9660 ((w9659.1 147 5).toInt.toNat); have := bd_149 hI ((w9659.1 147 5).toInt.toNat); have := (congrArg Int32.toInt (hL9661 149 ((w9659.1 147 5).toInt.toNat) rfl).1); have := ti_sub2 (Eq.refl (w.1 150 ((w.1 147 5).toInt.toNat)).toInt) (Eq.refl (w.1 149 ((w.1 147 5).toInt.toNat)).toInt) (by omega) (by omega); have := (by rw [(hL9661 150 _ rfl).1, (hL9661 147 _ rfl).1] : (w9659.1 150 ((w9659.1 147 5).toInt.toNat)).toInt = (w.1 150 ((w.1 147 5).toInt.toNat)).toInt); have := (by rw [(hL9661 149 _ rfl).1, (hL9661 147 _ rfl).1] : (w9659.1 149 ((w9659.1 147 5).toInt.toNat)).toInt = (w.1 149 ((w.1 147 5).toInt.toNat)).toInt); have := ti_add2 (Eq.refl a0.toInt) (by decide : ((4 : Int32)).toInt = 4) (by omega) (by omega); omega) (by have := bd_150 hI ((w.1 147 5).toInt.toNat); have := bd_149 hI ((w.1 147 5).toInt.toNat); have := (by decide : ((0 : Int32)).toInt = 0); have := bd_147_5 hI9660; have := bd_147_5 hI; have := (congrArg Int32.toInt (hL9661 147 5 rfl).1); have := bd_147_4 hI9660; have := bd_147_4 hI; have := (congrArg Int32.toInt (hL9661 147 4 rfl).1); have := bd_150 hI9660 ((w9659.1 147 5).toInt.toNat); have := bd_150 hI ((w9659.1 147 5).toInt.toNat); have := (congrArg Int32.toInt (hL9661 150 ((w9659.1 147 5).toInt.toNat) rfl).1); have := bd_149 hI9660 ((w9659.1 147 5).toInt.toNat); have := bd_149 hI ((w9659.1 147 5).toInt.toNat); have := (congrArg Int32.toInt (hL9661 149 ((w9659.1 147 5).toInt.toNat) rfl).1); have := ti_sub2 (Eq.refl (w.1 150 ((w.1 147 5).toInt.toNat)).toInt) (Eq.refl (w.1 149 ((w.1 147 5).toInt.toNat)).toInt) (by omega) (by omega); have := (by rw [(hL9661 150 _ rfl).1, (hL9661 147 _ rfl).1] : (w9659.1 150 ((w9659.1 147 5).toInt.toNat)).toInt = (w.1 150 ((w.1 147 5).toInt.toNat)).toInt); have := (by rw [(hL9661 149 _ rfl).1, (hL9661 147 _ rfl).1] : (w9659.1 149 ((w9659.1 147 5).toInt.toNat)).toInt = (w.1 149 ((w.1 147 5).toInt.toNat)).toInt); have := ti_add2 (Eq.refl a0.toInt) (by decide : ((4 : Int32)).toInt = 4) (by omega) (by omega); omega) (by have := bd_150 hI ((w.1 147 5).toInt.toNat); have := bd_149 hI ((w.1 147 5).toInt.toNat); have := (by decide : ((0 : Int32)).toInt = 0); have := bd_147_5 hI9660; have := bd_147_5 hI; have := (congrArg Int32.toInt (hL9661 147 5 rfl).1); have := bd_147_4 hI9660; have := bd_147_4 hI; have := (congrArg Int32.toInt (hL9661 147 4 rfl).1); have := bd_150 hI9660 ((w9659.1 147 5).toInt.toNat); have := bd_150 hI ((w9659.1 147 5).toInt.toNat); have := (congrArg Int32.toInt (hL9661 150 ((w9659.1 147 5).toInt.toNat) rfl).1); have := bd_149 hI9660 ((w9659.1 147 5).toInt.toNat); have := bd_149 hI ((w9659.1 147 5).toInt.toNat); have := (congrArg Int32.toInt (hL9661 149 ((w9659.1 147 5).toInt.toNat) rfl).1); have := ti_sub2 (Eq.refl (w.1 150 ((w.1 147 5).toInt.toNat)).toInt) (Eq.refl (w.1 149 ((w.1 147 5).toInt.toNat)).toInt) (by omega) (by omega); have := (by rw [(hL9661 150 _ rfl).1, (hL9661 147 _ rfl).1] : (w9659.1 150 ((w9659.1 147 5).toInt.toNat)).toInt = (w.1 150 ((w.1 147 5).toInt.toNat)).toInt); have := (by rw [(hL9661 149 _ rfl).1, (hL9661 147 _ rfl).1] : (w9659.1 149 ((w9659.1 147 5).toInt.toNat)).toInt = (w.1 149 ((w.1 147 5).toInt.toNat)).toInt); have := ti_add2 (Eq.refl a0.toInt) (by decide : ((4 : Int32)).toInt = 4) (by omega) (by omega); omega))
          have hF9677 : FR l_Mr_number w w9669 := hF9665.tr hL9671 rfl
          refine ⟨fun h9678 => ?_, fun h9678 => ?_⟩
          · have o9679 : ((-1) ≤ ((-1) : Int32).toInt) ∧ (((-1) : Int32).toInt ≤ 9999) ∧ (-1 ≤ ((-1) : Int32).toInt) ∧ (((-1) : Int32).toInt < 0 ∨ ((-1) : Int32).toInt ≤ b0.toInt) ∧ (((-1) : Int32).toInt < 0 ∨ ((w.1 147 5).toInt < (w.1 147 4).toInt ∧ a0.toInt < (w.1 150 ((w.1 147 5).toInt.toNat)).toInt - (w.1 149 ((w.1 147 5).toInt.toNat)).toInt)) := by have := (by decide : (((-1) : Int32)).toInt = (-1)); have := bd_147_5 hI; have := bd_147_4 hI; have := bd_150 hI ((w.1 147 5).toInt.toNat); have := bd_149 hI ((w.1 147 5).toInt.toNat); have := ti_sub2 (Eq.refl (w.1 150 ((w.1 147 5).toInt.toNat)).toInt) (Eq.refl (w.1 149 ((w.1 147 5).toInt.toNat)).toInt) (by omega) (by omega); have := ti_add2 (Eq.refl a0.toInt) (by decide : ((4 : Int32)).toInt = 4) (by omega) (by omega); exact ⟨by omega, by omega, by omega, by omega, by omega⟩
            exact hQ _ _ hI9670 hF9677  o9679.1 o9679.2.1 o9679.2.2.1 o9679.2.2.2.1 o9679.2.2.2.2
          · have o9680 : ((-1) ≤ e9672.toInt) ∧ (e9672.toInt ≤ 9999) ∧ (-1 ≤ e9672.toInt) ∧ (e9672.toInt < 0 ∨ e9672.toInt ≤ b0.toInt) ∧ (e9672.toInt < 0 ∨ ((w.1 147 5).toInt < (w.1 147 4).toInt ∧ a0.toInt < (w.1 150 ((w.1 147 5).toInt.toNat)).toInt - (w.1 149 ((w.1 147 5).toInt.toNat)).toInt)) := by have := bd_147_5 hI; have := bd_147_4 hI; have := bd_150 hI ((w.1 147 5).toInt.toNat); have := bd_149 hI ((w.1 147 5).toInt.toNat); have := ti_sub2 (Eq.refl (w.1 150 ((w.1 147 5).toInt.toNat)).toInt) (Eq.refl (w.1 149 ((w.1 147 5).toInt.toNat)).toInt) (by omega) (by omega); have := ti_add2 (Eq.refl a0.toInt) (by decide : ((4 : Int32)).toInt = 4) (by omega) (by omega); exact ⟨by omega, by omega, by omega, by omega, by omega⟩
            exact hQ _ _ hI9670 hF9677  o9680.1 o9680.2.1 o9680.2.2.1 o9680.2.2.2.1 o9680.2.2.2.2
        · have o9681 : ((-1) ≤ ((-1) : Int32).toInt) ∧ (((-1) : Int32).toInt ≤ 9999) ∧ (-1 ≤ ((-1) : Int32).toInt) ∧ (((-1) : Int32).toInt < 0 ∨ ((-1) : Int32).toInt ≤ b0.toInt) ∧ (((-1) : Int32).toInt < 0 ∨ ((w.1 147 5).toInt < (w.1 147 4).toInt ∧ a0.toInt < (w.1 150 ((w.1 147 5).toInt.toNat)).toInt - (w.1 149 ((w.1 147 5).toInt.toNat)).toInt)) := by have := (by decide : (((-1) : Int32)).toInt = (-1)); have := bd_147_5 hI; have := bd_147_4 hI; have := bd_150 hI ((w.1 147 5).toInt.toNat); have := bd_149 hI ((w.1 147 5).toInt.toNat); have := ti_sub2 (Eq.refl (w.1 150 ((w.1 147 5).toInt.toNat)).toInt) (Eq.refl (w.1 149 ((w.1 147 5).toInt.toNat)).toInt) (by omega) (by omega); have := ti_add2 (Eq.refl a0.toInt) (by decide : ((4 : Int32)).toInt = 4) (by omega) (by omega); exact ⟨by omega, by omega, by omega, by omega, by omega⟩
          exact hQ _ _ hI9660 hF9665  o9681.1 o9681.2.1 o9681.2.2.1 o9681.2.2.2.1 o9681.2.2.2.2
      · refine ⟨fun h9682 => ?_, fun h9682 => ?_⟩
        · have o9683 : ((-1) ≤ ((-1) : Int32).toInt) ∧ (((-1) : Int32).toInt ≤ 9999) ∧ (-1 ≤ ((-1) : Int32).toInt) ∧ (((-1) : Int32).toInt < 0 ∨ ((-1) : Int32).toInt ≤ b0.toInt) ∧ (((-1) : Int32).toInt < 0 ∨ ((w.1 147 5).toInt < (w.1 147 4).toInt ∧ a0.toInt < (w.1 150 ((w.1 147 5).toInt.toNat)).toInt - (w.1 149 ((w.1 147 5).toInt.toNat)).toInt)) := by have := (by decide : (((-1) : Int32)).toInt = (-1)); have := bd_147_5 hI; have := bd_147_4 hI; have := bd_150 hI ((w.1 147 5).toInt.toNat); have := bd_149 hI ((w.1 147 5).toInt.toNat); have := ti_sub2 (Eq.refl (w.1 150 ((w.1 147 5).toInt.toNat)).toInt) (Eq.refl (w.1 149 ((w.1 147 5).toInt.toNat)).toInt) (by omega) (by omega); have := ti_add2 (Eq.refl a0.toInt) (by decide : ((1 : Int32)).toInt = 1) (by omega) (by omega); exact ⟨by omega, by omega, by omega, by omega, by omega⟩
          exact hQ _ _ hI9660 hF9665  o9683.1 o9683.2.1 o9683.2.2.1 o9683.2.2.2.1 o9683.2.2.2.2
        · refine Eq.mpr (q_Mr_number_27.eq_1 _ _ _ _ _) ?_
          refine ⟨fun h9684 => ?_, fun h9684 => ?_⟩
          · have o9685 : (15 ≤ b0.toInt) ∧ (b0.toInt ≤ 3600) ∧ (1 ≤ ((w.1 150 ((w.1 147 5).toInt.toNat)) - (w.1 149 ((w.1 147 5).toInt.toNat))).toInt) ∧ (((w.1 150 ((w.1 147 5).toInt.toNat)) - (w.1 149 ((w.1 147 5).toInt.toNat))).toInt ≤ 5) ∧ (0 ≤ (0 : Int32).toInt) ∧ ((0 : Int32).toInt ≤ 9999) ∧ (0 ≤ a0.toInt) ∧ (a0.toInt ≤ 5) ∧ (0 ≤ (0 : Int32).toInt) ∧ (((w.1 150 ((w.1 147 5).toInt.toNat)) - (w.1 149 ((w.1 147 5).toInt.toNat))).toInt - a0.toInt ≤ 4) ∧ (((w.1 150 ((w.1 147 5).toInt.toNat)) - (w.1 149 ((w.1 147 5).toInt.toNat))).toInt - a0.toInt < 0 ∨ (0 : Int32).toInt ≤ 9999) ∧ (((w.1 150 ((w.1 147 5).toInt.toNat)) - (w.1 149 ((w.1 147 5).toInt.toNat))).toInt - a0.toInt < 1 ∨ (0 : Int32).toInt ≤ 999) ∧ (((w.1 150 ((w.1 147 5).toInt.toNat)) - (w.1 149 ((w.1 147 5).toInt.toNat))).toInt - a0.toInt < 2 ∨ (0 : Int32).toInt ≤ 99) ∧ (((w.1 150 ((w.1 147 5).toInt.toNat)) - (w.1 149 ((w.1 147 5).toInt.toNat))).toInt - a0.toInt < 3 ∨ (0 : Int32).toInt ≤ 9) ∧ (((w.1 150 ((w.1 147 5).toInt.toNat)) - (w.1 149 ((w.1 147 5).toInt.toNat))).toInt - a0.toInt < 4 ∨ (0 : Int32).toInt ≤ 0) ∧ (a0.toInt ≤ ((w.1 150 ((w.1 147 5).toInt.toNat)) - (w.1 149 ((w.1 147 5).toInt.toNat))).toInt) := by have := bd_150 hI ((w.1 147 5).toInt.toNat); have := bd_149 hI ((w.1 147 5).toInt.toNat); have := (by decide : ((0 : Int32)).toInt = 0); have := ti_sub2 (Eq.refl (w.1 150 ((w.1 147 5).toInt.toNat)).toInt) (Eq.refl (w.1 149 ((w.1 147 5).toInt.toNat)).toInt) (by omega) (by omega); have := ti_add2 (Eq.refl a0.toInt) (by decide : ((1 : Int32)).toInt = 1) (by omega) (by omega); have := ti_add2 (Eq.refl a0.toInt) (by decide : ((4 : Int32)).toInt = 4) (by omega) (by omega); exact ⟨by omega, by omega, by omega, by omega, by omega, by omega, by omega, by omega, by omega, by omega, by omega, by omega, by omega, by omega, by omega, by omega⟩
            refine hq_Mr_number_42 FU _ _ w9659 hI9660  o9685.1 o9685.2.1 o9685.2.2.1 o9685.2.2.2.1 o9685.2.2.2.2.1 o9685.2.2.2.2.2.1 o9685.2.2.2.2.2.2.1 o9685.2.2.2.2.2.2.2.1 o9685.2.2.2.2.2.2.2.2.1 o9685.2.2.2.2.2.2.2.2.2.1 o9685.2.2.2.2.2.2.2.2.2.2.1 o9685.2.2.2.2.2.2.2.2.2.2.2.1 o9685.2.2.2.2.2.2.2.2.2.2.2.2.1 o9685.2.2.2.2.2.2.2.2.2.2.2.2.2.1 o9685.2.2.2.2.2.2.2.2.2.2.2.2.2.2.1 o9685.2.2.2.2.2.2.2.2.2.2.2.2.2.2.2 (fu_lt (by have := bd_150 hI ((w.1 147 5).toInt.toNat); have := bd_149 hI ((w.1 147 5).toInt.toNat); have := (by decide : ((0 : Int32)).toInt = 0); have := ti_sub2 (Eq.refl (w.1 150 ((w.1 147 5).toInt.toNat)).toInt) (Eq.refl (w.1 149 ((w.1 147 5).toInt.toNat)).toInt) (by omega) (by omega); have := ti_add2 (Eq.refl a0.toInt) (by decide : ((1 : Int32)).toInt = 1) (by omega) (by omega); have := ti_add2 (Eq.refl a0.toInt) (by decide : ((4 : Int32)).toInt = 4) (by omega) (by omega); omega)) (fun e9689 w9686 hI9687 hL9688 p9690 p9691 p9692 p9693 => ?_) (fun r w9 hI9 hF9 q0 q1 => hQ r w9 hI9 ((hF9665).tr hF9 rfl) (by have := bd_150 hI ((w.1 147 5).toInt.toNat); have := bd_149 hI ((w.1 147 5).toInt.toNat); have := (by decide : ((0 : Int32)).toInt = 0); have := bd_147_5 hI9660; have := bd_147_5 hI; have := (congrArg Int32.toInt (hL9661 147 5 rfl).1); have := bd_147_4 hI9660; have := bd_147_4 hI; have := (congrArg Int32.toInt (hL9661 147 4 rfl).1); have := bd_150 hI9660 ((w9659.1 147 5).toInt.toNat); have := bd_150 hI ((w9659.1 147 5).toInt.toNat); have := (congrArg Int32.toInt (hL9661 150 ((w9659.1 147 5).toInt.toNat) rfl).1); have := bd_149 hI9660 ((w9659.1 147 5).toInt.toNat); have := bd_149 hI ((w9659.1 147 5).toInt.toNat); have := (congrArg Int32.toInt (hL9661 149 ((w9659.1 147 5).toInt.toNat) rfl).1); have := ti_sub2 (Eq.refl (w.1 150 ((w.1 147 5).toInt.toNat)).toInt) (Eq.refl (w.1 149 ((w.1 147 5).toInt.toNat)).toInt) (by omega) (by omega); have := (by rw [(hL9661 150 _ rfl).1, (hL9661 147 _ rfl).1] : (w9659.1 150 ((w9659.1 147 5).toInt.toNat)).toInt = (w.1 150 ((w.1 147 5).toInt.toNat)).toInt); have := (by rw [(hL9661 149 _ rfl).1, (hL9661 147 _ rfl).1] : (w9659.1 149 ((w9659.1 147 5).toInt.toNat)).toInt = (w.1 149 ((w.1 147 5).toInt.toNat)).toInt); have := ti_add2 (Eq.refl a0.toInt) (by decide : ((1 : Int32)).toInt = 1) (by omega) (by omega); have := ti_add2 (Eq.refl a0.toInt) (by decide : ((4 : Int32)).toInt = 4) (by omega) (by omega); omega) (by have := bd_150 hI ((w.1 147 5).toInt.toNat); have := bd_149 hI ((w.1 147 5).toInt.toNat); have := (by decide : ((0 : Int32)).toInt = 0); have := bd_147_5 hI9660; have := bd_147_5 hI; have := (congrArg Int32.toInt (hL9661 147 5 rfl).1); have := bd_147_4 hI9660; have := bd_147_4 hI; have := (congrArg Int32.toInt (hL9661 147 4 rfl).1); have := bd_150 hI9660 ((w9659.1 147 5).toInt.toNat); have := bd_150 hI ((w9659.1 147 5).toInt.toNat); have := (congrArg Int32.toInt (hL9661 150 ((w9659.1 147 5).toInt.toNat) rfl).1); have := bd_149 hI9660 ((w9659.1 147 5).toInt.toNat); have := bd_149 hI ((w9659.1 147 5).toInt.toNat); have := (congrArg Int32.toInt (hL9661 149 ((w9659.1 147 5).toInt.toNat) rfl).1); have := ti_sub2 (Eq.refl (w.1 150 ((w.1 147 5).toInt.toNat)).toInt) (Eq.refl (w.1 149 ((w.1 147 5).toInt.toNat)).toInt) (by omega) (by omega); have := (by rw [(hL9661 150 _ rfl).1, (hL9661 147 _ rfl).1] : (w9659.1 150 ((w9659.1 147 5).toInt.toNat)).toInt = (w.1 150 ((w.1 147 5).toInt.toNat)).toInt); have := (by rw [(hL9661 149 _ rfl).1, (hL9661 147 _ rfl).1] : (w9659.1 149 ((w9659.1 147 5).toInt.toNat)).toInt = (w.1 149 ((w.1 147 5).toInt.toNat)).toInt); have := ti_add2 (Eq.refl a0.toInt) (by decide : ((1 : Int32)).toInt = 1) (by omega) (by omega); have := ti_add2 (Eq.refl a0.toInt) (by decide : ((4 : Int32)).toInt = 4) (by omega) (by omega); omega) (by have := bd_150 hI ((w.1 147 5).toInt.toNat); have := bd_149 hI ((w.1 147 5).toInt.toNat); have := (by decide : ((0 : Int32)).toInt = 0); have := bd_147_5 hI9660; have := bd_147_5 hI; have := (congrArg Int32.toInt (hL9661 147 5 rfl).1); have := bd_147_4 hI9660; have := bd_147_4 hI; have := (congrArg Int32.toInt (hL9661 147 4 rfl).1); have := bd_150 hI9660 ((w9659.1 147 5).toInt.toNat); have := bd_150 hI ((w9659.1 147 5).toInt.toNat); have := (congrArg Int32.toInt (hL9661 150 ((w9659.1 147 5).toInt.toNat) rfl).1); have := bd_149 hI9660 ((w9659.1 147 5).toInt.toNat); have := bd_149 hI ((w9659.1 147 5).toInt.toNat); have := (congrArg Int32.toInt (hL9661 149 ((w9659.1 147 5).toInt.toNat) rfl).1); have := ti_sub2 (Eq.refl (w.1 150 ((w.1 147 5).toInt.toNat)).toInt) (Eq.refl (w.1 149 ((w.1 147 5).toInt.toNat)).toInt) (by omega) (by omega); have := (by rw [(hL9661 150 _ rfl).1, (hL9661 147 _ rfl).1] : (w9659.1 150 ((w9659.1 147 5).toInt.toNat)).toInt = (w.1 150 ((w.1 147 5).toInt.toNat)).toInt); have := (by rw [(hL9661 149 _ rfl).1, (hL9661 147 _ rfl).1] : (w9659.1 149 ((w9659.1 147 5).toInt.toNat)).toInt = (w.1 149 ((w.1 147 5).toInt.toNat)).toInt); have := ti_add2 (Eq.refl a0.toInt) (by decide : ((1 : Int32)).toInt = 1) (by omega) (by omega); have := ti_add2 (Eq.refl a0.toInt) (by decide : ((4 : Int32)).toInt = 4) (by omega) (by omega); omega) (by have := bd_150 hI ((w.1 147 5).toInt.toNat); have := bd_149 hI ((w.1 147 5).toInt.toNat); have := (by decide : ((0 : Int32)).toInt = 0); have := bd_147_5 hI9660; have := bd_147_5 hI; have := (congrArg Int32.toInt (hL9661 147 5 rfl).1); have := bd_147_4 hI9660; have := bd_147_4 hI; have := (congrArg Int32.toInt (hL9661 147 4 rfl).1); have := bd_150 hI9660 ((w9659.1 147 5).toInt.toNat); have := bd_150 hI ((w9659.1 147 5).toInt.toNat); have := (congrArg Int32.toInt (hL9661 150 ((w9659.1 147 5).toInt.toNat) rfl).1); have := bd_149 hI9660 ((w9659.1 147 5).toInt.toNat); have := bd_149 hI ((w9659.1 147 5).toInt.toNat); have := (congrArg Int32.toInt (hL9661 149 ((w9659.1 147 5).toInt.toNat) rfl).1); have := ti_sub2 (Eq.refl (w.1 150 ((w.1 147 5).toInt.toNat)).toInt) (Eq.refl (w.1 149 ((w.1 147 5).toInt.toNat)).toInt) (by omega) (by omega); have := (by rw [(hL9661 150 _ rfl).1, (hL9661 147 _ rfl).1] : (w9659.1 150 ((w9659.1 147 5).toInt.toNat)).toInt = (w.1 150 ((w.1 147 5).toInt.toNat)).toInt); have := (by rw [(hL9661 149 _ rfl).1, (hL9661 147 _ rfl).1] : (w9659.1 149 ((w9659.1 147 5).toInt.toNat)).toInt = (w.1 149 ((w.1 147 5).toInt.toNat)).toInt); have := ti_add2 (Eq.refl a0.toInt) (by decide : ((1 : Int32)).toInt = 1) (by omega) (by omega); have := ti_add2 (Eq.refl a0.toInt) (by decide : ((4 : Int32)).toInt = 4) (by omega) (by omega); omega) (by have := bd_150 hI ((w.1 147 5).toInt.toNat); have := bd_149 hI ((w.1 147 5).toInt.toNat); have := (by decide : ((0 : Int32)).toInt = 0); have := bd_147_5 hI9660; have := bd_147_5 hI; have := (congrArg Int32.toInt (hL9661 147 5 rfl).1); have := bd_147_4 hI9660; have := bd_147_4 hI; have := (congrArg Int32.toInt (hL9661 147 4 rfl).1); have := bd_150 hI9660 ((w9659.1 147 5).toInt.toNat); have := bd_150 hI ((w9659.1 147 5).toInt.toNat); have := (congrArg Int32.toInt (hL9661 150 ((w9659.1 147 5).toInt.toNat) rfl).1); have := bd_149 hI9660 ((w9659.1 147 5).toInt.toNat); have := bd_149 hI ((w9659.1 147 5).toInt.toNat); have := (congrArg Int32.toInt (hL9661 149 ((w9659.1 147 5).toInt.toNat) rfl).1); have := ti_sub2 (Eq.refl (w.1 150 ((w.1 147 5).toInt.toNat)).toInt) (Eq.refl (w.1 149 ((w.1 147 5).toInt.toNat)).toInt) (by omega) (by omega); have := (by rw [(hL9661 150 _ rfl).1, (hL9661 147 _ rfl).1] : (w9659.1 150 ((w9659.1 147 5).toInt.toNat)).toInt = (w.1 150 ((w.1 147 5).toInt.toNat)).toInt); have := (by rw [(hL9661 149 _ rfl).1, (hL9661 147 _ rfl).1] : (w9659.1 149 ((w9659.1 147 5).toInt.toNat)).toInt = (w.1 149 ((w.1 147 5).toInt.toNat)).toInt); have := ti_add2 (Eq.refl a0.toInt) (by decide : ((1 : Int32)).toInt = 1) (by omega) (by omega); have := ti_add2 (Eq.refl a0.toInt) (by decide : ((4 : Int32)).toInt = 4) (by omega) (by omega); omega))
            have hF9694 : FR l_Mr_number w w9686 := hF9665.tr hL9688 rfl
            refine ⟨fun h9695 => ?_, fun h9695 => ?_⟩
            · have o9696 : ((-1) ≤ ((-1) : Int32).toInt) ∧ (((-1) : Int32).toInt ≤ 9999) ∧ (-1 ≤ ((-1) : Int32).toInt) ∧ (((-1) : Int32).toInt < 0 ∨ ((-1) : Int32).toInt ≤ b0.toInt) ∧ (((-1) : Int32).toInt < 0 ∨ ((w.1 147 5).toInt < (w.1 147 4).toInt ∧ a0.toInt < (w.1 150 ((w.1 147 5).toInt.toNat)).toInt - (w.1 149 ((w.1 147 5).toInt.toNat)).toInt)) := by have := (by decide : (((-1) : Int32)).toInt = (-1)); have := bd_147_5 hI; have := bd_147_4 hI; have := bd_150 hI ((w.1 147 5).toInt.toNat); have := bd_149 hI ((w.1 147 5).toInt.toNat); have := ti_sub2 (Eq.refl (w.1 150 ((w.1 147 5).toInt.toNat)).toInt) (Eq.refl (w.1 149 ((w.1 147 5).toInt.toNat)).toInt) (by omega) (by omega); have := ti_add2 (Eq.refl a0.toInt) (by decide : ((1 : Int32)).toInt = 1) (by omega) (by omega); have := ti_add2 (Eq.refl a0.toInt) (by decide : ((4 : Int32)).toInt = 4) (by omega) (by omega); exact ⟨by omega, by omega, by omega, by omega, by omega⟩
              exact hQ _ _ hI9687 hF9694  o9696.1 o9696.2.1 o9696.2.2.1 o9696.2.2.2.1 o9696.2.2.2.2
            · have o9697 : ((-1) ≤ e9689.toInt) ∧ (e9689.toInt ≤ 9999) ∧ (-1 ≤ e9689.toInt) ∧ (e9689.toInt < 0 ∨ e9689.toInt ≤ b0.toInt) ∧ (e9689.toInt < 0 ∨ ((w.1 147 5).toInt < (w.1 147 4).toInt ∧ a0.toInt < (w.1 150 ((w.1 147 5).toInt.toNat)).toInt - (w.1 149 ((w.1 147 5).toInt.toNat)).toInt)) := by have := bd_147_5 hI; have := bd_147_4 hI; have := bd_150 hI ((w.1 147 5).toInt.toNat); have := bd_149 hI ((w.1 147 5).toInt.toNat); have := ti_sub2 (Eq.refl (w.1 150 ((w.1 147 5).toInt.toNat)).toInt) (Eq.refl (w.1 149 ((w.1 147 5).toInt.toNat)).toInt) (by omega) (by omega); have := ti_add2 (Eq.refl a0.toInt) (by decide : ((1 : Int32)).toInt = 1) (by omega) (by omega); have := ti_add2 (Eq.refl a0.toInt) (by decide : ((4 : Int32)).toInt = 4) (by omega) (by omega); exact ⟨by omega, by omega, by omega, by omega, by omega⟩
              exact hQ _ _ hI9687 hF9694  o9697.1 o9697.2.1 o9697.2.2.1 o9697.2.2.2.1 o9697.2.2.2.2
          · exfalso; have := bd_147_5 hI; have := bd_147_4 hI; have := bd_150 hI ((w.1 147 5).toInt.toNat); have := bd_149 hI ((w.1 147 5).toInt.toNat); have := (by decide : ((48 : Int32)).toInt = 48); have := ti_sub2 (Eq.refl (w.1 150 ((w.1 147 5).toInt.toNat)).toInt) (Eq.refl (w.1 149 ((w.1 147 5).toInt.toNat)).toInt) (by omega) (by omega); have := ti_add2 (Eq.refl a0.toInt) (by decide : ((1 : Int32)).toInt = 1) (by omega) (by omega); have := ti_add2 (Eq.refl a0.toInt) (by decide : ((4 : Int32)).toInt = 4) (by omega) (by omega); omega
def l_Mr_isOne : Pl := []
set_option maxRecDepth 20000 in
set_option maxHeartbeats 2000000 in
theorem h_Mr_isOne {w : MW} {a0 : Int32} {Q : Int32 → MW → Prop} (hI : BND w) (hp0 : 40 ≤ a0.toInt) (hp1 : a0.toInt ≤ 59) (hQ : ∀ (r : Int32) (w' : MW), BND w' → FR l_Mr_isOne w w' → 0 ≤ r.toInt → r.toInt ≤ 1 → r.toInt = 0 ∨ ((w.1 147 5).toInt < (w.1 147 4).toInt ∧ (w.1 150 ((w.1 147 5).toInt.toNat)).toInt - (w.1 149 ((w.1 147 5).toInt.toNat)).toInt = 1) → Q r w') : p_Mr_isOne w a0 Q := by
  refine Eq.mpr (p_Mr_isOne.eq_1 _ _ _) ?_
  refine Eq.mpr (p_Mr_wide.eq_1 _ _) ?_
  refine ⟨fun h9698 => ?_, fun h9698 => ?_⟩
  · refine ⟨fun _ => ?_, fun h => absurd (by decide) h⟩
    have o9699 : (0 ≤ (0 : Int32).toInt) ∧ ((0 : Int32).toInt ≤ 1) ∧ ((0 : Int32).toInt = 0 ∨ ((w.1 147 5).toInt < (w.1 147 4).toInt ∧ (w.1 150 ((w.1 147 5).toInt.toNat)).toInt - (w.1 149 ((w.1 147 5).toInt.toNat)).toInt = 1)) := by have := (by decide : ((0 : Int32)).toInt = 0); have := bd_147_5 hI; have := bd_147_4 hI; have := bd_150 hI ((w.1 147 5).toInt.toNat); have := bd_149 hI ((w.1 147 5).toInt.toNat); exact ⟨by omega, by omega, by omega⟩
    exact hQ _ _ hI (FR.refl _ w)  o9699.1 o9699.2.1 o9699.2.2
  · have o9700 : 0 ≤ (w.1 147 5).toInt ∧ (w.1 147 5).toInt < 4021 := by have := bd_147_5 hI; have := bd_147_4 hI; omega
    refine ⟨o9700, ?_⟩
    have o9701 : 0 ≤ (w.1 147 5).toInt ∧ (w.1 147 5).toInt < 4021 := by have := bd_147_5 hI; have := bd_147_4 hI; omega
    refine ⟨o9701, ?_⟩
    refine ⟨fun h9702 => ?_, fun h9702 => ?_⟩
    · have o9703 : (0 ≤ (0 : Int32).toInt) ∧ ((0 : Int32).toInt ≤ 1) ∧ ((0 : Int32).toInt = 0 ∨ ((w.1 147 5).toInt < (w.1 147 4).toInt ∧ (w.1 150 ((w.1 147 5).toInt.toNat)).toInt - (w.1 149 ((w.1 147 5).toInt.toNat)).toInt = 1)) := by have := (by decide : ((0 : Int32)).toInt = 0); have := bd_147_5 hI; have := bd_147_4 hI; have := bd_150 hI ((w.1 147 5).toInt.toNat); have := bd_149 hI ((w.1 147 5).toInt.toNat); have := (by decide : ((1 : Int32)).toInt = 1); have := ti_sub2 (Eq.refl (w.1 150 ((w.1 147 5).toInt.toNat)).toInt) (Eq.refl (w.1 149 ((w.1 147 5).toInt.toNat)).toInt) (by omega) (by omega); exact ⟨by omega, by omega, by omega⟩
      exact hQ _ _ hI (FR.refl _ w)  o9703.1 o9703.2.1 o9703.2.2
    · have o9704 : (0 ≤ (0 : Int32).toInt) ∧ ((0 : Int32).toInt ≤ 6) := by have := (by decide : ((0 : Int32)).toInt = 0); exact ⟨by omega, by omega⟩
      refine h_Mr_at hI  o9704.1 o9704.2 (fun r9708 w9705 hI9706 hL9707 p9709 p9710 => ?_)
      have hF9711 : FR l_Mr_isOne w w9705 := (FR.refl _ w).tr hL9707 rfl
      refine ⟨fun h9712 => ?_, fun h9712 => ?_⟩
      · have o9713 : (0 ≤ (0 : Int32).toInt) ∧ ((0 : Int32).toInt ≤ 1) ∧ ((0 : Int32).toInt = 0 ∨ ((w.1 147 5).toInt < (w.1 147 4).toInt ∧ (w.1 150 ((w.1 147 5).toInt.toNat)).toInt - (w.1 149 ((w.1 147 5).toInt.toNat)).toInt = 1)) := by have := (by decide : ((0 : Int32)).toInt = 0); have := bd_147_5 hI; have := bd_147_4 hI; have := bd_150 hI ((w.1 147 5).toInt.toNat); have := bd_149 hI ((w.1 147 5).toInt.toNat); have := (by decide : ((1 : Int32)).toInt = 1); have := ti_sub2 (Eq.refl (w.1 150 ((w.1 147 5).toInt.toNat)).toInt) (Eq.refl (w.1 149 ((w.1 147 5).toInt.toNat)).toInt) (by omega) (by omega); exact ⟨by omega, by omega, by omega⟩
        exact hQ _ _ hI9706 hF9711  o9713.1 o9713.2.1 o9713.2.2
      · have o9714 : (0 ≤ (1 : Int32).toInt) ∧ ((1 : Int32).toInt ≤ 1) ∧ ((1 : Int32).toInt = 0 ∨ ((w.1 147 5).toInt < (w.1 147 4).toInt ∧ (w.1 150 ((w.1 147 5).toInt.toNat)).toInt - (w.1 149 ((w.1 147 5).toInt.toNat)).toInt = 1)) := by have := (by decide : ((1 : Int32)).toInt = 1); have := bd_147_5 hI; have := bd_147_4 hI; have := bd_150 hI ((w.1 147 5).toInt.toNat); have := bd_149 hI ((w.1 147 5).toInt.toNat); have := ti_sub2 (Eq.refl (w.1 150 ((w.1 147 5).toInt.toNat)).toInt) (Eq.refl (w.1 149 ((w.1 147 5).toInt.toNat)).toInt) (by omega) (by omega); exact ⟨by omega, by omega, by omega⟩
        exact hQ _ _ hI9706 hF9711  o9714.1 o9714.2.1 o9714.2.2
def l_Mr_and_5 : Pl := [(147, some 5), (147, some 6), (147, some 7), (147, some 11), (151, none), (152, none), (153, none)]
def l_Mr_and : Pl := [(147, some 5), (147, some 6), (147, some 7), (147, some 11), (151, none), (152, none), (153, none)]
def l_Mr_or_5 : Pl := [(147, some 5), (147, some 6), (147, some 7), (147, some 11), (151, none), (152, none), (153, none)]
def l_Mr_or : Pl := [(147, some 5), (147, some 6), (147, some 7), (147, some 11), (151, none), (152, none), (153, none)]
def l_Mr_part_109 : Pl := [(147, some 5), (147, some 6), (147, some 11), (151, none), (152, none), (153, none)]
def l_Mr_part_75 : Pl := [(147, some 5), (147, some 6), (147, some 11), (151, none), (152, none), (153, none)]
def l_Mr_part_29 : Pl := [(147, some 5), (147, some 6), (147, some 7), (147, some 11), (151, none), (152, none), (153, none)]
def l_Mr_part : Pl := [(147, some 5), (147, some 6), (147, some 7), (147, some 11), (151, none), (152, none), (153, none)]
theorem mr_and5 {nn : Nat} {ra ro rp : MW → (Int32 → MW → Prop) → Prop} (IH : ∀ (w : MW) (Q : Int32 → MW → Prop), BND w → MB w → 2 * (w.1 147 11).toInt ≤ Bf w → (3 * (20 - (w.1 147 6).toInt)).toNat < nn → (∀ (r : Int32) (w' : MW), MrP r w w' → Q r w') → rp w Q) {w0 : MW} {E Q : Int32 → MW → Prop} (hB0 : MB w0) (hN0 : 2 * (w0.1 147 11).toInt ≤ Bf w0) (hI0 : BND w0) (hmu : (3 * (20 - (w0.1 147 6).toInt) + 1).toNat ≤ nn) (hE : ∀ (e : Int32) (w' : MW), MrP e w0 w' → E e w') (n : Nat) : ∀ (x : Int32) (w : MW), MrP x w0 w → (4021 - (w.1 147 5).toInt).toNat < n → q_Mr_and_5 ra ro rp E Q n x w := by
  induction n with
  | zero => intros; omega
  | succ n ih =>
    intro x w hP hm
    rw [q_Mr_and_5.eq_2]
    refine ⟨fun _ => hE x w hP, fun c1 => ?_⟩
    obtain ⟨hR, hx0, hx1, hS⟩ := hP
    obtain ⟨hop, hsd, hD⟩ := hS (by omega)
    have hI : BND w := hR.1
    have hB := mrr_mb hR hB0
    have b4 := bd_147_4 hI
    refine h_Mr_is hI (by decide) (by decide) (by decide) (by decide) (by decide) (by decide) (by decide) (by decide) (by decide) (by decide) (by decide) (by decide) (by decide) (by decide) (by decide) (by decide) (fun r3 w3 hI3 hF3 p0 p1 p2 => ?_)
    obtain rfl := fr_nil hF3 rfl
    refine ⟨fun _ => hE x w ⟨hR, hx0, hx1, hS⟩, fun c3 => ?_⟩
    have hw := p2.resolve_left c3
    have hWD : (3 : Int32).toInt = 3 := by decide
    rw [hWD] at hw
    have hR2 : MrR 3 w (sI w 147 5 ((w.1 147 5) + (1 : Int32))) := mrr_next hI hB hw.1 (by omega)
    have hb6 := bd_147_6 hI0
    have r3' := hR.2.2.1
    have r3'' := hR2.2.2.1
    have e6 : (sI w 147 5 ((w.1 147 5) + (1 : Int32))).1 147 6 = w.1 147 6 := rfl
    have e7 : (sI w 147 5 ((w.1 147 5) + (1 : Int32))).1 147 7 = w.1 147 7 := rfl
    have e5 := ti_add2 (Eq.refl (w.1 147 5).toInt) (by decide : ((1 : Int32)).toInt = 1) (by have := bd_147_5 hI; omega) (by have := bd_147_5 hI; omega)
    have e5' : (sI w 147 5 ((w.1 147 5) + (1 : Int32))).1 147 5 = (w.1 147 5) + (1 : Int32) := rfl
    refine IH _ _ hR2.1 (mrr_mb hR2 hB) (by omega) (by rw [e6, hop]; omega) (fun r5 w5 hP5 => ?_)
    obtain ⟨hR5, h50, h51, hS5⟩ := hP5
    have r5' := hR5.2.2.1
    have hRA : MrR 3 w0 w5 := mrr_tr (mrr_tr hR hR2 (k := 3) (by omega)) hR5 (by omega)
    have n5 := hR5.2.2.2.2.2
    rw [e5'] at n5
    refine ⟨fun c5 => ?_, fun c5 => ih (-1) w5 (mrp_no (mrr_tr hRA (mrr_refl hR5.1) (by omega))) (by omega)⟩
    obtain ⟨hop5, hsd5, hD5⟩ := hS5 c5
    rw [e6] at hop5 hD5
    rw [e7] at hsd5 hD5
    have hN5 : 2 * (w5.1 147 11).toInt + 2 ≤ Bf w5 := by omega
    have e12 : w5.1 147 12 = w0.1 147 12 := mrr_12 hRA
    have e12w : w.1 147 12 = w0.1 147 12 := mrr_12 hR
    have e12s : (sI w 147 5 ((w.1 147 5) + (1 : Int32))).1 147 12 = w.1 147 12 := rfl
    rw [e12s, e12w] at hD5
    have hKN : KN w w5 := (mrr_tr hR2 hR5 (k := 3) (by omega)).2.2.2.2.1
    have hnd : (w.1 147 11).toInt ≤ (w5.1 147 11).toInt := (mrr_tr hR2 hR5 (k := 3) (by omega)).2.2.2.1
    have hb12 := bd_147_12 hI0
    have b7 := bd_147_7 hR5.1
    have b7' := bd_147_7 hI0
    refine g_node hR5.1 hN5 (ih _ _ ⟨mrr_tr hRA (mrr_node hR5.1 hN5 (by decide) ⟨hx0, hx1⟩ ⟨h50, h51⟩) (by omega), ?_, ?_, ?_⟩ ?_)
    · have := ndx_eq hR5.1; have := bd_147_11 hR5.1; have := bd_147_12 hR5.1; omega
    · have := ndx_eq hR5.1; have := bd_147_11 hR5.1; have := bd_147_12 hR5.1; have := bf_le hR5.1; omega
    · intro _
      have a6 : (ndW w5 17 x r5).1 147 6 = w5.1 147 6 := rfl
      have a7 : (ndW w5 17 x r5).1 147 7 = w5.1 147 7 := rfl
      have a11 : (ndW w5 17 x r5).1 147 11 = (w5.1 147 11) + (1 : Int32) := rfl
      have b11 := bd_147_11 hR5.1
      have e11 := ti_add2 (Eq.refl (w5.1 147 11).toInt) (by decide : ((1 : Int32)).toInt = 1) (by omega) (by omega)
      rw [a6, a7, a11, e11]
      refine ⟨by omega, by omega, ?_⟩
      have hx5 : DT (3000 * (1 - (w0.1 147 12).toInt)) (3000 * (1 - (w0.1 147 12).toInt) + (w5.1 147 11).toInt) ((((w5.1 147 7).toInt - (w0.1 147 7).toInt) + (20 - (w0.1 147 6).toInt)).toNat - 1) x w5 := by
        refine dt_mv (by omega) (by omega) ?_ _ _ x (by omega) hD
        intro j _ hj
        exact hKN j (Or.inl (by rw [e12w]; omega))
      have hy5 : DT (3000 * (1 - (w0.1 147 12).toInt)) (3000 * (1 - (w0.1 147 12).toInt) + (w5.1 147 11).toInt) ((((w5.1 147 7).toInt - (w0.1 147 7).toInt) + (20 - (w0.1 147 6).toInt)).toNat - 1) r5 w5 := dt_le (by omega) (by omega) hD5
      have hN := dt_node (a := 17) (b := x) (c := r5) (d := (((w5.1 147 7).toInt - (w0.1 147 7).toInt) + (20 - (w0.1 147 6).toInt)).toNat - 1) hR5.1 hN5 (fun _ => by rw [e12]; exact hx5) (fun _ => by rw [e12]; exact ⟨hx5, hy5⟩)
      rw [e12] at hN
      exact dt_le (by omega) (by omega) hN
    · have a5 : (ndW w5 17 x r5).1 147 5 = w5.1 147 5 := rfl
      rw [a5]; omega
theorem mr_or5 {nn : Nat} {ra ro rp : MW → (Int32 → MW → Prop) → Prop} (IH : ∀ (w : MW) (Q : Int32 → MW → Prop), BND w → MB w → 2 * (w.1 147 11).toInt ≤ Bf w → (3 * (20 - (w.1 147 6).toInt) + 1).toNat < nn → (∀ (r : Int32) (w' : MW), MrP r w w' → Q r w') → ra w Q) {w0 : MW} {E Q : Int32 → MW → Prop} (hB0 : MB w0) (hN0 : 2 * (w0.1 147 11).toInt ≤ Bf w0) (hI0 : BND w0) (hmu : (3 * (20 - (w0.1 147 6).toInt) + 2).toNat ≤ nn) (hE : ∀ (e : Int32) (w' : MW), MrP e w0 w' → E e w') (n : Nat) : ∀ (x : Int32) (w : MW), MrP x w0 w → (4021 - (w.1 147 5).toInt).toNat < n → q_Mr_or_5 ra ro rp E Q n x w := by
  induction n with
  | zero => intros; omega
  | succ n ih =>
    intro x w hP hm
    rw [q_Mr_or_5.eq_2]
    refine ⟨fun _ => hE x w hP, fun c1 => ?_⟩
    obtain ⟨hR, hx0, hx1, hS⟩ := hP
    obtain ⟨hop, hsd, hD⟩ := hS (by omega)
    have hI : BND w := hR.1
    have hB := mrr_mb hR hB0
    have b4 := bd_147_4 hI
    refine h_Mr_is hI (by decide) (by decide) (by decide) (by decide) (by decide) (by decide) (by decide) (by decide) (by decide) (by decide) (by decide) (by decide) (by decide) (by decide) (by decide) (by decide) (fun r3 w3 hI3 hF3 p0 p1 p2 => ?_)
    obtain rfl := fr_nil hF3 rfl
    refine ⟨fun _ => hE x w ⟨hR, hx0, hx1, hS⟩, fun c3 => ?_⟩
    have hw := p2.resolve_left c3
    have hWD : (2 : Int32).toInt = 2 := by decide
    rw [hWD] at hw
    have hR2 : MrR 2 w (sI w 147 5 ((w.1 147 5) + (1 : Int32))) := mrr_next hI hB hw.1 (by omega)
    have hb6 := bd_147_6 hI0
    have r3' := hR.2.2.1
    have r3'' := hR2.2.2.1
    have e6 : (sI w 147 5 ((w.1 147 5) + (1 : Int32))).1 147 6 = w.1 147 6 := rfl
    have e7 : (sI w 147 5 ((w.1 147 5) + (1 : Int32))).1 147 7 = w.1 147 7 := rfl
    have e5 := ti_add2 (Eq.refl (w.1 147 5).toInt) (by decide : ((1 : Int32)).toInt = 1) (by have := bd_147_5 hI; omega) (by have := bd_147_5 hI; omega)
    have e5' : (sI w 147 5 ((w.1 147 5) + (1 : Int32))).1 147 5 = (w.1 147 5) + (1 : Int32) := rfl
    refine IH _ _ hR2.1 (mrr_mb hR2 hB) (by omega) (by rw [e6, hop]; omega) (fun r5 w5 hP5 => ?_)
    obtain ⟨hR5, h50, h51, hS5⟩ := hP5
    have r5' := hR5.2.2.1
    have hRA : MrR 2 w0 w5 := mrr_tr (mrr_tr hR hR2 (k := 2) (by omega)) hR5 (by omega)
    have n5 := hR5.2.2.2.2.2
    rw [e5'] at n5
    refine ⟨fun c5 => ?_, fun c5 => ih (-1) w5 (mrp_no (mrr_tr hRA (mrr_refl hR5.1) (by omega))) (by omega)⟩
    obtain ⟨hop5, hsd5, hD5⟩ := hS5 c5
    rw [e6] at hop5 hD5
    rw [e7] at hsd5 hD5
    have hN5 : 2 * (w5.1 147 11).toInt + 2 ≤ Bf w5 := by omega
    have e12 : w5.1 147 12 = w0.1 147 12 := mrr_12 hRA
    have e12w : w.1 147 12 = w0.1 147 12 := mrr_12 hR
    have e12s : (sI w 147 5 ((w.1 147 5) + (1 : Int32))).1 147 12 = w.1 147 12 := rfl
    rw [e12s, e12w] at hD5
    have hKN : KN w w5 := (mrr_tr hR2 hR5 (k := 2) (by omega)).2.2.2.2.1
    have hnd : (w.1 147 11).toInt ≤ (w5.1 147 11).toInt := (mrr_tr hR2 hR5 (k := 2) (by omega)).2.2.2.1
    have hb12 := bd_147_12 hI0
    have b7 := bd_147_7 hR5.1
    have b7' := bd_147_7 hI0
    refine g_node hR5.1 hN5 (ih _ _ ⟨mrr_tr hRA (mrr_node hR5.1 hN5 (by decide) ⟨hx0, hx1⟩ ⟨h50, h51⟩) (by omega), ?_, ?_, ?_⟩ ?_)
    · have := ndx_eq hR5.1; have := bd_147_11 hR5.1; have := bd_147_12 hR5.1; omega
    · have := ndx_eq hR5.1; have := bd_147_11 hR5.1; have := bd_147_12 hR5.1; have := bf_le hR5.1; omega
    · intro _
      have a6 : (ndW w5 18 x r5).1 147 6 = w5.1 147 6 := rfl
      have a7 : (ndW w5 18 x r5).1 147 7 = w5.1 147 7 := rfl
      have a11 : (ndW w5 18 x r5).1 147 11 = (w5.1 147 11) + (1 : Int32) := rfl
      have b11 := bd_147_11 hR5.1
      have e11 := ti_add2 (Eq.refl (w5.1 147 11).toInt) (by decide : ((1 : Int32)).toInt = 1) (by omega) (by omega)
      rw [a6, a7, a11, e11]
      refine ⟨by omega, by omega, ?_⟩
      have hx5 : DT (3000 * (1 - (w0.1 147 12).toInt)) (3000 * (1 - (w0.1 147 12).toInt) + (w5.1 147 11).toInt) ((((w5.1 147 7).toInt - (w0.1 147 7).toInt) + (20 - (w0.1 147 6).toInt)).toNat - 1) x w5 := by
        refine dt_mv (by omega) (by omega) ?_ _ _ x (by omega) hD
        intro j _ hj
        exact hKN j (Or.inl (by rw [e12w]; omega))
      have hy5 : DT (3000 * (1 - (w0.1 147 12).toInt)) (3000 * (1 - (w0.1 147 12).toInt) + (w5.1 147 11).toInt) ((((w5.1 147 7).toInt - (w0.1 147 7).toInt) + (20 - (w0.1 147 6).toInt)).toNat - 1) r5 w5 := dt_le (by omega) (by omega) hD5
      have hN := dt_node (a := 18) (b := x) (c := r5) (d := (((w5.1 147 7).toInt - (w0.1 147 7).toInt) + (20 - (w0.1 147 6).toInt)).toNat - 1) hR5.1 hN5 (fun _ => by rw [e12]; exact hx5) (fun _ => by rw [e12]; exact ⟨hx5, hy5⟩)
      rw [e12] at hN
      exact dt_le (by omega) (by omega) hN
    · have a5 : (ndW w5 18 x r5).1 147 5 = w5.1 147 5 := rfl
      rw [a5]; omega
theorem mr_part109 {ra ro rp : MW → (Int32 → MW → Prop) → Prop} {y x d1 : Int32} {w w2 w5 : MW} {Q : Int32 → MW → Prop} {k : Int} (hI : BND w) (hB : MB w) (hN : 2 * (w.1 147 11).toInt ≤ Bf w) (hy : (¬ y.toInt = 0 ∧ k = 3 ∧ d1.toInt = 0) ∨ (y.toInt = 0 ∧ k = 1 ∧ d1.toInt = 1 ∧ (w5.1 147 5).toInt < (w5.1 147 4).toInt)) (hR2 : MrR k w w2) (e6 : (w2.1 147 6).toInt = (w.1 147 6).toInt + 1) (e7 : w2.1 147 7 = w.1 147 7) (hP5 : MrP x w2 w5) (hx : 0 ≤ x.toInt) (hQ : ∀ (r : Int32) (w' : MW), MrP r w w' → Q r w') : q_Mr_part_109 ra ro rp y x d1 (w5.1 147 5) w5 Q := by
  refine Eq.mpr (q_Mr_part_109.eq_1 _ _ _ _ _ _ _ _ _) ?_
  obtain ⟨hR5, h50, h51, hS5⟩ := hP5
  obtain ⟨hop5, hsd5, hD5⟩ := hS5 hx
  have hI5 : BND w5 := hR5.1
  have b5 := bd_147_5 hI5
  have b6 := bd_147_6 hI5
  have b6w := bd_147_6 hI
  have b4 := bd_147_4 hI5
  have b12 := bd_147_12 hI
  have b11 := bd_147_11 hI5
  have b7 := bd_147_7 hI5
  have b7w := bd_147_7 hI
  have s5 := ti_add2 (Eq.refl (w5.1 147 5).toInt) (Eq.refl d1.toInt) (by omega) (by omega)
  have s6 := ti_sub2 (Eq.refl (w5.1 147 6).toInt) (by decide : ((1 : Int32)).toInt = 1) (by omega) (by omega)
  have e12 : w5.1 147 12 = w.1 147 12 := (mrr_12 hR5).trans (mrr_12 hR2)
  have e12' : w2.1 147 12 = w.1 147 12 := mrr_12 hR2
  rw [e12'] at hD5
  rw [e7] at hsd5 hD5
  have hB5 : MB w5 := mrr_mb hR5 (mrr_mb hR2 hB)
  have hI6 : BND (sI w5 147 5 ((w5.1 147 5) + d1)) := wbd_147_5 hI5 (by omega) (by omega)
  have hI7 : BND (sI (sI w5 147 5 ((w5.1 147 5) + d1)) 147 6 ((w5.1 147 6) - (1 : Int32))) := wbd_147_6 hI6 (by omega) (by omega)
  have hR6 : MrR 0 w5 (sI w5 147 5 ((w5.1 147 5) + d1)) := by
    rcases hy with ⟨_, _, hd⟩ | ⟨_, _, hd, h5⟩
    · have e : (w5.1 147 5) + d1 = w5.1 147 5 := Int32.toInt_inj.mp (by omega)
      rw [e] at hI6 ⊢
      exact mrr_stay hI6 (FR.I (FR.refl _ w5) rfl) rfl rfl (fun _ => ⟨rfl, rfl, rfl⟩)
    · have e : d1 = (1 : Int32) := Int32.toInt_inj.mp (by rw [hd]; decide)
      subst e
      refine mrr_tr (mrr_next (k := 0) hI5 hB5 h5 ?_) (mrr_refl hI6) (by omega)
      have := hB5 (w5.1 147 5) b5.1 h5
      omega
  have hR7 : MrR 0 w5 (sI (sI w5 147 5 ((w5.1 147 5) + d1)) 147 6 ((w5.1 147 6) - (1 : Int32))) := mrr_tr hR6 (mrr_stay hI7 (FR.I (FR.refl _ _) rfl) rfl rfl (fun _ => ⟨rfl, rfl, rfl⟩)) (by omega)
  have hRA : MrR k w (sI (sI w5 147 5 ((w5.1 147 5) + d1)) 147 6 ((w5.1 147 6) - (1 : Int32))) := mrr_tr (mrr_tr hR2 hR5 (k := k) (by omega)) hR7 (by omega)
  generalize hW : (sI (sI w5 147 5 ((w5.1 147 5) + d1)) 147 6 ((w5.1 147 6) - (1 : Int32))) = w7 at *
  have f6 : (w7.1 147 6).toInt = (w5.1 147 6).toInt - 1 := by rw [← hW]; exact s6
  have f7 : w7.1 147 7 = w5.1 147 7 := by rw [← hW]; rfl
  have f11 : w7.1 147 11 = w5.1 147 11 := by rw [← hW]; rfl
  have f12 : w7.1 147 12 = w.1 147 12 := mrr_12 hRA
  have hD7 : ∀ m : Nat, (((w5.1 147 7).toInt - (w.1 147 7).toInt) + (20 - (w2.1 147 6).toInt)).toNat ≤ m → DT (3000 * (1 - (w.1 147 12).toInt)) (3000 * (1 - (w.1 147 12).toInt) + (w7.1 147 11).toInt) m x w7 := by
    intro m hm
    refine dt_mv (by omega) (by rw [f11]; omega) ?_ _ _ x hm hD5
    intro j _ hj
    exact hR7.2.2.2.2.1 j (Or.inl (by rw [e12]; omega))
  have hb := hRA.2.2.1
  refine ⟨fun c => hQ x _ ⟨mrr_tr hRA (mrr_refl hI7) (by omega), h50, h51, fun _ => ⟨by omega, by rw [f7]; omega, hD7 _ (by rw [f7]; omega)⟩⟩, fun c => ?_⟩
  have hk : k = 3 := by omega
  have hN7 : 2 * (w7.1 147 11).toInt + 2 ≤ Bf w7 := by omega
  have b11' := bd_147_11 hI7
  have nx := ndx_eq hI7
  have bl := bf_le hI7
  rw [f12] at nx
  refine g_node hI7 hN7 (hQ _ _ ⟨mrr_tr hRA (mrr_node hI7 hN7 (by decide) ⟨h50, h51⟩ (by decide)) (by omega), by omega, by omega, fun _ => ?_⟩)
  have a6 : (ndW w7 16 x (-1)).1 147 6 = w7.1 147 6 := rfl
  have a7 : (ndW w7 16 x (-1)).1 147 7 = w7.1 147 7 := rfl
  have a11 : (ndW w7 16 x (-1)).1 147 11 = (w7.1 147 11) + (1 : Int32) := rfl
  have e11 := ti_add2 (Eq.refl (w7.1 147 11).toInt) (by decide : ((1 : Int32)).toInt = 1) (by omega) (by omega)
  rw [a6, a7, a11, e11, f7]
  refine ⟨by omega, by omega, ?_⟩
  have hN := dt_node (a := 16) (b := x) (c := -1) (d := (((w5.1 147 7).toInt - (w.1 147 7).toInt) + (20 - (w2.1 147 6).toInt)).toNat) hI7 hN7 (fun _ => by rw [f12]; exact hD7 _ (by omega)) (fun q => absurd q (by decide))
  rw [f12] at hN
  exact dt_le (by omega) (by omega) hN
theorem mr_part75 {ra ro rp : MW → (Int32 → MW → Prop) → Prop} {y x : Int32} {w w2 w5 : MW} {Q : Int32 → MW → Prop} {k : Int} (hI : BND w) (hB : MB w) (hN : 2 * (w.1 147 11).toInt ≤ Bf w) (hy : (¬ y.toInt = 0 ∧ k = 3) ∨ (y.toInt = 0 ∧ k = 1)) (hR2 : MrR k w w2) (e6 : (w2.1 147 6).toInt = (w.1 147 6).toInt + 1) (e7 : w2.1 147 7 = w.1 147 7) (hP5 : MrP x w2 w5) (hQ : ∀ (r : Int32) (w' : MW), MrP r w w' → Q r w') : q_Mr_part_75 ra ro rp y x w5 Q := by
  refine Eq.mpr (q_Mr_part_75.eq_1 _ _ _ _ _ _ _) ?_
  have no : Q (-1) w5 := hQ _ _ (mrp_no (mrr_tr hR2 hP5.1 (by omega)))
  refine ⟨fun _ => no, fun c => ⟨fun cy => ⟨fun c0 => absurd c0 cy, fun _ => ?_⟩, fun cy => ?_⟩⟩
  · exact mr_part109 hI hB hN (Or.inl ⟨cy, by omega, by decide⟩) hR2 e6 e7 hP5 (by omega) hQ
  · refine h_Mr_isOne hP5.1.1 (by decide) (by decide) (fun r w1 hI1 hF1 p0 p1 p2 => ?_)
    obtain rfl := fr_nil hF1 rfl
    refine ⟨fun c1 => ⟨fun c0 => ?_, fun c0 => absurd c0 cy⟩, fun _ => no⟩
    exact mr_part109 hI hB hN (Or.inr ⟨c0, by omega, by decide, (p2.resolve_left c1).1⟩) hR2 e6 e7 hP5 (by omega) hQ
theorem mr_part29 {nn : Nat} {ra ro rp : MW → (Int32 → MW → Prop) → Prop} (IHo : ∀ (w : MW) (Q : Int32 → MW → Prop), BND w → MB w → 2 * (w.1 147 11).toInt ≤ Bf w → (3 * (20 - (w.1 147 6).toInt) + 2).toNat < nn → (∀ (r : Int32) (w' : MW), MrP r w w' → Q r w') → ro w Q) (IHp : ∀ (w : MW) (Q : Int32 → MW → Prop), BND w → MB w → 2 * (w.1 147 11).toInt ≤ Bf w → (3 * (20 - (w.1 147 6).toInt)).toNat < nn → (∀ (r : Int32) (w' : MW), MrP r w w' → Q r w') → rp w Q) {y : Int32} {w : MW} {Q : Int32 → MW → Prop} {k : Int} (hI : BND w) (hB : MB w) (hN : 2 * (w.1 147 11).toInt ≤ Bf w) (hmu : (3 * (20 - (w.1 147 6).toInt)).toNat ≤ nn) (h5 : (w.1 147 5).toInt < (w.1 147 4).toInt) (hy : (¬ y.toInt = 0 ∧ k = 3) ∨ (y.toInt = 0 ∧ k = 1)) (hw : (w.1 150 ((w.1 147 5).toInt.toNat)).toInt - (w.1 149 ((w.1 147 5).toInt.toNat)).toInt = k) (hQ : ∀ (r : Int32) (w' : MW), MrP r w w' → Q r w') : q_Mr_part_29 ra ro rp y w Q := by
  refine Eq.mpr (q_Mr_part_29.eq_1 _ _ _ _ _ _) ?_
  refine ⟨fun c => ?_, fun _ => hQ _ _ (mrp_no (mrr_refl hI))⟩
  have b6 := bd_147_6 hI
  have s6 := ti_add2 (Eq.refl (w.1 147 6).toInt) (by decide : ((1 : Int32)).toInt = 1) (by omega) (by omega)
  have hR1 : MrR k w (sI w 147 5 ((w.1 147 5) + (1 : Int32))) := mrr_next hI hB h5 (by omega)
  have hI2 : BND (sI (sI w 147 5 ((w.1 147 5) + (1 : Int32))) 147 6 ((w.1 147 6) + (1 : Int32))) := wbd_147_6 hR1.1 (by omega) (by omega)
  have hR2 : MrR k w (sI (sI w 147 5 ((w.1 147 5) + (1 : Int32))) 147 6 ((w.1 147 6) + (1 : Int32))) := mrr_tr hR1 (mrr_stay hI2 (FR.I (FR.refl _ _) rfl) rfl rfl (fun _ => ⟨rfl, rfl, rfl⟩)) (by omega)
  have e6 : ((sI (sI w 147 5 ((w.1 147 5) + (1 : Int32))) 147 6 ((w.1 147 6) + (1 : Int32))).1 147 6).toInt = (w.1 147 6).toInt + 1 := s6
  have e7 : (sI (sI w 147 5 ((w.1 147 5) + (1 : Int32))) 147 6 ((w.1 147 6) + (1 : Int32))).1 147 7 = w.1 147 7 := rfl
  have hb := hR2.2.2.1
  refine ⟨fun c0 => IHo _ _ hI2 (mrr_mb hR2 hB) (by omega) (by rw [e6]; omega) (fun r5 w5 hP5 => mr_part75 hI hB hN hy hR2 e6 e7 hP5 hQ), fun c0 => IHp _ _ hI2 (mrr_mb hR2 hB) (by omega) (by rw [e6]; omega) (fun r5 w5 hP5 => mr_part75 hI hB hN hy hR2 e6 e7 hP5 hQ)⟩
theorem mr_partb {nn : Nat} {ra ro rp : MW → (Int32 → MW → Prop) → Prop} (IHo : ∀ (w : MW) (Q : Int32 → MW → Prop), BND w → MB w → 2 * (w.1 147 11).toInt ≤ Bf w → (3 * (20 - (w.1 147 6).toInt) + 2).toNat < nn → (∀ (r : Int32) (w' : MW), MrP r w w' → Q r w') → ro w Q) (IHp : ∀ (w : MW) (Q : Int32 → MW → Prop), BND w → MB w → 2 * (w.1 147 11).toInt ≤ Bf w → (3 * (20 - (w.1 147 6).toInt)).toNat < nn → (∀ (r : Int32) (w' : MW), MrP r w w' → Q r w') → rp w Q) {w : MW} {Q : Int32 → MW → Prop} (hI : BND w) (hB : MB w) (hN : 2 * (w.1 147 11).toInt ≤ Bf w) (hmu : (3 * (20 - (w.1 147 6).toInt)).toNat ≤ nn) (hQ : ∀ (r : Int32) (w' : MW), MrP r w w' → Q r w') : pb_Mr_part ra ro rp w Q := by
  refine Eq.mpr (pb_Mr_part.eq_1 _ _ _ _ _) ?_
  have no : Q (-1) w := hQ _ _ (mrp_no (mrr_refl hI))
  refine h_Mr_is hI (by decide) (by decide) (by decide) (by decide) (by decide) (by decide) (by decide) (by decide) (by decide) (by decide) (by decide) (by decide) (by decide) (by decide) (by decide) (by decide) (fun r1 w1 hI1 hF1 p0 p1 p2 => ?_)
  obtain rfl := fr_nil hF1 rfl
  have h3 : (3 : Int32).toInt = 3 := by decide
  rw [h3] at p2
  refine ⟨fun c1 => mr_part29 IHo IHp hI hB hN hmu (p2.resolve_left c1).1 (Or.inl ⟨c1, rfl⟩) (p2.resolve_left c1).2 hQ, fun c1 => ?_⟩
  refine h_Mr_isOne hI (by decide) (by decide) (fun r15 w1 hI1 hF1 q0 q1 q2 => ?_)
  obtain rfl := fr_nil hF1 rfl
  refine ⟨fun c2 => ?_, fun c2 => mr_part29 IHo IHp hI hB hN hmu (q2.resolve_left c2).1 (Or.inr ⟨by omega, rfl⟩) (q2.resolve_left c2).2 hQ⟩
  refine Eq.mpr (p_Mr_conditionWord.eq_1 _ _) ?_
  refine h_Mr_at hI (by decide) (by decide) (fun r w1 hI1 hF1 _ _ => ?_)
  obtain rfl := fr_nil hF1 rfl
  refine ⟨fun _ => ⟨fun _ => no, fun q => absurd (by decide) q⟩, fun _ => ?_⟩
  refine h_Mr_number hI (by decide) (by decide) (by decide) (by decide) (fun r17 w1 hI1 hF1 z0 z1 z2 z3 z4 => ?_)
  obtain rfl := fr_nil hF1 rfl
  refine ⟨fun _ => no, fun c3 => ⟨fun c4 => ?_, fun _ => no⟩⟩
  have h15 : (15 : Int32).toInt = 15 := by decide
  have h11 : (1 : Int32).toInt = 1 := by decide
  rw [h15] at z3
  rw [h11] at z4
  have hw := z4.resolve_left (by omega)
  have hr := z3.resolve_left (by omega)
  have b7 := bd_147_7 hI
  have b6 := bd_147_6 hI
  have s7 := ti_add2 (Eq.refl (w.1 147 7).toInt) (by decide : ((1 : Int32)).toInt = 1) (by omega) (by omega)
  have hI1 : BND (sI w 147 7 ((w.1 147 7) + (1 : Int32))) := wbd_147_7 hI (by omega) (by omega)
  have hR1 : MrR 0 w (sI w 147 7 ((w.1 147 7) + (1 : Int32))) := mrr_stay hI1 (FR.I (FR.refl _ _) rfl) rfl rfl (fun _ => ⟨rfl, rfl, rfl⟩)
  have hR2' : MrR 2 (sI w 147 7 ((w.1 147 7) + (1 : Int32))) (sI (sI w 147 7 ((w.1 147 7) + (1 : Int32))) 147 5 ((w.1 147 5) + (1 : Int32))) := by
    have q : (sI w 147 7 ((w.1 147 7) + (1 : Int32))).1 147 5 = w.1 147 5 := rfl
    have := mrr_next (k := 2) hI1 (mrr_mb hR1 hB) hw.1 (by
      have a1 : ∀ j, (sI w 147 7 ((w.1 147 7) + (1 : Int32))).1 150 j = w.1 150 j := fun _ => rfl
      have a2 : ∀ j, (sI w 147 7 ((w.1 147 7) + (1 : Int32))).1 149 j = w.1 149 j := fun _ => rfl
      rw [q, a1, a2]; omega)
    exact this
  have hR2 : MrR 2 w (sI (sI w 147 7 ((w.1 147 7) + (1 : Int32))) 147 5 ((w.1 147 5) + (1 : Int32))) := mrr_tr hR1 hR2' (by omega)
  have f6 : (sI (sI w 147 7 ((w.1 147 7) + (1 : Int32))) 147 5 ((w.1 147 5) + (1 : Int32))).1 147 6 = w.1 147 6 := rfl
  have f7 : ((sI (sI w 147 7 ((w.1 147 7) + (1 : Int32))) 147 5 ((w.1 147 5) + (1 : Int32))).1 147 7).toInt = (w.1 147 7).toInt + 1 := s7
  have f12 : (sI (sI w 147 7 ((w.1 147 7) + (1 : Int32))) 147 5 ((w.1 147 5) + (1 : Int32))).1 147 12 = w.1 147 12 := rfl
  generalize (sI (sI w 147 7 ((w.1 147 7) + (1 : Int32))) 147 5 ((w.1 147 5) + (1 : Int32))) = w2 at *
  have hI2 : BND w2 := hR2.1
  have hb := hR2.2.2.1
  have hN2 : 2 * (w2.1 147 11).toInt + 2 ≤ Bf w2 := by omega
  have nx := ndx_eq hI2
  have b11 := bd_147_11 hI2
  have b12 := bd_147_12 hI2
  have bl := bf_le hI2
  refine g_node hI2 hN2 (hQ _ _ ⟨mrr_tr hR2 (mrr_node hI2 hN2 ⟨by omega, by omega⟩ (by decide) (by decide)) (by omega), by omega, by omega, fun _ => ?_⟩)
  have a6 : (ndW w2 r17 (-1) (-1)).1 147 6 = w2.1 147 6 := rfl
  have a7 : (ndW w2 r17 (-1) (-1)).1 147 7 = w2.1 147 7 := rfl
  have a11 : (ndW w2 r17 (-1) (-1)).1 147 11 = (w2.1 147 11) + (1 : Int32) := rfl
  have e11 := ti_add2 (Eq.refl (w2.1 147 11).toInt) (by decide : ((1 : Int32)).toInt = 1) (by omega) (by omega)
  rw [a6, a7, a11, e11, f6, f7]
  refine ⟨rfl, by omega, ?_⟩
  have hD := dt_node (a := r17) (b := -1) (c := -1) (d := 0) hI2 hN2 (fun q => by omega) (fun q => by omega)
  rw [f12] at hD b12
  exact dt_le (by omega) (by omega) hD
theorem mr_all (n : Nat) : (∀ (w : MW) (Q : Int32 → MW → Prop), BND w → MB w → 2 * (w.1 147 11).toInt ≤ Bf w → (3 * (20 - (w.1 147 6).toInt) + 1).toNat < n → (∀ (r : Int32) (w' : MW), MrP r w w' → Q r w') → pn_Mr_and n w Q) ∧ (∀ (w : MW) (Q : Int32 → MW → Prop), BND w → MB w → 2 * (w.1 147 11).toInt ≤ Bf w → (3 * (20 - (w.1 147 6).toInt) + 2).toNat < n → (∀ (r : Int32) (w' : MW), MrP r w w' → Q r w') → pn_Mr_or n w Q) ∧ (∀ (w : MW) (Q : Int32 → MW → Prop), BND w → MB w → 2 * (w.1 147 11).toInt ≤ Bf w → (3 * (20 - (w.1 147 6).toInt)).toNat < n → (∀ (r : Int32) (w' : MW), MrP r w w' → Q r w') → pn_Mr_part n w Q) := by
  induction n with
  | zero => refine ⟨?_, ?_, ?_⟩ <;> (intros; omega)
  | succ n ih =>
    obtain ⟨ia, io, ip⟩ := ih
    refine ⟨fun w Q hI hB hN hm hQ => Eq.mpr (pe_Mr_and n w Q) ?_, fun w Q hI hB hN hm hQ => Eq.mpr (pe_Mr_or n w Q) ?_, fun w Q hI hB hN hm hQ => Eq.mpr (pe_Mr_part n w Q) ?_⟩
    · refine Eq.mpr (pb_Mr_and.eq_1 _ _ _ _ _) ?_
      have b6 := bd_147_6 hI
      refine ip w _ hI hB hN (by omega) (fun r1 w1 hP1 => ?_)
      have b5 := bd_147_5 hP1.1.1
      exact mr_and5 ip hB hN hI (by omega) hQ FU r1 w1 hP1 (fu_lt (by omega))
    · refine Eq.mpr (pb_Mr_or.eq_1 _ _ _ _ _) ?_
      have b6 := bd_147_6 hI
      refine ia w _ hI hB hN (by omega) (fun r1 w1 hP1 => ?_)
      have b5 := bd_147_5 hP1.1.1
      exact mr_or5 ia hB hN hI (by omega) hQ FU r1 w1 hP1 (fu_lt (by omega))
    · exact mr_partb io ip hI hB hN (by omega) hQ
theorem h_Mr_or {w : MW} {Q : Int32 → MW → Prop} (hI : BND w) (hf_DR : DR w) (hf_DR1 : DR1 w) (hf_MB : MB w) (hf_NB : NB w) (hp0 : (w.1 147 6).toInt = 0) (hp1 : (w.1 147 7).toInt = 0) (hQ : ∀ (r : Int32) (w' : MW), BND w' → FR l_Mr_or w w' → DR w' → DR1 w' → NB w' → (-1) ≤ r.toInt → r.toInt ≤ 5999 → (w.1 147 5).toInt ≤ (w'.1 147 5).toInt → r.toInt < 0 ∨ DX r w' → Q r w') : p_Mr_or w Q := by
  have b11 := bd_147_11 hI
  have b12 := bd_147_12 hI
  have b20 := bd_147_20 hI
  have bg := bf_ge hI
  have hN : 2 * (w.1 147 11).toInt ≤ Bf w := by
    rcases hf_NB with h | h
    · omega
    · exact h
  refine (mr_all 400).2.1 w Q hI hf_MB hN (by omega) (fun r w' hP => ?_)
  obtain ⟨hR, h0, h1, hS⟩ := hP
  have e12 := mrr_12 hR
  have e13 : w'.1 147 13 = w.1 147 13 := (hR.2.1 147 13 rfl).1
  have e20 : w'.1 147 20 = w.1 147 20 := (hR.2.1 147 20 rfl).1
  have e154 : ∀ j, w'.1 154 j = w.1 154 j := fun j => (hR.2.1 154 j rfl).1
  have hK := hR.2.2.2.2.1
  refine hQ r w' hR.1 hR.2.1 ?_ ?_ ?_ h0 h1 hR.2.2.2.2.2 ?_
  · intro k k0 k1
    rw [e20] at k1
    rw [e12, e154]
    refine dv_mv e12 ?_ (hf_DR k k0 k1)
    intro j j0 j1
    exact hK j (by omega)
  · intro k k0 k1
    rw [e13] at k1
    rw [e12, e154]
    exact dx_mv e12 hR.2.2.2.1 (fun j hj => hK j (Or.inl hj)) (hf_DR1 k k0 k1)
  · right
    have := hR.2.2.1
    omega
  · by_cases c : r.toInt < 0
    · exact Or.inl c
    · right
      obtain ⟨h6, h7, h8⟩ := hS (by omega)
      unfold DX
      rw [e12]
      have b7 := bd_147_7 hR.1
      exact ⟨⟨_, by omega, h8⟩, b12⟩
