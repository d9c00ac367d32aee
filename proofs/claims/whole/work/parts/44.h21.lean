def l_Ro_isOn_10 : Pl := []
def l_Ro_isOn : Pl := []
set_option maxRecDepth 20000 in
set_option maxHeartbeats 2000000 in
theorem hq_Ro_isOn_10 {x10_1 : Int32} {E : Int64 → MW → Prop} {Q : Int32 → MW → Prop} (n : Nat) : ∀ (x10_2 : Int64) (x10_4 : Int32) (w : MW), BND w → 0 ≤ x10_1.toInt → x10_1.toInt ≤ 39 → 0 ≤ x10_4.toInt → x10_4.toInt ≤ 1400 → (1400 - x10_4.toInt).toNat < n → (∀ (e10_2 : Int64) (w' : MW), BND w' → FR l_Ro_isOn_10 w w' → E e10_2 w') → (∀ (r : Int32) (w' : MW), BND w' → FR l_Ro_isOn_10 w w' → False → Q r w') → q_Ro_isOn_10 x10_1 E Q n x10_2 x10_4 w := by
  induction n with
  | zero => intros; omega
  | succ n ih =>
    intro x10_2 x10_4 w hI  hp0 hp1 hp2 hp3 hm hE hQ
    rw [q_Ro_isOn_10.eq_2]
    have o4975 : 0 ≤ (x10_1 + (1 : Int32)).toInt ∧ (x10_1 + (1 : Int32)).toInt < 41 := by have := ti_add2 (Eq.refl x10_1.toInt) (by decide : ((1 : Int32)).toInt = 1) (by omega) (by omega); omega
    refine ⟨o4975, ?_⟩
    refine ⟨fun h4976 => ?_, fun h4976 => ?_⟩
    · exact hE _ _ hI (FR.refl _ w)
    · have o4977 : 0 ≤ x10_4.toInt ∧ x10_4.toInt < 1400 := by have := bd_55 hI ((x10_1 + (1 : Int32)).toInt.toNat); omega
      refine ⟨o4977, ?_⟩
      refine ⟨fun h4978 => ?_, fun h4978 => ?_⟩
      · have o4979 : 0 ≤ x10_4.toInt ∧ x10_4.toInt < 1400 := by have := bd_55 hI ((x10_1 + (1 : Int32)).toInt.toNat); omega
        refine ⟨o4979, ?_⟩
        refine ⟨fun h4980 => ?_, fun h4980 => ?_⟩
        · have o4981 : 0 ≤ x10_4.toInt ∧ x10_4.toInt < 1400 := by have := bd_55 hI ((x10_1 + (1 : Int32)).toInt.toNat); omega
          refine ⟨o4981, ?_⟩
          refine ⟨fun h4982 => ?_, fun h4982 => ?_⟩
          · have o4983 : (0 ≤ x10_1.toInt) ∧ (x10_1.toInt ≤ 39) ∧ (0 ≤ (x10_4 + (1 : Int32)).toInt) ∧ ((x10_4 + (1 : Int32)).toInt ≤ 1400) := by have := bd_55 hI ((x10_1 + (1 : Int32)).toInt.toNat); have := ti_add2 (Eq.refl x10_4.toInt) (by decide : ((1 : Int32)).toInt = 1) (by omega) (by omega); exact ⟨by omega, by omega, by omega, by omega⟩
            exact ih _ _ w hI  o4983.1 o4983.2.1 o4983.2.2.1 o4983.2.2.2 (by have := bd_55 hI ((x10_1 + (1 : Int32)).toInt.toNat); have := ti_add2 (Eq.refl x10_4.toInt) (by decide : ((1 : Int32)).toInt = 1) (by omega) (by omega); omega) (fun e0 w9 hI9 hF9 => hE e0 w9 hI9 ((FR.refl _ w).tr hF9 rfl) ) (fun r w9 hI9 hF9 q0 => q0.elim)
          · have o4984 : (0 ≤ x10_1.toInt) ∧ (x10_1.toInt ≤ 39) ∧ (0 ≤ (x10_4 + (1 : Int32)).toInt) ∧ ((x10_4 + (1 : Int32)).toInt ≤ 1400) := by have := bd_55 hI ((x10_1 + (1 : Int32)).toInt.toNat); have := ti_add2 (Eq.refl x10_4.toInt) (by decide : ((1 : Int32)).toInt = 1) (by omega) (by omega); exact ⟨by omega, by omega, by omega, by omega⟩
            exact ih _ _ w hI  o4984.1 o4984.2.1 o4984.2.2.1 o4984.2.2.2 (by have := bd_55 hI ((x10_1 + (1 : Int32)).toInt.toNat); have := ti_add2 (Eq.refl x10_4.toInt) (by decide : ((1 : Int32)).toInt = 1) (by omega) (by omega); omega) (fun e0 w9 hI9 hF9 => hE e0 w9 hI9 ((FR.refl _ w).tr hF9 rfl) ) (fun r w9 hI9 hF9 q0 => q0.elim)
        · have o4985 : (0 ≤ x10_1.toInt) ∧ (x10_1.toInt ≤ 39) ∧ (0 ≤ (x10_4 + (1 : Int32)).toInt) ∧ ((x10_4 + (1 : Int32)).toInt ≤ 1400) := by have := bd_55 hI ((x10_1 + (1 : Int32)).toInt.toNat); have := ti_add2 (Eq.refl x10_4.toInt) (by decide : ((1 : Int32)).toInt = 1) (by omega) (by omega); exact ⟨by omega, by omega, by omega, by omega⟩
          exact ih _ _ w hI  o4985.1 o4985.2.1 o4985.2.2.1 o4985.2.2.2 (by have := bd_55 hI ((x10_1 + (1 : Int32)).toInt.toNat); have := ti_add2 (Eq.refl x10_4.toInt) (by decide : ((1 : Int32)).toInt = 1) (by omega) (by omega); omega) (fun e0 w9 hI9 hF9 => hE e0 w9 hI9 ((FR.refl _ w).tr hF9 rfl) ) (fun r w9 hI9 hF9 q0 => q0.elim)
      · have o4986 : 0 ≤ x10_4.toInt ∧ x10_4.toInt < 1400 := by have := bd_55 hI ((x10_1 + (1 : Int32)).toInt.toNat); omega
        refine ⟨o4986, ?_⟩
        have o4987 : (0 ≤ x10_1.toInt) ∧ (x10_1.toInt ≤ 39) ∧ (0 ≤ (x10_4 + (1 : Int32)).toInt) ∧ ((x10_4 + (1 : Int32)).toInt ≤ 1400) := by have := bd_55 hI ((x10_1 + (1 : Int32)).toInt.toNat); have := bd_56 hI x10_4.toInt.toNat; have := (by decide : ((16 : Int32)).toInt = 16); have := ti_add2 (Eq.refl x10_4.toInt) (by decide : ((1 : Int32)).toInt = 1) (by omega) (by omega); exact ⟨by omega, by omega, by omega, by omega⟩
        exact ih _ _ w hI  o4987.1 o4987.2.1 o4987.2.2.1 o4987.2.2.2 (by have := bd_55 hI ((x10_1 + (1 : Int32)).toInt.toNat); have := bd_56 hI x10_4.toInt.toNat; have := (by decide : ((16 : Int32)).toInt = 16); have := ti_add2 (Eq.refl x10_4.toInt) (by decide : ((1 : Int32)).toInt = 1) (by omega) (by omega); omega) (fun e0 w9 hI9 hF9 => hE e0 w9 hI9 ((FR.refl _ w).tr hF9 rfl) ) (fun r w9 hI9 hF9 q0 => q0.elim)
set_option maxRecDepth 20000 in
set_option maxHeartbeats 2000000 in
theorem h_Ro_isOn {w : MW} {a0 : Int32} {Q : Int32 → MW → Prop} (hI : BND w) (hp0 : 0 ≤ a0.toInt) (hp1 : a0.toInt ≤ 39) (hQ : ∀ (r : Int32) (w' : MW), BND w' → FR l_Ro_isOn w w' → 0 ≤ r.toInt → r.toInt ≤ 1 → Q r w') : p_Ro_isOn w a0 Q := by
  refine Eq.mpr (p_Ro_isOn.eq_1 _ _ _) ?_
  have o4988 : 0 ≤ a0.toInt ∧ a0.toInt < 41 := by omega
  refine ⟨o4988, ?_⟩
  have o4989 : (0 ≤ a0.toInt) ∧ (a0.toInt ≤ 39) ∧ (0 ≤ (w.1 55 a0.toInt.toNat).toInt) ∧ ((w.1 55 a0.toInt.toNat).toInt ≤ 1400) := by have := (by decide : ((0 : Int64)).toInt = 0); have := bd_55 hI a0.toInt.toNat; exact ⟨by omega, by omega, by omega, by omega⟩
  refine hq_Ro_isOn_10 FU _ _ w hI  o4989.1 o4989.2.1 o4989.2.2.1 o4989.2.2.2 (fu_lt (by have := (by decide : ((0 : Int64)).toInt = 0); have := bd_55 hI a0.toInt.toNat; omega)) (fun e4993 w4990 hI4991 hL4992  => ?_) (fun r w9 hI9 hF9 q0 => q0.elim)
  have hF4994 : FR l_Ro_isOn w w4990 := (FR.refl _ w).tr hL4992 rfl
  refine ⟨fun h4995 => ?_, fun h4995 => ?_⟩
  · have o4996 : (0 ≤ (0 : Int32).toInt) ∧ ((0 : Int32).toInt ≤ 1) := by have := (by decide : ((0 : Int32)).toInt = 0); exact ⟨by omega, by omega⟩
    exact hQ _ _ hI4991 hF4994  o4996.1 o4996.2
  · have o4997 : (0 ≤ (1 : Int32).toInt) ∧ ((1 : Int32).toInt ≤ 1) := by have := (by decide : ((1 : Int32)).toInt = 1); exact ⟨by omega, by omega⟩
    exact hQ _ _ hI4991 hF4994  o4997.1 o4997.2
def l_Ro_barring_37 : Pl := []
def l_Ro_barring_2 : Pl := []
def l_Ro_barring : Pl := []
set_option maxRecDepth 20000 in
set_option maxHeartbeats 2000000 in
theorem hq_Ro_barring_2 {x2_1 : Int32} {E : MW → Prop} {Q : Int32 → MW → Prop} (n : Nat) : ∀ (x2_2 : Int32) (w : MW), BND w → 0 ≤ x2_1.toInt → x2_1.toInt ≤ 31 → 0 ≤ x2_2.toInt → x2_2.toInt ≤ 40 → (40 - x2_2.toInt).toNat < n → (∀ (w' : MW), BND w' → FR l_Ro_barring_2 w w' → E w') → (∀ (r : Int32) (w' : MW), BND w' → FR l_Ro_barring_2 w w' → 1 ≤ r.toInt → r.toInt ≤ 40 → Q r w') → q_Ro_barring_2 x2_1 E Q n x2_2 w := by
  induction n with
  | zero => intros; omega
  | succ n ih =>
    intro x2_2 w hI  hp0 hp1 hp2 hp3 hm hE hQ
    rw [q_Ro_barring_2.eq_2]
    refine ⟨fun h4998 => ?_, fun h4998 => ?_⟩
    · exact hE _ hI (FR.refl _ w)
    · have o4999 : 0 ≤ x2_2.toInt ∧ x2_2.toInt < 40 := by have := bd_48_0 hI; omega
      refine ⟨o4999, ?_⟩
      refine ⟨fun h5000 => ?_, fun h5000 => ?_⟩
      · refine Eq.mpr (q_Ro_barring_37.eq_1 _ _ _ _ _ _ _) ?_
        refine ⟨fun _ => ?_, fun h => absurd (by decide) h⟩
        have o5001 : (0 ≤ x2_1.toInt) ∧ (x2_1.toInt ≤ 31) ∧ (0 ≤ (x2_2 + (1 : Int32)).toInt) ∧ ((x2_2 + (1 : Int32)).toInt ≤ 40) := by have := bd_48_0 hI; have := ti_add2 (Eq.refl x2_2.toInt) (by decide : ((1 : Int32)).toInt = 1) (by omega) (by omega); exact ⟨by omega, by omega, by omega, by omega⟩
        exact ih _ w hI  o5001.1 o5001.2.1 o5001.2.2.1 o5001.2.2.2 (by have := bd_48_0 hI; have := ti_add2 (Eq.refl x2_2.toInt) (by decide : ((1 : Int32)).toInt = 1) (by omega) (by omega); omega) (fun w9 hI9 hF9 => hE w9 hI9 ((FR.refl _ w).tr hF9 rfl) ) (fun r w9 hI9 hF9 q0 q1 => hQ r w9 hI9 ((FR.refl _ w).tr hF9 rfl) (by have := bd_48_0 hI; have := ti_add2 (Eq.refl x2_2.toInt) (by decide : ((1 : Int32)).toInt = 1) (by omega) (by omega); omega) (by have := bd_48_0 hI; have := ti_add2 (Eq.refl x2_2.toInt) (by decide : ((1 : Int32)).toInt = 1) (by omega) (by omega); omega))
      · have o5002 : 0 ≤ x2_2.toInt ∧ x2_2.toInt < 40 := by have := bd_48_0 hI; omega
        refine ⟨o5002, ?_⟩
        refine ⟨fun h5003 => ?_, fun h5003 => ?_⟩
        · refine Eq.mpr (q_Ro_barring_37.eq_1 _ _ _ _ _ _ _) ?_
          refine ⟨fun _ => ?_, fun h => absurd (by decide) h⟩
          have o5004 : (0 ≤ x2_1.toInt) ∧ (x2_1.toInt ≤ 31) ∧ (0 ≤ (x2_2 + (1 : Int32)).toInt) ∧ ((x2_2 + (1 : Int32)).toInt ≤ 40) := by have := bd_48_0 hI; have := ti_add2 (Eq.refl x2_2.toInt) (by decide : ((1 : Int32)).toInt = 1) (by omega) (by omega); exact ⟨by omega, by omega, by omega, by omega⟩
          exact ih _ w hI  o5004.1 o5004.2.1 o5004.2.2.1 o5004.2.2.2 (by have := bd_48_0 hI; have := ti_add2 (Eq.refl x2_2.toInt) (by decide : ((1 : Int32)).toInt = 1) (by omega) (by omega); omega) (fun w9 hI9 hF9 => hE w9 hI9 ((FR.refl _ w).tr hF9 rfl) ) (fun r w9 hI9 hF9 q0 q1 => hQ r w9 hI9 ((FR.refl _ w).tr hF9 rfl) (by have := bd_48_0 hI; have := ti_add2 (Eq.refl x2_2.toInt) (by decide : ((1 : Int32)).toInt = 1) (by omega) (by omega); omega) (by have := bd_48_0 hI; have := ti_add2 (Eq.refl x2_2.toInt) (by decide : ((1 : Int32)).toInt = 1) (by omega) (by omega); omega))
        · refine Eq.mpr (q_Ro_barring_37.eq_1 _ _ _ _ _ _ _) ?_
          refine ⟨fun h => absurd h (by decide), fun _ => ?_⟩
          have o5005 : 0 ≤ x2_2.toInt ∧ x2_2.toInt < 40 := by have := bd_48_0 hI; omega
          refine ⟨o5005, ?_⟩
          refine ⟨fun h5006 => ?_, fun h5006 => ?_⟩
          · have o5007 : (1 ≤ (x2_2 + (1 : Int32)).toInt) ∧ ((x2_2 + (1 : Int32)).toInt ≤ 40) := by have := bd_48_0 hI; have := ti_add2 (Eq.refl x2_2.toInt) (by decide : ((1 : Int32)).toInt = 1) (by omega) (by omega); exact ⟨by omega, by omega⟩
            exact hQ _ _ hI (FR.refl _ w)  o5007.1 o5007.2
          · have o5008 : 0 ≤ x2_2.toInt ∧ x2_2.toInt < 40 := by have := bd_48_0 hI; omega
            refine ⟨o5008, ?_⟩
            have o5009 : 0 ≤ x2_2.toInt ∧ x2_2.toInt < 40 := by have := bd_48_0 hI; omega
            refine ⟨o5009, ?_⟩
            refine ⟨fun h5010 => ?_, fun h5010 => ?_⟩
            · have o5011 : (0 ≤ x2_1.toInt) ∧ (x2_1.toInt ≤ 31) ∧ (0 ≤ (x2_2 + (1 : Int32)).toInt) ∧ ((x2_2 + (1 : Int32)).toInt ≤ 40) := by have := bd_48_0 hI; have := ti_add2 (Eq.refl x2_2.toInt) (by decide : ((1 : Int32)).toInt = 1) (by omega) (by omega); exact ⟨by omega, by omega, by omega, by omega⟩
              exact ih _ w hI  o5011.1 o5011.2.1 o5011.2.2.1 o5011.2.2.2 (by have := bd_48_0 hI; have := ti_add2 (Eq.refl x2_2.toInt) (by decide : ((1 : Int32)).toInt = 1) (by omega) (by omega); omega) (fun w9 hI9 hF9 => hE w9 hI9 ((FR.refl _ w).tr hF9 rfl) ) (fun r w9 hI9 hF9 q0 q1 => hQ r w9 hI9 ((FR.refl _ w).tr hF9 rfl) (by have := bd_48_0 hI; have := ti_add2 (Eq.refl x2_2.toInt) (by decide : ((1 : Int32)).toInt = 1) (by omega) (by omega); omega) (by have := bd_48_0 hI; have := ti_add2 (Eq.refl x2_2.toInt) (by decide : ((1 : Int32)).toInt = 1) (by omega) (by omega); omega))
            · have o5012 : (0 ≤ x2_2.toInt) ∧ (x2_2.toInt ≤ 39) := by have := bd_48_0 hI; exact ⟨by omega, by omega⟩
              refine h_Ro_isOn hI  o5012.1 o5012.2 (fun r5016 w5013 hI5014 hL5015 p5017 p5018 => ?_)
              have hF5019 : FR l_Ro_barring_2 w w5013 := (FR.refl _ w).tr hL5015 rfl
              refine ⟨fun h5020 => ?_, fun h5020 => ?_⟩
              · have o5021 : (0 ≤ x2_1.toInt) ∧ (x2_1.toInt ≤ 31) ∧ (0 ≤ (x2_2 + (1 : Int32)).toInt) ∧ ((x2_2 + (1 : Int32)).toInt ≤ 40) := by have := bd_48_0 hI; have := ti_add2 (Eq.refl x2_2.toInt) (by decide : ((1 : Int32)).toInt = 1) (by omega) (by omega); exact ⟨by omega, by omega, by omega, by omega⟩
                exact ih _ w5013 hI5014  o5021.1 o5021.2.1 o5021.2.2.1 o5021.2.2.2 (by have := bd_48_0 hI; have := ti_add2 (Eq.refl x2_2.toInt) (by decide : ((1 : Int32)).toInt = 1) (by omega) (by omega); omega) (fun w9 hI9 hF9 => hE w9 hI9 (hF5019.tr hF9 rfl) ) (fun r w9 hI9 hF9 q0 q1 => hQ r w9 hI9 (hF5019.tr hF9 rfl) (by have := bd_48_0 hI; have := ti_add2 (Eq.refl x2_2.toInt) (by decide : ((1 : Int32)).toInt = 1) (by omega) (by omega); omega) (by have := bd_48_0 hI; have := ti_add2 (Eq.refl x2_2.toInt) (by decide : ((1 : Int32)).toInt = 1) (by omega) (by omega); omega))
              · have o5022 : (1 ≤ (x2_2 + (1 : Int32)).toInt) ∧ ((x2_2 + (1 : Int32)).toInt ≤ 40) := by have := bd_48_0 hI; have := ti_add2 (Eq.refl x2_2.toInt) (by decide : ((1 : Int32)).toInt = 1) (by omega) (by omega); exact ⟨by omega, by omega⟩
                exact hQ _ _ hI5014 hF5019  o5022.1 o5022.2
set_option maxRecDepth 20000 in
set_option maxHeartbeats 2000000 in
theorem h_Ro_barring {w : MW} {a0 : Int32} {Q : Int32 → MW → Prop} (hI : BND w) (hp0 : 0 ≤ a0.toInt) (hp1 : a0.toInt ≤ 31) (hQ : ∀ (r : Int32) (w' : MW), BND w' → FR l_Ro_barring w w' → 0 ≤ r.toInt → r.toInt ≤ 40 → Q r w') : p_Ro_barring w a0 Q := by
  refine Eq.mpr (p_Ro_barring.eq_1 _ _ _) ?_
  have o5023 : (0 ≤ a0.toInt) ∧ (a0.toInt ≤ 31) ∧ (0 ≤ (0 : Int32).toInt) ∧ ((0 : Int32).toInt ≤ 40) := by have := (by decide : ((0 : Int32)).toInt = 0); exact ⟨by omega, by omega, by omega, by omega⟩
  refine hq_Ro_barring_2 FU _ w hI  o5023.1 o5023.2.1 o5023.2.2.1 o5023.2.2.2 (fu_lt (by have := (by decide : ((0 : Int32)).toInt = 0); omega)) (fun w5024 hI5025 hL5026  => ?_) (fun r w9 hI9 hF9 q0 q1 => hQ r w9 hI9 (((FR.refl _ w)).tr hF9 rfl) (by have := (by decide : ((0 : Int32)).toInt = 0); omega) (by have := (by decide : ((0 : Int32)).toInt = 0); omega))
  have hF5027 : FR l_Ro_barring w w5024 := (FR.refl _ w).tr hL5026 rfl
  have o5028 : (0 ≤ (0 : Int32).toInt) ∧ ((0 : Int32).toInt ≤ 40) := by have := (by decide : ((0 : Int32)).toInt = 0); exact ⟨by omega, by omega⟩
  exact hQ _ _ hI5025 hF5027  o5028.1 o5028.2
def l_Pr_clearValues_2 : Pl := [(74, none)]
def l_Pr_clearValues : Pl := [(74, none)]
set_option maxRecDepth 20000 in
set_option maxHeartbeats 2000000 in
theorem hq_Pr_clearValues_2 {E : MW → Prop} {Q : MW → Prop} (n : Nat) : ∀ (x2_1 : Int32) (w : MW), BND w → 0 ≤ x2_1.toInt → x2_1.toInt ≤ 40 → (40 - x2_1.toInt).toNat < n → (∀ (w' : MW), BND w' → FR l_Pr_clearValues_2 w w' → E w') → (∀ (w' : MW), BND w' → FR l_Pr_clearValues_2 w w' → False → Q w') → q_Pr_clearValues_2 E Q n x2_1 w := by
  induction n with
  | zero => intros; omega
  | succ n ih =>
    intro x2_1 w hI  hp0 hp1 hm hE hQ
    rw [q_Pr_clearValues_2.eq_2]
    refine ⟨fun h5029 => ?_, fun h5029 => ?_⟩
    · exact hE _ hI (FR.refl _ w)
    · refine Eq.mpr (p_Pr_isSensed.eq_1 _ _ _) ?_
      refine Eq.mpr (p_Pr_isSignal.eq_1 _ _ _) ?_
      refine ⟨fun h5030 => ?_, fun h5030 => ?_⟩
      · exfalso; have := bd_62_10 hI; have := (by decide : ((0 : Int32)).toInt = 0); omega
      · refine ⟨fun h => absurd h h5029, fun _ => ?_⟩
        have o5031 : 0 ≤ x2_1.toInt ∧ x2_1.toInt < 40 := by have := bd_62_10 hI; have := (by decide : ((0 : Int32)).toInt = 0); omega
        refine ⟨o5031, ?_⟩
        refine ⟨fun h5032 => ?_, fun h5032 => ?_⟩
        · refine ⟨fun _ => ?_, fun h => absurd (by decide) h⟩
          refine ⟨fun h => absurd h (by decide), fun _ => ?_⟩
          have o5033 : 0 ≤ x2_1.toInt ∧ x2_1.toInt < 40 := by have := bd_62_10 hI; have := (by decide : ((0 : Int32)).toInt = 0); omega
          refine ⟨o5033, ?_⟩
          have o5034 : (0 ≤ (x2_1 + (1 : Int32)).toInt) ∧ ((x2_1 + (1 : Int32)).toInt ≤ 40) := by have := bd_62_10 hI; have := (by decide : ((0 : Int32)).toInt = 0); have := ti_add2 (Eq.refl x2_1.toInt) (by decide : ((1 : Int32)).toInt = 1) (by omega) (by omega); exact ⟨by omega, by omega⟩
          exact ih _ (sJ w 74 x2_1.toInt.toNat 0) (bnd_J hI (k := 74) (j := x2_1.toInt.toNat) (v := 0))  o5034.1 o5034.2 (by have := bd_62_10 hI; have := (by decide : ((0 : Int32)).toInt = 0); have := ti_add2 (Eq.refl x2_1.toInt) (by decide : ((1 : Int32)).toInt = 1) (by omega) (by omega); omega) (fun w9 hI9 hF9 => hE w9 hI9 ((FR.J (FR.refl _ w) (k := 74) (j := x2_1.toInt.toNat) (v := 0) rfl).tr hF9 rfl) ) (fun w9 hI9 hF9 q0 => q0.elim)
        · refine ⟨fun h => absurd h (by decide), fun _ => ?_⟩
          have o5035 : 0 ≤ x2_1.toInt ∧ x2_1.toInt < 40 := by have := bd_62_10 hI; have := (by decide : ((0 : Int32)).toInt = 0); omega
          refine ⟨o5035, ?_⟩
          refine ⟨fun h5036 => ?_, fun h5036 => ?_⟩
          · refine ⟨fun h => absurd h (by decide), fun _ => ?_⟩
            have o5037 : 0 ≤ x2_1.toInt ∧ x2_1.toInt < 40 := by have := bd_62_10 hI; have := (by decide : ((0 : Int32)).toInt = 0); omega
            refine ⟨o5037, ?_⟩
            have o5038 : (0 ≤ (x2_1 + (1 : Int32)).toInt) ∧ ((x2_1 + (1 : Int32)).toInt ≤ 40) := by have := bd_62_10 hI; have := (by decide : ((0 : Int32)).toInt = 0); have := ti_add2 (Eq.refl x2_1.toInt) (by decide : ((1 : Int32)).toInt = 1) (by omega) (by omega); exact ⟨by omega, by omega⟩
            exact ih _ (sJ w 74 x2_1.toInt.toNat 0) (bnd_J hI (k := 74) (j := x2_1.toInt.toNat) (v := 0))  o5038.1 o5038.2 (by have := bd_62_10 hI; have := (by decide : ((0 : Int32)).toInt = 0); have := ti_add2 (Eq.refl x2_1.toInt) (by decide : ((1 : Int32)).toInt = 1) (by omega) (by omega); omega) (fun w9 hI9 hF9 => hE w9 hI9 ((FR.J (FR.refl _ w) (k := 74) (j := x2_1.toInt.toNat) (v := 0) rfl).tr hF9 rfl) ) (fun w9 hI9 hF9 q0 => q0.elim)
          · refine ⟨fun _ => ?_, fun h => absurd (by decide) h⟩
            have o5039 : (0 ≤ (x2_1 + (1 : Int32)).toInt) ∧ ((x2_1 + (1 : Int32)).toInt ≤ 40) := by have := bd_62_10 hI; have := (by decide : ((0 : Int32)).toInt = 0); have := ti_add2 (Eq.refl x2_1.toInt) (by decide : ((1 : Int32)).toInt = 1) (by omega) (by omega); exact ⟨by omega, by omega⟩
            exact ih _ w hI  o5039.1 o5039.2 (by have := bd_62_10 hI; have := (by decide : ((0 : Int32)).toInt = 0); have := ti_add2 (Eq.refl x2_1.toInt) (by decide : ((1 : Int32)).toInt = 1) (by omega) (by omega); omega) (fun w9 hI9 hF9 => hE w9 hI9 ((FR.refl _ w).tr hF9 rfl) ) (fun w9 hI9 hF9 q0 => q0.elim)
set_option maxRecDepth 20000 in
set_option maxHeartbeats 2000000 in
theorem h_Pr_clearValues {w : MW} {Q : MW → Prop} (hI : BND w)  (hQ : ∀ (w' : MW), BND w' → FR l_Pr_clearValues w w' → Q w') : p_Pr_clearValues w Q := by
  refine Eq.mpr (p_Pr_clearValues.eq_1 _ _) ?_
  have o5040 : (0 ≤ (0 : Int32).toInt) ∧ ((0 : Int32).toInt ≤ 40) := by have := (by decide : ((0 : Int32)).toInt = 0); exact ⟨by omega, by omega⟩
  refine hq_Pr_clearValues_2 FU _ w hI  o5040.1 o5040.2 (fu_lt (by have := (by decide : ((0 : Int32)).toInt = 0); omega)) (fun w5041 hI5042 hL5043  => ?_) (fun w9 hI9 hF9 q0 => q0.elim)
  have hF5044 : FR l_Pr_clearValues w w5041 := (FR.refl _ w).tr hL5043 rfl
  exact hQ _ hI5042 hF5044 
def l_Bh_sensed : Pl := []
set_option maxRecDepth 20000 in
set_option maxHeartbeats 2000000 in
theorem h_Bh_sensed {w : MW} {a0 : Int32} {b0 : Int32} {Q : Int64 → MW → Prop} (hI : BND w) (hr_7_0 : w.2.2 7 0 = some 8) (hp0 : 0 ≤ a0.toInt) (hp1 : a0.toInt ≤ 4) (hQ : ∀ (r : Int64) (w' : MW), BND w' → FR l_Bh_sensed w w' → (-2147483648) ≤ r.toInt → r.toInt ≤ 2147483647 → Q r w') : p_Bh_sensed w a0 b0 Q := by
  refine Eq.mpr (p_Bh_sensed.eq_1 _ _ _ _) ?_
  refine ⟨fun h5045 => ?_, fun h5045 => ?_⟩
  · refine Eq.mpr (p_St_isTank.eq_1 _ _ _) ?_
    refine ⟨fun h5046 => ?_, fun h5046 => ?_⟩
    · refine ⟨fun _ => ?_, fun h => absurd (by decide) h⟩
      have o5047 : ((-2147483648) ≤ ((-1) : Int64).toInt) ∧ (((-1) : Int64).toInt ≤ 2147483647) := by have := (by decide : (((-1) : Int64)).toInt = (-1)); exact ⟨by omega, by omega⟩
      exact hQ _ _ hI (FR.refl _ w)  o5047.1 o5047.2
    · refine ⟨hr_7_0, ?_⟩
      refine ⟨fun h5048 => ?_, fun h5048 => ?_⟩
      · refine ⟨fun _ => ?_, fun h => absurd (by decide) h⟩
        have o5049 : ((-2147483648) ≤ ((-1) : Int64).toInt) ∧ (((-1) : Int64).toInt ≤ 2147483647) := by have := (by decide : (((-1) : Int64)).toInt = (-1)); exact ⟨by omega, by omega⟩
        exact hQ _ _ hI (FR.refl _ w)  o5049.1 o5049.2
      · refine ⟨hr_7_0, ?_⟩
        have o5050 : 0 ≤ b0.toInt ∧ b0.toInt < 20 := by have := (by decide : ((0 : Int32)).toInt = 0); have := bd_8_0 hI; omega
        refine ⟨o5050, ?_⟩
        refine ⟨fun h5051 => ?_, fun h5051 => ?_⟩
        · refine ⟨fun _ => ?_, fun h => absurd (by decide) h⟩
          have o5052 : ((-2147483648) ≤ ((-1) : Int64).toInt) ∧ (((-1) : Int64).toInt ≤ 2147483647) := by have := (by decide : (((-1) : Int64)).toInt = (-1)); exact ⟨by omega, by omega⟩
          exact hQ _ _ hI (FR.refl _ w)  o5052.1 o5052.2
        · refine ⟨fun h => absurd h (by decide), fun _ => ?_⟩
          have o5053 : 0 ≤ b0.toInt ∧ b0.toInt < 44 := by have := (by decide : ((0 : Int32)).toInt = 0); have := bd_8_0 hI; omega
          refine ⟨o5053, ?_⟩
          have o5054 : ((-2147483648) ≤ (Int32.toInt64 (w.1 18 b0.toInt.toNat)).toInt) ∧ ((Int32.toInt64 (w.1 18 b0.toInt.toNat)).toInt ≤ 2147483647) := by have := ti_lo (w.1 18 b0.toInt.toNat); have := ti_hi (w.1 18 b0.toInt.toNat); have := nb_i2l (w.1 18 b0.toInt.toNat); exact ⟨by omega, by omega⟩
          exact hQ _ _ hI (FR.refl _ w)  o5054.1 o5054.2
  · refine ⟨fun h5055 => ?_, fun h5055 => ?_⟩
    · refine h_St_isHolder hI hr_7_0  (fun r5059 w5056 hI5057 hL5058 p5060 p5061 p5062 => ?_)
      have hF5063 : FR l_Bh_sensed w w5056 := (FR.refl _ w).tr hL5058 rfl
      refine ⟨fun h5064 => ?_, fun h5064 => ?_⟩
      · have o5065 : ((-2147483648) ≤ ((-1) : Int64).toInt) ∧ (((-1) : Int64).toInt ≤ 2147483647) := by have := (by decide : (((-1) : Int64)).toInt = (-1)); exact ⟨by omega, by omega⟩
        exact hQ _ _ hI5057 hF5063  o5065.1 o5065.2
      · have o5066 : 0 ≤ b0.toInt ∧ b0.toInt < 44 := by have := ti_lo b0; have := ti_hi b0; have := bd_8_0 hI; have := bd_8_1 hI; have := (by decide : ((0 : Int32)).toInt = 0); omega
        refine ⟨o5066, ?_⟩
        have o5067 : ((-2147483648) ≤ (Int32.toInt64 (w5056.1 17 b0.toInt.toNat)).toInt) ∧ ((Int32.toInt64 (w5056.1 17 b0.toInt.toNat)).toInt ≤ 2147483647) := by have := bd_17 hI5057 b0.toInt.toNat; have := bd_17 hI b0.toInt.toNat; have := (congrArg Int32.toInt (hL5058 17 b0.toInt.toNat rfl).1); have := ti_lo (w5056.1 17 b0.toInt.toNat); have := ti_hi (w5056.1 17 b0.toInt.toNat); have := nb_i2l (w5056.1 17 b0.toInt.toNat); exact ⟨by omega, by omega⟩
        exact hQ _ _ hI5057 hF5063  o5067.1 o5067.2
    · refine ⟨fun h5068 => ?_, fun h5068 => ?_⟩
      · refine Eq.mpr (p_St_isValve.eq_1 _ _ _) ?_
        refine ⟨fun h5069 => ?_, fun h5069 => ?_⟩
        · refine ⟨fun _ => ?_, fun h => absurd (by decide) h⟩
          have o5070 : ((-2147483648) ≤ ((-1) : Int64).toInt) ∧ (((-1) : Int64).toInt ≤ 2147483647) := by have := (by decide : (((-1) : Int64)).toInt = (-1)); exact ⟨by omega, by omega⟩
          exact hQ _ _ hI (FR.refl _ w)  o5070.1 o5070.2
        · refine ⟨hr_7_0, ?_⟩
          refine ⟨fun h5071 => ?_, fun h5071 => ?_⟩
          · refine ⟨fun _ => ?_, fun h => absurd (by decide) h⟩
            have o5072 : ((-2147483648) ≤ ((-1) : Int64).toInt) ∧ (((-1) : Int64).toInt ≤ 2147483647) := by have := (by decide : (((-1) : Int64)).toInt = (-1)); exact ⟨by omega, by omega⟩
            exact hQ _ _ hI (FR.refl _ w)  o5072.1 o5072.2
          · refine ⟨hr_7_0, ?_⟩
            have o5073 : 0 ≤ b0.toInt ∧ b0.toInt < 20 := by have := (by decide : ((0 : Int32)).toInt = 0); have := bd_8_0 hI; omega
            refine ⟨o5073, ?_⟩
            refine ⟨fun h5074 => ?_, fun h5074 => ?_⟩
            · refine ⟨fun _ => ?_, fun h => absurd (by decide) h⟩
              have o5075 : ((-2147483648) ≤ ((-1) : Int64).toInt) ∧ (((-1) : Int64).toInt ≤ 2147483647) := by have := (by decide : (((-1) : Int64)).toInt = (-1)); exact ⟨by omega, by omega⟩
              exact hQ _ _ hI (FR.refl _ w)  o5075.1 o5075.2
            · refine ⟨fun h => absurd h (by decide), fun _ => ?_⟩
              have o5076 : 0 ≤ b0.toInt ∧ b0.toInt < 20 := by have := (by decide : ((0 : Int32)).toInt = 0); have := bd_8_0 hI; omega
              refine ⟨o5076, ?_⟩
              have o5077 : ((-2147483648) ≤ (Int32.toInt64 (w.1 16 b0.toInt.toNat)).toInt) ∧ ((Int32.toInt64 (w.1 16 b0.toInt.toNat)).toInt ≤ 2147483647) := by have := bd_16 hI b0.toInt.toNat; have := ti_lo (w.1 16 b0.toInt.toNat); have := ti_hi (w.1 16 b0.toInt.toNat); have := nb_i2l (w.1 16 b0.toInt.toNat); exact ⟨by omega, by omega⟩
              exact hQ _ _ hI (FR.refl _ w)  o5077.1 o5077.2
      · refine ⟨fun h5078 => ?_, fun h5078 => ?_⟩
        · have o5079 : ((-2147483648) ≤ (Int32.toInt64 (w.1 26 1)).toInt) ∧ ((Int32.toInt64 (w.1 26 1)).toInt ≤ 2147483647) := by have := bd_26_1 hI; have := ti_lo (w.1 26 1); have := ti_hi (w.1 26 1); have := nb_i2l (w.1 26 1); exact ⟨by omega, by omega⟩
          exact hQ _ _ hI (FR.refl _ w)  o5079.1 o5079.2
        · have o5080 : ((-2147483648) ≤ (Int32.toInt64 (w.1 7 1)).toInt) ∧ ((Int32.toInt64 (w.1 7 1)).toInt ≤ 2147483647) := by have := ti_lo (w.1 7 1); have := ti_hi (w.1 7 1); have := nb_i2l (w.1 7 1); exact ⟨by omega, by omega⟩
          exact hQ _ _ hI (FR.refl _ w)  o5080.1 o5080.2
def l_Bh_senseAll_10 : Pl := [(74, none)]
def l_Bh_senseAll_76 : Pl := []
def l_Bh_senseAll : Pl := [(48, some 1), (74, none)]
set_option maxRecDepth 20000 in
set_option maxHeartbeats 2000000 in
theorem hq_Bh_senseAll_10 {E : MW → Prop} {Q : MW → Prop} (n : Nat) : ∀ (x10_2 : Int32) (w : MW), BND w → w.2.2 7 0 = some 8 → 0 ≤ x10_2.toInt → x10_2.toInt ≤ 40 → (40 - x10_2.toInt).toNat < n → (∀ (w' : MW), BND w' → FR l_Bh_senseAll_10 w w' → E w') → (∀ (w' : MW), BND w' → FR l_Bh_senseAll_10 w w' → False → Q w') → q_Bh_senseAll_10 E Q n x10_2 w := by
  induction n with
  | zero => intros; omega
  | succ n ih =>
    intro x10_2 w hI hr_7_0 hp0 hp1 hm hE hQ
    rw [q_Bh_senseAll_10.eq_2]
    refine ⟨fun h5081 => ?_, fun h5081 => ?_⟩
    · exact hE _ hI (FR.refl _ w)
    · refine Eq.mpr (p_Pr_isSensed.eq_1 _ _ _) ?_
      refine Eq.mpr (p_Pr_isSignal.eq_1 _ _ _) ?_
      refine ⟨fun h5082 => ?_, fun h5082 => ?_⟩
      · exfalso; have := bd_62_10 hI; have := (by decide : ((0 : Int32)).toInt = 0); omega
      · refine ⟨fun h => absurd h h5081, fun _ => ?_⟩
        have o5083 : 0 ≤ x10_2.toInt ∧ x10_2.toInt < 40 := by have := bd_62_10 hI; have := (by decide : ((0 : Int32)).toInt = 0); omega
        refine ⟨o5083, ?_⟩
        refine ⟨fun h5084 => ?_, fun h5084 => ?_⟩
        · refine ⟨fun _ => ?_, fun h => absurd (by decide) h⟩
          refine ⟨fun _ => ?_, fun h => absurd (by decide) h⟩
          have o5085 : (0 ≤ (x10_2 + (1 : Int32)).toInt) ∧ ((x10_2 + (1 : Int32)).toInt ≤ 40) := by have := bd_62_10 hI; have := (by decide : ((0 : Int32)).toInt = 0); have := ti_add2 (Eq.refl x10_2.toInt) (by decide : ((1 : Int32)).toInt = 1) (by omega) (by omega); exact ⟨by omega, by omega⟩
          exact ih _ w hI hr_7_0 o5085.1 o5085.2 (by have := bd_62_10 hI; have := (by decide : ((0 : Int32)).toInt = 0); have := ti_add2 (Eq.refl x10_2.toInt) (by decide : ((1 : Int32)).toInt = 1) (by omega) (by omega); omega) (fun w9 hI9 hF9 => hE w9 hI9 ((FR.refl _ w).tr hF9 rfl) ) (fun w9 hI9 hF9 q0 => q0.elim)
        · refine ⟨fun h => absurd h (by decide), fun _ => ?_⟩
          have o5086 : 0 ≤ x10_2.toInt ∧ x10_2.toInt < 40 := by have := bd_62_10 hI; have := (by decide : ((0 : Int32)).toInt = 0); omega
          refine ⟨o5086, ?_⟩
          refine ⟨fun h5087 => ?_, fun h5087 => ?_⟩
          · refine ⟨fun _ => ?_, fun h => absurd (by decide) h⟩
            have o5088 : (0 ≤ (x10_2 + (1 : Int32)).toInt) ∧ ((x10_2 + (1 : Int32)).toInt ≤ 40) := by have := bd_62_10 hI; have := (by decide : ((0 : Int32)).toInt = 0); have := ti_add2 (Eq.refl x10_2.toInt) (by decide : ((1 : Int32)).toInt = 1) (by omega) (by omega); exact ⟨by omega, by omega⟩
            exact ih _ w hI hr_7_0 o5088.1 o5088.2 (by have := bd_62_10 hI; have := (by decide : ((0 : Int32)).toInt = 0); have := ti_add2 (Eq.refl x10_2.toInt) (by decide : ((1 : Int32)).toInt = 1) (by omega) (by omega); omega) (fun w9 hI9 hF9 => hE w9 hI9 ((FR.refl _ w).tr hF9 rfl) ) (fun w9 hI9 hF9 q0 => q0.elim)
          · refine ⟨fun h => absurd h (by decide), fun _ => ?_⟩
            have o5089 : 0 ≤ x10_2.toInt ∧ x10_2.toInt < 40 := by have := bd_62_10 hI; have := (by decide : ((0 : Int32)).toInt = 0); omega
            refine ⟨o5089, ?_⟩
            have o5090 : 0 ≤ x10_2.toInt ∧ x10_2.toInt < 40 := by have := bd_62_10 hI; have := (by decide : ((0 : Int32)).toInt = 0); omega
            refine ⟨o5090, ?_⟩
            have o5091 : (0 ≤ (w.1 75 x10_2.toInt.toNat).toInt) ∧ ((w.1 75 x10_2.toInt.toNat).toInt ≤ 4) := by have := bd_75 hI x10_2.toInt.toNat; have := (by decide : ((5 : Int32)).toInt = 5); exact ⟨by omega, by omega⟩
            refine h_Bh_sensed hI hr_7_0 o5091.1 o5091.2 (fun r5095 w5092 hI5093 hL5094 p5096 p5097 => ?_)
            have hF5098 : FR l_Bh_senseAll_10 w w5092 := (FR.refl _ w).tr hL5094 rfl
            refine ⟨fun h5099 => ?_, fun h5099 => ?_⟩
            · have o5100 : 0 ≤ x10_2.toInt ∧ x10_2.toInt < 40 := by have := bd_62_10 hI; have := (by decide : ((0 : Int32)).toInt = 0); omega
              refine ⟨o5100, ?_⟩
              have o5101 : (0 ≤ (x10_2 + (1 : Int32)).toInt) ∧ ((x10_2 + (1 : Int32)).toInt ≤ 40) := by have := bd_62_10 hI; have := (by decide : ((0 : Int32)).toInt = 0); have := ti_add2 (Eq.refl x10_2.toInt) (by decide : ((1 : Int32)).toInt = 1) (by omega) (by omega); exact ⟨by omega, by omega⟩
              exact ih _ (sJ w5092 74 x10_2.toInt.toNat (r5095 * (1000 : Int64))) (bnd_J hI5093 (k := 74) (j := x10_2.toInt.toNat) (v := (r5095 * (1000 : Int64)))) ((hL5094 7 0 rfl).2.2.trans hr_7_0) o5101.1 o5101.2 (by have := bd_62_10 hI; have := (by decide : ((0 : Int32)).toInt = 0); have := ti_add2 (Eq.refl x10_2.toInt) (by decide : ((1 : Int32)).toInt = 1) (by omega) (by omega); omega) (fun w9 hI9 hF9 => hE w9 hI9 ((FR.J hF5098 (k := 74) (j := x10_2.toInt.toNat) (v := (r5095 * (1000 : Int64))) rfl).tr hF9 rfl) ) (fun w9 hI9 hF9 q0 => q0.elim)
            · have o5102 : 0 ≤ x10_2.toInt ∧ x10_2.toInt < 40 := by have := bd_62_10 hI; have := (by decide : ((0 : Int32)).toInt = 0); omega
              refine ⟨o5102, ?_⟩
              have o5103 : (0 ≤ (x10_2 + (1 : Int32)).toInt) ∧ ((x10_2 + (1 : Int32)).toInt ≤ 40) := by have := bd_62_10 hI; have := (by decide : ((0 : Int32)).toInt = 0); have := ti_add2 (Eq.refl x10_2.toInt) (by decide : ((1 : Int32)).toInt = 1) (by omega) (by omega); exact ⟨by omega, by omega⟩
              exact ih _ (sJ w5092 74 x10_2.toInt.toNat (-1)) (bnd_J hI5093 (k := 74) (j := x10_2.toInt.toNat) (v := (-1))) ((hL5094 7 0 rfl).2.2.trans hr_7_0) o5103.1 o5103.2 (by have := bd_62_10 hI; have := (by decide : ((0 : Int32)).toInt = 0); have := ti_add2 (Eq.refl x10_2.toInt) (by decide : ((1 : Int32)).toInt = 1) (by omega) (by omega); omega) (fun w9 hI9 hF9 => hE w9 hI9 ((FR.J hF5098 (k := 74) (j := x10_2.toInt.toNat) (v := (-1)) rfl).tr hF9 rfl) ) (fun w9 hI9 hF9 q0 => q0.elim)
set_option maxRecDepth 20000 in
set_option maxHeartbeats 2000000 in
theorem hq_Bh_senseAll_76 {E : Int32 → MW → Prop} {Q : MW → Prop} (n : Nat) : ∀ (x76_2 : Int32) (x76_3 : Int32) (w : MW), BND w → w.2.2 7 0 = some 8 → 0 ≤ x76_3.toInt → x76_3.toInt ≤ 16 → (16 - x76_3.toInt).toNat < n → (∀ (e76_2 : Int32) (w' : MW), BND w' → FR l_Bh_senseAll_76 w w' → E e76_2 w') → (∀ (w' : MW), BND w' → FR l_Bh_senseAll_76 w w' → False → Q w') → q_Bh_senseAll_76 E Q n x76_2 x76_3 w := by
  induction n with
  | zero => intros; omega
  | succ n ih =>
    intro x76_2 x76_3 w hI hr_7_0 hp0 hp1 hm hE hQ
    rw [q_Bh_senseAll_76.eq_2]
    refine ⟨fun h5104 => ?_, fun h5104 => ?_⟩
    · exact hE _ _ hI (FR.refl _ w)
    · have o5105 : 0 ≤ x76_3.toInt ∧ x76_3.toInt < 16 := by have := (by decide : ((16 : Int32)).toInt = 16); omega
      refine ⟨o5105, ?_⟩
      refine ⟨fun h5106 => ?_, fun h5106 => ?_⟩
      · have o5107 : (0 ≤ (x76_3 + (1 : Int32)).toInt) ∧ ((x76_3 + (1 : Int32)).toInt ≤ 16) := by have := ti_lo x76_2; have := ti_hi x76_2; have := (by decide : ((16 : Int32)).toInt = 16); have := ti_add2 (Eq.refl x76_3.toInt) (by decide : ((1 : Int32)).toInt = 1) (by omega) (by omega); exact ⟨by omega, by omega⟩
        exact ih _ _ w hI hr_7_0 o5107.1 o5107.2 (by have := ti_lo x76_2; have := ti_hi x76_2; have := (by decide : ((16 : Int32)).toInt = 16); have := ti_add2 (Eq.refl x76_3.toInt) (by decide : ((1 : Int32)).toInt = 1) (by omega) (by omega); omega) (fun e0 w9 hI9 hF9 => hE e0 w9 hI9 ((FR.refl _ w).tr hF9 rfl) ) (fun w9 hI9 hF9 q0 => q0.elim)
      · have o5108 : 0 ≤ x76_3.toInt ∧ x76_3.toInt < 16 := by have := (by decide : ((16 : Int32)).toInt = 16); omega
        refine ⟨o5108, ?_⟩
        have o5109 : 0 ≤ x76_3.toInt ∧ x76_3.toInt < 16 := by have := (by decide : ((16 : Int32)).toInt = 16); omega
        refine ⟨o5109, ?_⟩
        have o5110 : (0 ≤ (w.1 126 x76_3.toInt.toNat).toInt) ∧ ((w.1 126 x76_3.toInt.toNat).toInt ≤ 4) := by have := bd_126 hI x76_3.toInt.toNat; have := (by decide : ((5 : Int32)).toInt = 5); exact ⟨by omega, by omega⟩
        refine h_Bh_sensed hI hr_7_0 o5110.1 o5110.2 (fun r5114 w5111 hI5112 hL5113 p5115 p5116 => ?_)
        have hF5117 : FR l_Bh_senseAll_76 w w5111 := (FR.refl _ w).tr hL5113 rfl
        refine ⟨fun h5118 => ?_, fun h5118 => ?_⟩
        · have o5119 : (0 ≤ (x76_3 + (1 : Int32)).toInt) ∧ ((x76_3 + (1 : Int32)).toInt ≤ 16) := by have := ti_lo (x76_2 ||| (0 : Int32)); have := ti_hi (x76_2 ||| (0 : Int32)); have := ti_lo x76_2; have := ti_hi x76_2; have := (by decide : ((16 : Int32)).toInt = 16); have := ti_add2 (Eq.refl x76_3.toInt) (by decide : ((1 : Int32)).toInt = 1) (by omega) (by omega); exact ⟨by omega, by omega⟩
          exact ih _ _ w5111 hI5112 ((hL5113 7 0 rfl).2.2.trans hr_7_0) o5119.1 o5119.2 (by have := ti_lo (x76_2 ||| (0 : Int32)); have := ti_hi (x76_2 ||| (0 : Int32)); have := ti_lo x76_2; have := ti_hi x76_2; have := (by decide : ((16 : Int32)).toInt = 16); have := ti_add2 (Eq.refl x76_3.toInt) (by decide : ((1 : Int32)).toInt = 1) (by omega) (by omega); omega) (fun e0 w9 hI9 hF9 => hE e0 w9 hI9 (hF5117.tr hF9 rfl) ) (fun w9 hI9 hF9 q0 => q0.elim)
        · have o5120 : 0 ≤ x76_3.toInt ∧ x76_3.toInt < 16 := by have := (by decide : ((16 : Int32)).toInt = 16); omega
          refine ⟨o5120, ?_⟩
          refine ⟨fun h5121 => ?_, fun h5121 => ?_⟩
          · have o5122 : (0 ≤ (x76_3 + (1 : Int32)).toInt) ∧ ((x76_3 + (1 : Int32)).toInt ≤ 16) := by have := ti_lo (x76_2 ||| (0 : Int32)); have := ti_hi (x76_2 ||| (0 : Int32)); have := ti_lo x76_2; have := ti_hi x76_2; have := (by decide : ((16 : Int32)).toInt = 16); have := ti_add2 (Eq.refl x76_3.toInt) (by decide : ((1 : Int32)).toInt = 1) (by omega) (by omega); exact ⟨by omega, by omega⟩
            exact ih _ _ w5111 hI5112 ((hL5113 7 0 rfl).2.2.trans hr_7_0) o5122.1 o5122.2 (by have := ti_lo (x76_2 ||| (0 : Int32)); have := ti_hi (x76_2 ||| (0 : Int32)); have := ti_lo x76_2; have := ti_hi x76_2; have := (by decide : ((16 : Int32)).toInt = 16); have := ti_add2 (Eq.refl x76_3.toInt) (by decide : ((1 : Int32)).toInt = 1) (by omega) (by omega); omega) (fun e0 w9 hI9 hF9 => hE e0 w9 hI9 (hF5117.tr hF9 rfl) ) (fun w9 hI9 hF9 q0 => q0.elim)
          · have o5123 : (0 ≤ (x76_3 + (1 : Int32)).toInt) ∧ ((x76_3 + (1 : Int32)).toInt ≤ 16) := by have := ti_lo (x76_2 ||| ((1 : Int32) <<< (x76_3 &&& 31))); have := ti_hi (x76_2 ||| ((1 : Int32) <<< (x76_3 &&& 31))); have := ti_lo x76_2; have := ti_hi x76_2; have := ti_lo ((1 : Int32) <<< (x76_3 &&& 31)); have := ti_hi ((1 : Int32) <<< (x76_3 &&& 31)); have := (by decide : ((16 : Int32)).toInt = 16); have := ti_add2 (Eq.refl x76_3.toInt) (by decide : ((1 : Int32)).toInt = 1) (by omega) (by omega); exact ⟨by omega, by omega⟩
            exact ih _ _ w5111 hI5112 ((hL5113 7 0 rfl).2.2.trans hr_7_0) o5123.1 o5123.2 (by have := ti_lo (x76_2 ||| ((1 : Int32) <<< (x76_3 &&& 31))); have := ti_hi (x76_2 ||| ((1 : Int32) <<< (x76_3 &&& 31))); have := ti_lo x76_2; have := ti_hi x76_2; have := ti_lo ((1 : Int32) <<< (x76_3 &&& 31)); have := ti_hi ((1 : Int32) <<< (x76_3 &&& 31)); have := (by decide : ((16 : Int32)).toInt = 16); have := ti_add2 (Eq.refl x76_3.toInt) (by decide : ((1 : Int32)).toInt = 1) (by omega) (by omega); omega) (fun e0 w9 hI9 hF9 => hE e0 w9 hI9 (hF5117.tr hF9 rfl) ) (fun w9 hI9 hF9 q0 => q0.elim)
set_option maxRecDepth 20000 in
set_option maxHeartbeats 2000000 in
theorem h_Bh_senseAll {w : MW} {Q : MW → Prop} (hI : BND w) (hr_47_3 : w.2.2 47 3 = some 48) (hr_61_3 : w.2.2 61 3 = some 62) (hr_7_0 : w.2.2 7 0 = some 8)  (hQ : ∀ (w' : MW), BND w' → FR l_Bh_senseAll w w' → Q w') : p_Bh_senseAll w Q := by
  refine Eq.mpr (p_Bh_senseAll.eq_1 _ _) ?_
  refine ⟨hr_61_3, ?_⟩
  have o5124 : (0 ≤ (0 : Int32).toInt) ∧ ((0 : Int32).toInt ≤ 40) := by have := (by decide : ((0 : Int32)).toInt = 0); exact ⟨by omega, by omega⟩
  refine hq_Bh_senseAll_10 FU _ w hI hr_7_0 o5124.1 o5124.2 (fu_lt (by have := (by decide : ((0 : Int32)).toInt = 0); omega)) (fun w5125 hI5126 hL5127  => ?_) (fun w9 hI9 hF9 q0 => q0.elim)
  have hF5128 : FR l_Bh_senseAll w w5125 := (FR.refl _ w).tr hL5127 rfl
  have o5129 : (0 ≤ (0 : Int32).toInt) ∧ ((0 : Int32).toInt ≤ 16) := by have := (by decide : ((0 : Int32)).toInt = 0); exact ⟨by omega, by omega⟩
  refine hq_Bh_senseAll_76 FU _ _ w5125 hI5126 ((hL5127 7 0 rfl).2.2.trans hr_7_0) o5129.1 o5129.2 (fu_lt (by have := (by decide : ((0 : Int32)).toInt = 0); omega)) (fun e5133 w5130 hI5131 hL5132  => ?_) (fun w9 hI9 hF9 q0 => q0.elim)
  have hF5134 : FR l_Bh_senseAll w w5130 := hF5128.tr hL5132 rfl
  refine ⟨((hL5132 47 3 rfl).2.2.trans ((hL5127 47 3 rfl).2.2.trans hr_47_3)), ?_⟩
  have hI5135 : BND (sI w5130 48 1 e5133) := wbd_48_1 hI5131
  exact hQ _ hI5135 (FR.I hF5134 (k := 48) (j := 1) (v := e5133) rfl) 
def l_Ro_countSecond_78 : Pl := [(51, none)]
def l_Ro_countSecond_42 : Pl := [(49, none), (50, none), (51, none)]
def l_Ro_countSecond_2 : Pl := [(49, none), (50, none), (51, none)]
def l_Ro_countSecond : Pl := [(49, none), (50, none), (51, none)]
set_option maxRecDepth 20000 in
set_option maxHeartbeats 2000000 in
theorem hq_Ro_countSecond_2 {E : MW → Prop} {Q : MW → Prop} (n : Nat) : ∀ (x2_1 : Int32) (w : MW), BND w → 0 ≤ x2_1.toInt → x2_1.toInt ≤ 40 → (40 - x2_1.toInt).toNat < n → (∀ (w' : MW), BND w' → FR l_Ro_countSecond_2 w w' → E w') → (∀ (w' : MW), BND w' → FR l_Ro_countSecond_2 w w' → False → Q w') → q_Ro_countSecond_2 E Q n x2_1 w := by
  induction n with
  | zero => intros; omega
  | succ n ih =>
    intro x2_1 w hI  hp0 hp1 hm hE hQ
    rw [q_Ro_countSecond_2.eq_2]
    refine ⟨fun h5136 => ?_, fun h5136 => ?_⟩
    · exact hE _ hI (FR.refl _ w)
    · have o5137 : (0 ≤ x2_1.toInt) ∧ (x2_1.toInt ≤ 39) := by have := bd_48_0 hI; exact ⟨by omega, by omega⟩
      refine h_Ro_isOn hI  o5137.1 o5137.2 (fun r5141 w5138 hI5139 hL5140 p5142 p5143 => ?_)
      have hF5144 : FR l_Ro_countSecond_2 w w5138 := (FR.refl _ w).tr hL5140 rfl
      refine ⟨fun h5145 => ?_, fun h5145 => ?_⟩
      · refine Eq.mpr (q_Ro_countSecond_42.eq_1 _ _ _ _ _ _ _ _) ?_
        have o5146 : 0 ≤ x2_1.toInt ∧ x2_1.toInt < 40 := by have := bd_48_0 hI; omega
        refine ⟨o5146, ?_⟩
        have o5147 : 0 ≤ x2_1.toInt ∧ x2_1.toInt < 40 := by have := bd_48_0 hI; omega
        refine ⟨o5147, ?_⟩
        refine ⟨fun h5148 => ?_, fun h5148 => ?_⟩
        · refine Eq.mpr (q_Ro_countSecond_78.eq_1 _ _ _ _ _) ?_
          have o5149 : 0 ≤ x2_1.toInt ∧ x2_1.toInt < 40 := by have := bd_48_0 hI; omega
          refine ⟨o5149, ?_⟩
          refine ⟨fun h5150 => ?_, fun h5150 => ?_⟩
          · have hI5151 : BND (sI w5138 49 x2_1.toInt.toNat 0) := wbd_49 hI5139 x2_1.toInt.toNat (by decide) (by decide)
            have o5152 : (0 ≤ (x2_1 + (1 : Int32)).toInt) ∧ ((x2_1 + (1 : Int32)).toInt ≤ 40) := by have := bd_48_0 hI; have := ti_add2 (Eq.refl x2_1.toInt) (by decide : ((1 : Int32)).toInt = 1) (by omega) (by omega); exact ⟨by omega, by omega⟩
            exact ih _ (sI w5138 49 x2_1.toInt.toNat 0) hI5151  o5152.1 o5152.2 (by have := bd_48_0 hI; have := ti_add2 (Eq.refl x2_1.toInt) (by decide : ((1 : Int32)).toInt = 1) (by omega) (by omega); omega) (fun w9 hI9 hF9 => hE w9 hI9 ((FR.I hF5144 (k := 49) (j := x2_1.toInt.toNat) (v := 0) rfl).tr hF9 rfl) ) (fun w9 hI9 hF9 q0 => q0.elim)
          · have o5153 : 0 ≤ x2_1.toInt ∧ x2_1.toInt < 40 := by have := bd_48_0 hI; omega
            refine ⟨o5153, ?_⟩
            have o5154 : 0 ≤ x2_1.toInt ∧ x2_1.toInt < 40 := by have := bd_48_0 hI; omega
            refine ⟨o5154, ?_⟩
            have hI5155 : BND (sI w5138 49 x2_1.toInt.toNat 0) := wbd_49 hI5139 x2_1.toInt.toNat (by decide) (by decide)
            have o5157 : 0 ≤ (((sI w5138 49 x2_1.toInt.toNat 0).1 51 x2_1.toInt.toNat) - (1 : Int32)).toInt ∧ (((sI w5138 49 x2_1.toInt.toNat 0).1 51 x2_1.toInt.toNat) - (1 : Int32)).toInt ≤ 3600 := by have := bd_51 hI5139 x2_1.toInt.toNat; have := bd_51 hI x2_1.toInt.toNat; have := (congrArg Int32.toInt (hL5140 51 x2_1.toInt.toNat rfl).1); have : ((sI w5138 49 x2_1.toInt.toNat 0).1 51 x2_1.toInt.toNat).toInt = (w5138.1 51 x2_1.toInt.toNat).toInt := rfl; have := (by decide : ((0 : Int32)).toInt = 0); have := ti_sub2 (Eq.refl ((sI w5138 49 x2_1.toInt.toNat 0).1 51 x2_1.toInt.toNat).toInt) (by decide : ((1 : Int32)).toInt = 1) (by omega) (by omega); omega
            have hI5156 : BND (sI (sI w5138 49 x2_1.toInt.toNat 0) 51 x2_1.toInt.toNat (((sI w5138 49 x2_1.toInt.toNat 0).1 51 x2_1.toInt.toNat) - (1 : Int32))) := wbd_51 hI5155 x2_1.toInt.toNat o5157.1 o5157.2
            have o5158 : (0 ≤ (x2_1 + (1 : Int32)).toInt) ∧ ((x2_1 + (1 : Int32)).toInt ≤ 40) := by have := bd_48_0 hI; have := ti_add2 (Eq.refl x2_1.toInt) (by decide : ((1 : Int32)).toInt = 1) (by omega) (by omega); exact ⟨by omega, by omega⟩
            exact ih _ (sI (sI w5138 49 x2_1.toInt.toNat 0) 51 x2_1.toInt.toNat (((sI w5138 49 x2_1.toInt.toNat 0).1 51 x2_1.toInt.toNat) - (1 : Int32))) hI5156  o5158.1 o5158.2 (by have := bd_48_0 hI; have := ti_add2 (Eq.refl x2_1.toInt) (by decide : ((1 : Int32)).toInt = 1) (by omega) (by omega); omega) (fun w9 hI9 hF9 => hE w9 hI9 ((FR.I (FR.I hF5144 (k := 49) (j := x2_1.toInt.toNat) (v := 0) rfl) (k := 51) (j := x2_1.toInt.toNat) (v := (((sI w5138 49 x2_1.toInt.toNat 0).1 51 x2_1.toInt.toNat) - (1 : Int32))) rfl).tr hF9 rfl) ) (fun w9 hI9 hF9 q0 => q0.elim)
        · refine ⟨fun _ => ?_, fun h => absurd h5145 h⟩
          refine Eq.mpr (q_Ro_countSecond_78.eq_1 _ _ _ _ _) ?_
          have o5159 : 0 ≤ x2_1.toInt ∧ x2_1.toInt < 40 := by have := bd_48_0 hI; omega
          refine ⟨o5159, ?_⟩
          refine ⟨fun h5160 => ?_, fun h5160 => ?_⟩
          · have hI5161 : BND (sI w5138 49 x2_1.toInt.toNat 0) := wbd_49 hI5139 x2_1.toInt.toNat (by decide) (by decide)
            have o5162 : (0 ≤ (x2_1 + (1 : Int32)).toInt) ∧ ((x2_1 + (1 : Int32)).toInt ≤ 40) := by have := bd_48_0 hI; have := ti_add2 (Eq.refl x2_1.toInt) (by decide : ((1 : Int32)).toInt = 1) (by omega) (by omega); exact ⟨by omega, by omega⟩
            exact ih _ (sI w5138 49 x2_1.toInt.toNat 0) hI5161  o5162.1 o5162.2 (by have := bd_48_0 hI; have := ti_add2 (Eq.refl x2_1.toInt) (by decide : ((1 : Int32)).toInt = 1) (by omega) (by omega); omega) (fun w9 hI9 hF9 => hE w9 hI9 ((FR.I hF5144 (k := 49) (j := x2_1.toInt.toNat) (v := 0) rfl).tr hF9 rfl) ) (fun w9 hI9 hF9 q0 => q0.elim)
          · have o5163 : 0 ≤ x2_1.toInt ∧ x2_1.toInt < 40 := by have := bd_48_0 hI; omega
            refine ⟨o5163, ?_⟩
            have o5164 : 0 ≤ x2_1.toInt ∧ x2_1.toInt < 40 := by have := bd_48_0 hI; omega
            refine ⟨o5164, ?_⟩
            have hI5165 : BND (sI w5138 49 x2_1.toInt.toNat 0) := wbd_49 hI5139 x2_1.toInt.toNat (by decide) (by decide)
            have o5167 : 0 ≤ (((sI w5138 49 x2_1.toInt.toNat 0).1 51 x2_1.toInt.toNat) - (1 : Int32)).toInt ∧ (((sI w5138 49 x2_1.toInt.toNat 0).1 51 x2_1.toInt.toNat) - (1 : Int32)).toInt ≤ 3600 := by have := bd_51 hI5139 x2_1.toInt.toNat; have := bd_51 hI x2_1.toInt.toNat; have := (congrArg Int32.toInt (hL5140 51 x2_1.toInt.toNat rfl).1); have : ((sI w5138 49 x2_1.toInt.toNat 0).1 51 x2_1.toInt.toNat).toInt = (w5138.1 51 x2_1.toInt.toNat).toInt := rfl; have := (by decide : ((0 : Int32)).toInt = 0); have := ti_sub2 (Eq.refl ((sI w5138 49 x2_1.toInt.toNat 0).1 51 x2_1.toInt.toNat).toInt) (by decide : ((1 : Int32)).toInt = 1) (by omega) (by omega); omega
            have hI5166 : BND (sI (sI w5138 49 x2_1.toInt.toNat 0) 51 x2_1.toInt.toNat (((sI w5138 49 x2_1.toInt.toNat 0).1 51 x2_1.toInt.toNat) - (1 : Int32))) := wbd_51 hI5165 x2_1.toInt.toNat o5167.1 o5167.2
            have o5168 : (0 ≤ (x2_1 + (1 : Int32)).toInt) ∧ ((x2_1 + (1 : Int32)).toInt ≤ 40) := by have := bd_48_0 hI; have := ti_add2 (Eq.refl x2_1.toInt) (by decide : ((1 : Int32)).toInt = 1) (by omega) (by omega); exact ⟨by omega, by omega⟩
            exact ih _ (sI (sI w5138 49 x2_1.toInt.toNat 0) 51 x2_1.toInt.toNat (((sI w5138 49 x2_1.toInt.toNat 0).1 51 x2_1.toInt.toNat) - (1 : Int32))) hI5166  o5168.1 o5168.2 (by have := bd_48_0 hI; have := ti_add2 (Eq.refl x2_1.toInt) (by decide : ((1 : Int32)).toInt = 1) (by omega) (by omega); omega) (fun w9 hI9 hF9 => hE w9 hI9 ((FR.I (FR.I hF5144 (k := 49) (j := x2_1.toInt.toNat) (v := 0) rfl) (k := 51) (j := x2_1.toInt.toNat) (v := (((sI w5138 49 x2_1.toInt.toNat 0).1 51 x2_1.toInt.toNat) - (1 : Int32))) rfl).tr hF9 rfl) ) (fun w9 hI9 hF9 q0 => q0.elim)
      · have o5169 : 0 ≤ x2_1.toInt ∧ x2_1.toInt < 40 := by have := bd_48_0 hI; omega
        refine ⟨o5169, ?_⟩
        refine Eq.mpr (p_Ma_min.eq_1 _ _ _ _) ?_
        refine ⟨fun h5170 => ?_, fun h5170 => ?_⟩
        · replace h5170 : 1000000 < ((w5138.1 49 x2_1.toInt.toNat) + (1 : Int32)).toInt := h5170
          refine Eq.mpr (q_Ro_countSecond_42.eq_1 _ _ _ _ _ _ _ _) ?_
          have o5171 : 0 ≤ x2_1.toInt ∧ x2_1.toInt < 40 := by have := bd_48_0 hI; omega
          refine ⟨o5171, ?_⟩
          have o5172 : 0 ≤ x2_1.toInt ∧ x2_1.toInt < 40 := by have := bd_48_0 hI; omega
          refine ⟨o5172, ?_⟩
          refine ⟨fun h5173 => ?_, fun h5173 => ?_⟩
          · refine Eq.mpr (q_Ro_countSecond_78.eq_1 _ _ _ _ _) ?_
            have o5174 : 0 ≤ x2_1.toInt ∧ x2_1.toInt < 40 := by have := bd_48_0 hI; omega
            refine ⟨o5174, ?_⟩
            refine ⟨fun h5175 => ?_, fun h5175 => ?_⟩
            · have hI5176 : BND (sI w5138 49 x2_1.toInt.toNat 1000000) := wbd_49 hI5139 x2_1.toInt.toNat (by decide) (by decide)
              have o5177 : (0 ≤ (x2_1 + (1 : Int32)).toInt) ∧ ((x2_1 + (1 : Int32)).toInt ≤ 40) := by have := bd_48_0 hI; have := ti_add2 (Eq.refl x2_1.toInt) (by decide : ((1 : Int32)).toInt = 1) (by omega) (by omega); exact ⟨by omega, by omega⟩
              exact ih _ (sI w5138 49 x2_1.toInt.toNat 1000000) hI5176  o5177.1 o5177.2 (by have := bd_48_0 hI; have := ti_add2 (Eq.refl x2_1.toInt) (by decide : ((1 : Int32)).toInt = 1) (by omega) (by omega); omega) (fun w9 hI9 hF9 => hE w9 hI9 ((FR.I hF5144 (k := 49) (j := x2_1.toInt.toNat) (v := 1000000) rfl).tr hF9 rfl) ) (fun w9 hI9 hF9 q0 => q0.elim)
            · have o5178 : 0 ≤ x2_1.toInt ∧ x2_1.toInt < 40 := by have := bd_48_0 hI; omega
              refine ⟨o5178, ?_⟩
              have o5179 : 0 ≤ x2_1.toInt ∧ x2_1.toInt < 40 := by have := bd_48_0 hI; omega
              refine ⟨o5179, ?_⟩
              have hI5180 : BND (sI w5138 49 x2_1.toInt.toNat 1000000) := wbd_49 hI5139 x2_1.toInt.toNat (by decide) (by decide)
              have o5182 : 0 ≤ (((sI w5138 49 x2_1.toInt.toNat 1000000).1 51 x2_1.toInt.toNat) - (1 : Int32)).toInt ∧ (((sI w5138 49 x2_1.toInt.toNat 1000000).1 51 x2_1.toInt.toNat) - (1 : Int32)).toInt ≤ 3600 := by have := bd_51 hI5139 x2_1.toInt.toNat; have := bd_51 hI x2_1.toInt.toNat; have := (congrArg Int32.toInt (hL5140 51 x2_1.toInt.toNat rfl).1); have : ((sI w5138 49 x2_1.toInt.toNat 1000000).1 51 x2_1.toInt.toNat).toInt = (w5138.1 51 x2_1.toInt.toNat).toInt := rfl; have := (by decide : ((0 : Int32)).toInt = 0); have := ti_sub2 (Eq.refl ((sI w5138 49 x2_1.toInt.toNat 1000000).1 51 x2_1.toInt.toNat).toInt) (by decide : ((1 : Int32)).toInt = 1) (by omega) (by omega); omega
              have hI5181 : BND (sI (sI w5138 49 x2_1.toInt.toNat 1000000) 51 x2_1.toInt.toNat (((sI w5138 49 x2_1.toInt.toNat 1000000).1 51 x2_1.toInt.toNat) - (1 : Int32))) := wbd_51 hI5180 x2_1.toInt.toNat o5182.1 o5182.2
              have o5183 : (0 ≤ (x2_1 + (1 : Int32)).toInt) ∧ ((x2_1 + (1 : Int32)).toInt ≤ 40) := by have := bd_48_0 hI; have := ti_add2 (Eq.refl x2_1.toInt) (by decide : ((1 : Int32)).toInt = 1) (by omega) (by omega); exact ⟨by omega, by omega⟩
              exact ih _ (sI (sI w5138 49 x2_1.toInt.toNat 1000000) 51 x2_1.toInt.toNat (((sI w5138 49 x2_1.toInt.toNat 1000000).1 51 x2_1.toInt.toNat) - (1 : Int32))) hI5181  o5183.1 o5183.2 (by have := bd_48_0 hI; have := ti_add2 (Eq.refl x2_1.toInt) (by decide : ((1 : Int32)).toInt = 1) (by omega) (by omega); omega) (fun w9 hI9 hF9 => hE w9 hI9 ((FR.I (FR.I hF5144 (k := 49) (j := x2_1.toInt.toNat) (v := 1000000) rfl) (k := 51) (j := x2_1.toInt.toNat) (v := (((sI w5138 49 x2_1.toInt.toNat 1000000).1 51 x2_1.toInt.toNat) - (1 : Int32))) rfl).tr hF9 rfl) ) (fun w9 hI9 hF9 q0 => q0.elim)
          · refine ⟨fun h => absurd h h5145, fun _ => ?_⟩
            have o5184 : 0 ≤ x2_1.toInt ∧ x2_1.toInt < 40 := by have := bd_48_0 hI; omega
            refine ⟨o5184, ?_⟩
            have o5185 : 0 ≤ x2_1.toInt ∧ x2_1.toInt < 40 := by have := bd_48_0 hI; omega
            refine ⟨o5185, ?_⟩
            refine ⟨fun h5186 => ?_, fun h5186 => ?_⟩
            · refine Eq.mpr (q_Ro_countSecond_78.eq_1 _ _ _ _ _) ?_
              have o5187 : 0 ≤ x2_1.toInt ∧ x2_1.toInt < 40 := by have := bd_48_0 hI; omega
              refine ⟨o5187, ?_⟩
              refine ⟨fun h5188 => ?_, fun h5188 => ?_⟩
              · have hI5189 : BND (sI w5138 49 x2_1.toInt.toNat 1000000) := wbd_49 hI5139 x2_1.toInt.toNat (by decide) (by decide)
                have o5190 : (0 ≤ (x2_1 + (1 : Int32)).toInt) ∧ ((x2_1 + (1 : Int32)).toInt ≤ 40) := by have := bd_48_0 hI; have := ti_add2 (Eq.refl x2_1.toInt) (by decide : ((1 : Int32)).toInt = 1) (by omega) (by omega); exact ⟨by omega, by omega⟩
                exact ih _ (sI w5138 49 x2_1.toInt.toNat 1000000) hI5189  o5190.1 o5190.2 (by have := bd_48_0 hI; have := ti_add2 (Eq.refl x2_1.toInt) (by decide : ((1 : Int32)).toInt = 1) (by omega) (by omega); omega) (fun w9 hI9 hF9 => hE w9 hI9 ((FR.I hF5144 (k := 49) (j := x2_1.toInt.toNat) (v := 1000000) rfl).tr hF9 rfl) ) (fun w9 hI9 hF9 q0 => q0.elim)
              · have o5191 : 0 ≤ x2_1.toInt ∧ x2_1.toInt < 40 := by have := bd_48_0 hI; omega
                refine ⟨o5191, ?_⟩
                have o5192 : 0 ≤ x2_1.toInt ∧ x2_1.toInt < 40 := by have := bd_48_0 hI; omega
                refine ⟨o5192, ?_⟩
                have hI5193 : BND (sI w5138 49 x2_1.toInt.toNat 1000000) := wbd_49 hI5139 x2_1.toInt.toNat (by decide) (by decide)
                have o5195 : 0 ≤ (((sI w5138 49 x2_1.toInt.toNat 1000000).1 51 x2_1.toInt.toNat) - (1 : Int32)).toInt ∧ (((sI w5138 49 x2_1.toInt.toNat 1000000).1 51 x2_1.toInt.toNat) - (1 : Int32)).toInt ≤ 3600 := by have := bd_51 hI5139 x2_1.toInt.toNat; have := bd_51 hI x2_1.toInt.toNat; have := (congrArg Int32.toInt (hL5140 51 x2_1.toInt.toNat rfl).1); have : ((sI w5138 49 x2_1.toInt.toNat 1000000).1 51 x2_1.toInt.toNat).toInt = (w5138.1 51 x2_1.toInt.toNat).toInt := rfl; have := (by decide : ((0 : Int32)).toInt = 0); have := ti_sub2 (Eq.refl ((sI w5138 49 x2_1.toInt.toNat 1000000).1 51 x2_1.toInt.toNat).toInt) (by decide : ((1 : Int32)).toInt = 1) (by omega) (by omega); omega
                have hI5194 : BND (sI (sI w5138 49 x2_1.toInt.toNat 1000000) 51 x2_1.toInt.toNat (((sI w5138 49 x2_1.toInt.toNat 1000000).1 51 x2_1.toInt.toNat) - (1 : Int32))) := wbd_51 hI5193 x2_1.toInt.toNat o5195.1 o5195.2
                have o5196 : (0 ≤ (x2_1 + (1 : Int32)).toInt) ∧ ((x2_1 + (1 : Int32)).toInt ≤ 40) := by have := bd_48_0 hI; have := ti_add2 (Eq.refl x2_1.toInt) (by decide : ((1 : Int32)).toInt = 1) (by omega) (by omega); exact ⟨by omega, by omega⟩
                exact ih _ (sI (sI w5138 49 x2_1.toInt.toNat 1000000) 51 x2_1.toInt.toNat (((sI w5138 49 x2_1.toInt.toNat 1000000).1 51 x2_1.toInt.toNat) - (1 : Int32))) hI5194  o5196.1 o5196.2 (by have := bd_48_0 hI; have := ti_add2 (Eq.refl x2_1.toInt) (by decide : ((1 : Int32)).toInt = 1) (by omega) (by omega); omega) (fun w9 hI9 hF9 => hE w9 hI9 ((FR.I (FR.I hF5144 (k := 49) (j := x2_1.toInt.toNat) (v := 1000000) rfl) (k := 51) (j := x2_1.toInt.toNat) (v := (((sI w5138 49 x2_1.toInt.toNat 1000000).1 51 x2_1.toInt.toNat) - (1 : Int32))) rfl).tr hF9 rfl) ) (fun w9 hI9 hF9 q0 => q0.elim)
            · have o5197 : 0 ≤ x2_1.toInt ∧ x2_1.toInt < 40 := by have := bd_48_0 hI; omega
              refine ⟨o5197, ?_⟩
              refine Eq.mpr (q_Ro_countSecond_78.eq_1 _ _ _ _ _) ?_
              have o5198 : 0 ≤ x2_1.toInt ∧ x2_1.toInt < 40 := by have := bd_48_0 hI; omega
              refine ⟨o5198, ?_⟩
              refine ⟨fun h5199 => ?_, fun h5199 => ?_⟩
              · have hI5200 : BND (sI w5138 49 x2_1.toInt.toNat 1000000) := wbd_49 hI5139 x2_1.toInt.toNat (by decide) (by decide)
                have o5202 : 0 ≤ (vp_nar .boolean (1 : Int32)).toInt ∧ (vp_nar .boolean (1 : Int32)).toInt ≤ 1 := by have := nb_bool1; omega
                have hI5201 : BND (sI (sI w5138 49 x2_1.toInt.toNat 1000000) 50 x2_1.toInt.toNat (vp_nar .boolean (1 : Int32))) := wbd_50 hI5200 x2_1.toInt.toNat o5202.1 o5202.2
                have o5203 : (0 ≤ (x2_1 + (1 : Int32)).toInt) ∧ ((x2_1 + (1 : Int32)).toInt ≤ 40) := by have := bd_48_0 hI; have := ti_add2 (Eq.refl x2_1.toInt) (by decide : ((1 : Int32)).toInt = 1) (by omega) (by omega); exact ⟨by omega, by omega⟩
                exact ih _ (sI (sI w5138 49 x2_1.toInt.toNat 1000000) 50 x2_1.toInt.toNat (vp_nar .boolean (1 : Int32))) hI5201  o5203.1 o5203.2 (by have := bd_48_0 hI; have := ti_add2 (Eq.refl x2_1.toInt) (by decide : ((1 : Int32)).toInt = 1) (by omega) (by omega); omega) (fun w9 hI9 hF9 => hE w9 hI9 ((FR.I (FR.I hF5144 (k := 49) (j := x2_1.toInt.toNat) (v := 1000000) rfl) (k := 50) (j := x2_1.toInt.toNat) (v := (vp_nar .boolean (1 : Int32))) rfl).tr hF9 rfl) ) (fun w9 hI9 hF9 q0 => q0.elim)
              · have o5204 : 0 ≤ x2_1.toInt ∧ x2_1.toInt < 40 := by have := bd_48_0 hI; omega
                refine ⟨o5204, ?_⟩
                have o5205 : 0 ≤ x2_1.toInt ∧ x2_1.toInt < 40 := by have := bd_48_0 hI; omega
                refine ⟨o5205, ?_⟩
                have hI5206 : BND (sI w5138 49 x2_1.toInt.toNat 1000000) := wbd_49 hI5139 x2_1.toInt.toNat (by decide) (by decide)
                have o5208 : 0 ≤ (vp_nar .boolean (1 : Int32)).toInt ∧ (vp_nar .boolean (1 : Int32)).toInt ≤ 1 := by have := nb_bool1; omega
                have hI5207 : BND (sI (sI w5138 49 x2_1.toInt.toNat 1000000) 50 x2_1.toInt.toNat (vp_nar .boolean (1 : Int32))) := wbd_50 hI5206 x2_1.toInt.toNat o5208.1 o5208.2
                have o5210 : 0 ≤ (((sI (sI w5138 49 x2_1.toInt.toNat 1000000) 50 x2_1.toInt.toNat (vp_nar .boolean (1 : Int32))).1 51 x2_1.toInt.toNat) - (1 : Int32)).toInt ∧ (((sI (sI w5138 49 x2_1.toInt.toNat 1000000) 50 x2_1.toInt.toNat (vp_nar .boolean (1 : Int32))).1 51 x2_1.toInt.toNat) - (1 : Int32)).toInt ≤ 3600 := by have := bd_51 hI5139 x2_1.toInt.toNat; have := bd_51 hI x2_1.toInt.toNat; have := (congrArg Int32.toInt (hL5140 51 x2_1.toInt.toNat rfl).1); have : ((sI (sI w5138 49 x2_1.toInt.toNat 1000000) 50 x2_1.toInt.toNat (vp_nar .boolean (1 : Int32))).1 51 x2_1.toInt.toNat).toInt = (w5138.1 51 x2_1.toInt.toNat).toInt := rfl; have := (by decide : ((0 : Int32)).toInt = 0); have := ti_sub2 (Eq.refl ((sI (sI w5138 49 x2_1.toInt.toNat 1000000) 50 x2_1.toInt.toNat (vp_nar .boolean (1 : Int32))).1 51 x2_1.toInt.toNat).toInt) (by decide : ((1 : Int32)).toInt = 1) (by omega) (by omega); omega
                have hI5209 : BND (sI (sI (sI w5138 49 x2_1.toInt.toNat 1000000) 50 x2_1.toInt.toNat (vp_nar .boolean (1 : Int32))) 51 x2_1.toInt.toNat (((sI (sI w5138 49 x2_1.toInt.toNat 1000000) 50 x2_1.toInt.toNat (vp_nar .boolean (1 : Int32))).1 51 x2_1.toInt.toNat) - (1 : Int32))) := wbd_51 hI5207 x2_1.toInt.toNat o5210.1 o5210.2
                have o5211 : (0 ≤ (x2_1 + (1 : Int32)).toInt) ∧ ((x2_1 + (1 : Int32)).toInt ≤ 40) := by have := bd_48_0 hI; have := ti_add2 (Eq.refl x2_1.toInt) (by decide : ((1 : Int32)).toInt = 1) (by omega) (by omega); exact ⟨by omega, by omega⟩
                exact ih _ (sI (sI (sI w5138 49 x2_1.toInt.toNat 1000000) 50 x2_1.toInt.toNat (vp_nar .boolean (1 : Int32))) 51 x2_1.toInt.toNat (((sI (sI w5138 49 x2_1.toInt.toNat 1000000) 50 x2_1.toInt.toNat (vp_nar .boolean (1 : Int32))).1 51 x2_1.toInt.toNat) - (1 : Int32))) hI5209  o5211.1 o5211.2 (by have := bd_48_0 hI; have := ti_add2 (Eq.refl x2_1.toInt) (by decide : ((1 : Int32)).toInt = 1) (by omega) (by omega); omega) (fun w9 hI9 hF9 => hE w9 hI9 ((FR.I (FR.I (FR.I hF5144 (k := 49) (j := x2_1.toInt.toNat) (v := 1000000) rfl) (k := 50) (j := x2_1.toInt.toNat) (v := (vp_nar .boolean (1 : Int32))) rfl) (k := 51) (j := x2_1.toInt.toNat) (v := (((sI (sI w5138 49 x2_1.toInt.toNat 1000000) 50 x2_1.toInt.toNat (vp_nar .boolean (1 : Int32))).1 51 x2_1.toInt.toNat) - (1 : Int32))) rfl).tr hF9 rfl) ) (fun w9 hI9 hF9 q0 => q0.elim)
        · replace h5170 : ¬ (1000000 < ((w5138.1 49 x2_1.toInt.toNat) + (1 : Int32)).toInt) := h5170
          refine Eq.mpr (q_Ro_countSecond_42.eq_1 _ _ _ _ _ _ _ _) ?_
          have o5212 : 0 ≤ x2_1.toInt ∧ x2_1.toInt < 40 := by have := bd_48_0 hI; omega
          refine ⟨o5212, ?_⟩
          have o5213 : 0 ≤ x2_1.toInt ∧ x2_1.toInt < 40 := by have := bd_48_0 hI; omega
          refine ⟨o5213, ?_⟩
          refine ⟨fun h5214 => ?_, fun h5214 => ?_⟩
          · refine Eq.mpr (q_Ro_countSecond_78.eq_1 _ _ _ _ _) ?_
            have o5215 : 0 ≤ x2_1.toInt ∧ x2_1.toInt < 40 := by have := bd_48_0 hI; omega
            refine ⟨o5215, ?_⟩
            refine ⟨fun h5216 => ?_, fun h5216 => ?_⟩
            · have o5218 : 0 ≤ ((w5138.1 49 x2_1.toInt.toNat) + (1 : Int32)).toInt ∧ ((w5138.1 49 x2_1.toInt.toNat) + (1 : Int32)).toInt ≤ 1000000 := by have := bd_49 hI5139 x2_1.toInt.toNat; have := bd_49 hI x2_1.toInt.toNat; have := (congrArg Int32.toInt (hL5140 49 x2_1.toInt.toNat rfl).1); have := (by decide : ((1000000 : Int32)).toInt = 1000000); have := ti_add2 (Eq.refl (w5138.1 49 x2_1.toInt.toNat).toInt) (by decide : ((1 : Int32)).toInt = 1) (by omega) (by omega); omega
              have hI5217 : BND (sI w5138 49 x2_1.toInt.toNat ((w5138.1 49 x2_1.toInt.toNat) + (1 : Int32))) := wbd_49 hI5139 x2_1.toInt.toNat o5218.1 o5218.2
              have o5219 : (0 ≤ (x2_1 + (1 : Int32)).toInt) ∧ ((x2_1 + (1 : Int32)).toInt ≤ 40) := by have := bd_48_0 hI; have := ti_add2 (Eq.refl x2_1.toInt) (by decide : ((1 : Int32)).toInt = 1) (by omega) (by omega); exact ⟨by omega, by omega⟩
              exact ih _ (sI w5138 49 x2_1.toInt.toNat ((w5138.1 49 x2_1.toInt.toNat) + (1 : Int32))) hI5217  o5219.1 o5219.2 (by have := bd_48_0 hI; have := ti_add2 (Eq.refl x2_1.toInt) (by decide : ((1 : Int32)).toInt = 1) (by omega) (by omega); omega) (fun w9 hI9 hF9 => hE w9 hI9 ((FR.I hF5144 (k := 49) (j := x2_1.toInt.toNat) (v := ((w5138.1 49 x2_1.toInt.toNat) + (1 : Int32))) rfl).tr hF9 rfl) ) (fun w9 hI9 hF9 q0 => q0.elim)
            · have o5220 : 0 ≤ x2_1.toInt ∧ x2_1.toInt < 40 := by have := bd_48_0 hI; omega
              refine ⟨o5220, ?_⟩
              have o5221 : 0 ≤ x2_1.toInt ∧ x2_1.toInt < 40 := by have := bd_48_0 hI; omega
              refine ⟨o5221, ?_⟩
              have o5223 : 0 ≤ ((w5138.1 49 x2_1.toInt.toNat) + (1 : Int32)).toInt ∧ ((w5138.1 49 x2_1.toInt.toNat) + (1 : Int32)).toInt ≤ 1000000 := by have := bd_49 hI5139 x2_1.toInt.toNat; have := bd_49 hI x2_1.toInt.toNat; have := (congrArg Int32.toInt (hL5140 49 x2_1.toInt.toNat rfl).1); have := (by decide : ((1000000 : Int32)).toInt = 1000000); have := ti_add2 (Eq.refl (w5138.1 49 x2_1.toInt.toNat).toInt) (by decide : ((1 : Int32)).toInt = 1) (by omega) (by omega); omega
              have hI5222 : BND (sI w5138 49 x2_1.toInt.toNat ((w5138.1 49 x2_1.toInt.toNat) + (1 : Int32))) := wbd_49 hI5139 x2_1.toInt.toNat o5223.1 o5223.2
              have o5225 : 0 ≤ (((sI w5138 49 x2_1.toInt.toNat ((w5138.1 49 x2_1.toInt.toNat) + (1 : Int32))).1 51 x2_1.toInt.toNat) - (1 : Int32)).toInt ∧ (((sI w5138 49 x2_1.toInt.toNat ((w5138.1 49 x2_1.toInt.toNat) + (1 : Int32))).1 51 x2_1.toInt.toNat) - (1 : Int32)).toInt ≤ 3600 := by have := bd_51 hI5139 x2_1.toInt.toNat; have := bd_51 hI x2_1.toInt.toNat; have := (congrArg Int32.toInt (hL5140 51 x2_1.toInt.toNat rfl).1); have : ((sI w5138 49 x2_1.toInt.toNat ((w5138.1 49 x2_1.toInt.toNat) + (1 : Int32))).1 51 x2_1.toInt.toNat).toInt = (w5138.1 51 x2_1.toInt.toNat).toInt := rfl; have := (by decide : ((0 : Int32)).toInt = 0); have := ti_sub2 (Eq.refl ((sI w5138 49 x2_1.toInt.toNat ((w5138.1 49 x2_1.toInt.toNat) + (1 : Int32))).1 51 x2_1.toInt.toNat).toInt) (by decide : ((1 : Int32)).toInt = 1) (by omega) (by omega); omega
              have hI5224 : BND (sI (sI w5138 49 x2_1.toInt.toNat ((w5138.1 49 x2_1.toInt.toNat) + (1 : Int32))) 51 x2_1.toInt.toNat (((sI w5138 49 x2_1.toInt.toNat ((w5138.1 49 x2_1.toInt.toNat) + (1 : Int32))).1 51 x2_1.toInt.toNat) - (1 : Int32))) := wbd_51 hI5222 x2_1.toInt.toNat o5225.1 o5225.2
              have o5226 : (0 ≤ (x2_1 + (1 : Int32)).toInt) ∧ ((x2_1 + (1 : Int32)).toInt ≤ 40) := by have := bd_48_0 hI; have := ti_add2 (Eq.refl x2_1.toInt) (by decide : ((1 : Int32)).toInt = 1) (by omega) (by omega); exact ⟨by omega, by omega⟩
              exact ih _ (sI (sI w5138 49 x2_1.toInt.toNat ((w5138.1 49 x2_1.toInt.toNat) + (1 : Int32))) 51 x2_1.toInt.toNat (((sI w5138 49 x2_1.toInt.toNat ((w5138.1 49 x2_1.toInt.toNat) + (1 : Int32))).1 51 x2_1.toInt.toNat) - (1 : Int32))) hI5224  o5226.1 o5226.2 (by have := bd_48_0 hI; have := ti_add2 (Eq.refl x2_1.toInt) (by decide : ((1 : Int32)).toInt = 1) (by omega) (by omega); omega) (fun w9 hI9 hF9 => hE w9 hI9 ((FR.I (FR.I hF5144 (k := 49) (j := x2_1.toInt.toNat) (v := ((w5138.1 49 x2_1.toInt.toNat) + (1 : Int32))) rfl) (k := 51) (j := x2_1.toInt.toNat) (v := (((sI w5138 49 x2_1.toInt.toNat ((w5138.1 49 x2_1.toInt.toNat) + (1 : Int32))).1 51 x2_1.toInt.toNat) - (1 : Int32))) rfl).tr hF9 rfl) ) (fun w9 hI9 hF9 q0 => q0.elim)
          · refine ⟨fun h => absurd h h5145, fun _ => ?_⟩
            have o5227 : 0 ≤ x2_1.toInt ∧ x2_1.toInt < 40 := by have := bd_48_0 hI; omega
            refine ⟨o5227, ?_⟩
            have o5228 : 0 ≤ x2_1.toInt ∧ x2_1.toInt < 40 := by have := bd_48_0 hI; omega
            refine ⟨o5228, ?_⟩
            refine ⟨fun h5229 => ?_, fun h5229 => ?_⟩
            · refine Eq.mpr (q_Ro_countSecond_78.eq_1 _ _ _ _ _) ?_
              have o5230 : 0 ≤ x2_1.toInt ∧ x2_1.toInt < 40 := by have := bd_48_0 hI; omega
              refine ⟨o5230, ?_⟩
              refine ⟨fun h5231 => ?_, fun h5231 => ?_⟩
              · have o5233 : 0 ≤ ((w5138.1 49 x2_1.toInt.toNat) + (1 : Int32)).toInt ∧ ((w5138.1 49 x2_1.toInt.toNat) + (1 : Int32)).toInt ≤ 1000000 := by have := bd_49 hI5139 x2_1.toInt.toNat; have := bd_49 hI x2_1.toInt.toNat; have := (congrArg Int32.toInt (hL5140 49 x2_1.toInt.toNat rfl).1); have := (by decide : ((1000000 : Int32)).toInt = 1000000); have := (congrArg Int32.toInt (sI_same w5138 49 x2_1.toInt.toNat ((w5138.1 49 x2_1.toInt.toNat) + (1 : Int32)))); have := bd_53 hI5139 x2_1.toInt.toNat; have := bd_53 hI x2_1.toInt.toNat; have := (congrArg Int32.toInt (hL5140 53 x2_1.toInt.toNat rfl).1); have := ti_add2 (Eq.refl (w5138.1 49 x2_1.toInt.toNat).toInt) (by decide : ((1 : Int32)).toInt = 1) (by omega) (by omega); omega
                have hI5232 : BND (sI w5138 49 x2_1.toInt.toNat ((w5138.1 49 x2_1.toInt.toNat) + (1 : Int32))) := wbd_49 hI5139 x2_1.toInt.toNat o5233.1 o5233.2
                have o5234 : (0 ≤ (x2_1 + (1 : Int32)).toInt) ∧ ((x2_1 + (1 : Int32)).toInt ≤ 40) := by have := bd_48_0 hI; have := ti_add2 (Eq.refl x2_1.toInt) (by decide : ((1 : Int32)).toInt = 1) (by omega) (by omega); exact ⟨by omega, by omega⟩
                exact ih _ (sI w5138 49 x2_1.toInt.toNat ((w5138.1 49 x2_1.toInt.toNat) + (1 : Int32))) hI5232  o5234.1 o5234.2 (by have := bd_48_0 hI; have := ti_add2 (Eq.refl x2_1.toInt) (by decide : ((1 : Int32)).toInt = 1) (by omega) (by omega); omega) (fun w9 hI9 hF9 => hE w9 hI9 ((FR.I hF5144 (k := 49) (j := x2_1.toInt.toNat) (v := ((w5138.1 49 x2_1.toInt.toNat) + (1 : Int32))) rfl).tr hF9 rfl) ) (fun w9 hI9 hF9 q0 => q0.elim)
              · have o5235 : 0 ≤ x2_1.toInt ∧ x2_1.toInt < 40 := by have := bd_48_0 hI; omega
                refine ⟨o5235, ?_⟩
                have o5236 : 0 ≤ x2_1.toInt ∧ x2_1.toInt < 40 := by have := bd_48_0 hI; omega
                refine ⟨o5236, ?_⟩
                have o5238 : 0 ≤ ((w5138.1 49 x2_1.toInt.toNat) + (1 : Int32)).toInt ∧ ((w5138.1 49 x2_1.toInt.toNat) + (1 : Int32)).toInt ≤ 1000000 := by have := bd_49 hI5139 x2_1.toInt.toNat; have := bd_49 hI x2_1.toInt.toNat; have := (congrArg Int32.toInt (hL5140 49 x2_1.toInt.toNat rfl).1); have := (by decide : ((1000000 : Int32)).toInt = 1000000); have := (congrArg Int32.toInt (sI_same w5138 49 x2_1.toInt.toNat ((w5138.1 49 x2_1.toInt.toNat) + (1 : Int32)))); have := bd_53 hI5139 x2_1.toInt.toNat; have := bd_53 hI x2_1.toInt.toNat; have := (congrArg Int32.toInt (hL5140 53 x2_1.toInt.toNat rfl).1); have := ti_add2 (Eq.refl (w5138.1 49 x2_1.toInt.toNat).toInt) (by decide : ((1 : Int32)).toInt = 1) (by omega) (by omega); omega
                have hI5237 : BND (sI w5138 49 x2_1.toInt.toNat ((w5138.1 49 x2_1.toInt.toNat) + (1 : Int32))) := wbd_49 hI5139 x2_1.toInt.toNat o5238.1 o5238.2
                have o5240 : 0 ≤ (((sI w5138 49 x2_1.toInt.toNat ((w5138.1 49 x2_1.toInt.toNat) + (1 : Int32))).1 51 x2_1.toInt.toNat) - (1 : Int32)).toInt ∧ (((sI w5138 49 x2_1.toInt.toNat ((w5138.1 49 x2_1.toInt.toNat) + (1 : Int32))).1 51 x2_1.toInt.toNat) - (1 : Int32)).toInt ≤ 3600 := by have := bd_51 hI5139 x2_1.toInt.toNat; have := bd_51 hI x2_1.toInt.toNat; have := (congrArg Int32.toInt (hL5140 51 x2_1.toInt.toNat rfl).1); have : ((sI w5138 49 x2_1.toInt.toNat ((w5138.1 49 x2_1.toInt.toNat) + (1 : Int32))).1 51 x2_1.toInt.toNat).toInt = (w5138.1 51 x2_1.toInt.toNat).toInt := rfl; have := (by decide : ((0 : Int32)).toInt = 0); have := ti_sub2 (Eq.refl ((sI w5138 49 x2_1.toInt.toNat ((w5138.1 49 x2_1.toInt.toNat) + (1 : Int32))).1 51 x2_1.toInt.toNat).toInt) (by decide : ((1 : Int32)).toInt = 1) (by omega) (by omega); omega
                have hI5239 : BND (sI (sI w5138 49 x2_1.toInt.toNat ((w5138.1 49 x2_1.toInt.toNat) + (1 : Int32))) 51 x2_1.toInt.toNat (((sI w5138 49 x2_1.toInt.toNat ((w5138.1 49 x2_1.toInt.toNat) + (1 : Int32))).1 51 x2_1.toInt.toNat) - (1 : Int32))) := wbd_51 hI5237 x2_1.toInt.toNat o5240.1 o5240.2
                have o5241 : (0 ≤ (x2_1 + (1 : Int32)).toInt) ∧ ((x2_1 + (1 : Int32)).toInt ≤ 40) := by have := bd_48_0 hI; have := ti_add2 (Eq.refl x2_1.toInt) (by decide : ((1 : Int32)).toInt = 1) (by omega) (by omega); exact ⟨by omega, by omega⟩
                exact ih _ (sI (sI w5138 49 x2_1.toInt.toNat ((w5138.1 49 x2_1.toInt.toNat) + (1 : Int32))) 51 x2_1.toInt.toNat (((sI w5138 49 x2_1.toInt.toNat ((w5138.1 49 x2_1.toInt.toNat) + (1 : Int32))).1 51 x2_1.toInt.toNat) - (1 : Int32))) hI5239  o5241.1 o5241.2 (by have := bd_48_0 hI; have := ti_add2 (Eq.refl x2_1.toInt) (by decide : ((1 : Int32)).toInt = 1) (by omega) (by omega); omega) (fun w9 hI9 hF9 => hE w9 hI9 ((FR.I (FR.I hF5144 (k := 49) (j := x2_1.toInt.toNat) (v := ((w5138.1 49 x2_1.toInt.toNat) + (1 : Int32))) rfl) (k := 51) (j := x2_1.toInt.toNat) (v := (((sI w5138 49 x2_1.toInt.toNat ((w5138.1 49 x2_1.toInt.toNat) + (1 : Int32))).1 51 x2_1.toInt.toNat) - (1 : Int32))) rfl).tr hF9 rfl) ) (fun w9 hI9 hF9 q0 => q0.elim)
            · have o5242 : 0 ≤ x2_1.toInt ∧ x2_1.toInt < 40 := by have := bd_48_0 hI; omega
              refine ⟨o5242, ?_⟩
              refine Eq.mpr (q_Ro_countSecond_78.eq_1 _ _ _ _ _) ?_
              have o5243 : 0 ≤ x2_1.toInt ∧ x2_1.toInt < 40 := by have := bd_48_0 hI; omega
              refine ⟨o5243, ?_⟩
              refine ⟨fun h5244 => ?_, fun h5244 => ?_⟩
              · have o5246 : 0 ≤ ((w5138.1 49 x2_1.toInt.toNat) + (1 : Int32)).toInt ∧ ((w5138.1 49 x2_1.toInt.toNat) + (1 : Int32)).toInt ≤ 1000000 := by have := bd_49 hI5139 x2_1.toInt.toNat; have := bd_49 hI x2_1.toInt.toNat; have := (congrArg Int32.toInt (hL5140 49 x2_1.toInt.toNat rfl).1); have := (by decide : ((1000000 : Int32)).toInt = 1000000); have := (congrArg Int32.toInt (sI_same w5138 49 x2_1.toInt.toNat ((w5138.1 49 x2_1.toInt.toNat) + (1 : Int32)))); have := bd_53 hI5139 x2_1.toInt.toNat; have := bd_53 hI x2_1.toInt.toNat; have := (congrArg Int32.toInt (hL5140 53 x2_1.toInt.toNat rfl).1); have := ti_add2 (Eq.refl (w5138.1 49 x2_1.toInt.toNat).toInt) (by decide : ((1 : Int32)).toInt = 1) (by omega) (by omega); omega
                have hI5245 : BND (sI w5138 49 x2_1.toInt.toNat ((w5138.1 49 x2_1.toInt.toNat) + (1 : Int32))) := wbd_49 hI5139 x2_1.toInt.toNat o5246.1 o5246.2
                have o5248 : 0 ≤ (vp_nar .boolean (1 : Int32)).toInt ∧ (vp_nar .boolean (1 : Int32)).toInt ≤ 1 := by have := nb_bool1; omega
                have hI5247 : BND (sI (sI w5138 49 x2_1.toInt.toNat ((w5138.1 49 x2_1.toInt.toNat) + (1 : Int32))) 50 x2_1.toInt.toNat (vp_nar .boolean (1 : Int32))) := wbd_50 hI5245 x2_1.toInt.toNat o5248.1 o5248.2
                have o5249 : (0 ≤ (x2_1 + (1 : Int32)).toInt) ∧ ((x2_1 + (1 : Int32)).toInt ≤ 40) := by have := bd_48_0 hI; have := ti_add2 (Eq.refl x2_1.toInt) (by decide : ((1 : Int32)).toInt = 1) (by omega) (by omega); exact ⟨by omega, by omega⟩
                exact ih _ (sI (sI w5138 49 x2_1.toInt.toNat ((w5138.1 49 x2_1.toInt.toNat) + (1 : Int32))) 50 x2_1.toInt.toNat (vp_nar .boolean (1 : Int32))) hI5247  o5249.1 o5249.2 (by have := bd_48_0 hI; have := ti_add2 (Eq.refl x2_1.toInt) (by decide : ((1 : Int32)).toInt = 1) (by omega) (by omega); omega) (fun w9 hI9 hF9 => hE w9 hI9 ((FR.I (FR.I hF5144 (k := 49) (j := x2_1.toInt.toNat) (v := ((w5138.1 49 x2_1.toInt.toNat) + (1 : Int32))) rfl) (k := 50) (j := x2_1.toInt.toNat) (v := (vp_nar .boolean (1 : Int32))) rfl).tr hF9 rfl) ) (fun w9 hI9 hF9 q0 => q0.elim)
              · have o5250 : 0 ≤ x2_1.toInt ∧ x2_1.toInt < 40 := by have := bd_48_0 hI; omega
                refine ⟨o5250, ?_⟩
                have o5251 : 0 ≤ x2_1.toInt ∧ x2_1.toInt < 40 := by have := bd_48_0 hI; omega
                refine ⟨o5251, ?_⟩
                have o5253 : 0 ≤ ((w5138.1 49 x2_1.toInt.toNat) + (1 : Int32)).toInt ∧ ((w5138.1 49 x2_1.toInt.toNat) + (1 : Int32)).toInt ≤ 1000000 := by have := bd_49 hI5139 x2_1.toInt.toNat; have := bd_49 hI x2_1.toInt.toNat; have := (congrArg Int32.toInt (hL5140 49 x2_1.toInt.toNat rfl).1); have := (by decide : ((1000000 : Int32)).toInt = 1000000); have := (congrArg Int32.toInt (sI_same w5138 49 x2_1.toInt.toNat ((w5138.1 49 x2_1.toInt.toNat) + (1 : Int32)))); have := bd_53 hI5139 x2_1.toInt.toNat; have := bd_53 hI x2_1.toInt.toNat; have := (congrArg Int32.toInt (hL5140 53 x2_1.toInt.toNat rfl).1); have := ti_add2 (Eq.refl (w5138.1 49 x2_1.toInt.toNat).toInt) (by decide : ((1 : Int32)).toInt = 1) (by omega) (by omega); omega
                have hI5252 : BND (sI w5138 49 x2_1.toInt.toNat ((w5138.1 49 x2_1.toInt.toNat) + (1 : Int32))) := wbd_49 hI5139 x2_1.toInt.toNat o5253.1 o5253.2
                have o5255 : 0 ≤ (vp_nar .boolean (1 : Int32)).toInt ∧ (vp_nar .boolean (1 : Int32)).toInt ≤ 1 := by have := nb_bool1; omega
                have hI5254 : BND (sI (sI w5138 49 x2_1.toInt.toNat ((w5138.1 49 x2_1.toInt.toNat) + (1 : Int32))) 50 x2_1.toInt.toNat (vp_nar .boolean (1 : Int32))) := wbd_50 hI5252 x2_1.toInt.toNat o5255.1 o5255.2
                have o5257 : 0 ≤ (((sI (sI w5138 49 x2_1.toInt.toNat ((w5138.1 49 x2_1.toInt.toNat) + (1 : Int32))) 50 x2_1.toInt.toNat (vp_nar .boolean (1 : Int32))).1 51 x2_1.toInt.toNat) - (1 : Int32)).toInt ∧ (((sI (sI w5138 49 x2_1.toInt.toNat ((w5138.1 49 x2_1.toInt.toNat) + (1 : Int32))) 50 x2_1.toInt.toNat (vp_nar .boolean (1 : Int32))).1 51 x2_1.toInt.toNat) - (1 : Int32)).toInt ≤ 3600 := by have := bd_51 hI5139 x2_1.toInt.toNat; have := bd_51 hI x2_1.toInt.toNat; have := (congrArg Int32.toInt (hL5140 51 x2_1.toInt.toNat rfl).1); have : ((sI (sI w5138 49 x2_1.toInt.toNat ((w5138.1 49 x2_1.toInt.toNat) + (1 : Int32))) 50 x2_1.toInt.toNat (vp_nar .boolean (1 : Int32))).1 51 x2_1.toInt.toNat).toInt = (w5138.1 51 x2_1.toInt.toNat).toInt := rfl; have := (by decide : ((0 : Int32)).toInt = 0); have := ti_sub2 (Eq.refl ((sI (sI w5138 49 x2_1.toInt.toNat ((w5138.1 49 x2_1.toInt.toNat) + (1 : Int32))) 50 x2_1.toInt.toNat (vp_nar .boolean (1 : Int32))).1 51 x2_1.toInt.toNat).toInt) (by decide : ((1 : Int32)).toInt = 1) (by omega) (by omega); omega
                have hI5256 : BND (sI (sI (sI w5138 49 x2_1.toInt.toNat ((w5138.1 49 x2_1.toInt.toNat) + (1 : Int32))) 50 x2_1.toInt.toNat (vp_nar .boolean (1 : Int32))) 51 x2_1.toInt.toNat (((sI (sI w5138 49 x2_1.toInt.toNat ((w5138.1 49 x2_1.toInt.toNat) + (1 : Int32))) 50 x2_1.toInt.toNat (vp_nar .boolean (1 : Int32))).1 51 x2_1.toInt.toNat) - (1 : Int32))) := wbd_51 hI5254 x2_1.toInt.toNat o5257.1 o5257.2
                have o5258 : (0 ≤ (x2_1 + (1 : Int32)).toInt) ∧ ((x2_1 + (1 : Int32)).toInt ≤ 40) := by have := bd_48_0 hI; have := ti_add2 (Eq.refl x2_1.toInt) (by decide : ((1 : Int32)).toInt = 1) (by omega) (by omega); exact ⟨by omega, by omega⟩
                exact ih _ (sI (sI (sI w5138 49 x2_1.toInt.toNat ((w5138.1 49 x2_1.toInt.toNat) + (1 : Int32))) 50 x2_1.toInt.toNat (vp_nar .boolean (1 : Int32))) 51 x2_1.toInt.toNat (((sI (sI w5138 49 x2_1.toInt.toNat ((w5138.1 49 x2_1.toInt.toNat) + (1 : Int32))) 50 x2_1.toInt.toNat (vp_nar .boolean (1 : Int32))).1 51 x2_1.toInt.toNat) - (1 : Int32))) hI5256  o5258.1 o5258.2 (by have := bd_48_0 hI; have := ti_add2 (Eq.refl x2_1.toInt) (by decide : ((1 : Int32)).toInt = 1) (by omega) (by omega); omega) (fun w9 hI9 hF9 => hE w9 hI9 ((FR.I (FR.I (FR.I hF5144 (k := 49) (j := x2_1.toInt.toNat) (v := ((w5138.1 49 x2_1.toInt.toNat) + (1 : Int32))) rfl) (k := 50) (j := x2_1.toInt.toNat) (v := (vp_nar .boolean (1 : Int32))) rfl) (k := 51) (j := x2_1.toInt.toNat) (v := (((sI (sI w5138 49 x2_1.toInt.toNat ((w5138.1 49 x2_1.toInt.toNat) + (1 : Int32))) 50 x2_1.toInt.toNat (vp_nar .boolean (1 : Int32))).1 51 x2_1.toInt.toNat) - (1 : Int32))) rfl).tr hF9 rfl) ) (fun w9 hI9 hF9 q0 => q0.elim)
set_option maxRecDepth 20000 in
set_option maxHeartbeats 2000000 in
theorem h_Ro_countSecond {w : MW} {Q : MW → Prop} (hI : BND w)  (hQ : ∀ (w' : MW), BND w' → FR l_Ro_countSecond w w' → Q w') : p_Ro_countSecond w Q := by
  refine Eq.mpr (p_Ro_countSecond.eq_1 _ _) ?_
  have o5259 : (0 ≤ (0 : Int32).toInt) ∧ ((0 : Int32).toInt ≤ 40) := by have := (by decide : ((0 : Int32)).toInt = 0); exact ⟨by omega, by omega⟩
  refine hq_Ro_countSecond_2 FU _ w hI  o5259.1 o5259.2 (fu_lt (by have := (by decide : ((0 : Int32)).toInt = 0); omega)) (fun w5260 hI5261 hL5262  => ?_) (fun w9 hI9 hF9 q0 => q0.elim)
  have hF5263 : FR l_Ro_countSecond w w5260 := (FR.refl _ w).tr hL5262 rfl
  exact hQ _ hI5261 hF5263 
