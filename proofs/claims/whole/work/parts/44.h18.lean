def l_Mo_closeAll_0 : Pl := [(127, some 26), (167, none), (181, none), (182, none), (183, none), (184, none), (185, none), (186, none), (187, none)]
def l_Mo_closeAll : Pl := [(127, some 26), (167, none), (181, none), (182, none), (183, none), (184, none), (185, none), (186, none), (187, none)]
set_option maxRecDepth 20000 in
set_option maxHeartbeats 2000000 in
theorem hq_Mo_closeAll_0 {E : MW → Prop} {Q : MW → Prop} (n : Nat) : ∀ (w : MW), BND w → ((w.1 127 26).toInt - 0).toNat < n → (∀ (w' : MW), BND w' → FR l_Mo_closeAll_0 w w' → E w') → (∀ (w' : MW), BND w' → FR l_Mo_closeAll_0 w w' → False → Q w') → q_Mo_closeAll_0 E Q n w := by
  induction n with
  | zero => intros; omega
  | succ n ih =>
    intro w hI   hm hE hQ
    rw [q_Mo_closeAll_0.eq_2]
    refine ⟨fun h4074 => ?_, fun h4074 => ?_⟩
    · exact hE _ hI (FR.refl _ w)
    · have o4075 : (0 ≤ ((w.1 127 26) - (1 : Int32)).toInt) ∧ (((w.1 127 26) - (1 : Int32)).toInt ≤ 23) ∧ (((w.1 127 26) - (1 : Int32)).toInt < (w.1 127 26).toInt) := by have := bd_127_26 hI; have := ti_sub2 (Eq.refl (w.1 127 26).toInt) (by decide : ((1 : Int32)).toInt = 1) (by omega) (by omega); have := (by decide : ((0 : Int32)).toInt = 0); exact ⟨by omega, by omega, by omega⟩
      refine h_Mo_close hI  o4075.1 o4075.2.1 o4075.2.2 (fun w4076 hI4077 hL4078 p4080 => ?_)
      have hF4081 : FR l_Mo_closeAll_0 w w4076 := (FR.refl _ w).tr hL4078 rfl
      exact ih w4076 hI4077   (by have := bd_127_26 hI4077; have := bd_127_26 hI; have := (by decide : ((0 : Int32)).toInt = 0); omega) (fun w9 hI9 hF9 => hE w9 hI9 (hF4081.tr hF9 rfl) ) (fun w9 hI9 hF9 q0 => q0.elim)
set_option maxRecDepth 20000 in
set_option maxHeartbeats 2000000 in
theorem h_Mo_closeAll {w : MW} {Q : MW → Prop} (hI : BND w)  (hQ : ∀ (w' : MW), BND w' → FR l_Mo_closeAll w w' → Q w') : p_Mo_closeAll w Q := by
  refine Eq.mpr (p_Mo_closeAll.eq_1 _ _) ?_
  refine hq_Mo_closeAll_0 FU w hI   (fu_lt (by have := bd_127_26 hI; omega)) (fun w4082 hI4083 hL4084  => ?_) (fun w9 hI9 hF9 q0 => q0.elim)
  have hF4085 : FR l_Mo_closeAll w w4082 := (FR.refl _ w).tr hL4084 rfl
  exact hQ _ hI4083 hF4085 
def l_Mo_forget_2 : Pl := [(174, none)]
def l_Mo_forget : Pl := [(174, none)]
set_option maxRecDepth 20000 in
set_option maxHeartbeats 2000000 in
theorem hq_Mo_forget_2 {x2_1 : Int32} {E : MW → Prop} {Q : MW → Prop} (n : Nat) : ∀ (x2_2 : Int32) (w : MW), BND w → 0 ≤ x2_1.toInt → x2_1.toInt ≤ 43 → 0 ≤ x2_2.toInt → x2_2.toInt ≤ 6 → (6 - x2_2.toInt).toNat < n → (∀ (w' : MW), BND w' → FR l_Mo_forget_2 w w' → E w') → (∀ (w' : MW), BND w' → FR l_Mo_forget_2 w w' → False → Q w') → q_Mo_forget_2 x2_1 E Q n x2_2 w := by
  induction n with
  | zero => intros; omega
  | succ n ih =>
    intro x2_2 w hI  hp0 hp1 hp2 hp3 hm hE hQ
    rw [q_Mo_forget_2.eq_2]
    refine ⟨fun h4086 => ?_, fun h4086 => ?_⟩
    · exact hE _ hI (FR.refl _ w)
    · have o4087 : 0 ≤ (((6 : Int32) * x2_1) + x2_2).toInt ∧ (((6 : Int32) * x2_1) + x2_2).toInt < 264 := by have := ti_mul2 (by decide : ((6 : Int32)).toInt = 6) (Eq.refl x2_1.toInt) (by omega) (by omega); have := ti_add2 (Eq.refl ((6 : Int32) * x2_1).toInt) (Eq.refl x2_2.toInt) (by omega) (by omega); have := (by decide : ((6 : Int32)).toInt = 6); omega
      refine ⟨o4087, ?_⟩
      have hI4088 : BND (sI w 174 ((((6 : Int32) * x2_1) + x2_2).toInt.toNat) (-1)) := wbd_174 hI ((((6 : Int32) * x2_1) + x2_2).toInt.toNat)
      have o4089 : (0 ≤ x2_1.toInt) ∧ (x2_1.toInt ≤ 43) ∧ (0 ≤ (x2_2 + (1 : Int32)).toInt) ∧ ((x2_2 + (1 : Int32)).toInt ≤ 6) := by have := ti_add2 (Eq.refl x2_2.toInt) (by decide : ((1 : Int32)).toInt = 1) (by omega) (by omega); have := (by decide : ((6 : Int32)).toInt = 6); exact ⟨by omega, by omega, by omega, by omega⟩
      exact ih _ (sI w 174 ((((6 : Int32) * x2_1) + x2_2).toInt.toNat) (-1)) hI4088  o4089.1 o4089.2.1 o4089.2.2.1 o4089.2.2.2 (by have := ti_add2 (Eq.refl x2_2.toInt) (by decide : ((1 : Int32)).toInt = 1) (by omega) (by omega); have := (by decide : ((6 : Int32)).toInt = 6); omega) (fun w9 hI9 hF9 => hE w9 hI9 ((FR.I (FR.refl _ w) (k := 174) (j := (((6 : Int32) * x2_1) + x2_2).toInt.toNat) (v := (-1)) rfl).tr hF9 rfl) ) (fun w9 hI9 hF9 q0 => q0.elim)
set_option maxRecDepth 20000 in
set_option maxHeartbeats 2000000 in
theorem h_Mo_forget {w : MW} {a0 : Int32} {Q : MW → Prop} (hI : BND w) (hp0 : 0 ≤ a0.toInt) (hp1 : a0.toInt ≤ 43) (hQ : ∀ (w' : MW), BND w' → FR l_Mo_forget w w' → Q w') : p_Mo_forget w a0 Q := by
  refine Eq.mpr (p_Mo_forget.eq_1 _ _ _) ?_
  have o4090 : (0 ≤ a0.toInt) ∧ (a0.toInt ≤ 43) ∧ (0 ≤ (0 : Int32).toInt) ∧ ((0 : Int32).toInt ≤ 6) := by have := (by decide : ((0 : Int32)).toInt = 0); exact ⟨by omega, by omega, by omega, by omega⟩
  refine hq_Mo_forget_2 FU _ w hI  o4090.1 o4090.2.1 o4090.2.2.1 o4090.2.2.2 (fu_lt (by have := (by decide : ((0 : Int32)).toInt = 0); omega)) (fun w4091 hI4092 hL4093  => ?_) (fun w9 hI9 hF9 q0 => q0.elim)
  have hF4094 : FR l_Mo_forget w w4091 := (FR.refl _ w).tr hL4093 rfl
  exact hQ _ hI4092 hF4094 
def l_Mr_cut_53 : Pl := []
def l_Mr_cut_7 : Pl := [(147, some 4), (149, none), (150, none)]
def l_Mr_cut : Pl := [(147, some 4), (149, none), (150, none)]
set_option maxRecDepth 20000 in
set_option maxHeartbeats 2000000 in
theorem hq_Mr_cut_53 {x53_2 : Int32} {E : Int32 → MW → Prop} {Q : MW → Prop} (n : Nat) : ∀ (x53_1 : Int32) (w : MW), BND w → (-128) ≤ x53_2.toInt → x53_2.toInt ≤ 127 → 0 ≤ x53_1.toInt → x53_1.toInt ≤ 4020 → (4020 - x53_1.toInt).toNat < n → (∀ (e53_1 : Int32) (w' : MW), BND w' → FR l_Mr_cut_53 w w' → 0 ≤ e53_1.toInt → e53_1.toInt ≤ 4020 → x53_1.toInt ≤ e53_1.toInt → E e53_1 w') → (∀ (w' : MW), BND w' → FR l_Mr_cut_53 w w' → False → Q w') → q_Mr_cut_53 x53_2 E Q n x53_1 w := by
  induction n with
  | zero => intros; omega
  | succ n ih =>
    intro x53_1 w hI  hp0 hp1 hp2 hp3 hm hE hQ
    rw [q_Mr_cut_53.eq_2]
    refine Eq.mpr (p_Mr_isSign.eq_1 _ _ _) ?_
    refine ⟨fun h4095 => ?_, fun h4095 => ?_⟩
    · refine ⟨fun _ => ?_, fun h => absurd (by decide) h⟩
      have o4096 : (0 ≤ x53_1.toInt) ∧ (x53_1.toInt ≤ 4020) ∧ (x53_1.toInt ≤ x53_1.toInt) := by exact ⟨by omega, by omega, by omega⟩
      exact hE _ _ hI (FR.refl _ w) o4096.1 o4096.2.1 o4096.2.2
    · refine ⟨fun h4097 => ?_, fun h4097 => ?_⟩
      · refine ⟨fun _ => ?_, fun h => absurd (by decide) h⟩
        have o4098 : (0 ≤ x53_1.toInt) ∧ (x53_1.toInt ≤ 4020) ∧ (x53_1.toInt ≤ x53_1.toInt) := by exact ⟨by omega, by omega, by omega⟩
        exact hE _ _ hI (FR.refl _ w) o4098.1 o4098.2.1 o4098.2.2
      · refine ⟨fun h4099 => ?_, fun h4099 => ?_⟩
        · refine ⟨fun h => absurd h (by decide), fun _ => ?_⟩
          refine ⟨fun h4100 => ?_, fun h4100 => ?_⟩
          · have o4101 : (0 ≤ x53_1.toInt) ∧ (x53_1.toInt ≤ 4020) ∧ (x53_1.toInt ≤ x53_1.toInt) := by have := bd_147_1 hI; exact ⟨by omega, by omega, by omega⟩
            exact hE _ _ hI (FR.refl _ w) o4101.1 o4101.2.1 o4101.2.2
          · have o4102 : 0 ≤ x53_1.toInt ∧ x53_1.toInt < 4020 := by have := bd_147_1 hI; omega
            refine ⟨o4102, ?_⟩
            refine ⟨fun h4103 => ?_, fun h4103 => ?_⟩
            · have o4104 : (0 ≤ x53_1.toInt) ∧ (x53_1.toInt ≤ 4020) ∧ (x53_1.toInt ≤ x53_1.toInt) := by have := bd_147_1 hI; exact ⟨by omega, by omega, by omega⟩
              exact hE _ _ hI (FR.refl _ w) o4104.1 o4104.2.1 o4104.2.2
            · have o4105 : 0 ≤ x53_1.toInt ∧ x53_1.toInt < 4020 := by have := bd_147_1 hI; omega
              refine ⟨o4105, ?_⟩
              refine ⟨fun h4106 => ?_, fun h4106 => ?_⟩
              · have o4107 : (0 ≤ x53_1.toInt) ∧ (x53_1.toInt ≤ 4020) ∧ (x53_1.toInt ≤ x53_1.toInt) := by have := bd_147_1 hI; exact ⟨by omega, by omega, by omega⟩
                exact hE _ _ hI (FR.refl _ w) o4107.1 o4107.2.1 o4107.2.2
              · have o4108 : 0 ≤ x53_1.toInt ∧ x53_1.toInt < 4020 := by have := bd_147_1 hI; omega
                refine ⟨o4108, ?_⟩
                refine Eq.mpr (p_Mr_isSign.eq_1 _ _ _) ?_
                refine ⟨fun h4109 => ?_, fun h4109 => ?_⟩
                · refine ⟨fun _ => ?_, fun h => absurd (by decide) h⟩
                  have o4110 : (0 ≤ x53_1.toInt) ∧ (x53_1.toInt ≤ 4020) ∧ (x53_1.toInt ≤ x53_1.toInt) := by have := bd_147_1 hI; exact ⟨by omega, by omega, by omega⟩
                  exact hE _ _ hI (FR.refl _ w) o4110.1 o4110.2.1 o4110.2.2
                · refine ⟨fun h4111 => ?_, fun h4111 => ?_⟩
                  · refine ⟨fun _ => ?_, fun h => absurd (by decide) h⟩
                    have o4112 : (0 ≤ x53_1.toInt) ∧ (x53_1.toInt ≤ 4020) ∧ (x53_1.toInt ≤ x53_1.toInt) := by have := bd_147_1 hI; exact ⟨by omega, by omega, by omega⟩
                    exact hE _ _ hI (FR.refl _ w) o4112.1 o4112.2.1 o4112.2.2
                  · refine ⟨fun h4113 => ?_, fun h4113 => ?_⟩
                    · refine ⟨fun h => absurd h (by decide), fun _ => ?_⟩
                      have o4114 : ((-128) ≤ x53_2.toInt) ∧ (x53_2.toInt ≤ 127) ∧ (0 ≤ (x53_1 + (1 : Int32)).toInt) ∧ ((x53_1 + (1 : Int32)).toInt ≤ 4020) := by have := ti_add2 (Eq.refl x53_1.toInt) (by decide : ((1 : Int32)).toInt = 1) (by omega) (by omega); have := bd_147_1 hI; exact ⟨by omega, by omega, by omega, by omega⟩
                      exact ih _ w hI  o4114.1 o4114.2.1 o4114.2.2.1 o4114.2.2.2 (by have := ti_add2 (Eq.refl x53_1.toInt) (by decide : ((1 : Int32)).toInt = 1) (by omega) (by omega); have := bd_147_1 hI; omega) (fun e0 w9 hI9 hF9 p0 p1 u0 => hE e0 w9 hI9 ((FR.refl _ w).tr hF9 rfl) p0 p1 (by have := ti_add2 (Eq.refl x53_1.toInt) (by decide : ((1 : Int32)).toInt = 1) (by omega) (by omega); have := bd_147_1 hI; omega)) (fun w9 hI9 hF9 q0 => q0.elim)
                    · refine ⟨fun _ => ?_, fun h => absurd (by decide) h⟩
                      have o4115 : (0 ≤ x53_1.toInt) ∧ (x53_1.toInt ≤ 4020) ∧ (x53_1.toInt ≤ x53_1.toInt) := by have := bd_147_1 hI; exact ⟨by omega, by omega, by omega⟩
                      exact hE _ _ hI (FR.refl _ w) o4115.1 o4115.2.1 o4115.2.2
        · refine ⟨fun _ => ?_, fun h => absurd (by decide) h⟩
          have o4116 : (0 ≤ x53_1.toInt) ∧ (x53_1.toInt ≤ 4020) ∧ (x53_1.toInt ≤ x53_1.toInt) := by exact ⟨by omega, by omega, by omega⟩
          exact hE _ _ hI (FR.refl _ w) o4116.1 o4116.2.1 o4116.2.2
set_option maxRecDepth 20000 in
set_option maxHeartbeats 2000000 in
theorem hq_Mr_cut_7 {E : MW → Prop} {Q : MW → Prop} (n : Nat) : ∀ (x7_1 : Int32) (w : MW), BND w → 0 ≤ x7_1.toInt → x7_1.toInt ≤ 4020 → (w.1 147 4).toInt ≤ x7_1.toInt → (4020 - x7_1.toInt).toNat < n → (∀ (w' : MW), BND w' → FR l_Mr_cut_7 w w' → E w') → (∀ (w' : MW), BND w' → FR l_Mr_cut_7 w w' → False → Q w') → q_Mr_cut_7 E Q n x7_1 w := by
  induction n with
  | zero => intros; omega
  | succ n ih =>
    intro x7_1 w hI  hp0 hp1 hp2 hm hE hQ
    rw [q_Mr_cut_7.eq_2]
    refine ⟨fun h4117 => ?_, fun h4117 => ?_⟩
    · exact hE _ hI (FR.refl _ w)
    · have o4118 : 0 ≤ x7_1.toInt ∧ x7_1.toInt < 4020 := by have := bd_147_4 hI; have := bd_147_1 hI; omega
      refine ⟨o4118, ?_⟩
      refine ⟨fun h4119 => ?_, fun h4119 => ?_⟩
      · have o4120 : (0 ≤ (x7_1 + (1 : Int32)).toInt) ∧ ((x7_1 + (1 : Int32)).toInt ≤ 4020) ∧ ((w.1 147 4).toInt ≤ (x7_1 + (1 : Int32)).toInt) := by have := ti_add2 (Eq.refl x7_1.toInt) (by decide : ((1 : Int32)).toInt = 1) (by omega) (by omega); have := bd_147_4 hI; have := bd_147_1 hI; exact ⟨by omega, by omega, by omega⟩
        exact ih _ w hI  o4120.1 o4120.2.1 o4120.2.2 (by have := ti_add2 (Eq.refl x7_1.toInt) (by decide : ((1 : Int32)).toInt = 1) (by omega) (by omega); have := bd_147_4 hI; have := bd_147_1 hI; omega) (fun w9 hI9 hF9 => hE w9 hI9 ((FR.refl _ w).tr hF9 rfl) ) (fun w9 hI9 hF9 q0 => q0.elim)
      · refine ⟨fun h4121 => ?_, fun h4121 => ?_⟩
        · have o4122 : 0 ≤ (w.1 147 4).toInt ∧ (w.1 147 4).toInt < 4021 := by have := bd_147_4 hI; have := bd_147_1 hI; omega
          refine ⟨o4122, ?_⟩
          have o4124 : 0 ≤ x7_1.toInt ∧ x7_1.toInt ≤ 4020 := by have := bd_147_4 hI; have := bd_147_1 hI; omega
          have hI4123 : BND (sI w 149 ((w.1 147 4).toInt.toNat) x7_1) := wbd_149 hI ((w.1 147 4).toInt.toNat) o4124.1 o4124.2
          have o4125 : ((-128) ≤ (w.1 148 x7_1.toInt.toNat).toInt) ∧ ((w.1 148 x7_1.toInt.toNat).toInt ≤ 127) ∧ (0 ≤ (x7_1 + (1 : Int32)).toInt) ∧ ((x7_1 + (1 : Int32)).toInt ≤ 4020) := by have := bd_148 hI x7_1.toInt.toNat; have := ti_add2 (Eq.refl x7_1.toInt) (by decide : ((1 : Int32)).toInt = 1) (by omega) (by omega); have := bd_147_4 hI; have := bd_147_1 hI; have := (by decide : ((32 : Int32)).toInt = 32); have := (by decide : ((10 : Int32)).toInt = 10); exact ⟨by omega, by omega, by omega, by omega⟩
          refine hq_Mr_cut_53 FU _ (sI w 149 ((w.1 147 4).toInt.toNat) x7_1) hI4123  o4125.1 o4125.2.1 o4125.2.2.1 o4125.2.2.2 (fu_lt (by have := bd_148 hI x7_1.toInt.toNat; have := ti_add2 (Eq.refl x7_1.toInt) (by decide : ((1 : Int32)).toInt = 1) (by omega) (by omega); have := bd_147_4 hI; have := bd_147_1 hI; have := (by decide : ((32 : Int32)).toInt = 32); have := (by decide : ((10 : Int32)).toInt = 10); omega)) (fun e4129 w4126 hI4127 hL4128 p4130 p4131 p4132 => ?_) (fun w9 hI9 hF9 q0 => q0.elim)
          have hF4133 : FR l_Mr_cut_7 w w4126 := (FR.I (FR.refl _ w) (k := 149) (j := (w.1 147 4).toInt.toNat) (v := x7_1) rfl).tr hL4128 rfl
          have o4134 : 0 ≤ (w4126.1 147 4).toInt ∧ (w4126.1 147 4).toInt < 4021 := by have := bd_147_4 hI4127; have := bd_147_4 hI; have : ((sI w 149 ((w.1 147 4).toInt.toNat) x7_1).1 147 4).toInt = (w.1 147 4).toInt := rfl; have := (congrArg Int32.toInt (hL4128 147 4 rfl).1); have := bd_147_1 hI; have := ti_add2 (Eq.refl x7_1.toInt) (by decide : ((1 : Int32)).toInt = 1) (by omega) (by omega); omega
          refine ⟨o4134, ?_⟩
          have o4136 : 0 ≤ e4129.toInt ∧ e4129.toInt ≤ 4020 := by have := ti_add2 (Eq.refl x7_1.toInt) (by decide : ((1 : Int32)).toInt = 1) (by omega) (by omega); have := bd_147_4 hI; have := bd_147_1 hI; omega
          have hI4135 : BND (sI w4126 150 ((w4126.1 147 4).toInt.toNat) e4129) := wbd_150 hI4127 ((w4126.1 147 4).toInt.toNat) o4136.1 o4136.2
          have o4138 : 0 ≤ ((w4126.1 147 4) + (1 : Int32)).toInt ∧ ((w4126.1 147 4) + (1 : Int32)).toInt ≤ 4020 := by have := bd_147_4 hI4127; have := bd_147_4 hI; have : ((sI w 149 ((w.1 147 4).toInt.toNat) x7_1).1 147 4).toInt = (w.1 147 4).toInt := rfl; have := (congrArg Int32.toInt (hL4128 147 4 rfl).1); have := ti_add2 (Eq.refl (w4126.1 147 4).toInt) (by decide : ((1 : Int32)).toInt = 1) (by omega) (by omega); have := bd_147_1 hI; have := ti_add2 (Eq.refl x7_1.toInt) (by decide : ((1 : Int32)).toInt = 1) (by omega) (by omega); omega
          have hI4137 : BND (sI (sI w4126 150 ((w4126.1 147 4).toInt.toNat) e4129) 147 4 ((w4126.1 147 4) + (1 : Int32))) := wbd_147_4 hI4135 o4138.1 o4138.2
          have o4139 : (0 ≤ e4129.toInt) ∧ (e4129.toInt ≤ 4020) ∧ (((sI (sI w4126 150 ((w4126.1 147 4).toInt.toNat) e4129) 147 4 ((w4126.1 147 4) + (1 : Int32))).1 147 4).toInt ≤ e4129.toInt) := by have := bd_147_4 hI4127; have := bd_147_4 hI; have : ((sI w 149 ((w.1 147 4).toInt.toNat) x7_1).1 147 4).toInt = (w.1 147 4).toInt := rfl; have := (congrArg Int32.toInt (hL4128 147 4 rfl).1); have := ti_add2 (Eq.refl (w4126.1 147 4).toInt) (by decide : ((1 : Int32)).toInt = 1) (by omega) (by omega); have : ((sI (sI w4126 150 ((w4126.1 147 4).toInt.toNat) e4129) 147 4 ((w4126.1 147 4) + (1 : Int32))).1 147 4).toInt = ((w4126.1 147 4) + (1 : Int32)).toInt := rfl; have := bd_147_1 hI; have := ti_add2 (Eq.refl x7_1.toInt) (by decide : ((1 : Int32)).toInt = 1) (by omega) (by omega); exact ⟨by omega, by omega, by omega⟩
          exact ih _ (sI (sI w4126 150 ((w4126.1 147 4).toInt.toNat) e4129) 147 4 ((w4126.1 147 4) + (1 : Int32))) hI4137  o4139.1 o4139.2.1 o4139.2.2 (by have := ti_add2 (Eq.refl x7_1.toInt) (by decide : ((1 : Int32)).toInt = 1) (by omega) (by omega); have := bd_147_4 hI; have := bd_147_1 hI; omega) (fun w9 hI9 hF9 => hE w9 hI9 ((FR.I (FR.I hF4133 (k := 150) (j := (w4126.1 147 4).toInt.toNat) (v := e4129) rfl) (k := 147) (j := 4) (v := ((w4126.1 147 4) + (1 : Int32))) rfl).tr hF9 rfl) ) (fun w9 hI9 hF9 q0 => q0.elim)
        · have o4140 : (0 ≤ (x7_1 + (1 : Int32)).toInt) ∧ ((x7_1 + (1 : Int32)).toInt ≤ 4020) ∧ ((w.1 147 4).toInt ≤ (x7_1 + (1 : Int32)).toInt) := by have := ti_add2 (Eq.refl x7_1.toInt) (by decide : ((1 : Int32)).toInt = 1) (by omega) (by omega); have := bd_147_4 hI; have := bd_147_1 hI; exact ⟨by omega, by omega, by omega⟩
          exact ih _ w hI  o4140.1 o4140.2.1 o4140.2.2 (by have := ti_add2 (Eq.refl x7_1.toInt) (by decide : ((1 : Int32)).toInt = 1) (by omega) (by omega); have := bd_147_4 hI; have := bd_147_1 hI; omega) (fun w9 hI9 hF9 => hE w9 hI9 ((FR.refl _ w).tr hF9 rfl) ) (fun w9 hI9 hF9 q0 => q0.elim)
set_option maxRecDepth 20000 in
set_option maxHeartbeats 2000000 in
theorem h_Mr_cut {w : MW} {Q : MW → Prop} (hI : BND w)  (hQ : ∀ (w' : MW), BND w' → FR l_Mr_cut w w' → Q w') : p_Mr_cut w Q := by
  refine Eq.mpr (p_Mr_cut.eq_1 _ _) ?_
  have hI4141 : BND (sI w 147 4 0) := wbd_147_4 hI (by decide) (by decide)
  have o4142 : (0 ≤ (0 : Int32).toInt) ∧ ((0 : Int32).toInt ≤ 4020) ∧ (((sI w 147 4 0).1 147 4).toInt ≤ (0 : Int32).toInt) := by have := (by decide : ((0 : Int32)).toInt = 0); have : ((sI w 147 4 0).1 147 4).toInt = ((0 : Int32)).toInt := rfl; have := (by decide : ((0 : Int32)).toInt = 0); exact ⟨by omega, by omega, by omega⟩
  refine hq_Mr_cut_7 FU _ (sI w 147 4 0) hI4141  o4142.1 o4142.2.1 o4142.2.2 (fu_lt (by have := (by decide : ((0 : Int32)).toInt = 0); omega)) (fun w4143 hI4144 hL4145  => ?_) (fun w9 hI9 hF9 q0 => q0.elim)
  have hF4146 : FR l_Mr_cut w w4143 := (FR.I (FR.refl _ w) (k := 147) (j := 4) (v := 0) rfl).tr hL4145 rfl
  exact hQ _ hI4144 hF4146 
def l_Mr_at_28 : Pl := []
def l_Mr_at : Pl := []
set_option maxRecDepth 20000 in
set_option maxHeartbeats 2000000 in
theorem h_Mr_at {w : MW} {a0 : Int32} {Q : Int32 → MW → Prop} (hI : BND w) (hp0 : 0 ≤ a0.toInt) (hp1 : a0.toInt ≤ 6) (hQ : ∀ (r : Int32) (w' : MW), BND w' → FR l_Mr_at w w' → (-128) ≤ r.toInt → r.toInt ≤ 127 → Q r w') : p_Mr_at w a0 Q := by
  refine Eq.mpr (p_Mr_at.eq_1 _ _ _) ?_
  refine ⟨fun h4147 => ?_, fun h4147 => ?_⟩
  · refine Eq.mpr (q_Mr_at_28.eq_1 _ _ _) ?_
    refine ⟨fun _ => ?_, fun h => absurd h4147 h⟩
    have o4148 : ((-128) ≤ (0 : Int32).toInt) ∧ ((0 : Int32).toInt ≤ 127) := by have := (by decide : ((0 : Int32)).toInt = 0); exact ⟨by omega, by omega⟩
    exact hQ _ _ hI (FR.refl _ w)  o4148.1 o4148.2
  · have o4149 : 0 ≤ (w.1 147 5).toInt ∧ (w.1 147 5).toInt < 4021 := by have := bd_147_5 hI; have := bd_147_4 hI; omega
    refine ⟨o4149, ?_⟩
    refine Eq.mpr (q_Mr_at_28.eq_1 _ _ _) ?_
    refine ⟨fun h => absurd h h4147, fun _ => ?_⟩
    have o4150 : 0 ≤ (w.1 147 5).toInt ∧ (w.1 147 5).toInt < 4021 := by have := bd_147_5 hI; have := bd_147_4 hI; omega
    refine ⟨o4150, ?_⟩
    refine ⟨fun h4151 => ?_, fun h4151 => ?_⟩
    · have o4152 : ((-128) ≤ (0 : Int32).toInt) ∧ ((0 : Int32).toInt ≤ 127) := by have := (by decide : ((0 : Int32)).toInt = 0); exact ⟨by omega, by omega⟩
      exact hQ _ _ hI (FR.refl _ w)  o4152.1 o4152.2
    · have o4153 : 0 ≤ ((w.1 149 ((w.1 147 5).toInt.toNat)) + a0).toInt ∧ ((w.1 149 ((w.1 147 5).toInt.toNat)) + a0).toInt < 4020 := by have := bd_149 hI ((w.1 147 5).toInt.toNat); have := ti_add2 (Eq.refl (w.1 149 ((w.1 147 5).toInt.toNat)).toInt) (Eq.refl a0.toInt) (by omega) (by omega); have := bd_150 hI ((w.1 147 5).toInt.toNat); omega
      refine ⟨o4153, ?_⟩
      have o4154 : ((-128) ≤ (w.1 148 (((w.1 149 ((w.1 147 5).toInt.toNat)) + a0).toInt.toNat)).toInt) ∧ ((w.1 148 (((w.1 149 ((w.1 147 5).toInt.toNat)) + a0).toInt.toNat)).toInt ≤ 127) := by have := bd_148 hI (((w.1 149 ((w.1 147 5).toInt.toNat)) + a0).toInt.toNat); exact ⟨by omega, by omega⟩
      exact hQ _ _ hI (FR.refl _ w)  o4154.1 o4154.2
def l_Mr_is_91 : Pl := []
def l_Mr_is_58 : Pl := []
def l_Mr_is : Pl := []
set_option maxRecDepth 20000 in
set_option maxHeartbeats 2000000 in
theorem hq_Mr_is_58 {y58_5 : Int32} {y58_6 : Int32} {y58_7 : Int32} {y58_8 : Int32} {w : MW} {Q : Int32 → MW → Prop} (hI : BND w) (hp0 : 0 ≤ y58_5.toInt) (hp1 : y58_5.toInt ≤ 104) (hp2 : 0 ≤ y58_6.toInt) (hp3 : y58_6.toInt ≤ 101) (hp4 : 0 ≤ y58_7.toInt) (hp5 : y58_7.toInt ≤ 100) (hp6 : 2 ≤ y58_8.toInt) (hp7 : y58_8.toInt ≤ 7) (hp8 : (w.1 147 5).toInt < (w.1 147 4).toInt) (hQ : ∀ (r : Int32) (w' : MW), BND w' → FR l_Mr_is_58 w w' → 0 ≤ r.toInt → r.toInt ≤ 1 → r.toInt = 0 ∨ (w.1 147 5).toInt < (w.1 147 4).toInt → Q r w') : q_Mr_is_58 y58_5 y58_6 y58_7 y58_8 w Q := by
  refine Eq.mpr (q_Mr_is_58.eq_1 _ _ _ _ _ _) ?_
  refine ⟨fun h4155 => ?_, fun h4155 => ?_⟩
  · refine ⟨fun h4156 => ?_, fun h4156 => ?_⟩
    · refine Eq.mpr (q_Mr_is_91.eq_1 _ _ _ _) ?_
      refine ⟨fun h4157 => ?_, fun h4157 => ?_⟩
      · have o4158 : (0 ≤ (1 : Int32).toInt) ∧ ((1 : Int32).toInt ≤ 1) ∧ ((1 : Int32).toInt = 0 ∨ (w.1 147 5).toInt < (w.1 147 4).toInt) := by have := (by decide : ((1 : Int32)).toInt = 1); have := bd_147_5 hI; have := bd_147_4 hI; exact ⟨by omega, by omega, by omega⟩
        exact hQ _ _ hI (FR.refl _ w)  o4158.1 o4158.2.1 o4158.2.2
      · exfalso; have := bd_147_5 hI; have := bd_147_4 hI; have := (by decide : ((5 : Int32)).toInt = 5); have := (by decide : ((6 : Int32)).toInt = 6); have := (by decide : ((7 : Int32)).toInt = 7); omega
    · exfalso; have := bd_147_5 hI; have := bd_147_4 hI; have := (by decide : ((5 : Int32)).toInt = 5); have := (by decide : ((6 : Int32)).toInt = 6); omega
  · have o4159 : (0 ≤ (4 : Int32).toInt) ∧ ((4 : Int32).toInt ≤ 6) := by have := (by decide : ((4 : Int32)).toInt = 4); exact ⟨by omega, by omega⟩
    refine h_Mr_at hI  o4159.1 o4159.2 (fun r4163 w4160 hI4161 hL4162 p4164 p4165 => ?_)
    have hF4166 : FR l_Mr_is_58 w w4160 := (FR.refl _ w).tr hL4162 rfl
    refine ⟨fun h4167 => ?_, fun h4167 => ?_⟩
    · have o4168 : (0 ≤ (0 : Int32).toInt) ∧ ((0 : Int32).toInt ≤ 1) ∧ ((0 : Int32).toInt = 0 ∨ (w.1 147 5).toInt < (w.1 147 4).toInt) := by have := (by decide : ((0 : Int32)).toInt = 0); have := bd_147_5 hI; have := bd_147_4 hI; exact ⟨by omega, by omega, by omega⟩
      exact hQ _ _ hI4161 hF4166  o4168.1 o4168.2.1 o4168.2.2
    · refine ⟨fun h4169 => ?_, fun h4169 => ?_⟩
      · refine Eq.mpr (q_Mr_is_91.eq_1 _ _ _ _) ?_
        refine ⟨fun h4170 => ?_, fun h4170 => ?_⟩
        · have o4171 : (0 ≤ (1 : Int32).toInt) ∧ ((1 : Int32).toInt ≤ 1) ∧ ((1 : Int32).toInt = 0 ∨ (w.1 147 5).toInt < (w.1 147 4).toInt) := by have := (by decide : ((1 : Int32)).toInt = 1); have := bd_147_5 hI; have := bd_147_4 hI; exact ⟨by omega, by omega, by omega⟩
          exact hQ _ _ hI4161 hF4166  o4171.1 o4171.2.1 o4171.2.2
        · exfalso; have := bd_147_5 hI; have := bd_147_4 hI; have := (by decide : ((5 : Int32)).toInt = 5); have := (by decide : ((6 : Int32)).toInt = 6); have := (by decide : ((7 : Int32)).toInt = 7); omega
      · have o4172 : (0 ≤ (5 : Int32).toInt) ∧ ((5 : Int32).toInt ≤ 6) := by have := (by decide : ((5 : Int32)).toInt = 5); exact ⟨by omega, by omega⟩
        refine h_Mr_at hI4161  o4172.1 o4172.2 (fun r4176 w4173 hI4174 hL4175 p4177 p4178 => ?_)
        have hF4179 : FR l_Mr_is_58 w w4173 := hF4166.tr hL4175 rfl
        refine ⟨fun h4180 => ?_, fun h4180 => ?_⟩
        · have o4181 : (0 ≤ (0 : Int32).toInt) ∧ ((0 : Int32).toInt ≤ 1) ∧ ((0 : Int32).toInt = 0 ∨ (w.1 147 5).toInt < (w.1 147 4).toInt) := by have := (by decide : ((0 : Int32)).toInt = 0); have := bd_147_5 hI; have := bd_147_4 hI; exact ⟨by omega, by omega, by omega⟩
          exact hQ _ _ hI4174 hF4179  o4181.1 o4181.2.1 o4181.2.2
        · refine Eq.mpr (q_Mr_is_91.eq_1 _ _ _ _) ?_
          refine ⟨fun h4182 => ?_, fun h4182 => ?_⟩
          · have o4183 : (0 ≤ (1 : Int32).toInt) ∧ ((1 : Int32).toInt ≤ 1) ∧ ((1 : Int32).toInt = 0 ∨ (w.1 147 5).toInt < (w.1 147 4).toInt) := by have := (by decide : ((1 : Int32)).toInt = 1); have := bd_147_5 hI; have := bd_147_4 hI; exact ⟨by omega, by omega, by omega⟩
            exact hQ _ _ hI4174 hF4179  o4183.1 o4183.2.1 o4183.2.2
          · have o4184 : (0 ≤ (6 : Int32).toInt) ∧ ((6 : Int32).toInt ≤ 6) := by have := (by decide : ((6 : Int32)).toInt = 6); exact ⟨by omega, by omega⟩
            refine h_Mr_at hI4174  o4184.1 o4184.2 (fun r4188 w4185 hI4186 hL4187 p4189 p4190 => ?_)
            have hF4191 : FR l_Mr_is_58 w w4185 := hF4179.tr hL4187 rfl
            refine ⟨fun h4192 => ?_, fun h4192 => ?_⟩
            · have o4193 : (0 ≤ (0 : Int32).toInt) ∧ ((0 : Int32).toInt ≤ 1) ∧ ((0 : Int32).toInt = 0 ∨ (w.1 147 5).toInt < (w.1 147 4).toInt) := by have := (by decide : ((0 : Int32)).toInt = 0); have := bd_147_5 hI; have := bd_147_4 hI; exact ⟨by omega, by omega, by omega⟩
              exact hQ _ _ hI4186 hF4191  o4193.1 o4193.2.1 o4193.2.2
            · have o4194 : (0 ≤ (1 : Int32).toInt) ∧ ((1 : Int32).toInt ≤ 1) ∧ ((1 : Int32).toInt = 0 ∨ (w.1 147 5).toInt < (w.1 147 4).toInt) := by have := (by decide : ((1 : Int32)).toInt = 1); have := bd_147_5 hI; have := bd_147_4 hI; exact ⟨by omega, by omega, by omega⟩
              exact hQ _ _ hI4186 hF4191  o4194.1 o4194.2.1 o4194.2.2
set_option maxRecDepth 20000 in
set_option maxHeartbeats 2000000 in
theorem h_Mr_is {w : MW} {a0 : Int32} {b0 : Int32} {c0 : Int32} {e0 : Int32} {f0 : Int32} {g0 : Int32} {h0 : Int32} {i0 : Int32} {Q : Int32 → MW → Prop} (hI : BND w) (hp0 : 97 ≤ a0.toInt) (hp1 : a0.toInt ≤ 119) (hp2 : 97 ≤ b0.toInt) (hp3 : b0.toInt ≤ 114) (hp4 : 0 ≤ c0.toInt) (hp5 : c0.toInt ≤ 116) (hp6 : 0 ≤ e0.toInt) (hp7 : e0.toInt ≤ 110) (hp8 : 0 ≤ f0.toInt) (hp9 : f0.toInt ≤ 104) (hp10 : 0 ≤ g0.toInt) (hp11 : g0.toInt ≤ 101) (hp12 : 0 ≤ h0.toInt) (hp13 : h0.toInt ≤ 100) (hp14 : 2 ≤ i0.toInt) (hp15 : i0.toInt ≤ 7) (hQ : ∀ (r : Int32) (w' : MW), BND w' → FR l_Mr_is w w' → 0 ≤ r.toInt → r.toInt ≤ 1 → r.toInt = 0 ∨ (w.1 147 5).toInt < (w.1 147 4).toInt → Q r w') : p_Mr_is w a0 b0 c0 e0 f0 g0 h0 i0 Q := by
  refine Eq.mpr (p_Mr_is.eq_1 _ _ _ _ _ _ _ _ _ _) ?_
  refine Eq.mpr (p_Mr_wide.eq_1 _ _) ?_
  refine ⟨fun h4195 => ?_, fun h4195 => ?_⟩
  · refine ⟨fun h4196 => ?_, fun h4196 => ?_⟩
    · replace h4196 : ¬ 0 = i0.toInt := h4196
      have o4197 : (0 ≤ (0 : Int32).toInt) ∧ ((0 : Int32).toInt ≤ 1) ∧ ((0 : Int32).toInt = 0 ∨ (w.1 147 5).toInt < (w.1 147 4).toInt) := by have := (by decide : ((0 : Int32)).toInt = 0); have := bd_147_5 hI; have := bd_147_4 hI; exact ⟨by omega, by omega, by omega⟩
      exact hQ _ _ hI (FR.refl _ w)  o4197.1 o4197.2.1 o4197.2.2
    · replace h4196 : ¬ (¬ 0 = i0.toInt) := h4196
      exfalso; have := bd_147_5 hI; have := bd_147_4 hI; have := (by decide : ((0 : Int32)).toInt = 0); omega
  · have o4198 : 0 ≤ (w.1 147 5).toInt ∧ (w.1 147 5).toInt < 4021 := by have := bd_147_5 hI; have := bd_147_4 hI; omega
    refine ⟨o4198, ?_⟩
    have o4199 : 0 ≤ (w.1 147 5).toInt ∧ (w.1 147 5).toInt < 4021 := by have := bd_147_5 hI; have := bd_147_4 hI; omega
    refine ⟨o4199, ?_⟩
    refine ⟨fun h4200 => ?_, fun h4200 => ?_⟩
    · have o4201 : (0 ≤ (0 : Int32).toInt) ∧ ((0 : Int32).toInt ≤ 1) ∧ ((0 : Int32).toInt = 0 ∨ (w.1 147 5).toInt < (w.1 147 4).toInt) := by have := (by decide : ((0 : Int32)).toInt = 0); have := bd_147_5 hI; have := bd_147_4 hI; exact ⟨by omega, by omega, by omega⟩
      exact hQ _ _ hI (FR.refl _ w)  o4201.1 o4201.2.1 o4201.2.2
    · have o4202 : (0 ≤ (0 : Int32).toInt) ∧ ((0 : Int32).toInt ≤ 6) := by have := (by decide : ((0 : Int32)).toInt = 0); exact ⟨by omega, by omega⟩
      refine h_Mr_at hI  o4202.1 o4202.2 (fun r4206 w4203 hI4204 hL4205 p4207 p4208 => ?_)
      have hF4209 : FR l_Mr_is w w4203 := (FR.refl _ w).tr hL4205 rfl
      refine ⟨fun h4210 => ?_, fun h4210 => ?_⟩
      · have o4211 : (0 ≤ (0 : Int32).toInt) ∧ ((0 : Int32).toInt ≤ 1) ∧ ((0 : Int32).toInt = 0 ∨ (w.1 147 5).toInt < (w.1 147 4).toInt) := by have := (by decide : ((0 : Int32)).toInt = 0); have := bd_147_5 hI; have := bd_147_4 hI; exact ⟨by omega, by omega, by omega⟩
        exact hQ _ _ hI4204 hF4209  o4211.1 o4211.2.1 o4211.2.2
      · have o4212 : (0 ≤ (1 : Int32).toInt) ∧ ((1 : Int32).toInt ≤ 6) := by have := (by decide : ((1 : Int32)).toInt = 1); exact ⟨by omega, by omega⟩
        refine h_Mr_at hI4204  o4212.1 o4212.2 (fun r4216 w4213 hI4214 hL4215 p4217 p4218 => ?_)
        have hF4219 : FR l_Mr_is w w4213 := hF4209.tr hL4215 rfl
        refine ⟨fun h4220 => ?_, fun h4220 => ?_⟩
        · have o4221 : (0 ≤ (0 : Int32).toInt) ∧ ((0 : Int32).toInt ≤ 1) ∧ ((0 : Int32).toInt = 0 ∨ (w.1 147 5).toInt < (w.1 147 4).toInt) := by have := (by decide : ((0 : Int32)).toInt = 0); have := bd_147_5 hI; have := bd_147_4 hI; exact ⟨by omega, by omega, by omega⟩
          exact hQ _ _ hI4214 hF4219  o4221.1 o4221.2.1 o4221.2.2
        · refine ⟨fun h4222 => ?_, fun h4222 => ?_⟩
          · refine ⟨fun h4223 => ?_, fun h4223 => ?_⟩
            · have o4224 : (0 ≤ f0.toInt) ∧ (f0.toInt ≤ 104) ∧ (0 ≤ g0.toInt) ∧ (g0.toInt ≤ 101) ∧ (0 ≤ h0.toInt) ∧ (h0.toInt ≤ 100) ∧ (2 ≤ i0.toInt) ∧ (i0.toInt ≤ 7) ∧ ((w4213.1 147 5).toInt < (w4213.1 147 4).toInt) := by have := bd_147_5 hI4214; have := bd_147_5 hI4204; have := bd_147_5 hI; have := (congrArg Int32.toInt (hL4205 147 5 rfl).1); have := (congrArg Int32.toInt (hL4215 147 5 rfl).1); have := bd_147_4 hI4214; have := bd_147_4 hI4204; have := bd_147_4 hI; have := (congrArg Int32.toInt (hL4205 147 4 rfl).1); have := (congrArg Int32.toInt (hL4215 147 4 rfl).1); have := bd_150 hI ((w.1 147 5).toInt.toNat); have := bd_149 hI ((w.1 147 5).toInt.toNat); have := ti_sub2 (Eq.refl (w.1 150 ((w.1 147 5).toInt.toNat)).toInt) (Eq.refl (w.1 149 ((w.1 147 5).toInt.toNat)).toInt) (by omega) (by omega); have := (by decide : ((3 : Int32)).toInt = 3); have := (by decide : ((4 : Int32)).toInt = 4); exact ⟨by omega, by omega, by omega, by omega, by omega, by omega, by omega, by omega, by omega⟩
              exact hq_Mr_is_58 hI4214  o4224.1 o4224.2.1 o4224.2.2.1 o4224.2.2.2.1 o4224.2.2.2.2.1 o4224.2.2.2.2.2.1 o4224.2.2.2.2.2.2.1 o4224.2.2.2.2.2.2.2.1 o4224.2.2.2.2.2.2.2.2 (fun r w9 hI9 hF9 q0 q1 q2 => hQ r w9 hI9 (hF4219.tr hF9 rfl) (by have := bd_147_5 hI4214; have := bd_147_5 hI4204; have := bd_147_5 hI; have := (congrArg Int32.toInt (hL4205 147 5 rfl).1); have := (congrArg Int32.toInt (hL4215 147 5 rfl).1); have := bd_147_4 hI4214; have := bd_147_4 hI4204; have := bd_147_4 hI; have := (congrArg Int32.toInt (hL4205 147 4 rfl).1); have := (congrArg Int32.toInt (hL4215 147 4 rfl).1); have := bd_150 hI ((w.1 147 5).toInt.toNat); have := bd_149 hI ((w.1 147 5).toInt.toNat); have := ti_sub2 (Eq.refl (w.1 150 ((w.1 147 5).toInt.toNat)).toInt) (Eq.refl (w.1 149 ((w.1 147 5).toInt.toNat)).toInt) (by omega) (by omega); have := (by decide : ((3 : Int32)).toInt = 3); have := (by decide : ((4 : Int32)).toInt = 4); omega) (by have := bd_147_5 hI4214; have := bd_147_5 hI4204; have := bd_147_5 hI; have := (congrArg Int32.toInt (hL4205 147 5 rfl).1); have := (congrArg Int32.toInt (hL4215 147 5 rfl).1); have := bd_147_4 hI4214; have := bd_147_4 hI4204; have := bd_147_4 hI; have := (congrArg Int32.toInt (hL4205 147 4 rfl).1); have := (congrArg Int32.toInt (hL4215 147 4 rfl).1); have := bd_150 hI ((w.1 147 5).toInt.toNat); have := bd_149 hI ((w.1 147 5).toInt.toNat); have := ti_sub2 (Eq.refl (w.1 150 ((w.1 147 5).toInt.toNat)).toInt) (Eq.refl (w.1 149 ((w.1 147 5).toInt.toNat)).toInt) (by omega) (by omega); have := (by decide : ((3 : Int32)).toInt = 3); have := (by decide : ((4 : Int32)).toInt = 4); omega) (by have := bd_147_5 hI4214; have := bd_147_5 hI4204; have := bd_147_5 hI; have := (congrArg Int32.toInt (hL4205 147 5 rfl).1); have := (congrArg Int32.toInt (hL4215 147 5 rfl).1); have := bd_147_4 hI4214; have := bd_147_4 hI4204; have := bd_147_4 hI; have := (congrArg Int32.toInt (hL4205 147 4 rfl).1); have := (congrArg Int32.toInt (hL4215 147 4 rfl).1); have := bd_150 hI ((w.1 147 5).toInt.toNat); have := bd_149 hI ((w.1 147 5).toInt.toNat); have := ti_sub2 (Eq.refl (w.1 150 ((w.1 147 5).toInt.toNat)).toInt) (Eq.refl (w.1 149 ((w.1 147 5).toInt.toNat)).toInt) (by omega) (by omega); have := (by decide : ((3 : Int32)).toInt = 3); have := (by decide : ((4 : Int32)).toInt = 4); omega))
            · exfalso; have := bd_147_5 hI; have := bd_147_4 hI; have := bd_150 hI ((w.1 147 5).toInt.toNat); have := bd_149 hI ((w.1 147 5).toInt.toNat); have := ti_sub2 (Eq.refl (w.1 150 ((w.1 147 5).toInt.toNat)).toInt) (Eq.refl (w.1 149 ((w.1 147 5).toInt.toNat)).toInt) (by omega) (by omega); have := (by decide : ((3 : Int32)).toInt = 3); have := (by decide : ((4 : Int32)).toInt = 4); omega
          · have o4225 : (0 ≤ (2 : Int32).toInt) ∧ ((2 : Int32).toInt ≤ 6) := by have := (by decide : ((2 : Int32)).toInt = 2); exact ⟨by omega, by omega⟩
            refine h_Mr_at hI4214  o4225.1 o4225.2 (fun r4229 w4226 hI4227 hL4228 p4230 p4231 => ?_)
            have hF4232 : FR l_Mr_is w w4226 := hF4219.tr hL4228 rfl
            refine ⟨fun h4233 => ?_, fun h4233 => ?_⟩
            · have o4234 : (0 ≤ (0 : Int32).toInt) ∧ ((0 : Int32).toInt ≤ 1) ∧ ((0 : Int32).toInt = 0 ∨ (w.1 147 5).toInt < (w.1 147 4).toInt) := by have := (by decide : ((0 : Int32)).toInt = 0); have := bd_147_5 hI; have := bd_147_4 hI; exact ⟨by omega, by omega, by omega⟩
              exact hQ _ _ hI4227 hF4232  o4234.1 o4234.2.1 o4234.2.2
            · refine ⟨fun h4235 => ?_, fun h4235 => ?_⟩
              · have o4236 : (0 ≤ f0.toInt) ∧ (f0.toInt ≤ 104) ∧ (0 ≤ g0.toInt) ∧ (g0.toInt ≤ 101) ∧ (0 ≤ h0.toInt) ∧ (h0.toInt ≤ 100) ∧ (2 ≤ i0.toInt) ∧ (i0.toInt ≤ 7) ∧ ((w4226.1 147 5).toInt < (w4226.1 147 4).toInt) := by have := bd_147_5 hI4227; have := bd_147_5 hI4214; have := bd_147_5 hI4204; have := bd_147_5 hI; have := (congrArg Int32.toInt (hL4205 147 5 rfl).1); have := (congrArg Int32.toInt (hL4215 147 5 rfl).1); have := (congrArg Int32.toInt (hL4228 147 5 rfl).1); have := bd_147_4 hI4227; have := bd_147_4 hI4214; have := bd_147_4 hI4204; have := bd_147_4 hI; have := (congrArg Int32.toInt (hL4205 147 4 rfl).1); have := (congrArg Int32.toInt (hL4215 147 4 rfl).1); have := (congrArg Int32.toInt (hL4228 147 4 rfl).1); have := bd_150 hI ((w.1 147 5).toInt.toNat); have := bd_149 hI ((w.1 147 5).toInt.toNat); have := ti_sub2 (Eq.refl (w.1 150 ((w.1 147 5).toInt.toNat)).toInt) (Eq.refl (w.1 149 ((w.1 147 5).toInt.toNat)).toInt) (by omega) (by omega); have := (by decide : ((3 : Int32)).toInt = 3); have := (by decide : ((4 : Int32)).toInt = 4); exact ⟨by omega, by omega, by omega, by omega, by omega, by omega, by omega, by omega, by omega⟩
                exact hq_Mr_is_58 hI4227  o4236.1 o4236.2.1 o4236.2.2.1 o4236.2.2.2.1 o4236.2.2.2.2.1 o4236.2.2.2.2.2.1 o4236.2.2.2.2.2.2.1 o4236.2.2.2.2.2.2.2.1 o4236.2.2.2.2.2.2.2.2 (fun r w9 hI9 hF9 q0 q1 q2 => hQ r w9 hI9 (hF4232.tr hF9 rfl) (by have := bd_147_5 hI4227; have := bd_147_5 hI4214; have := bd_147_5 hI4204; have := bd_147_5 hI; have := (congrArg Int32.toInt (hL4205 147 5 rfl).1); have := (congrArg Int32.toInt (hL4215 147 5 rfl).1); have := (congrArg Int32.toInt (hL4228 147 5 rfl).1); have := bd_147_4 hI4227; have := bd_147_4 hI4214; have := bd_147_4 hI4204; have := bd_147_4 hI; have := (congrArg Int32.toInt (hL4205 147 4 rfl).1); have := (congrArg Int32.toInt (hL4215 147 4 rfl).1); have := (congrArg Int32.toInt (hL4228 147 4 rfl).1); have := bd_150 hI ((w.1 147 5).toInt.toNat); have := bd_149 hI ((w.1 147 5).toInt.toNat); have := ti_sub2 (Eq.refl (w.1 150 ((w.1 147 5).toInt.toNat)).toInt) (Eq.refl (w.1 149 ((w.1 147 5).toInt.toNat)).toInt) (by omega) (by omega); have := (by decide : ((3 : Int32)).toInt = 3); have := (by decide : ((4 : Int32)).toInt = 4); omega) (by have := bd_147_5 hI4227; have := bd_147_5 hI4214; have := bd_147_5 hI4204; have := bd_147_5 hI; have := (congrArg Int32.toInt (hL4205 147 5 rfl).1); have := (congrArg Int32.toInt (hL4215 147 5 rfl).1); have := (congrArg Int32.toInt (hL4228 147 5 rfl).1); have := bd_147_4 hI4227; have := bd_147_4 hI4214; have := bd_147_4 hI4204; have := bd_147_4 hI; have := (congrArg Int32.toInt (hL4205 147 4 rfl).1); have := (congrArg Int32.toInt (hL4215 147 4 rfl).1); have := (congrArg Int32.toInt (hL4228 147 4 rfl).1); have := bd_150 hI ((w.1 147 5).toInt.toNat); have := bd_149 hI ((w.1 147 5).toInt.toNat); have := ti_sub2 (Eq.refl (w.1 150 ((w.1 147 5).toInt.toNat)).toInt) (Eq.refl (w.1 149 ((w.1 147 5).toInt.toNat)).toInt) (by omega) (by omega); have := (by decide : ((3 : Int32)).toInt = 3); have := (by decide : ((4 : Int32)).toInt = 4); omega) (by have := bd_147_5 hI4227; have := bd_147_5 hI4214; have := bd_147_5 hI4204; have := bd_147_5 hI; have := (congrArg Int32.toInt (hL4205 147 5 rfl).1); have := (congrArg Int32.toInt (hL4215 147 5 rfl).1); have := (congrArg Int32.toInt (hL4228 147 5 rfl).1); have := bd_147_4 hI4227; have := bd_147_4 hI4214; have := bd_147_4 hI4204; have := bd_147_4 hI; have := (congrArg Int32.toInt (hL4205 147 4 rfl).1); have := (congrArg Int32.toInt (hL4215 147 4 rfl).1); have := (congrArg Int32.toInt (hL4228 147 4 rfl).1); have := bd_150 hI ((w.1 147 5).toInt.toNat); have := bd_149 hI ((w.1 147 5).toInt.toNat); have := ti_sub2 (Eq.refl (w.1 150 ((w.1 147 5).toInt.toNat)).toInt) (Eq.refl (w.1 149 ((w.1 147 5).toInt.toNat)).toInt) (by omega) (by omega); have := (by decide : ((3 : Int32)).toInt = 3); have := (by decide : ((4 : Int32)).toInt = 4); omega))
              · have o4237 : (0 ≤ (3 : Int32).toInt) ∧ ((3 : Int32).toInt ≤ 6) := by have := (by decide : ((3 : Int32)).toInt = 3); exact ⟨by omega, by omega⟩
                refine h_Mr_at hI4227  o4237.1 o4237.2 (fun r4241 w4238 hI4239 hL4240 p4242 p4243 => ?_)
                have hF4244 : FR l_Mr_is w w4238 := hF4232.tr hL4240 rfl
                refine ⟨fun h4245 => ?_, fun h4245 => ?_⟩
                · have o4246 : (0 ≤ (0 : Int32).toInt) ∧ ((0 : Int32).toInt ≤ 1) ∧ ((0 : Int32).toInt = 0 ∨ (w.1 147 5).toInt < (w.1 147 4).toInt) := by have := (by decide : ((0 : Int32)).toInt = 0); have := bd_147_5 hI; have := bd_147_4 hI; exact ⟨by omega, by omega, by omega⟩
                  exact hQ _ _ hI4239 hF4244  o4246.1 o4246.2.1 o4246.2.2
                · have o4247 : (0 ≤ f0.toInt) ∧ (f0.toInt ≤ 104) ∧ (0 ≤ g0.toInt) ∧ (g0.toInt ≤ 101) ∧ (0 ≤ h0.toInt) ∧ (h0.toInt ≤ 100) ∧ (2 ≤ i0.toInt) ∧ (i0.toInt ≤ 7) ∧ ((w4238.1 147 5).toInt < (w4238.1 147 4).toInt) := by have := bd_147_5 hI4239; have := bd_147_5 hI4227; have := bd_147_5 hI4214; have := bd_147_5 hI4204; have := bd_147_5 hI; have := (congrArg Int32.toInt (hL4205 147 5 rfl).1); have := (congrArg Int32.toInt (hL4215 147 5 rfl).1); have := (congrArg Int32.toInt (hL4228 147 5 rfl).1); have := (congrArg Int32.toInt (hL4240 147 5 rfl).1); have := bd_147_4 hI4239; have := bd_147_4 hI4227; have := bd_147_4 hI4214; have := bd_147_4 hI4204; have := bd_147_4 hI; have := (congrArg Int32.toInt (hL4205 147 4 rfl).1); have := (congrArg Int32.toInt (hL4215 147 4 rfl).1); have := (congrArg Int32.toInt (hL4228 147 4 rfl).1); have := (congrArg Int32.toInt (hL4240 147 4 rfl).1); have := bd_150 hI ((w.1 147 5).toInt.toNat); have := bd_149 hI ((w.1 147 5).toInt.toNat); have := ti_sub2 (Eq.refl (w.1 150 ((w.1 147 5).toInt.toNat)).toInt) (Eq.refl (w.1 149 ((w.1 147 5).toInt.toNat)).toInt) (by omega) (by omega); have := (by decide : ((3 : Int32)).toInt = 3); have := (by decide : ((4 : Int32)).toInt = 4); exact ⟨by omega, by omega, by omega, by omega, by omega, by omega, by omega, by omega, by omega⟩
                  exact hq_Mr_is_58 hI4239  o4247.1 o4247.2.1 o4247.2.2.1 o4247.2.2.2.1 o4247.2.2.2.2.1 o4247.2.2.2.2.2.1 o4247.2.2.2.2.2.2.1 o4247.2.2.2.2.2.2.2.1 o4247.2.2.2.2.2.2.2.2 (fun r w9 hI9 hF9 q0 q1 q2 => hQ r w9 hI9 (hF4244.tr hF9 rfl) (by have := bd_147_5 hI4239; have := bd_147_5 hI4227; have := bd_147_5 hI4214; have := bd_147_5 hI4204; have := bd_147_5 hI; have := (congrArg Int32.toInt (hL4205 147 5 rfl).1); have := (congrArg Int32.toInt (hL4215 147 5 rfl).1); have := (congrArg Int32.toInt (hL4228 147 5 rfl).1); have := (congrArg Int32.toInt (hL4240 147 5 rfl).1); have := bd_147_4 hI4239; have := bd_147_4 hI4227; have := bd_147_4 hI4214; have := bd_147_4 hI4204; have := bd_147_4 hI; have := (congrArg Int32.toInt (hL4205 147 4 rfl).1); have := (congrArg Int32.toInt (hL4215 147 4 rfl).1); have := (congrArg Int32.toInt (hL4228 147 4 rfl).1); have := (congrArg Int32.toInt (hL4240 147 4 rfl).1); have := bd_150 hI ((w.1 147 5).toInt.toNat); have := bd_149 hI ((w.1 147 5).toInt.toNat); have := ti_sub2 (Eq.refl (w.1 150 ((w.1 147 5).toInt.toNat)).toInt) (Eq.refl (w.1 149 ((w.1 147 5).toInt.toNat)).toInt) (by omega) (by omega); have := (by decide : ((3 : Int32)).toInt = 3); have := (by decide : ((4 : Int32)).toInt = 4); omega) (by have := bd_147_5 hI4239; have := bd_147_5 hI4227; have := bd_147_5 hI4214; have := bd_147_5 hI4204; have := bd_147_5 hI; have := (congrArg Int32.toInt (hL4205 147 5 rfl).1); have := (congrArg Int32.toInt (hL4215 147 5 rfl).1); have := (congrArg Int32.toInt (hL4228 147 5 rfl).1); have := (congrArg Int32.toInt (hL4240 147 5 rfl).1); have := bd_147_4 hI4239; have := bd_147_4 hI4227; have := bd_147_4 hI4214; have := bd_147_4 hI4204; have := bd_147_4 hI; have := (congrArg Int32.toInt (hL4205 147 4 rfl).1); have := (congrArg Int32.toInt (hL4215 147 4 rfl).1); have := (congrArg Int32.toInt (hL4228 147 4 rfl).1); have := (congrArg Int32.toInt (hL4240 147 4 rfl).1); have := bd_150 hI ((w.1 147 5).toInt.toNat); have := bd_149 hI ((w.1 147 5).toInt.toNat); have := ti_sub2 (Eq.refl (w.1 150 ((w.1 147 5).toInt.toNat)).toInt) (Eq.refl (w.1 149 ((w.1 147 5).toInt.toNat)).toInt) (by omega) (by omega); have := (by decide : ((3 : Int32)).toInt = 3); have := (by decide : ((4 : Int32)).toInt = 4); omega) (by have := bd_147_5 hI4239; have := bd_147_5 hI4227; have := bd_147_5 hI4214; have := bd_147_5 hI4204; have := bd_147_5 hI; have := (congrArg Int32.toInt (hL4205 147 5 rfl).1); have := (congrArg Int32.toInt (hL4215 147 5 rfl).1); have := (congrArg Int32.toInt (hL4228 147 5 rfl).1); have := (congrArg Int32.toInt (hL4240 147 5 rfl).1); have := bd_147_4 hI4239; have := bd_147_4 hI4227; have := bd_147_4 hI4214; have := bd_147_4 hI4204; have := bd_147_4 hI; have := (congrArg Int32.toInt (hL4205 147 4 rfl).1); have := (congrArg Int32.toInt (hL4215 147 4 rfl).1); have := (congrArg Int32.toInt (hL4228 147 4 rfl).1); have := (congrArg Int32.toInt (hL4240 147 4 rfl).1); have := bd_150 hI ((w.1 147 5).toInt.toNat); have := bd_149 hI ((w.1 147 5).toInt.toNat); have := ti_sub2 (Eq.refl (w.1 150 ((w.1 147 5).toInt.toNat)).toInt) (Eq.refl (w.1 149 ((w.1 147 5).toInt.toNat)).toInt) (by omega) (by omega); have := (by decide : ((3 : Int32)).toInt = 3); have := (by decide : ((4 : Int32)).toInt = 4); omega))
def l_Mr_number_42 : Pl := []
def l_Mr_number_27 : Pl := []
def l_Mr_number : Pl := []
set_option maxRecDepth 20000 in
set_option maxHeartbeats 2000000 in
theorem hq_Mr_number_42 {x42_2 : Int32} {x42_3 : Int32} {E : Int32 → MW → Prop} {Q : Int32 → MW → Prop} (n : Nat) : ∀ (x42_4 : Int32) (x42_5 : Int32) (w : MW), BND w → 15 ≤ x42_2.toInt → x42_2.toInt ≤ 3600 → 1 ≤ x42_3.toInt → x42_3.toInt ≤ 5 → 0 ≤ x42_4.toInt → x42_4.toInt ≤ 9999 → 0 ≤ x42_5.toInt → x42_5.toInt ≤ 5 → 0 ≤ x42_4.toInt → x42_3.toInt - x42_5.toInt ≤ 4 → x42_3.toInt - x42_5.toInt < 0 ∨ x42_4.toInt ≤ 9999 → x42_3.toInt - x42_5.toInt < 1 ∨ x42_4.toInt ≤ 999 → x42_3.toInt - x42_5.toInt < 2 ∨ x42_4.toInt ≤ 99 → x42_3.toInt - x42_5.toInt < 3 ∨ x42_4.toInt ≤ 9 → x42_3.toInt - x42_5.toInt < 4 ∨ x42_4.toInt ≤ 0 → x42_5.toInt ≤ x42_3.toInt → (5 - x42_5.toInt).toNat < n → (∀ (e42_4 : Int32) (w' : MW), BND w' → FR l_Mr_number_42 w w' → 0 ≤ e42_4.toInt → e42_4.toInt ≤ 9999 → 0 ≤ e42_4.toInt → e42_4.toInt ≤ 9999 → E e42_4 w') → (∀ (r : Int32) (w' : MW), BND w' → FR l_Mr_number_42 w w' → (-1) ≤ r.toInt → r.toInt ≤ (-1) → Q r w') → q_Mr_number_42 x42_2 x42_3 E Q n x42_4 x42_5 w := by
  induction n with
  | zero => intros; omega
  | succ n ih =>
    intro x42_4 x42_5 w hI  hp0 hp1 hp2 hp3 hp4 hp5 hp6 hp7 hp8 hp9 hp10 hp11 hp12 hp13 hp14 hp15 hm hE hQ
    rw [q_Mr_number_42.eq_2]
    refine ⟨fun h4248 => ?_, fun h4248 => ?_⟩
    · have o4249 : (0 ≤ x42_4.toInt) ∧ (x42_4.toInt ≤ 9999) ∧ (0 ≤ x42_4.toInt) ∧ (x42_4.toInt ≤ 9999) := by exact ⟨by omega, by omega, by omega, by omega⟩
      exact hE _ _ hI (FR.refl _ w) o4249.1 o4249.2.1 o4249.2.2.1 o4249.2.2.2
    · have o4250 : (0 ≤ x42_5.toInt) ∧ (x42_5.toInt ≤ 6) := by exact ⟨by omega, by omega⟩
      refine h_Mr_at hI  o4250.1 o4250.2 (fun r4254 w4251 hI4252 hL4253 p4255 p4256 => ?_)
      have hF4257 : FR l_Mr_number_42 w w4251 := (FR.refl _ w).tr hL4253 rfl
      refine ⟨fun h4258 => ?_, fun h4258 => ?_⟩
      · have o4259 : ((-1) ≤ ((-1) : Int32).toInt) ∧ (((-1) : Int32).toInt ≤ (-1)) := by have := (by decide : (((-1) : Int32)).toInt = (-1)); exact ⟨by omega, by omega⟩
        exact hQ _ _ hI4252 hF4257  o4259.1 o4259.2
      · refine ⟨fun h4260 => ?_, fun h4260 => ?_⟩
        · have o4261 : (15 ≤ x42_2.toInt) ∧ (x42_2.toInt ≤ 3600) ∧ (1 ≤ x42_3.toInt) ∧ (x42_3.toInt ≤ 5) ∧ (0 ≤ ((((10 : Int32) * x42_4) + r4254) - (48 : Int32)).toInt) ∧ (((((10 : Int32) * x42_4) + r4254) - (48 : Int32)).toInt ≤ 9999) ∧ (0 ≤ (x42_5 + (1 : Int32)).toInt) ∧ ((x42_5 + (1 : Int32)).toInt ≤ 5) ∧ (0 ≤ ((((10 : Int32) * x42_4) + r4254) - (48 : Int32)).toInt) ∧ (x42_3.toInt - (x42_5 + (1 : Int32)).toInt ≤ 4) ∧ (x42_3.toInt - (x42_5 + (1 : Int32)).toInt < 0 ∨ ((((10 : Int32) * x42_4) + r4254) - (48 : Int32)).toInt ≤ 9999) ∧ (x42_3.toInt - (x42_5 + (1 : Int32)).toInt < 1 ∨ ((((10 : Int32) * x42_4) + r4254) - (48 : Int32)).toInt ≤ 999) ∧ (x42_3.toInt - (x42_5 + (1 : Int32)).toInt < 2 ∨ ((((10 : Int32) * x42_4) + r4254) - (48 : Int32)).toInt ≤ 99) ∧ (x42_3.toInt - (x42_5 + (1 : Int32)).toInt < 3 ∨ ((((10 : Int32) * x42_4) + r4254) - (48 : Int32)).toInt ≤ 9) ∧ (x42_3.toInt - (x42_5 + (1 : Int32)).toInt < 4 ∨ ((((10 : Int32) * x42_4) + r4254) - (48 : Int32)).toInt ≤ 0) ∧ ((x42_5 + (1 : Int32)).toInt ≤ x42_3.toInt) := by have := ti_mul2 (by decide : ((10 : Int32)).toInt = 10) (Eq.refl x42_4.toInt) (by omega) (by omega); have := ti_add2 (Eq.refl ((10 : Int32) * x42_4).toInt) (Eq.refl r4254.toInt) (by omega) (by omega); have := ti_sub2 (Eq.refl (((10 : Int32) * x42_4) + r4254).toInt) (by decide : ((48 : Int32)).toInt = 48) (by omega) (by omega); have := ti_add2 (Eq.refl x42_5.toInt) (by decide : ((1 : Int32)).toInt = 1) (by omega) (by omega); have := (by decide : ((48 : Int32)).toInt = 48); have := (by decide : ((57 : Int32)).toInt = 57); exact ⟨by omega, by omega, by omega, by omega, by omega, by omega, by omega, by omega, by omega, by omega, by omega, by omega, by omega, by omega, by omega, by omega⟩
          exact ih _ _ w4251 hI4252  o4261.1 o4261.2.1 o4261.2.2.1 o4261.2.2.2.1 o4261.2.2.2.2.1 o4261.2.2.2.2.2.1 o4261.2.2.2.2.2.2.1 o4261.2.2.2.2.2.2.2.1 o4261.2.2.2.2.2.2.2.2.1 o4261.2.2.2.2.2.2.2.2.2.1 o4261.2.2.2.2.2.2.2.2.2.2.1 o4261.2.2.2.2.2.2.2.2.2.2.2.1 o4261.2.2.2.2.2.2.2.2.2.2.2.2.1 o4261.2.2.2.2.2.2.2.2.2.2.2.2.2.1 o4261.2.2.2.2.2.2.2.2.2.2.2.2.2.2.1 o4261.2.2.2.2.2.2.2.2.2.2.2.2.2.2.2 (by have := ti_mul2 (by decide : ((10 : Int32)).toInt = 10) (Eq.refl x42_4.toInt) (by omega) (by omega); have := ti_add2 (Eq.refl ((10 : Int32) * x42_4).toInt) (Eq.refl r4254.toInt) (by omega) (by omega); have := ti_sub2 (Eq.refl (((10 : Int32) * x42_4) + r4254).toInt) (by decide : ((48 : Int32)).toInt = 48) (by omega) (by omega); have := ti_add2 (Eq.refl x42_5.toInt) (by decide : ((1 : Int32)).toInt = 1) (by omega) (by omega); have := (by decide : ((48 : Int32)).toInt = 48); have := (by decide : ((57 : Int32)).toInt = 57); omega) (fun e0 w9 hI9 hF9 p0 p1 u0 u1 => hE e0 w9 hI9 (hF4257.tr hF9 rfl) p0 p1 (by have := ti_mul2 (by decide : ((10 : Int32)).toInt = 10) (Eq.refl x42_4.toInt) (by omega) (by omega); have := ti_add2 (Eq.refl ((10 : Int32) * x42_4).toInt) (Eq.refl r4254.toInt) (by omega) (by omega); have := ti_sub2 (Eq.refl (((10 : Int32) * x42_4) + r4254).toInt) (by decide : ((48 : Int32)).toInt = 48) (by omega) (by omega); have := ti_add2 (Eq.refl x42_5.toInt) (by decide : ((1 : Int32)).toInt = 1) (by omega) (by omega); have := (by decide : ((48 : Int32)).toInt = 48); have := (by decide : ((57 : Int32)).toInt = 57); omega) (by have := ti_mul2 (by decide : ((10 : Int32)).toInt = 10) (Eq.refl x42_4.toInt) (by omega) (by omega); have := ti_add2 (Eq.refl ((10 : Int32) * x42_4).toInt) (Eq.refl r4254.toInt) (by omega) (by omega); have := ti_sub2 (Eq.refl (((10 : Int32) * x42_4) + r4254).toInt) (by decide : ((48 : Int32)).toInt = 48) (by omega) (by omega); have := ti_add2 (Eq.refl x42_5.toInt) (by decide : ((1 : Int32)).toInt = 1) (by omega) (by omega); have := (by decide : ((48 : Int32)).toInt = 48); have := (by decide : ((57 : Int32)).toInt = 57); omega)) (fun r w9 hI9 hF9 q0 q1 => hQ r w9 hI9 (hF4257.tr hF9 rfl) (by have := ti_mul2 (by decide : ((10 : Int32)).toInt = 10) (Eq.refl x42_4.toInt) (by omega) (by omega); have := ti_add2 (Eq.refl ((10 : Int32) * x42_4).toInt) (Eq.refl r4254.toInt) (by omega) (by omega); have := ti_sub2 (Eq.refl (((10 : Int32) * x42_4) + r4254).toInt) (by decide : ((48 : Int32)).toInt = 48) (by omega) (by omega); have := ti_add2 (Eq.refl x42_5.toInt) (by decide : ((1 : Int32)).toInt = 1) (by omega) (by omega); have := (by decide : ((48 : Int32)).toInt = 48); have := (by decide : ((57 : Int32)).toInt = 57); omega) (by have := ti_mul2 (by decide : ((10 : Int32)).toInt = 10) (Eq.refl x42_4.toInt) (by omega) (by omega); have := ti_add2 (Eq.refl ((10 : Int32) * x42_4).toInt) (Eq.refl r4254.toInt) (by omega) (by omega); have := ti_sub2 (Eq.refl (((10 : Int32) * x42_4) + r4254).toInt) (by decide : ((48 : Int32)).toInt = 48) (by omega) (by omega); have := ti_add2 (Eq.refl x42_5.toInt) (by decide : ((1 : Int32)).toInt = 1) (by omega) (by omega); have := (by decide : ((48 : Int32)).toInt = 48); have := (by decide : ((57 : Int32)).toInt = 57); omega))
        · have o4262 : ((-1) ≤ ((-1) : Int32).toInt) ∧ (((-1) : Int32).toInt ≤ (-1)) := by have := (by decide : (((-1) : Int32)).toInt = (-1)); exact ⟨by omega, by omega⟩
          exact hQ _ _ hI4252 hF4257  o4262.1 o4262.2
set_option maxRecDepth 20000 in
set_option maxHeartbeats 2000000 in
theorem h_Mr_number {w : MW} {a0 : Int32} {b0 : Int32} {Q : Int32 → MW → Prop} (hI : BND w) (hp0 : 0 ≤ a0.toInt) (hp1 : a0.toInt ≤ 1) (hp2 : 15 ≤ b0.toInt) (hp3 : b0.toInt ≤ 3600) (hQ : ∀ (r : Int32) (w' : MW), BND w' → FR l_Mr_number w w' → (-1) ≤ r.toInt → r.toInt ≤ 9999 → -1 ≤ r.toInt → r.toInt < 0 ∨ r.toInt ≤ b0.toInt → r.toInt < 0 ∨ (w.1 147 5).toInt < (w.1 147 4).toInt → Q r w') : p_Mr_number w a0 b0 Q := by
  refine Eq.mpr (p_Mr_number.eq_1 _ _ _ _) ?_
  refine Eq.mpr (p_Mr_wide.eq_1 _ _) ?_
  refine ⟨fun h4263 => ?_, fun h4263 => ?_⟩
  · refine ⟨fun h4264 => ?_, fun h4264 => ?_⟩
    · replace h4264 : 0 ≤ a0.toInt := h4264
      have o4265 : ((-1) ≤ ((-1) : Int32).toInt) ∧ (((-1) : Int32).toInt ≤ 9999) ∧ (-1 ≤ ((-1) : Int32).toInt) ∧ (((-1) : Int32).toInt < 0 ∨ ((-1) : Int32).toInt ≤ b0.toInt) ∧ (((-1) : Int32).toInt < 0 ∨ (w.1 147 5).toInt < (w.1 147 4).toInt) := by have := (by decide : (((-1) : Int32)).toInt = (-1)); have := bd_147_5 hI; have := bd_147_4 hI; exact ⟨by omega, by omega, by omega, by omega, by omega⟩
      exact hQ _ _ hI (FR.refl _ w)  o4265.1 o4265.2.1 o4265.2.2.1 o4265.2.2.2.1 o4265.2.2.2.2
    · replace h4264 : ¬ (0 ≤ a0.toInt) := h4264
      exfalso; have := bd_147_5 hI; have := bd_147_4 hI; have := (by decide : ((0 : Int32)).toInt = 0); omega
  · have o4266 : 0 ≤ (w.1 147 5).toInt ∧ (w.1 147 5).toInt < 4021 := by have := bd_147_5 hI; have := bd_147_4 hI; omega
    refine ⟨o4266, ?_⟩
    have o4267 : 0 ≤ (w.1 147 5).toInt ∧ (w.1 147 5).toInt < 4021 := by have := bd_147_5 hI; have := bd_147_4 hI; omega
    refine ⟨o4267, ?_⟩
    refine ⟨fun h4268 => ?_, fun h4268 => ?_⟩
    · have o4269 : ((-1) ≤ ((-1) : Int32).toInt) ∧ (((-1) : Int32).toInt ≤ 9999) ∧ (-1 ≤ ((-1) : Int32).toInt) ∧ (((-1) : Int32).toInt < 0 ∨ ((-1) : Int32).toInt ≤ b0.toInt) ∧ (((-1) : Int32).toInt < 0 ∨ (w.1 147 5).toInt < (w.1 147 4).toInt) := by have := (by decide : (((-1) : Int32)).toInt = (-1)); have := bd_147_5 hI; have := bd_147_4 hI; exact ⟨by omega, by omega, by omega, by omega, by omega⟩
      exact hQ _ _ hI (FR.refl _ w)  o4269.1 o4269.2.1 o4269.2.2.1 o4269.2.2.2.1 o4269.2.2.2.2
    · have o4270 : (0 ≤ a0.toInt) ∧ (a0.toInt ≤ 6) := by have := bd_150 hI ((w.1 147 5).toInt.toNat); have := bd_149 hI ((w.1 147 5).toInt.toNat); have := ti_sub2 (Eq.refl (w.1 150 ((w.1 147 5).toInt.toNat)).toInt) (Eq.refl (w.1 149 ((w.1 147 5).toInt.toNat)).toInt) (by omega) (by omega); exact ⟨by omega, by omega⟩
      refine h_Mr_at hI  o4270.1 o4270.2 (fun r4274 w4271 hI4272 hL4273 p4275 p4276 => ?_)
      have hF4277 : FR l_Mr_number w w4271 := (FR.refl _ w).tr hL4273 rfl
      refine ⟨fun h4278 => ?_, fun h4278 => ?_⟩
      · refine Eq.mpr (q_Mr_number_27.eq_1 _ _ _ _ _) ?_
        refine ⟨fun h4279 => ?_, fun h4279 => ?_⟩
        · have o4280 : (15 ≤ b0.toInt) ∧ (b0.toInt ≤ 3600) ∧ (1 ≤ ((w.1 150 ((w.1 147 5).toInt.toNat)) - (w.1 149 ((w.1 147 5).toInt.toNat))).toInt) ∧ (((w.1 150 ((w.1 147 5).toInt.toNat)) - (w.1 149 ((w.1 147 5).toInt.toNat))).toInt ≤ 5) ∧ (0 ≤ (0 : Int32).toInt) ∧ ((0 : Int32).toInt ≤ 9999) ∧ (0 ≤ a0.toInt) ∧ (a0.toInt ≤ 5) ∧ (0 ≤ (0 : Int32).toInt) ∧ (((w.1 150 ((w.1 147 5).toInt.toNat)) - (w.1 149 ((w.1 147 5).toInt.toNat))).toInt - a0.toInt ≤ 4) ∧ (((w.1 150 ((w.1 147 5).toInt.toNat)) - (w.1 149 ((w.1 147 5).toInt.toNat))).toInt - a0.toInt < 0 ∨ (0 : Int32).toInt ≤ 9999) ∧ (((w.1 150 ((w.1 147 5).toInt.toNat)) - (w.1 149 ((w.1 147 5).toInt.toNat))).toInt - a0.toInt < 1 ∨ (0 : Int32).toInt ≤ 999) ∧ (((w.1 150 ((w.1 147 5).toInt.toNat)) - (w.1 149 ((w.1 147 5).toInt.toNat))).toInt - a0.toInt < 2 ∨ (0 : Int32).toInt ≤ 99) ∧ (((w.1 150 ((w.1 147 5).toInt.toNat)) - (w.1 149 ((w.1 147 5).toInt.toNat))).toInt - a0.toInt < 3 ∨ (0 : Int32).toInt ≤ 9) ∧ (((w.1 150 ((w.1 147 5).toInt.toNat)) - (w.1 149 ((w.1 147 5).toInt.toNat))).toInt - a0.toInt < 4 ∨ (0 : Int32).toInt ≤ 0) ∧ (a0.toInt ≤ ((w.1 150 ((w.1 147 5).toInt.toNat)) - (w.1 149 ((w.1 147 5).toInt.toNat))).toInt) := by have := bd_150 hI ((w.1 147 5).toInt.toNat); have := bd_149 hI ((w.1 147 5).toInt.toNat); have := ti_sub2 (Eq.refl (w.1 150 ((w.1 147 5).toInt.toNat)).toInt) (Eq.refl (w.1 149 ((w.1 147 5).toInt.toNat)).toInt) (by omega) (by omega); have := (by decide : ((0 : Int32)).toInt = 0); have := ti_add2 (Eq.refl a0.toInt) (by decide : ((4 : Int32)).toInt = 4) (by omega) (by omega); exact ⟨by omega, by omega, by omega, by omega, by omega, by omega, by omega, by omega, by omega, by omega, by omega, by omega, by omega, by omega, by omega, by omega⟩
          refine hq_Mr_number_42 FU _ _ w4271 hI4272  o4280.1 o4280.2.1 o4280.2.2.1 o4280.2.2.2.1 o4280.2.2.2.2.1 o4280.2.2.2.2.2.1 o4280.2.2.2.2.2.2.1 o4280.2.2.2.2.2.2.2.1 o4280.2.2.2.2.2.2.2.2.1 o4280.2.2.2.2.2.2.2.2.2.1 o4280.2.2.2.2.2.2.2.2.2.2.1 o4280.2.2.2.2.2.2.2.2.2.2.2.1 o4280.2.2.2.2.2.2.2.2.2.2.2.2.1 o4280.2.2.2.2.2.2.2.2.2.2.2.2.2.1 o4280.2.2.2.2.2.2.2.2.2.2.2.2.2.2.1 o4280.2.2.2.2.2.2.2.2.2.2.2.2.2.2.2 (fu_lt (by have := bd_150 hI ((w.1 147 5).toInt.toNat); have := bd_149 hI ((w.1 147 5).toInt.toNat); have := ti_sub2 (Eq.refl (w.1 150 ((w.1 147 5).toInt.toNat)).toInt) (Eq.refl (w.1 149 ((w.1 147 5).toInt.toNat)).toInt) (by omega) (by omega); have := (by decide : ((0 : Int32)).toInt = 0); have := ti_add2 (Eq.refl a0.toInt) (by decide : ((4 : Int32)).toInt = 4) (by omega) (by omega); omega)) (fun e4284 w4281 hI4282 hL4283 p4285 p4286 p4287 p4288 => ?_) (fun r w9 hI9 hF9 q0 q1 => hQ r w9 hI9 ((hF4277).tr hF9 rfl) (by have := bd_150 hI ((w.1 147 5).toInt.toNat); have := bd_149 hI ((w.1 147 5).toInt.toNat); have := ti_sub2 (Eq.refl (w.1 150 ((w.1 147 5).toInt.toNat)).toInt) (Eq.refl (w.1 149 ((w.1 147 5).toInt.toNat)).toInt) (by omega) (by omega); have := (by decide : ((0 : Int32)).toInt = 0); have := bd_147_5 hI4272; have := bd_147_5 hI; have := (congrArg Int32.toInt (hL4273 147 5 rfl).1); have := bd_147_4 hI4272; have := bd_147_4 hI; have := (congrArg Int32.toInt (hL4273 147 4 rfl).1); have := ti_add2 (Eq.refl a0.toInt) (by decide : ((4 : Int32)).toInt = 4) (by omega) (by omega); omega) (by have := bd_150 hI ((w.1 147 5).toInt.toNat); have := bd_149 hI ((w.1 147 5).toInt.toNat); have := ti_sub2 (Eq.refl (w.1 150 ((w.1 147 5).toInt.toNat)).toInt) (Eq.refl (w.1 149 ((w.1 147 5).toInt.toNat)).toInt) (by omega) (by omega); have := (by decide : ((0 : Int32)).toInt = 0); have := bd_147_5 hI4272; have := bd_147_5 hI; have := (congrArg Int32.toInt (hL4273 147 5 rfl).1); have := bd_147_4 hI4272; have := bd_147_4 hI; have := (congrArg Int32.toInt (hL4273 147 4 rfl).1); have := ti_add2 (Eq.refl a0.toInt) (by decide : ((4 : Int32)).toInt = 4) (by omega) (by omega); omega) (by have := bd_150 hI ((w.1 147 5).toInt.toNat); have := bd_149 hI ((w.1 147 5).toInt.toNat); have := ti_sub2 (Eq.refl (w.1 150 ((w.1 147 5).toInt.toNat)).toInt) (Eq.refl (w.1 149 ((w.1 147 5).toInt.toNat)).toInt) (by omega) (by omega); have := (by decide : ((0 : Int32)).toInt = 0); have := bd_147_5 hI4272; have := bd_147_5 hI; have := (congrArg Int32.toInt (hL4273 147 5 rfl).1); have := bd_147_4 hI4272; have := bd_147_4 hI; have := (congrArg Int32.toInt (hL4273 147 4 rfl).1); have := ti_add2 (Eq.refl a0.toInt) (by decide : ((4 : Int32)).toInt = 4) (by omega) (by omega); omega) (by have := bd_150 hI ((w.1 147 5).toInt.toNat); have := bd_149 hI ((w.1 147 5).toInt.toNat); have := ti_sub2 (Eq.refl (w.1 150 ((w.1 147 5).toInt.toNat)).toInt) (Eq.refl (w.1 149 ((w.1 147 5).toInt.toNat)).toInt) (by omega) (by omega); have := (by decide : ((0 : Int32)).toInt = 0); have := bd_147_5 hI4272; have := bd_147_5 hI; have := (congrArg Int32.toInt (hL4273 147 5 rfl).1); have := bd_147_4 hI4272; have := bd_147_4 hI; have := (congrArg Int32.toInt (hL4273 147 4 rfl).1); have := ti_add2 (Eq.refl a0.toInt) (by decide : ((4 : Int32)).toInt = 4) (by omega) (by omega); omega) (by have := bd_150 hI ((w.1 147 5).toInt.toNat); have := bd_149 hI ((w.1 147 5).toInt.toNat); have := ti_sub2 (Eq.refl (w.1 150 ((w.1 147 5).toInt.toNat)).toInt) (Eq.refl (w.1 149 ((w.1 147 5).toInt.toNat)).toInt) (by omega) (by omega); have := (by decide : ((0 : Int32)).toInt = 0); have := bd_147_5 hI4272; have := bd_147_5 hI; have := (congrArg Int32.toInt (hL4273 147 5 rfl).1); have := bd_147_4 hI4272; have := bd_147_4 hI; have := (congrArg Int32.toInt (hL4273 147 4 rfl).1); have := ti_add2 (Eq.refl a0.toInt) (by decide : ((4 : Int32)).toInt = 4) (by omega) (by omega); omega))
          have hF4289 : FR l_Mr_number w w4281 := hF4277.tr hL4283 rfl
          refine ⟨fun h4290 => ?_, fun h4290 => ?_⟩
          · have o4291 : ((-1) ≤ ((-1) : Int32).toInt) ∧ (((-1) : Int32).toInt ≤ 9999) ∧ (-1 ≤ ((-1) : Int32).toInt) ∧ (((-1) : Int32).toInt < 0 ∨ ((-1) : Int32).toInt ≤ b0.toInt) ∧ (((-1) : Int32).toInt < 0 ∨ (w.1 147 5).toInt < (w.1 147 4).toInt) := by have := (by decide : (((-1) : Int32)).toInt = (-1)); have := bd_147_5 hI; have := bd_147_4 hI; exact ⟨by omega, by omega, by omega, by omega, by omega⟩
            exact hQ _ _ hI4282 hF4289  o4291.1 o4291.2.1 o4291.2.2.1 o4291.2.2.2.1 o4291.2.2.2.2
          · have o4292 : ((-1) ≤ e4284.toInt) ∧ (e4284.toInt ≤ 9999) ∧ (-1 ≤ e4284.toInt) ∧ (e4284.toInt < 0 ∨ e4284.toInt ≤ b0.toInt) ∧ (e4284.toInt < 0 ∨ (w.1 147 5).toInt < (w.1 147 4).toInt) := by have := bd_147_5 hI; have := bd_147_4 hI; exact ⟨by omega, by omega, by omega, by omega, by omega⟩
            exact hQ _ _ hI4282 hF4289  o4292.1 o4292.2.1 o4292.2.2.1 o4292.2.2.2.1 o4292.2.2.2.2
        · have o4293 : ((-1) ≤ ((-1) : Int32).toInt) ∧ (((-1) : Int32).toInt ≤ 9999) ∧ (-1 ≤ ((-1) : Int32).toInt) ∧ (((-1) : Int32).toInt < 0 ∨ ((-1) : Int32).toInt ≤ b0.toInt) ∧ (((-1) : Int32).toInt < 0 ∨ (w.1 147 5).toInt < (w.1 147 4).toInt) := by have := (by decide : (((-1) : Int32)).toInt = (-1)); have := bd_147_5 hI; have := bd_147_4 hI; exact ⟨by omega, by omega, by omega, by omega, by omega⟩
          exact hQ _ _ hI4272 hF4277  o4293.1 o4293.2.1 o4293.2.2.1 o4293.2.2.2.1 o4293.2.2.2.2
      · refine ⟨fun h4294 => ?_, fun h4294 => ?_⟩
        · have o4295 : ((-1) ≤ ((-1) : Int32).toInt) ∧ (((-1) : Int32).toInt ≤ 9999) ∧ (-1 ≤ ((-1) : Int32).toInt) ∧ (((-1) : Int32).toInt < 0 ∨ ((-1) : Int32).toInt ≤ b0.toInt) ∧ (((-1) : Int32).toInt < 0 ∨ (w.1 147 5).toInt < (w.1 147 4).toInt) := by have := (by decide : (((-1) : Int32)).toInt = (-1)); have := bd_147_5 hI; have := bd_147_4 hI; exact ⟨by omega, by omega, by omega, by omega, by omega⟩
          exact hQ _ _ hI4272 hF4277  o4295.1 o4295.2.1 o4295.2.2.1 o4295.2.2.2.1 o4295.2.2.2.2
        · refine Eq.mpr (q_Mr_number_27.eq_1 _ _ _ _ _) ?_
          refine ⟨fun h4296 => ?_, fun h4296 => ?_⟩
          · have o4297 : (15 ≤ b0.toInt) ∧ (b0.toInt ≤ 3600) ∧ (1 ≤ ((w.1 150 ((w.1 147 5).toInt.toNat)) - (w.1 149 ((w.1 147 5).toInt.toNat))).toInt) ∧ (((w.1 150 ((w.1 147 5).toInt.toNat)) - (w.1 149 ((w.1 147 5).toInt.toNat))).toInt ≤ 5) ∧ (0 ≤ (0 : Int32).toInt) ∧ ((0 : Int32).toInt ≤ 9999) ∧ (0 ≤ a0.toInt) ∧ (a0.toInt ≤ 5) ∧ (0 ≤ (0 : Int32).toInt) ∧ (((w.1 150 ((w.1 147 5).toInt.toNat)) - (w.1 149 ((w.1 147 5).toInt.toNat))).toInt - a0.toInt ≤ 4) ∧ (((w.1 150 ((w.1 147 5).toInt.toNat)) - (w.1 149 ((w.1 147 5).toInt.toNat))).toInt - a0.toInt < 0 ∨ (0 : Int32).toInt ≤ 9999) ∧ (((w.1 150 ((w.1 147 5).toInt.toNat)) - (w.1 149 ((w.1 147 5).toInt.toNat))).toInt - a0.toInt < 1 ∨ (0 : Int32).toInt ≤ 999) ∧ (((w.1 150 ((w.1 147 5).toInt.toNat)) - (w.1 149 ((w.1 147 5).toInt.toNat))).toInt - a0.toInt < 2 ∨ (0 : Int32).toInt ≤ 99) ∧ (((w.1 150 ((w.1 147 5).toInt.toNat)) - (w.1 149 ((w.1 147 5).toInt.toNat))).toInt - a0.toInt < 3 ∨ (0 : Int32).toInt ≤ 9) ∧ (((w.1 150 ((w.1 147 5).toInt.toNat)) - (w.1 149 ((w.1 147 5).toInt.toNat))).toInt - a0.toInt < 4 ∨ (0 : Int32).toInt ≤ 0) ∧ (a0.toInt ≤ ((w.1 150 ((w.1 147 5).toInt.toNat)) - (w.1 149 ((w.1 147 5).toInt.toNat))).toInt) := by have := bd_150 hI ((w.1 147 5).toInt.toNat); have := bd_149 hI ((w.1 147 5).toInt.toNat); have := ti_sub2 (Eq.refl (w.1 150 ((w.1 147 5).toInt.toNat)).toInt) (Eq.refl (w.1 149 ((w.1 147 5).toInt.toNat)).toInt) (by omega) (by omega); have := (by decide : ((0 : Int32)).toInt = 0); have := ti_add2 (Eq.refl a0.toInt) (by decide : ((1 : Int32)).toInt = 1) (by omega) (by omega); have := ti_add2 (Eq.refl a0.toInt) (by decide : ((4 : Int32)).toInt = 4) (by omega) (by omega); exact ⟨by omega, by omega, by omega, by omega, by omega, by omega, by omega, by omega, by omega, by omega, by omega, by omega, by omega, by omega, by omega, by omega⟩
            refine hq_Mr_number_42 FU _ _ w4271 hI4272  o4297.1 o4297.2.1 o4297.2.2.1 o4297.2.2.2.1 o4297.2.2.2.2.1 o4297.2.2.2.2.2.1 o4297.2.2.2.2.2.2.1 o4297.2.2.2.2.2.2.2.1 o4297.2.2.2.2.2.2.2.2.1 o4297.2.2.2.2.2.2.2.2.2.1 o4297.2.2.2.2.2.2.2.2.2.2.1 o4297.2.2.2.2.2.2.2.2.2.2.2.1 o4297.2.2.2.2.2.2.2.2.2.2.2.2.1 o4297.2.2.2.2.2.2.2.2.2.2.2.2.2.1 o4297.2.2.2.2.2.2.2.2.2.2.2.2.2.2.1 o4297.2.2.2.2.2.2.2.2.2.2.2.2.2.2.2 (fu_lt (by have := bd_150 hI ((w.1 147 5).toInt.toNat); have := bd_149 hI ((w.1 147 5).toInt.toNat); have := ti_sub2 (Eq.refl (w.1 150 ((w.1 147 5).toInt.toNat)).toInt) (Eq.refl (w.1 149 ((w.1 147 5).toInt.toNat)).toInt) (by omega) (by omega); have := (by decide : ((0 : Int32)).toInt = 0); have := ti_add2 (Eq.refl a0.toInt) (by decide : ((1 : Int32)).toInt = 1) (by omega) (by omega); have := ti_add2 (Eq.refl a0.toInt) (by decide : ((4 : Int32)).toInt = 4) (by omega) (by omega); omega)) (fun e4301 w4298 hI4299 hL4300 p4302 p4303 p4304 p4305 => ?_) (fun r w9 hI9 hF9 q0 q1 => hQ r w9 hI9 ((hF4277).tr hF9 rfl) (by have := bd_150 hI ((w.1 147 5).toInt.toNat); have := bd_149 hI ((w.1 147 5).toInt.toNat); have := ti_sub2 (Eq.refl (w.1 150 ((w.1 147 5).toInt.toNat)).toInt) (Eq.refl (w.1 149 ((w.1 147 5).toInt.toNat)).toInt) (by omega) (by omega); have := (by decide : ((0 : Int32)).toInt = 0); have := bd_147_5 hI4272; have := bd_147_5 hI; have := (congrArg Int32.toInt (hL4273 147 5 rfl).1); have := bd_147_4 hI4272; have := bd_147_4 hI; have := (congrArg Int32.toInt (hL4273 147 4 rfl).1); have := ti_add2 (Eq.refl a0.toInt) (by decide : ((1 : Int32)).toInt = 1) (by omega) (by omega); have := ti_add2 (Eq.refl a0.toInt) (by decide : ((4 : Int32)).toInt = 4) (by omega) (by omega); omega) (by have := bd_150 hI ((w.1 147 5).toInt.toNat); have := bd_149 hI ((w.1 147 5).toInt.toNat); have := ti_sub2 (Eq.refl (w.1 150 ((w.1 147 5).toInt.toNat)).toInt) (Eq.refl (w.1 149 ((w.1 147 5).toInt.toNat)).toInt) (by omega) (by omega); have := (by decide : ((0 : Int32)).toInt = 0); have := bd_147_5 hI4272; have := bd_147_5 hI; have := (congrArg Int32.toInt (hL4273 147 5 rfl).1); have := bd_147_4 hI4272; have := bd_147_4 hI; have := (congrArg Int32.toInt (hL4273 147 4 rfl).1); have := ti_add2 (Eq.refl a0.toInt) (by decide : ((1 : Int32)).toInt = 1) (by omega) (by omega); have := ti_add2 (Eq.refl a0.toInt) (by decide : ((4 : Int32)).toInt = 4) (by omega) (by omega); omega) (by have := bd_150 hI ((w.1 147 5).toInt.toNat); have := bd_149 hI ((w.1 147 5).toInt.toNat); have := ti_sub2 (Eq.refl (w.1 150 ((w.1 147 5).toInt.toNat)).toInt) (Eq.refl (w.1 149 ((w.1 147 5).toInt.toNat)).toInt) (by omega) (by omega); have := (by decide : ((0 : Int32)).toInt = 0); have := bd_147_5 hI4272; have := bd_147_5 hI; have := (congrArg Int32.toInt (hL4273 147 5 rfl).1); have := bd_147_4 hI4272; have := bd_147_4 hI; have := (congrArg Int32.toInt (hL4273 147 4 rfl).1); have := ti_add2 (Eq.refl a0.toInt) (by decide : ((1 : Int32)).toInt = 1) (by omega) (by omega); have := ti_add2 (Eq.refl a0.toInt) (by decide : ((4 : Int32)).toInt = 4) (by omega) (by omega); omega) (by have := bd_150 hI ((w.1 147 5).toInt.toNat); have := bd_149 hI ((w.1 147 5).toInt.toNat); have := ti_sub2 (Eq.refl (w.1 150 ((w.1 147 5).toInt.toNat)).toInt) (Eq.refl (w.1 149 ((w.1 147 5).toInt.toNat)).toInt) (by omega) (by omega); have := (by decide : ((0 : Int32)).toInt = 0); have := bd_147_5 hI4272; have := bd_147_5 hI; have := (congrArg Int32.toInt (hL4273 147 5 rfl).1); have := bd_147_4 hI4272; have := bd_147_4 hI; have := (congrArg Int32.toInt (hL4273 147 4 rfl).1); have := ti_add2 (Eq.refl a0.toInt) (by decide : ((1 : Int32)).toInt = 1) (by omega) (by omega); have := ti_add2 (Eq.refl a0.toInt) (by decide : ((4 : Int32)).toInt = 4) (by omega) (by omega); omega) (by have := bd_150 hI ((w.1 147 5).toInt.toNat); have := bd_149 hI ((w.1 147 5).toInt.toNat); have := ti_sub2 (Eq.refl (w.1 150 ((w.1 147 5).toInt.toNat)).toInt) (Eq.refl (w.1 149 ((w.1 147 5).toInt.toNat)).toInt) (by omega) (by omega); have := (by decide : ((0 : Int32)).toInt = 0); have := bd_147_5 hI4272; have := bd_147_5 hI; have := (congrArg Int32.toInt (hL4273 147 5 rfl).1); have := bd_147_4 hI4272; have := bd_147_4 hI; have := (congrArg Int32.toInt (hL4273 147 4 rfl).1); have := ti_add2 (Eq.refl a0.toInt) (by decide : ((1 : Int32)).toInt = 1) (by omega) (by omega); have := ti_add2 (Eq.refl a0.toInt) (by decide : ((4 : Int32)).toInt = 4) (by omega) (by omega); omega))
            have hF4306 : FR l_Mr_number w w4298 := hF4277.tr hL4300 rfl
            refine ⟨fun h4307 => ?_, fun h4307 => ?_⟩
            · have o4308 : ((-1) ≤ ((-1) : Int32).toInt) ∧ (((-1) : Int32).toInt ≤ 9999) ∧ (-1 ≤ ((-1) : Int32).toInt) ∧ (((-1) : Int32).toInt < 0 ∨ ((-1) : Int32).toInt ≤ b0.toInt) ∧ (((-1) : Int32).toInt < 0 ∨ (w.1 147 5).toInt < (w.1 147 4).toInt) := by have := (by decide : (((-1) : Int32)).toInt = (-1)); have := bd_147_5 hI; have := bd_147_4 hI; exact ⟨by omega, by omega, by omega, by omega, by omega⟩
              exact hQ _ _ hI4299 hF4306  o4308.1 o4308.2.1 o4308.2.2.1 o4308.2.2.2.1 o4308.2.2.2.2
            · have o4309 : ((-1) ≤ e4301.toInt) ∧ (e4301.toInt ≤ 9999) ∧ (-1 ≤ e4301.toInt) ∧ (e4301.toInt < 0 ∨ e4301.toInt ≤ b0.toInt) ∧ (e4301.toInt < 0 ∨ (w.1 147 5).toInt < (w.1 147 4).toInt) := by have := bd_147_5 hI; have := bd_147_4 hI; exact ⟨by omega, by omega, by omega, by omega, by omega⟩
              exact hQ _ _ hI4299 hF4306  o4309.1 o4309.2.1 o4309.2.2.1 o4309.2.2.2.1 o4309.2.2.2.2
          · exfalso; have := bd_147_5 hI; have := bd_147_4 hI; have := bd_150 hI ((w.1 147 5).toInt.toNat); have := bd_149 hI ((w.1 147 5).toInt.toNat); have := ti_sub2 (Eq.refl (w.1 150 ((w.1 147 5).toInt.toNat)).toInt) (Eq.refl (w.1 149 ((w.1 147 5).toInt.toNat)).toInt) (by omega) (by omega); have := (by decide : ((48 : Int32)).toInt = 48); have := ti_add2 (Eq.refl a0.toInt) (by decide : ((1 : Int32)).toInt = 1) (by omega) (by omega); have := ti_add2 (Eq.refl a0.toInt) (by decide : ((4 : Int32)).toInt = 4) (by omega) (by omega); omega
