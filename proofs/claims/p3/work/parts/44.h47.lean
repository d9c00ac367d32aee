def l_Mo_flood_5 : Pl := []
def l_Mo_flood_71 : Pl := []
def l_Mo_flood_60 : Pl := []
def l_Mo_flood : Pl := []
set_option maxRecDepth 20000 in
set_option maxHeartbeats 2000000 in
theorem hq_Mo_flood_5 {x5_1 : Int32} {E : Int64 → MW → Prop} {Q : Int64 → MW → Prop} (n : Nat) : ∀ (x5_2 : Int64) (x5_4 : Int32) (w : MW), BND w → 1 ≤ x5_1.toInt → x5_1.toInt ≤ 15 → 0 ≤ x5_4.toInt → x5_4.toInt ≤ 44 → (44 - x5_4.toInt).toNat < n → (∀ (e5_2 : Int64) (w' : MW), BND w' → FR l_Mo_flood_5 w w' → E e5_2 w') → (∀ (r : Int64) (w' : MW), BND w' → FR l_Mo_flood_5 w w' → False → Q r w') → q_Mo_flood_5 x5_1 E Q n x5_2 x5_4 w := by
  induction n with
  | zero => intros; omega
  | succ n ih =>
    intro x5_2 x5_4 w hI  hp0 hp1 hp2 hp3 hm hE hQ
    rw [q_Mo_flood_5.eq_2]
    refine ⟨fun h13013 => ?_, fun h13013 => ?_⟩
    · exact hE _ _ hI (FR.refl _ w)
    · have o13014 : 0 ≤ x5_4.toInt ∧ x5_4.toInt < 44 := by have := bd_127_4 hI; have := bd_127_11 hI; have := ti_add2 (Eq.refl (w.1 127 4).toInt) (Eq.refl (w.1 127 11).toInt) (by omega) (by omega); omega
      refine ⟨o13014, ?_⟩
      refine ⟨fun h13015 => ?_, fun h13015 => ?_⟩
      · have o13016 : (1 ≤ x5_1.toInt) ∧ (x5_1.toInt ≤ 15) ∧ (0 ≤ (x5_4 + (1 : Int32)).toInt) ∧ ((x5_4 + (1 : Int32)).toInt ≤ 44) := by have := bd_127_4 hI; have := bd_127_11 hI; have := ti_add2 (Eq.refl x5_4.toInt) (by decide : ((1 : Int32)).toInt = 1) (by omega) (by omega); have := ti_add2 (Eq.refl (w.1 127 4).toInt) (Eq.refl (w.1 127 11).toInt) (by omega) (by omega); exact ⟨by omega, by omega, by omega, by omega⟩
        exact ih _ _ w hI  o13016.1 o13016.2.1 o13016.2.2.1 o13016.2.2.2 (by have := bd_127_4 hI; have := bd_127_11 hI; have := ti_add2 (Eq.refl x5_4.toInt) (by decide : ((1 : Int32)).toInt = 1) (by omega) (by omega); have := ti_add2 (Eq.refl (w.1 127 4).toInt) (Eq.refl (w.1 127 11).toInt) (by omega) (by omega); omega) (fun e0 w9 hI9 hF9 => hE e0 w9 hI9 ((FR.refl _ w).tr hF9 rfl) ) (fun r w9 hI9 hF9 q0 => q0.elim)
      · have o13017 : (1 ≤ x5_1.toInt) ∧ (x5_1.toInt ≤ 15) ∧ (0 ≤ (x5_4 + (1 : Int32)).toInt) ∧ ((x5_4 + (1 : Int32)).toInt ≤ 44) := by have := bd_127_4 hI; have := bd_127_11 hI; have := ti_add2 (Eq.refl x5_4.toInt) (by decide : ((1 : Int32)).toInt = 1) (by omega) (by omega); have := ti_add2 (Eq.refl (w.1 127 4).toInt) (Eq.refl (w.1 127 11).toInt) (by omega) (by omega); exact ⟨by omega, by omega, by omega, by omega⟩
        exact ih _ _ w hI  o13017.1 o13017.2.1 o13017.2.2.1 o13017.2.2.2 (by have := bd_127_4 hI; have := bd_127_11 hI; have := ti_add2 (Eq.refl x5_4.toInt) (by decide : ((1 : Int32)).toInt = 1) (by omega) (by omega); have := ti_add2 (Eq.refl (w.1 127 4).toInt) (Eq.refl (w.1 127 11).toInt) (by omega) (by omega); omega) (fun e0 w9 hI9 hF9 => hE e0 w9 hI9 ((FR.refl _ w).tr hF9 rfl) ) (fun r w9 hI9 hF9 q0 => q0.elim)
set_option maxRecDepth 20000 in
set_option maxHeartbeats 2000000 in
theorem hq_Mo_flood_71 {x71_5 : Int64} {E : Int64 → MW → Prop} {Q : Int64 → MW → Prop} (n : Nat) : ∀ (x71_2 : Int64) (x71_7 : Int32) (w : MW), BND w → 0 ≤ x71_7.toInt → x71_7.toInt ≤ 44 → (44 - x71_7.toInt).toNat < n → (∀ (e71_2 : Int64) (w' : MW), BND w' → FR l_Mo_flood_71 w w' → x71_2 ||| e71_2 = e71_2 → E e71_2 w') → (∀ (r : Int64) (w' : MW), BND w' → FR l_Mo_flood_71 w w' → False → Q r w') → q_Mo_flood_71 x71_5 E Q n x71_2 x71_7 w := by
  induction n with
  | zero => intros; omega
  | succ n ih =>
    intro x71_2 x71_7 w hI hp0 hp1 hm hE hQ
    rw [q_Mo_flood_71.eq_2]
    have b4 := bd_127_4 hI
    have b11 := bd_127_11 hI
    have e1 := ti_add2 (Eq.refl (w.1 127 4).toInt) (Eq.refl (w.1 127 11).toInt) (by omega) (by omega)
    refine ⟨fun _ => hE x71_2 w hI (FR.refl _ w) (or_same x71_2), fun h1 => ?_⟩
    have e2 := ti_add2 (Eq.refl x71_7.toInt) (by decide : ((1 : Int32)).toInt = 1) (by omega) (by omega)
    have key : ∀ v : Int64, q_Mo_flood_71 x71_5 E Q n (x71_2 ||| v) (x71_7 + (1 : Int32)) w := fun v => ih _ _ w hI (by omega) (by omega) (by omega) (fun e w' hI' hF' h => hE e w' hI' hF' (or_sub h)) hQ
    exact ⟨fun _ => key 0, fun _ => ⟨⟨by omega, by omega⟩, key _⟩⟩
set_option maxRecDepth 20000 in
set_option maxHeartbeats 2000000 in
theorem hq_Mo_flood_60 {E : Int64 → MW → Prop} {Q : Int64 → MW → Prop} (n : Nat) : ∀ (x60_2 : Int64) (x60_4 : Int32) (w : MW), BND w → 0 ≤ x60_4.toInt → x60_4.toInt ≤ 1 → (2 * (18446744073709551615 - x60_2.toUInt64.toNat) + x60_4.toInt.toNat) < n → (∀ (e60_2 : Int64) (w' : MW), BND w' → FR l_Mo_flood_60 w w' → E e60_2 w') → (∀ (r : Int64) (w' : MW), BND w' → FR l_Mo_flood_60 w w' → False → Q r w') → q_Mo_flood_60 E Q n x60_2 x60_4 w := by
  induction n with
  | zero => intros; omega
  | succ n ih =>
    intro x60_2 x60_4 w hI hp0 hp1 hm hE hQ
    rw [q_Mo_flood_60.eq_2]
    refine ⟨fun _ => hE x60_2 w hI (FR.refl _ w), fun h1 => ?_⟩
    refine hq_Mo_flood_71 FU _ _ w hI (by decide) (by decide) (fu_lt (by decide)) (fun e w' hI' hF' h => ?_) (fun _ _ _ _ f => f.elim)
    have hE' : ∀ (e60_2 : Int64) (w'' : MW), BND w'' → FR l_Mo_flood_60 w' w'' → E e60_2 w'' := fun e' w'' hI'' hF'' => hE e' w'' hI'' (((FR.refl _ w).tr hF' rfl).tr hF'' rfl)
    have hle := or_le h
    have hM := UInt64.toNat_lt e.toUInt64
    refine ⟨fun hc => ih e 0 w' hI' (by decide) (by decide) ?_ hE' (fun _ _ _ _ f => f.elim), fun hc => ih e 1 w' hI' (by decide) (by decide) ?_ hE' (fun _ _ _ _ f => f.elim)⟩
    · have : (0 : Int32).toInt.toNat = 0 := by decide
      omega
    · have hlt := or_lt h (fun q => hc (by subst q; have := nb_cmp x60_2 x60_2; omega))
      have : (1 : Int32).toInt.toNat = 1 := by decide
      omega
set_option maxRecDepth 20000 in
set_option maxHeartbeats 2000000 in
theorem h_Mo_flood {w : MW} {a0 : Int32} {Q : Int64 → MW → Prop} (hI : BND w) (hp0 : 1 ≤ a0.toInt) (hp1 : a0.toInt ≤ 15) (hQ : ∀ (r : Int64) (w' : MW), BND w' → FR l_Mo_flood w w' → Q r w') : p_Mo_flood w a0 Q := by
  refine Eq.mpr (p_Mo_flood.eq_1 _ _ _) ?_
  have o13018 : (1 ≤ a0.toInt) ∧ (a0.toInt ≤ 15) ∧ (0 ≤ (0 : Int32).toInt) ∧ ((0 : Int32).toInt ≤ 44) := by have := (by decide : ((0 : Int64)).toInt = 0); have := (by decide : ((0 : Int32)).toInt = 0); exact ⟨by omega, by omega, by omega, by omega⟩
  refine hq_Mo_flood_5 FU _ _ w hI  o13018.1 o13018.2.1 o13018.2.2.1 o13018.2.2.2 (fu_lt (by have := (by decide : ((0 : Int64)).toInt = 0); have := (by decide : ((0 : Int32)).toInt = 0); omega)) (fun e13022 w13019 hI13020 hL13021  => ?_) (fun r w9 hI9 hF9 q0 => q0.elim)
  have hF13023 : FR l_Mo_flood w w13019 := (FR.refl _ w).tr hL13021 rfl
  refine ⟨fun h13024 => ?_, fun h13024 => ?_⟩
  · have o13025 : (0 ≤ (0 : Int32).toInt) ∧ ((0 : Int32).toInt ≤ 1) := by have := (by decide : ((0 : Int32)).toInt = 0); have := nb_cmp e13022 (0 : Int64); have := (by decide : ((0 : Int64)).toInt = 0); exact ⟨by omega, by omega⟩
    refine hq_Mo_flood_60 FU _ _ w13019 hI13020  o13025.1 o13025.2 (fu_lt (by have := (by decide : ((0 : Int32)).toInt = 0); have := nb_cmp e13022 (0 : Int64); have := (by decide : ((0 : Int64)).toInt = 0); omega)) (fun e13029 w13026 hI13027 hL13028  => ?_) (fun r w9 hI9 hF9 q0 => q0.elim)
    have hF13030 : FR l_Mo_flood w w13026 := hF13023.tr hL13028 rfl
    exact hQ _ _ hI13027 hF13030 
  · have o13031 : (0 ≤ (1 : Int32).toInt) ∧ ((1 : Int32).toInt ≤ 1) := by have := (by decide : ((1 : Int32)).toInt = 1); have := nb_cmp e13022 (0 : Int64); have := (by decide : ((0 : Int64)).toInt = 0); have := (by decide : ((0 : Int32)).toInt = 0); exact ⟨by omega, by omega⟩
    refine hq_Mo_flood_60 FU _ _ w13019 hI13020  o13031.1 o13031.2 (fu_lt (by have := (by decide : ((1 : Int32)).toInt = 1); have := nb_cmp e13022 (0 : Int64); have := (by decide : ((0 : Int64)).toInt = 0); have := (by decide : ((0 : Int32)).toInt = 0); omega)) (fun e13035 w13032 hI13033 hL13034  => ?_) (fun r w9 hI9 hF9 q0 => q0.elim)
    have hF13036 : FR l_Mo_flood w w13032 := hF13023.tr hL13034 rfl
    exact hQ _ _ hI13033 hF13036 
def l_Mo_passes_122 : Pl := []
def l_Mo_passes_166 : Pl := []
def l_Mo_passes_45 : Pl := []
def l_Mo_passes_22 : Pl := []
def l_Mo_passes : Pl := []
set_option maxRecDepth 20000 in
set_option maxHeartbeats 2000000 in
theorem hq_Mo_passes_45 {y45_0 : Int32} {y45_1 : Int32} {y45_2 : Int32} {y45_4 : Int32} {y45_5 : Int32} {ys45_0 : Int32} {w : MW} {Q : Int32 → MW → Prop} (hI : BND w) (hp0 : 0 ≤ y45_0.toInt) (hp1 : y45_0.toInt ≤ 7) (hp2 : 0 ≤ y45_1.toInt) (hp3 : y45_1.toInt ≤ 9) (hp4 : 0 ≤ ys45_0.toInt) (hp5 : ys45_0.toInt ≤ 1) (hQ : ∀ (r : Int32) (w' : MW), BND w' → FR l_Mo_passes_45 w w' → 0 ≤ r.toInt → r.toInt ≤ 1 → Q r w') : q_Mo_passes_45 y45_0 y45_1 y45_2 y45_4 y45_5 ys45_0 w Q := by
  refine Eq.mpr (q_Mo_passes_45.eq_1 _ _ _ _ _ _ _ _) ?_
  refine ⟨fun h13037 => ?_, fun h13037 => ?_⟩
  · refine ⟨fun h13038 => ?_, fun h13038 => ?_⟩
    · have o13039 : (0 ≤ (0 : Int32).toInt) ∧ ((0 : Int32).toInt ≤ 1) := by have := (by decide : ((0 : Int32)).toInt = 0); exact ⟨by omega, by omega⟩
      exact hQ _ _ hI (FR.refl _ w)  o13039.1 o13039.2
    · have o13040 : (0 ≤ (1 : Int32).toInt) ∧ ((1 : Int32).toInt ≤ 1) := by have := (by decide : ((1 : Int32)).toInt = 1); exact ⟨by omega, by omega⟩
      exact hQ _ _ hI (FR.refl _ w)  o13040.1 o13040.2
  · refine ⟨fun h13041 => ?_, fun h13041 => ?_⟩
    · refine ⟨fun h13042 => ?_, fun h13042 => ?_⟩
      · refine ⟨fun h13043 => ?_, fun h13043 => ?_⟩
        · have o13044 : (0 ≤ (0 : Int32).toInt) ∧ ((0 : Int32).toInt ≤ 1) := by have := (by decide : ((0 : Int32)).toInt = 0); exact ⟨by omega, by omega⟩
          exact hQ _ _ hI (FR.refl _ w)  o13044.1 o13044.2
        · refine ⟨fun h13045 => ?_, fun h13045 => ?_⟩
          · have o13046 : (0 ≤ (0 : Int32).toInt) ∧ ((0 : Int32).toInt ≤ 1) := by have := (by decide : ((0 : Int32)).toInt = 0); exact ⟨by omega, by omega⟩
            exact hQ _ _ hI (FR.refl _ w)  o13046.1 o13046.2
          · have o13047 : (0 ≤ (1 : Int32).toInt) ∧ ((1 : Int32).toInt ≤ 1) := by have := (by decide : ((1 : Int32)).toInt = 1); exact ⟨by omega, by omega⟩
            exact hQ _ _ hI (FR.refl _ w)  o13047.1 o13047.2
      · refine ⟨fun h13048 => ?_, fun h13048 => ?_⟩
        · refine Eq.mpr (q_Mo_passes_122.eq_1 _ _ _ _ _) ?_
          refine ⟨fun h13049 => ?_, fun h13049 => ?_⟩
          · refine ⟨fun h13050 => ?_, fun h13050 => ?_⟩
            · have o13051 : (0 ≤ (0 : Int32).toInt) ∧ ((0 : Int32).toInt ≤ 1) := by have := (by decide : ((0 : Int32)).toInt = 0); exact ⟨by omega, by omega⟩
              exact hQ _ _ hI (FR.refl _ w)  o13051.1 o13051.2
            · refine ⟨fun h13052 => ?_, fun h13052 => ?_⟩
              · have o13053 : (0 ≤ (0 : Int32).toInt) ∧ ((0 : Int32).toInt ≤ 1) := by have := (by decide : ((0 : Int32)).toInt = 0); exact ⟨by omega, by omega⟩
                exact hQ _ _ hI (FR.refl _ w)  o13053.1 o13053.2
              · exfalso; have := ti_lo y45_0; have := ti_hi y45_0; have := (by decide : ((0 : Int32)).toInt = 0); have := (by decide : ((1 : Int32)).toInt = 1); have := ti_lo y45_4; have := ti_hi y45_4; have := ti_lo y45_1; have := ti_hi y45_1; have := (by decide : ((3 : Int32)).toInt = 3); omega
          · refine ⟨fun h13054 => ?_, fun h13054 => ?_⟩
            · have o13055 : (0 ≤ (1 : Int32).toInt) ∧ ((1 : Int32).toInt ≤ 1) := by have := (by decide : ((1 : Int32)).toInt = 1); exact ⟨by omega, by omega⟩
              exact hQ _ _ hI (FR.refl _ w)  o13055.1 o13055.2
            · refine ⟨fun h13056 => ?_, fun h13056 => ?_⟩
              · have o13057 : (0 ≤ (0 : Int32).toInt) ∧ ((0 : Int32).toInt ≤ 1) := by have := (by decide : ((0 : Int32)).toInt = 0); exact ⟨by omega, by omega⟩
                exact hQ _ _ hI (FR.refl _ w)  o13057.1 o13057.2
              · exfalso; have := ti_lo y45_0; have := ti_hi y45_0; have := (by decide : ((0 : Int32)).toInt = 0); have := (by decide : ((1 : Int32)).toInt = 1); have := ti_lo y45_4; have := ti_hi y45_4; have := ti_lo y45_1; have := ti_hi y45_1; have := ti_lo y45_5; have := ti_hi y45_5; have := (by decide : ((2 : Int32)).toInt = 2); have := (by decide : ((3 : Int32)).toInt = 3); omega
        · refine ⟨fun h13058 => ?_, fun h13058 => ?_⟩
          · have o13059 : (0 ≤ (1 : Int32).toInt) ∧ ((1 : Int32).toInt ≤ 1) := by have := (by decide : ((1 : Int32)).toInt = 1); exact ⟨by omega, by omega⟩
            exact hQ _ _ hI (FR.refl _ w)  o13059.1 o13059.2
          · refine Eq.mpr (q_Mo_passes_122.eq_1 _ _ _ _ _) ?_
            refine ⟨fun h13060 => ?_, fun h13060 => ?_⟩
            · refine ⟨fun h13061 => ?_, fun h13061 => ?_⟩
              · have o13062 : (0 ≤ (0 : Int32).toInt) ∧ ((0 : Int32).toInt ≤ 1) := by have := (by decide : ((0 : Int32)).toInt = 0); exact ⟨by omega, by omega⟩
                exact hQ _ _ hI (FR.refl _ w)  o13062.1 o13062.2
              · exfalso; have := ti_lo y45_0; have := ti_hi y45_0; have := (by decide : ((0 : Int32)).toInt = 0); have := (by decide : ((1 : Int32)).toInt = 1); have := ti_lo y45_4; have := ti_hi y45_4; have := ti_lo y45_1; have := ti_hi y45_1; have := ti_lo y45_5; have := ti_hi y45_5; have := (by decide : ((3 : Int32)).toInt = 3); omega
            · exfalso; have := ti_lo y45_0; have := ti_hi y45_0; have := (by decide : ((0 : Int32)).toInt = 0); have := (by decide : ((1 : Int32)).toInt = 1); have := ti_lo y45_4; have := ti_hi y45_4; have := ti_lo y45_1; have := ti_hi y45_1; have := ti_lo y45_5; have := ti_hi y45_5; omega
    · refine ⟨fun h13063 => ?_, fun h13063 => ?_⟩
      · refine ⟨fun h13064 => ?_, fun h13064 => ?_⟩
        · have o13065 : (0 ≤ (1 : Int32).toInt) ∧ ((1 : Int32).toInt ≤ 1) := by have := (by decide : ((1 : Int32)).toInt = 1); exact ⟨by omega, by omega⟩
          exact hQ _ _ hI (FR.refl _ w)  o13065.1 o13065.2
        · refine ⟨fun h13066 => ?_, fun h13066 => ?_⟩
          · refine Eq.mpr (q_Mo_passes_166.eq_1 _ _ _ _ _) ?_
            refine ⟨fun h13067 => ?_, fun h13067 => ?_⟩
            · refine ⟨fun h13068 => ?_, fun h13068 => ?_⟩
              · have o13069 : (0 ≤ (0 : Int32).toInt) ∧ ((0 : Int32).toInt ≤ 1) := by have := (by decide : ((0 : Int32)).toInt = 0); exact ⟨by omega, by omega⟩
                exact hQ _ _ hI (FR.refl _ w)  o13069.1 o13069.2
              · refine ⟨fun h13070 => ?_, fun h13070 => ?_⟩
                · have o13071 : (0 ≤ (0 : Int32).toInt) ∧ ((0 : Int32).toInt ≤ 1) := by have := (by decide : ((0 : Int32)).toInt = 0); exact ⟨by omega, by omega⟩
                  exact hQ _ _ hI (FR.refl _ w)  o13071.1 o13071.2
                · have o13072 : (0 ≤ (1 : Int32).toInt) ∧ ((1 : Int32).toInt ≤ 1) := by have := (by decide : ((1 : Int32)).toInt = 1); exact ⟨by omega, by omega⟩
                  exact hQ _ _ hI (FR.refl _ w)  o13072.1 o13072.2
            · refine ⟨fun h13073 => ?_, fun h13073 => ?_⟩
              · refine ⟨fun h13074 => ?_, fun h13074 => ?_⟩
                · have o13075 : (0 ≤ (0 : Int32).toInt) ∧ ((0 : Int32).toInt ≤ 1) := by have := (by decide : ((0 : Int32)).toInt = 0); exact ⟨by omega, by omega⟩
                  exact hQ _ _ hI (FR.refl _ w)  o13075.1 o13075.2
                · exfalso; have := ti_lo y45_0; have := ti_hi y45_0; have := (by decide : ((0 : Int32)).toInt = 0); have := (by decide : ((1 : Int32)).toInt = 1); have := (by decide : ((2 : Int32)).toInt = 2); have := ti_lo y45_1; have := ti_hi y45_1; have := (by decide : ((4 : Int32)).toInt = 4); have := ti_lo y45_4; have := ti_hi y45_4; have := (by decide : ((3 : Int32)).toInt = 3); omega
              · refine ⟨fun h13076 => ?_, fun h13076 => ?_⟩
                · have o13077 : (0 ≤ (1 : Int32).toInt) ∧ ((1 : Int32).toInt ≤ 1) := by have := (by decide : ((1 : Int32)).toInt = 1); exact ⟨by omega, by omega⟩
                  exact hQ _ _ hI (FR.refl _ w)  o13077.1 o13077.2
                · refine ⟨fun h13078 => ?_, fun h13078 => ?_⟩
                  · have o13079 : (0 ≤ (0 : Int32).toInt) ∧ ((0 : Int32).toInt ≤ 1) := by have := (by decide : ((0 : Int32)).toInt = 0); exact ⟨by omega, by omega⟩
                    exact hQ _ _ hI (FR.refl _ w)  o13079.1 o13079.2
                  · exfalso; have := ti_lo y45_0; have := ti_hi y45_0; have := (by decide : ((0 : Int32)).toInt = 0); have := (by decide : ((1 : Int32)).toInt = 1); have := (by decide : ((2 : Int32)).toInt = 2); have := ti_lo y45_1; have := ti_hi y45_1; have := (by decide : ((4 : Int32)).toInt = 4); have := ti_lo y45_4; have := ti_hi y45_4; have := ti_lo y45_5; have := ti_hi y45_5; have := (by decide : ((3 : Int32)).toInt = 3); omega
          · refine ⟨fun h13080 => ?_, fun h13080 => ?_⟩
            · have o13081 : (0 ≤ (1 : Int32).toInt) ∧ ((1 : Int32).toInt ≤ 1) := by have := (by decide : ((1 : Int32)).toInt = 1); exact ⟨by omega, by omega⟩
              exact hQ _ _ hI (FR.refl _ w)  o13081.1 o13081.2
            · refine Eq.mpr (q_Mo_passes_166.eq_1 _ _ _ _ _) ?_
              refine ⟨fun h13082 => ?_, fun h13082 => ?_⟩
              · refine ⟨fun h13083 => ?_, fun h13083 => ?_⟩
                · have o13084 : (0 ≤ (0 : Int32).toInt) ∧ ((0 : Int32).toInt ≤ 1) := by have := (by decide : ((0 : Int32)).toInt = 0); exact ⟨by omega, by omega⟩
                  exact hQ _ _ hI (FR.refl _ w)  o13084.1 o13084.2
                · exfalso; have := ti_lo y45_0; have := ti_hi y45_0; have := (by decide : ((0 : Int32)).toInt = 0); have := (by decide : ((1 : Int32)).toInt = 1); have := (by decide : ((2 : Int32)).toInt = 2); have := ti_lo y45_1; have := ti_hi y45_1; have := (by decide : ((4 : Int32)).toInt = 4); have := ti_lo y45_5; have := ti_hi y45_5; have := (by decide : ((3 : Int32)).toInt = 3); omega
              · exfalso; have := ti_lo y45_0; have := ti_hi y45_0; have := (by decide : ((0 : Int32)).toInt = 0); have := (by decide : ((1 : Int32)).toInt = 1); have := (by decide : ((2 : Int32)).toInt = 2); have := ti_lo y45_1; have := ti_hi y45_1; have := (by decide : ((4 : Int32)).toInt = 4); have := ti_lo y45_5; have := ti_hi y45_5; omega
      · refine ⟨fun h13085 => ?_, fun h13085 => ?_⟩
        · refine ⟨fun h13086 => ?_, fun h13086 => ?_⟩
          · have o13087 : (0 ≤ (0 : Int32).toInt) ∧ ((0 : Int32).toInt ≤ 1) := by have := (by decide : ((0 : Int32)).toInt = 0); exact ⟨by omega, by omega⟩
            exact hQ _ _ hI (FR.refl _ w)  o13087.1 o13087.2
          · have o13088 : (0 ≤ (1 : Int32).toInt) ∧ ((1 : Int32).toInt ≤ 1) := by have := (by decide : ((1 : Int32)).toInt = 1); exact ⟨by omega, by omega⟩
            exact hQ _ _ hI (FR.refl _ w)  o13088.1 o13088.2
        · refine ⟨fun h13089 => ?_, fun h13089 => ?_⟩
          · refine ⟨fun h13090 => ?_, fun h13090 => ?_⟩
            · refine ⟨fun h13091 => ?_, fun h13091 => ?_⟩
              · have o13092 : (0 ≤ (0 : Int32).toInt) ∧ ((0 : Int32).toInt ≤ 1) := by have := (by decide : ((0 : Int32)).toInt = 0); exact ⟨by omega, by omega⟩
                exact hQ _ _ hI (FR.refl _ w)  o13092.1 o13092.2
              · have o13093 : (0 ≤ (1 : Int32).toInt) ∧ ((1 : Int32).toInt ≤ 1) := by have := (by decide : ((1 : Int32)).toInt = 1); exact ⟨by omega, by omega⟩
                exact hQ _ _ hI (FR.refl _ w)  o13093.1 o13093.2
            · refine ⟨fun h13094 => ?_, fun h13094 => ?_⟩
              · have o13095 : (0 ≤ (1 : Int32).toInt) ∧ ((1 : Int32).toInt ≤ 1) := by have := (by decide : ((1 : Int32)).toInt = 1); exact ⟨by omega, by omega⟩
                exact hQ _ _ hI (FR.refl _ w)  o13095.1 o13095.2
              · refine ⟨fun h13096 => ?_, fun h13096 => ?_⟩
                · have o13097 : (0 ≤ (0 : Int32).toInt) ∧ ((0 : Int32).toInt ≤ 1) := by have := (by decide : ((0 : Int32)).toInt = 0); exact ⟨by omega, by omega⟩
                  exact hQ _ _ hI (FR.refl _ w)  o13097.1 o13097.2
                · exfalso; have := ti_lo y45_0; have := ti_hi y45_0; have := (by decide : ((0 : Int32)).toInt = 0); have := (by decide : ((1 : Int32)).toInt = 1); have := (by decide : ((2 : Int32)).toInt = 2); have := (by decide : ((3 : Int32)).toInt = 3); have := (by decide : ((4 : Int32)).toInt = 4); have := ti_lo y45_1; have := ti_hi y45_1; have := ti_lo ys45_0; have := ti_hi ys45_0; omega
          · refine ⟨fun h13098 => ?_, fun h13098 => ?_⟩
            · have o13099 : (0 ≤ (0 : Int32).toInt) ∧ ((0 : Int32).toInt ≤ 1) := by have := (by decide : ((0 : Int32)).toInt = 0); exact ⟨by omega, by omega⟩
              exact hQ _ _ hI (FR.refl _ w)  o13099.1 o13099.2
            · refine ⟨fun h13100 => ?_, fun h13100 => ?_⟩
              · refine ⟨fun h13101 => ?_, fun h13101 => ?_⟩
                · have o13102 : (0 ≤ (0 : Int32).toInt) ∧ ((0 : Int32).toInt ≤ 1) := by have := (by decide : ((0 : Int32)).toInt = 0); exact ⟨by omega, by omega⟩
                  exact hQ _ _ hI (FR.refl _ w)  o13102.1 o13102.2
                · have o13103 : (0 ≤ (1 : Int32).toInt) ∧ ((1 : Int32).toInt ≤ 1) := by have := (by decide : ((1 : Int32)).toInt = 1); exact ⟨by omega, by omega⟩
                  exact hQ _ _ hI (FR.refl _ w)  o13103.1 o13103.2
              · refine ⟨fun h13104 => ?_, fun h13104 => ?_⟩
                · refine ⟨fun h13105 => ?_, fun h13105 => ?_⟩
                  · have o13106 : (0 ≤ (0 : Int32).toInt) ∧ ((0 : Int32).toInt ≤ 1) := by have := (by decide : ((0 : Int32)).toInt = 0); exact ⟨by omega, by omega⟩
                    exact hQ _ _ hI (FR.refl _ w)  o13106.1 o13106.2
                  · refine ⟨fun h13107 => ?_, fun h13107 => ?_⟩
                    · have o13108 : (0 ≤ (0 : Int32).toInt) ∧ ((0 : Int32).toInt ≤ 1) := by have := (by decide : ((0 : Int32)).toInt = 0); exact ⟨by omega, by omega⟩
                      exact hQ _ _ hI (FR.refl _ w)  o13108.1 o13108.2
                    · have o13109 : (0 ≤ (1 : Int32).toInt) ∧ ((1 : Int32).toInt ≤ 1) := by have := (by decide : ((1 : Int32)).toInt = 1); exact ⟨by omega, by omega⟩
                      exact hQ _ _ hI (FR.refl _ w)  o13109.1 o13109.2
                · exfalso; have := ti_lo y45_0; have := ti_hi y45_0; have := (by decide : ((0 : Int32)).toInt = 0); have := (by decide : ((1 : Int32)).toInt = 1); have := (by decide : ((2 : Int32)).toInt = 2); have := (by decide : ((3 : Int32)).toInt = 3); have := (by decide : ((4 : Int32)).toInt = 4); have := (by decide : ((5 : Int32)).toInt = 5); have := (by decide : ((6 : Int32)).toInt = 6); have := (by decide : ((7 : Int32)).toInt = 7); omega
set_option maxRecDepth 20000 in
set_option maxHeartbeats 2000000 in
theorem h_Mo_passes {w : MW} {a0 : Int32} {b0 : Int32} {c0 : Int32} {e0 : Int32} {Q : Int32 → MW → Prop} (hI : BND w) (hp0 : 0 ≤ a0.toInt) (hp1 : a0.toInt ≤ 7) (hp2 : 0 ≤ b0.toInt) (hp3 : b0.toInt ≤ 9) (hQ : ∀ (r : Int32) (w' : MW), BND w' → FR l_Mo_passes w w' → 0 ≤ r.toInt → r.toInt ≤ 1 → Q r w') : p_Mo_passes w a0 b0 c0 e0 Q := by
  refine Eq.mpr (p_Mo_passes.eq_1 _ _ _ _ _ _) ?_
  refine ⟨fun h13110 => ?_, fun h13110 => ?_⟩
  · refine Eq.mpr (q_Mo_passes_22.eq_1 _ _ _ _ _ _ _) ?_
    refine ⟨fun h13111 => ?_, fun h13111 => ?_⟩
    · have o13112 : (0 ≤ a0.toInt) ∧ (a0.toInt ≤ 7) ∧ (0 ≤ b0.toInt) ∧ (b0.toInt ≤ 9) ∧ (0 ≤ (0 : Int32).toInt) ∧ ((0 : Int32).toInt ≤ 1) := by have := ti_lo a0; have := ti_hi a0; have := ti_lo b0; have := ti_hi b0; have := ti_lo c0; have := ti_hi c0; have := ti_lo e0; have := ti_hi e0; have := (by decide : ((0 : Int32)).toInt = 0); have := True.intro; exact ⟨by omega, by omega, by omega, by omega, by omega, by omega⟩
      exact hq_Mo_passes_45 hI  o13112.1 o13112.2.1 o13112.2.2.1 o13112.2.2.2.1 o13112.2.2.2.2.1 o13112.2.2.2.2.2 (fun r w9 hI9 hF9 q0 q1 => hQ r w9 hI9 ((FR.refl _ w).tr hF9 rfl) (by have := ti_lo a0; have := ti_hi a0; have := ti_lo b0; have := ti_hi b0; have := ti_lo c0; have := ti_hi c0; have := ti_lo e0; have := ti_hi e0; have := (by decide : ((0 : Int32)).toInt = 0); have := True.intro; omega) (by have := ti_lo a0; have := ti_hi a0; have := ti_lo b0; have := ti_hi b0; have := ti_lo c0; have := ti_hi c0; have := ti_lo e0; have := ti_hi e0; have := (by decide : ((0 : Int32)).toInt = 0); have := True.intro; omega))
    · refine ⟨fun h13113 => ?_, fun h13113 => ?_⟩
      · have o13114 : (0 ≤ a0.toInt) ∧ (a0.toInt ≤ 7) ∧ (0 ≤ b0.toInt) ∧ (b0.toInt ≤ 9) ∧ (0 ≤ (0 : Int32).toInt) ∧ ((0 : Int32).toInt ≤ 1) := by have := ti_lo a0; have := ti_hi a0; have := ti_lo b0; have := ti_hi b0; have := ti_lo c0; have := ti_hi c0; have := ti_lo e0; have := ti_hi e0; have := (by decide : ((0 : Int32)).toInt = 0); have := True.intro; exact ⟨by omega, by omega, by omega, by omega, by omega, by omega⟩
        exact hq_Mo_passes_45 hI  o13114.1 o13114.2.1 o13114.2.2.1 o13114.2.2.2.1 o13114.2.2.2.2.1 o13114.2.2.2.2.2 (fun r w9 hI9 hF9 q0 q1 => hQ r w9 hI9 ((FR.refl _ w).tr hF9 rfl) (by have := ti_lo a0; have := ti_hi a0; have := ti_lo b0; have := ti_hi b0; have := ti_lo c0; have := ti_hi c0; have := ti_lo e0; have := ti_hi e0; have := (by decide : ((0 : Int32)).toInt = 0); have := True.intro; omega) (by have := ti_lo a0; have := ti_hi a0; have := ti_lo b0; have := ti_hi b0; have := ti_lo c0; have := ti_hi c0; have := ti_lo e0; have := ti_hi e0; have := (by decide : ((0 : Int32)).toInt = 0); have := True.intro; omega))
      · have o13115 : (0 ≤ a0.toInt) ∧ (a0.toInt ≤ 7) ∧ (0 ≤ b0.toInt) ∧ (b0.toInt ≤ 9) ∧ (0 ≤ (1 : Int32).toInt) ∧ ((1 : Int32).toInt ≤ 1) := by have := ti_lo a0; have := ti_hi a0; have := ti_lo b0; have := ti_hi b0; have := ti_lo c0; have := ti_hi c0; have := ti_lo e0; have := ti_hi e0; have := (by decide : ((1 : Int32)).toInt = 1); have := (by decide : ((0 : Int32)).toInt = 0); have := True.intro; exact ⟨by omega, by omega, by omega, by omega, by omega, by omega⟩
        exact hq_Mo_passes_45 hI  o13115.1 o13115.2.1 o13115.2.2.1 o13115.2.2.2.1 o13115.2.2.2.2.1 o13115.2.2.2.2.2 (fun r w9 hI9 hF9 q0 q1 => hQ r w9 hI9 ((FR.refl _ w).tr hF9 rfl) (by have := ti_lo a0; have := ti_hi a0; have := ti_lo b0; have := ti_hi b0; have := ti_lo c0; have := ti_hi c0; have := ti_lo e0; have := ti_hi e0; have := (by decide : ((1 : Int32)).toInt = 1); have := (by decide : ((0 : Int32)).toInt = 0); have := True.intro; omega) (by have := ti_lo a0; have := ti_hi a0; have := ti_lo b0; have := ti_hi b0; have := ti_lo c0; have := ti_hi c0; have := ti_lo e0; have := ti_hi e0; have := (by decide : ((1 : Int32)).toInt = 1); have := (by decide : ((0 : Int32)).toInt = 0); have := True.intro; omega))
  · refine Eq.mpr (q_Mo_passes_22.eq_1 _ _ _ _ _ _ _) ?_
    refine ⟨fun h13116 => ?_, fun h13116 => ?_⟩
    · have o13117 : (0 ≤ a0.toInt) ∧ (a0.toInt ≤ 7) ∧ (0 ≤ b0.toInt) ∧ (b0.toInt ≤ 9) ∧ (0 ≤ (0 : Int32).toInt) ∧ ((0 : Int32).toInt ≤ 1) := by have := ti_lo a0; have := ti_hi a0; have := ti_lo b0; have := ti_hi b0; have := ti_lo c0; have := ti_hi c0; have := ti_lo e0; have := ti_hi e0; have := (by decide : ((0 : Int32)).toInt = 0); have := ti_add2 (Eq.refl c0.toInt) (by decide : ((1 : Int32)).toInt = 1) (by omega) (by omega); exact ⟨by omega, by omega, by omega, by omega, by omega, by omega⟩
      exact hq_Mo_passes_45 hI  o13117.1 o13117.2.1 o13117.2.2.1 o13117.2.2.2.1 o13117.2.2.2.2.1 o13117.2.2.2.2.2 (fun r w9 hI9 hF9 q0 q1 => hQ r w9 hI9 ((FR.refl _ w).tr hF9 rfl) (by have := ti_lo a0; have := ti_hi a0; have := ti_lo b0; have := ti_hi b0; have := ti_lo c0; have := ti_hi c0; have := ti_lo e0; have := ti_hi e0; have := (by decide : ((0 : Int32)).toInt = 0); have := ti_add2 (Eq.refl c0.toInt) (by decide : ((1 : Int32)).toInt = 1) (by omega) (by omega); omega) (by have := ti_lo a0; have := ti_hi a0; have := ti_lo b0; have := ti_hi b0; have := ti_lo c0; have := ti_hi c0; have := ti_lo e0; have := ti_hi e0; have := (by decide : ((0 : Int32)).toInt = 0); have := ti_add2 (Eq.refl c0.toInt) (by decide : ((1 : Int32)).toInt = 1) (by omega) (by omega); omega))
    · refine ⟨fun h13118 => ?_, fun h13118 => ?_⟩
      · have o13119 : (0 ≤ a0.toInt) ∧ (a0.toInt ≤ 7) ∧ (0 ≤ b0.toInt) ∧ (b0.toInt ≤ 9) ∧ (0 ≤ (0 : Int32).toInt) ∧ ((0 : Int32).toInt ≤ 1) := by have := ti_lo a0; have := ti_hi a0; have := ti_lo b0; have := ti_hi b0; have := ti_lo c0; have := ti_hi c0; have := ti_lo e0; have := ti_hi e0; have := (by decide : ((0 : Int32)).toInt = 0); have := ti_add2 (Eq.refl c0.toInt) (by decide : ((1 : Int32)).toInt = 1) (by omega) (by omega); exact ⟨by omega, by omega, by omega, by omega, by omega, by omega⟩
        exact hq_Mo_passes_45 hI  o13119.1 o13119.2.1 o13119.2.2.1 o13119.2.2.2.1 o13119.2.2.2.2.1 o13119.2.2.2.2.2 (fun r w9 hI9 hF9 q0 q1 => hQ r w9 hI9 ((FR.refl _ w).tr hF9 rfl) (by have := ti_lo a0; have := ti_hi a0; have := ti_lo b0; have := ti_hi b0; have := ti_lo c0; have := ti_hi c0; have := ti_lo e0; have := ti_hi e0; have := (by decide : ((0 : Int32)).toInt = 0); have := ti_add2 (Eq.refl c0.toInt) (by decide : ((1 : Int32)).toInt = 1) (by omega) (by omega); omega) (by have := ti_lo a0; have := ti_hi a0; have := ti_lo b0; have := ti_hi b0; have := ti_lo c0; have := ti_hi c0; have := ti_lo e0; have := ti_hi e0; have := (by decide : ((0 : Int32)).toInt = 0); have := ti_add2 (Eq.refl c0.toInt) (by decide : ((1 : Int32)).toInt = 1) (by omega) (by omega); omega))
      · have o13120 : (0 ≤ a0.toInt) ∧ (a0.toInt ≤ 7) ∧ (0 ≤ b0.toInt) ∧ (b0.toInt ≤ 9) ∧ (0 ≤ (1 : Int32).toInt) ∧ ((1 : Int32).toInt ≤ 1) := by have := ti_lo a0; have := ti_hi a0; have := ti_lo b0; have := ti_hi b0; have := ti_lo c0; have := ti_hi c0; have := ti_lo e0; have := ti_hi e0; have := (by decide : ((1 : Int32)).toInt = 1); have := (by decide : ((0 : Int32)).toInt = 0); have := ti_add2 (Eq.refl c0.toInt) (by decide : ((1 : Int32)).toInt = 1) (by omega) (by omega); exact ⟨by omega, by omega, by omega, by omega, by omega, by omega⟩
        exact hq_Mo_passes_45 hI  o13120.1 o13120.2.1 o13120.2.2.1 o13120.2.2.2.1 o13120.2.2.2.2.1 o13120.2.2.2.2.2 (fun r w9 hI9 hF9 q0 q1 => hQ r w9 hI9 ((FR.refl _ w).tr hF9 rfl) (by have := ti_lo a0; have := ti_hi a0; have := ti_lo b0; have := ti_hi b0; have := ti_lo c0; have := ti_hi c0; have := ti_lo e0; have := ti_hi e0; have := (by decide : ((1 : Int32)).toInt = 1); have := (by decide : ((0 : Int32)).toInt = 0); have := ti_add2 (Eq.refl c0.toInt) (by decide : ((1 : Int32)).toInt = 1) (by omega) (by omega); omega) (by have := ti_lo a0; have := ti_hi a0; have := ti_lo b0; have := ti_hi b0; have := ti_lo c0; have := ti_hi c0; have := ti_lo e0; have := ti_hi e0; have := (by decide : ((1 : Int32)).toInt = 1); have := (by decide : ((0 : Int32)).toInt = 0); have := ti_add2 (Eq.refl c0.toInt) (by decide : ((1 : Int32)).toInt = 1) (by omega) (by omega); omega))
def l_Mo_join_2 : Pl := [(195, none)]
def l_Mo_join_197 : Pl := [(195, none)]
def l_Mo_join_96 : Pl := [(195, none)]
def l_Mo_join_30 : Pl := [(195, none)]
def l_Mo_join : Pl := [(195, none)]
set_option maxRecDepth 20000 in
set_option maxHeartbeats 2000000 in
theorem hq_Mo_join_2 {E : MW → Prop} {Q : MW → Prop} (n : Nat) : ∀ (x2_1 : Int32) (w : MW), BND w → 0 ≤ x2_1.toInt → x2_1.toInt ≤ 44 → (44 - x2_1.toInt).toNat < n → (∀ (w' : MW), BND w' → FR l_Mo_join_2 w w' → E w') → (∀ (w' : MW), BND w' → FR l_Mo_join_2 w w' → False → Q w') → q_Mo_join_2 E Q n x2_1 w := by
  induction n with
  | zero => intros; omega
  | succ n ih =>
    intro x2_1 w hI  hp0 hp1 hm hE hQ
    rw [q_Mo_join_2.eq_2]
    refine ⟨fun h13121 => ?_, fun h13121 => ?_⟩
    · exact hE _ hI (FR.refl _ w)
    · have o13122 : 0 ≤ x2_1.toInt ∧ x2_1.toInt < 44 := by have := bd_127_4 hI; have := bd_127_11 hI; have := ti_add2 (Eq.refl (w.1 127 4).toInt) (Eq.refl (w.1 127 11).toInt) (by omega) (by omega); omega
      refine ⟨o13122, ?_⟩
      have o13123 : (0 ≤ (x2_1 + (1 : Int32)).toInt) ∧ ((x2_1 + (1 : Int32)).toInt ≤ 44) := by have := bd_127_4 hI; have := bd_127_11 hI; have := ti_add2 (Eq.refl x2_1.toInt) (by decide : ((1 : Int32)).toInt = 1) (by omega) (by omega); have := ti_add2 (Eq.refl (w.1 127 4).toInt) (Eq.refl (w.1 127 11).toInt) (by omega) (by omega); exact ⟨by omega, by omega⟩
      exact ih _ (sJ w 195 x2_1.toInt.toNat 0) (bnd_J hI (k := 195) (j := x2_1.toInt.toNat) (v := 0))  o13123.1 o13123.2 (by have := bd_127_4 hI; have := bd_127_11 hI; have := ti_add2 (Eq.refl x2_1.toInt) (by decide : ((1 : Int32)).toInt = 1) (by omega) (by omega); have := ti_add2 (Eq.refl (w.1 127 4).toInt) (Eq.refl (w.1 127 11).toInt) (by omega) (by omega); omega) (fun w9 hI9 hF9 => hE w9 hI9 ((FR.J (FR.refl _ w) (k := 195) (j := x2_1.toInt.toNat) (v := 0) rfl).tr hF9 rfl) ) (fun w9 hI9 hF9 q0 => q0.elim)
set_option maxRecDepth 20000 in
set_option maxHeartbeats 2000000 in
theorem hq_Mo_join_96 {x96_1 : Int32} {x96_2 : Int32} {x96_3 : Int32} {E : MW → Prop} {Q : MW → Prop} (n : Nat) : ∀ (x96_4 : Int32) (w : MW), BND w → 0 ≤ x96_1.toInt → x96_1.toInt ≤ 47 → (-1) ≤ x96_2.toInt → x96_2.toInt ≤ 19 → 0 ≤ x96_3.toInt → x96_3.toInt ≤ 43 → 0 ≤ x96_4.toInt → x96_4.toInt ≤ 48 → (48 - x96_4.toInt).toNat < n → (∀ (w' : MW), BND w' → FR l_Mo_join_96 w w' → E w') → (∀ (w' : MW), BND w' → FR l_Mo_join_96 w w' → False → Q w') → q_Mo_join_96 x96_1 x96_2 x96_3 E Q n x96_4 w := by
  induction n with
  | zero => intros; omega
  | succ n ih =>
    intro x96_4 w hI  hp0 hp1 hp2 hp3 hp4 hp5 hp6 hp7 hm hE hQ
    rw [q_Mo_join_96.eq_2]
    refine ⟨fun h13124 => ?_, fun h13124 => ?_⟩
    · exact hE _ hI (FR.refl _ w)
    · refine ⟨fun h13125 => ?_, fun h13125 => ?_⟩
      · exact hE _ hI (FR.refl _ w)
      · have o13126 : 0 ≤ x96_2.toInt ∧ x96_2.toInt < 20 := by have := (by decide : ((0 : Int32)).toInt = 0); omega
        refine ⟨o13126, ?_⟩
        refine ⟨fun h13127 => ?_, fun h13127 => ?_⟩
        · exact hE _ hI (FR.refl _ w)
        · have o13128 : 0 ≤ x96_4.toInt ∧ x96_4.toInt < 48 := by have := bd_127_11 hI; have := ti_mul2 (by decide : ((2 : Int32)).toInt = 2) (Eq.refl (w.1 127 11).toInt) (by omega) (by omega); omega
          refine ⟨o13128, ?_⟩
          refine ⟨fun h13129 => ?_, fun h13129 => ?_⟩
          · refine Eq.mpr (q_Mo_join_197.eq_1 _ _ _ _ _ _ _ _ _) ?_
            refine ⟨fun _ => ?_, fun h => absurd (by decide) h⟩
            have o13130 : (0 ≤ x96_1.toInt) ∧ (x96_1.toInt ≤ 47) ∧ ((-1) ≤ x96_2.toInt) ∧ (x96_2.toInt ≤ 19) ∧ (0 ≤ x96_3.toInt) ∧ (x96_3.toInt ≤ 43) ∧ (0 ≤ (x96_4 + (1 : Int32)).toInt) ∧ ((x96_4 + (1 : Int32)).toInt ≤ 48) := by have := bd_127_11 hI; have := ti_add2 (Eq.refl x96_4.toInt) (by decide : ((1 : Int32)).toInt = 1) (by omega) (by omega); have := ti_mul2 (by decide : ((2 : Int32)).toInt = 2) (Eq.refl (w.1 127 11).toInt) (by omega) (by omega); exact ⟨by omega, by omega, by omega, by omega, by omega, by omega, by omega, by omega⟩
            exact ih _ w hI  o13130.1 o13130.2.1 o13130.2.2.1 o13130.2.2.2.1 o13130.2.2.2.2.1 o13130.2.2.2.2.2.1 o13130.2.2.2.2.2.2.1 o13130.2.2.2.2.2.2.2 (by have := bd_127_11 hI; have := ti_add2 (Eq.refl x96_4.toInt) (by decide : ((1 : Int32)).toInt = 1) (by omega) (by omega); have := ti_mul2 (by decide : ((2 : Int32)).toInt = 2) (Eq.refl (w.1 127 11).toInt) (by omega) (by omega); omega) (fun w9 hI9 hF9 => hE w9 hI9 ((FR.refl _ w).tr hF9 rfl) ) (fun w9 hI9 hF9 q0 => q0.elim)
          · refine ⟨fun h13131 => ?_, fun h13131 => ?_⟩
            · refine Eq.mpr (q_Mo_join_197.eq_1 _ _ _ _ _ _ _ _ _) ?_
              refine ⟨fun _ => ?_, fun h => absurd (by decide) h⟩
              have o13132 : (0 ≤ x96_1.toInt) ∧ (x96_1.toInt ≤ 47) ∧ ((-1) ≤ x96_2.toInt) ∧ (x96_2.toInt ≤ 19) ∧ (0 ≤ x96_3.toInt) ∧ (x96_3.toInt ≤ 43) ∧ (0 ≤ (x96_4 + (1 : Int32)).toInt) ∧ ((x96_4 + (1 : Int32)).toInt ≤ 48) := by have := bd_127_11 hI; have := ti_add2 (Eq.refl x96_4.toInt) (by decide : ((1 : Int32)).toInt = 1) (by omega) (by omega); have := ti_mul2 (by decide : ((2 : Int32)).toInt = 2) (Eq.refl (w.1 127 11).toInt) (by omega) (by omega); exact ⟨by omega, by omega, by omega, by omega, by omega, by omega, by omega, by omega⟩
              exact ih _ w hI  o13132.1 o13132.2.1 o13132.2.2.1 o13132.2.2.2.1 o13132.2.2.2.2.1 o13132.2.2.2.2.2.1 o13132.2.2.2.2.2.2.1 o13132.2.2.2.2.2.2.2 (by have := bd_127_11 hI; have := ti_add2 (Eq.refl x96_4.toInt) (by decide : ((1 : Int32)).toInt = 1) (by omega) (by omega); have := ti_mul2 (by decide : ((2 : Int32)).toInt = 2) (Eq.refl (w.1 127 11).toInt) (by omega) (by omega); omega) (fun w9 hI9 hF9 => hE w9 hI9 ((FR.refl _ w).tr hF9 rfl) ) (fun w9 hI9 hF9 q0 => q0.elim)
            · have o13133 : 0 ≤ x96_2.toInt ∧ x96_2.toInt < 20 := by have := (by decide : ((0 : Int32)).toInt = 0); have := bd_170 hI x96_4.toInt.toNat; omega
              refine ⟨o13133, ?_⟩
              refine ⟨fun h13134 => ?_, fun h13134 => ?_⟩
              · have o13135 : 0 ≤ x96_2.toInt ∧ x96_2.toInt < 20 := by have := (by decide : ((0 : Int32)).toInt = 0); have := bd_170 hI x96_4.toInt.toNat; omega
                refine ⟨o13135, ?_⟩
                have o13136 : 0 ≤ x96_2.toInt ∧ x96_2.toInt < 20 := by have := (by decide : ((0 : Int32)).toInt = 0); have := bd_170 hI x96_4.toInt.toNat; omega
                refine ⟨o13136, ?_⟩
                have o13137 : 0 ≤ x96_1.toInt ∧ x96_1.toInt < 48 := by have := bd_127_11 hI; have := ti_mul2 (by decide : ((2 : Int32)).toInt = 2) (Eq.refl (w.1 127 11).toInt) (by omega) (by omega); omega
                refine ⟨o13137, ?_⟩
                have o13138 : 0 ≤ x96_4.toInt ∧ x96_4.toInt < 48 := by have := bd_127_11 hI; have := ti_mul2 (by decide : ((2 : Int32)).toInt = 2) (Eq.refl (w.1 127 11).toInt) (by omega) (by omega); omega
                refine ⟨o13138, ?_⟩
                have o13139 : (0 ≤ ((w.1 163 x96_2.toInt.toNat) - (2 : Int32)).toInt) ∧ (((w.1 163 x96_2.toInt.toNat) - (2 : Int32)).toInt ≤ 7) ∧ (0 ≤ (w.1 167 x96_2.toInt.toNat).toInt) ∧ ((w.1 167 x96_2.toInt.toNat).toInt ≤ 9) := by have := bd_163 hI x96_2.toInt.toNat; have := bd_167 hI x96_2.toInt.toNat; have := (by decide : ((0 : Int32)).toInt = 0); have := (by decide : ((1 : Int32)).toInt = 1); have := ti_sub2 (Eq.refl (w.1 163 x96_2.toInt.toNat).toInt) (by decide : ((2 : Int32)).toInt = 2) (by omega) (by omega); exact ⟨by omega, by omega, by omega, by omega⟩
                refine h_Mo_passes hI  o13139.1 o13139.2.1 o13139.2.2.1 o13139.2.2.2 (fun r13143 w13140 hI13141 hL13142 p13144 p13145 => ?_)
                have hF13146 : FR l_Mo_join_96 w w13140 := (FR.refl _ w).tr hL13142 rfl
                refine ⟨fun h13147 => ?_, fun h13147 => ?_⟩
                · refine Eq.mpr (q_Mo_join_197.eq_1 _ _ _ _ _ _ _ _ _) ?_
                  refine ⟨fun _ => ?_, fun h => absurd (by decide) h⟩
                  have o13148 : (0 ≤ x96_1.toInt) ∧ (x96_1.toInt ≤ 47) ∧ ((-1) ≤ x96_2.toInt) ∧ (x96_2.toInt ≤ 19) ∧ (0 ≤ x96_3.toInt) ∧ (x96_3.toInt ≤ 43) ∧ (0 ≤ (x96_4 + (1 : Int32)).toInt) ∧ ((x96_4 + (1 : Int32)).toInt ≤ 48) := by have := bd_127_11 hI; have := ti_add2 (Eq.refl x96_4.toInt) (by decide : ((1 : Int32)).toInt = 1) (by omega) (by omega); have := ti_mul2 (by decide : ((2 : Int32)).toInt = 2) (Eq.refl (w.1 127 11).toInt) (by omega) (by omega); exact ⟨by omega, by omega, by omega, by omega, by omega, by omega, by omega, by omega⟩
                  exact ih _ w13140 hI13141  o13148.1 o13148.2.1 o13148.2.2.1 o13148.2.2.2.1 o13148.2.2.2.2.1 o13148.2.2.2.2.2.1 o13148.2.2.2.2.2.2.1 o13148.2.2.2.2.2.2.2 (by have := bd_127_11 hI; have := ti_add2 (Eq.refl x96_4.toInt) (by decide : ((1 : Int32)).toInt = 1) (by omega) (by omega); have := ti_mul2 (by decide : ((2 : Int32)).toInt = 2) (Eq.refl (w.1 127 11).toInt) (by omega) (by omega); omega) (fun w9 hI9 hF9 => hE w9 hI9 (hF13146.tr hF9 rfl) ) (fun w9 hI9 hF9 q0 => q0.elim)
                · refine Eq.mpr (q_Mo_join_197.eq_1 _ _ _ _ _ _ _ _ _) ?_
                  refine ⟨fun h => absurd h (by decide), fun _ => ?_⟩
                  have o13149 : 0 ≤ x96_3.toInt ∧ x96_3.toInt < 44 := by omega
                  refine ⟨o13149, ?_⟩
                  have o13150 : 0 ≤ x96_3.toInt ∧ x96_3.toInt < 44 := by omega
                  refine ⟨o13150, ?_⟩
                  have o13151 : (0 ≤ x96_1.toInt) ∧ (x96_1.toInt ≤ 47) ∧ ((-1) ≤ x96_2.toInt) ∧ (x96_2.toInt ≤ 19) ∧ (0 ≤ x96_3.toInt) ∧ (x96_3.toInt ≤ 43) ∧ (0 ≤ (x96_4 + (1 : Int32)).toInt) ∧ ((x96_4 + (1 : Int32)).toInt ≤ 48) := by have := bd_127_11 hI; have := ti_add2 (Eq.refl x96_4.toInt) (by decide : ((1 : Int32)).toInt = 1) (by omega) (by omega); have := ti_mul2 (by decide : ((2 : Int32)).toInt = 2) (Eq.refl (w.1 127 11).toInt) (by omega) (by omega); exact ⟨by omega, by omega, by omega, by omega, by omega, by omega, by omega, by omega⟩
                  exact ih _ (sJ w13140 195 x96_3.toInt.toNat ((w13140.2.1 195 x96_3.toInt.toNat) ||| ((1 : Int64) <<< (((w13140.1 127 4) + (x96_4 / (2 : Int32))).toInt64 &&& 63)))) (bnd_J hI13141 (k := 195) (j := x96_3.toInt.toNat) (v := ((w13140.2.1 195 x96_3.toInt.toNat) ||| ((1 : Int64) <<< (((w13140.1 127 4) + (x96_4 / (2 : Int32))).toInt64 &&& 63)))))  o13151.1 o13151.2.1 o13151.2.2.1 o13151.2.2.2.1 o13151.2.2.2.2.1 o13151.2.2.2.2.2.1 o13151.2.2.2.2.2.2.1 o13151.2.2.2.2.2.2.2 (by have := bd_127_11 hI; have := ti_add2 (Eq.refl x96_4.toInt) (by decide : ((1 : Int32)).toInt = 1) (by omega) (by omega); have := ti_mul2 (by decide : ((2 : Int32)).toInt = 2) (Eq.refl (w.1 127 11).toInt) (by omega) (by omega); omega) (fun w9 hI9 hF9 => hE w9 hI9 ((FR.J hF13146 (k := 195) (j := x96_3.toInt.toNat) (v := ((w13140.2.1 195 x96_3.toInt.toNat) ||| ((1 : Int64) <<< (((w13140.1 127 4) + (x96_4 / (2 : Int32))).toInt64 &&& 63)))) rfl).tr hF9 rfl) ) (fun w9 hI9 hF9 q0 => q0.elim)
              · have o13152 : 0 ≤ x96_1.toInt ∧ x96_1.toInt < 48 := by have := bd_127_11 hI; have := ti_mul2 (by decide : ((2 : Int32)).toInt = 2) (Eq.refl (w.1 127 11).toInt) (by omega) (by omega); omega
                refine ⟨o13152, ?_⟩
                refine ⟨fun h13153 => ?_, fun h13153 => ?_⟩
                · refine Eq.mpr (q_Mo_join_197.eq_1 _ _ _ _ _ _ _ _ _) ?_
                  refine ⟨fun _ => ?_, fun h => absurd (by decide) h⟩
                  have o13154 : (0 ≤ x96_1.toInt) ∧ (x96_1.toInt ≤ 47) ∧ ((-1) ≤ x96_2.toInt) ∧ (x96_2.toInt ≤ 19) ∧ (0 ≤ x96_3.toInt) ∧ (x96_3.toInt ≤ 43) ∧ (0 ≤ (x96_4 + (1 : Int32)).toInt) ∧ ((x96_4 + (1 : Int32)).toInt ≤ 48) := by have := bd_127_11 hI; have := ti_add2 (Eq.refl x96_4.toInt) (by decide : ((1 : Int32)).toInt = 1) (by omega) (by omega); have := ti_mul2 (by decide : ((2 : Int32)).toInt = 2) (Eq.refl (w.1 127 11).toInt) (by omega) (by omega); exact ⟨by omega, by omega, by omega, by omega, by omega, by omega, by omega, by omega⟩
                  exact ih _ w hI  o13154.1 o13154.2.1 o13154.2.2.1 o13154.2.2.2.1 o13154.2.2.2.2.1 o13154.2.2.2.2.2.1 o13154.2.2.2.2.2.2.1 o13154.2.2.2.2.2.2.2 (by have := bd_127_11 hI; have := ti_add2 (Eq.refl x96_4.toInt) (by decide : ((1 : Int32)).toInt = 1) (by omega) (by omega); have := ti_mul2 (by decide : ((2 : Int32)).toInt = 2) (Eq.refl (w.1 127 11).toInt) (by omega) (by omega); omega) (fun w9 hI9 hF9 => hE w9 hI9 ((FR.refl _ w).tr hF9 rfl) ) (fun w9 hI9 hF9 q0 => q0.elim)
                · refine Eq.mpr (q_Mo_join_197.eq_1 _ _ _ _ _ _ _ _ _) ?_
                  refine ⟨fun h => absurd h (by decide), fun _ => ?_⟩
                  have o13155 : 0 ≤ x96_3.toInt ∧ x96_3.toInt < 44 := by omega
                  refine ⟨o13155, ?_⟩
                  have o13156 : 0 ≤ x96_3.toInt ∧ x96_3.toInt < 44 := by omega
                  refine ⟨o13156, ?_⟩
                  have o13157 : (0 ≤ x96_1.toInt) ∧ (x96_1.toInt ≤ 47) ∧ ((-1) ≤ x96_2.toInt) ∧ (x96_2.toInt ≤ 19) ∧ (0 ≤ x96_3.toInt) ∧ (x96_3.toInt ≤ 43) ∧ (0 ≤ (x96_4 + (1 : Int32)).toInt) ∧ ((x96_4 + (1 : Int32)).toInt ≤ 48) := by have := bd_127_11 hI; have := ti_add2 (Eq.refl x96_4.toInt) (by decide : ((1 : Int32)).toInt = 1) (by omega) (by omega); have := ti_mul2 (by decide : ((2 : Int32)).toInt = 2) (Eq.refl (w.1 127 11).toInt) (by omega) (by omega); exact ⟨by omega, by omega, by omega, by omega, by omega, by omega, by omega, by omega⟩
                  exact ih _ (sJ w 195 x96_3.toInt.toNat ((w.2.1 195 x96_3.toInt.toNat) ||| ((1 : Int64) <<< (((w.1 127 4) + (x96_4 / (2 : Int32))).toInt64 &&& 63)))) (bnd_J hI (k := 195) (j := x96_3.toInt.toNat) (v := ((w.2.1 195 x96_3.toInt.toNat) ||| ((1 : Int64) <<< (((w.1 127 4) + (x96_4 / (2 : Int32))).toInt64 &&& 63)))))  o13157.1 o13157.2.1 o13157.2.2.1 o13157.2.2.2.1 o13157.2.2.2.2.1 o13157.2.2.2.2.2.1 o13157.2.2.2.2.2.2.1 o13157.2.2.2.2.2.2.2 (by have := bd_127_11 hI; have := ti_add2 (Eq.refl x96_4.toInt) (by decide : ((1 : Int32)).toInt = 1) (by omega) (by omega); have := ti_mul2 (by decide : ((2 : Int32)).toInt = 2) (Eq.refl (w.1 127 11).toInt) (by omega) (by omega); omega) (fun w9 hI9 hF9 => hE w9 hI9 ((FR.J (FR.refl _ w) (k := 195) (j := x96_3.toInt.toNat) (v := ((w.2.1 195 x96_3.toInt.toNat) ||| ((1 : Int64) <<< (((w.1 127 4) + (x96_4 / (2 : Int32))).toInt64 &&& 63)))) rfl).tr hF9 rfl) ) (fun w9 hI9 hF9 q0 => q0.elim)
set_option maxRecDepth 20000 in
set_option maxHeartbeats 2000000 in
theorem hq_Mo_join_30 {E : MW → Prop} {Q : MW → Prop} (n : Nat) : ∀ (x30_1 : Int32) (w : MW), BND w → 0 ≤ x30_1.toInt → x30_1.toInt ≤ 48 → (48 - x30_1.toInt).toNat < n → (∀ (w' : MW), BND w' → FR l_Mo_join_30 w w' → E w') → (∀ (w' : MW), BND w' → FR l_Mo_join_30 w w' → False → Q w') → q_Mo_join_30 E Q n x30_1 w := by
  induction n with
  | zero => intros; omega
  | succ n ih =>
    intro x30_1 w hI  hp0 hp1 hm hE hQ
    rw [q_Mo_join_30.eq_2]
    refine ⟨fun h13158 => ?_, fun h13158 => ?_⟩
    · exact hE _ hI (FR.refl _ w)
    · have o13159 : 0 ≤ x30_1.toInt ∧ x30_1.toInt < 48 := by have := bd_127_11 hI; have := ti_mul2 (by decide : ((2 : Int32)).toInt = 2) (Eq.refl (w.1 127 11).toInt) (by omega) (by omega); omega
      refine ⟨o13159, ?_⟩
      refine ⟨fun h13160 => ?_, fun h13160 => ?_⟩
      · have o13161 : (0 ≤ x30_1.toInt) ∧ (x30_1.toInt ≤ 47) ∧ ((-1) ≤ (w.1 170 x30_1.toInt.toNat).toInt) ∧ ((w.1 170 x30_1.toInt.toNat).toInt ≤ 19) ∧ (0 ≤ ((w.1 127 4) + (x30_1 / (2 : Int32))).toInt) ∧ (((w.1 127 4) + (x30_1 / (2 : Int32))).toInt ≤ 43) ∧ (0 ≤ (0 : Int32).toInt) ∧ ((0 : Int32).toInt ≤ 48) := by have := bd_170 hI x30_1.toInt.toNat; have := bd_127_4 hI; have := (by decide : ((0 : Int32)).toInt = 0); have := bd_127_11 hI; have := nb_div (x := x30_1) (by omega) (by decide : ((2 : Int32)).toInt = 2) (by decide); have := ti_add2 (Eq.refl (w.1 127 4).toInt) (Eq.refl (x30_1 / (2 : Int32)).toInt) (by omega) (by omega); have := ti_mul2 (by decide : ((2 : Int32)).toInt = 2) (Eq.refl (w.1 127 11).toInt) (by omega) (by omega); exact ⟨by omega, by omega, by omega, by omega, by omega, by omega, by omega, by omega⟩
        refine hq_Mo_join_96 FU _ w hI  o13161.1 o13161.2.1 o13161.2.2.1 o13161.2.2.2.1 o13161.2.2.2.2.1 o13161.2.2.2.2.2.1 o13161.2.2.2.2.2.2.1 o13161.2.2.2.2.2.2.2 (fu_lt (by have := bd_170 hI x30_1.toInt.toNat; have := bd_127_4 hI; have := (by decide : ((0 : Int32)).toInt = 0); have := bd_127_11 hI; have := nb_div (x := x30_1) (by omega) (by decide : ((2 : Int32)).toInt = 2) (by decide); have := ti_add2 (Eq.refl (w.1 127 4).toInt) (Eq.refl (x30_1 / (2 : Int32)).toInt) (by omega) (by omega); have := ti_mul2 (by decide : ((2 : Int32)).toInt = 2) (Eq.refl (w.1 127 11).toInt) (by omega) (by omega); omega)) (fun w13162 hI13163 hL13164  => ?_) (fun w9 hI9 hF9 q0 => q0.elim)
        have hF13165 : FR l_Mo_join_30 w w13162 := (FR.refl _ w).tr hL13164 rfl
        have o13166 : (0 ≤ (x30_1 + (1 : Int32)).toInt) ∧ ((x30_1 + (1 : Int32)).toInt ≤ 48) := by have := bd_127_11 hI; have := ti_add2 (Eq.refl x30_1.toInt) (by decide : ((1 : Int32)).toInt = 1) (by omega) (by omega); have := ti_mul2 (by decide : ((2 : Int32)).toInt = 2) (Eq.refl (w.1 127 11).toInt) (by omega) (by omega); exact ⟨by omega, by omega⟩
        exact ih _ w13162 hI13163  o13166.1 o13166.2 (by have := bd_127_11 hI; have := ti_add2 (Eq.refl x30_1.toInt) (by decide : ((1 : Int32)).toInt = 1) (by omega) (by omega); have := ti_mul2 (by decide : ((2 : Int32)).toInt = 2) (Eq.refl (w.1 127 11).toInt) (by omega) (by omega); omega) (fun w9 hI9 hF9 => hE w9 hI9 (hF13165.tr hF9 rfl) ) (fun w9 hI9 hF9 q0 => q0.elim)
      · have o13167 : 0 ≤ (w.1 170 x30_1.toInt.toNat).toInt ∧ (w.1 170 x30_1.toInt.toNat).toInt < 20 := by have := bd_170 hI x30_1.toInt.toNat; have := (by decide : ((0 : Int32)).toInt = 0); omega
        refine ⟨o13167, ?_⟩
        refine ⟨fun h13168 => ?_, fun h13168 => ?_⟩
        · have o13169 : (0 ≤ x30_1.toInt) ∧ (x30_1.toInt ≤ 47) ∧ ((-1) ≤ (w.1 170 x30_1.toInt.toNat).toInt) ∧ ((w.1 170 x30_1.toInt.toNat).toInt ≤ 19) ∧ (0 ≤ ((w.1 127 4) + (x30_1 / (2 : Int32))).toInt) ∧ (((w.1 127 4) + (x30_1 / (2 : Int32))).toInt ≤ 43) ∧ (0 ≤ (0 : Int32).toInt) ∧ ((0 : Int32).toInt ≤ 48) := by have := bd_170 hI x30_1.toInt.toNat; have := bd_127_4 hI; have := (by decide : ((0 : Int32)).toInt = 0); have := bd_127_11 hI; have := nb_div (x := x30_1) (by omega) (by decide : ((2 : Int32)).toInt = 2) (by decide); have := ti_add2 (Eq.refl (w.1 127 4).toInt) (Eq.refl (x30_1 / (2 : Int32)).toInt) (by omega) (by omega); have := ti_mul2 (by decide : ((2 : Int32)).toInt = 2) (Eq.refl (w.1 127 11).toInt) (by omega) (by omega); exact ⟨by omega, by omega, by omega, by omega, by omega, by omega, by omega, by omega⟩
          refine hq_Mo_join_96 FU _ w hI  o13169.1 o13169.2.1 o13169.2.2.1 o13169.2.2.2.1 o13169.2.2.2.2.1 o13169.2.2.2.2.2.1 o13169.2.2.2.2.2.2.1 o13169.2.2.2.2.2.2.2 (fu_lt (by have := bd_170 hI x30_1.toInt.toNat; have := bd_127_4 hI; have := (by decide : ((0 : Int32)).toInt = 0); have := bd_127_11 hI; have := nb_div (x := x30_1) (by omega) (by decide : ((2 : Int32)).toInt = 2) (by decide); have := ti_add2 (Eq.refl (w.1 127 4).toInt) (Eq.refl (x30_1 / (2 : Int32)).toInt) (by omega) (by omega); have := ti_mul2 (by decide : ((2 : Int32)).toInt = 2) (Eq.refl (w.1 127 11).toInt) (by omega) (by omega); omega)) (fun w13170 hI13171 hL13172  => ?_) (fun w9 hI9 hF9 q0 => q0.elim)
          have hF13173 : FR l_Mo_join_30 w w13170 := (FR.refl _ w).tr hL13172 rfl
          have o13174 : (0 ≤ (x30_1 + (1 : Int32)).toInt) ∧ ((x30_1 + (1 : Int32)).toInt ≤ 48) := by have := bd_127_11 hI; have := ti_add2 (Eq.refl x30_1.toInt) (by decide : ((1 : Int32)).toInt = 1) (by omega) (by omega); have := ti_mul2 (by decide : ((2 : Int32)).toInt = 2) (Eq.refl (w.1 127 11).toInt) (by omega) (by omega); exact ⟨by omega, by omega⟩
          exact ih _ w13170 hI13171  o13174.1 o13174.2 (by have := bd_127_11 hI; have := ti_add2 (Eq.refl x30_1.toInt) (by decide : ((1 : Int32)).toInt = 1) (by omega) (by omega); have := ti_mul2 (by decide : ((2 : Int32)).toInt = 2) (Eq.refl (w.1 127 11).toInt) (by omega) (by omega); omega) (fun w9 hI9 hF9 => hE w9 hI9 (hF13173.tr hF9 rfl) ) (fun w9 hI9 hF9 q0 => q0.elim)
        · have o13175 : 0 ≤ ((w.1 127 4) + (x30_1 / (2 : Int32))).toInt ∧ ((w.1 127 4) + (x30_1 / (2 : Int32))).toInt < 44 := by have := bd_127_4 hI; have := bd_127_11 hI; have := nb_div (x := x30_1) (by omega) (by decide : ((2 : Int32)).toInt = 2) (by decide); have := ti_add2 (Eq.refl (w.1 127 4).toInt) (Eq.refl (x30_1 / (2 : Int32)).toInt) (by omega) (by omega); have := ti_mul2 (by decide : ((2 : Int32)).toInt = 2) (Eq.refl (w.1 127 11).toInt) (by omega) (by omega); omega
          refine ⟨o13175, ?_⟩
          have o13176 : 0 ≤ ((w.1 127 4) + (x30_1 / (2 : Int32))).toInt ∧ ((w.1 127 4) + (x30_1 / (2 : Int32))).toInt < 44 := by have := bd_127_4 hI; have := bd_127_11 hI; have := nb_div (x := x30_1) (by omega) (by decide : ((2 : Int32)).toInt = 2) (by decide); have := ti_add2 (Eq.refl (w.1 127 4).toInt) (Eq.refl (x30_1 / (2 : Int32)).toInt) (by omega) (by omega); have := ti_mul2 (by decide : ((2 : Int32)).toInt = 2) (Eq.refl (w.1 127 11).toInt) (by omega) (by omega); omega
          refine ⟨o13176, ?_⟩
          have o13177 : 0 ≤ (w.1 170 x30_1.toInt.toNat).toInt ∧ (w.1 170 x30_1.toInt.toNat).toInt < 44 := by have := bd_170 hI x30_1.toInt.toNat; have := (by decide : ((0 : Int32)).toInt = 0); omega
          refine ⟨o13177, ?_⟩
          have o13178 : 0 ≤ (w.1 170 x30_1.toInt.toNat).toInt ∧ (w.1 170 x30_1.toInt.toNat).toInt < 44 := by have := bd_170 hI x30_1.toInt.toNat; have := (by decide : ((0 : Int32)).toInt = 0); omega
          refine ⟨o13178, ?_⟩
          have o13179 : (0 ≤ x30_1.toInt) ∧ (x30_1.toInt ≤ 47) ∧ ((-1) ≤ (w.1 170 x30_1.toInt.toNat).toInt) ∧ ((w.1 170 x30_1.toInt.toNat).toInt ≤ 19) ∧ (0 ≤ ((w.1 127 4) + (x30_1 / (2 : Int32))).toInt) ∧ (((w.1 127 4) + (x30_1 / (2 : Int32))).toInt ≤ 43) ∧ (0 ≤ (0 : Int32).toInt) ∧ ((0 : Int32).toInt ≤ 48) := by have := bd_170 hI x30_1.toInt.toNat; have := bd_127_4 hI; have := (by decide : ((0 : Int32)).toInt = 0); have := bd_127_11 hI; have := nb_div (x := x30_1) (by omega) (by decide : ((2 : Int32)).toInt = 2) (by decide); have := ti_add2 (Eq.refl (w.1 127 4).toInt) (Eq.refl (x30_1 / (2 : Int32)).toInt) (by omega) (by omega); have := ti_mul2 (by decide : ((2 : Int32)).toInt = 2) (Eq.refl (w.1 127 11).toInt) (by omega) (by omega); exact ⟨by omega, by omega, by omega, by omega, by omega, by omega, by omega, by omega⟩
          refine hq_Mo_join_96 FU _ (sJ (sJ w 195 (((w.1 127 4) + (x30_1 / (2 : Int32))).toInt.toNat) ((w.2.1 195 (((w.1 127 4) + (x30_1 / (2 : Int32))).toInt.toNat)) ||| ((1 : Int64) <<< ((w.1 170 x30_1.toInt.toNat).toInt64 &&& 63)))) 195 ((w.1 170 x30_1.toInt.toNat).toInt.toNat) (((sJ w 195 (((w.1 127 4) + (x30_1 / (2 : Int32))).toInt.toNat) ((w.2.1 195 (((w.1 127 4) + (x30_1 / (2 : Int32))).toInt.toNat)) ||| ((1 : Int64) <<< ((w.1 170 x30_1.toInt.toNat).toInt64 &&& 63)))).2.1 195 ((w.1 170 x30_1.toInt.toNat).toInt.toNat)) ||| ((1 : Int64) <<< (((w.1 127 4) + (x30_1 / (2 : Int32))).toInt64 &&& 63)))) (bnd_J (bnd_J hI (k := 195) (j := ((w.1 127 4) + (x30_1 / (2 : Int32))).toInt.toNat) (v := ((w.2.1 195 (((w.1 127 4) + (x30_1 / (2 : Int32))).toInt.toNat)) ||| ((1 : Int64) <<< ((w.1 170 x30_1.toInt.toNat).toInt64 &&& 63))))) (k := 195) (j := (w.1 170 x30_1.toInt.toNat).toInt.toNat) (v := (((sJ w 195 (((w.1 127 4) + (x30_1 / (2 : Int32))).toInt.toNat) ((w.2.1 195 (((w.1 127 4) + (x30_1 / (2 : Int32))).toInt.toNat)) ||| ((1 : Int64) <<< ((w.1 170 x30_1.toInt.toNat).toInt64 &&& 63)))).2.1 195 ((w.1 170 x30_1.toInt.toNat).toInt.toNat)) ||| ((1 : Int64) <<< (((w.1 127 4) + (x30_1 / (2 : Int32))).toInt64 &&& 63)))))  o13179.1 o13179.2.1 o13179.2.2.1 o13179.2.2.2.1 o13179.2.2.2.2.1 o13179.2.2.2.2.2.1 o13179.2.2.2.2.2.2.1 o13179.2.2.2.2.2.2.2 (fu_lt (by have := bd_170 hI x30_1.toInt.toNat; have := bd_127_4 hI; have := (by decide : ((0 : Int32)).toInt = 0); have := bd_127_11 hI; have := nb_div (x := x30_1) (by omega) (by decide : ((2 : Int32)).toInt = 2) (by decide); have := ti_add2 (Eq.refl (w.1 127 4).toInt) (Eq.refl (x30_1 / (2 : Int32)).toInt) (by omega) (by omega); have := ti_mul2 (by decide : ((2 : Int32)).toInt = 2) (Eq.refl (w.1 127 11).toInt) (by omega) (by omega); omega)) (fun w13180 hI13181 hL13182  => ?_) (fun w9 hI9 hF9 q0 => q0.elim)
          have hF13183 : FR l_Mo_join_30 w w13180 := (FR.J (FR.J (FR.refl _ w) (k := 195) (j := ((w.1 127 4) + (x30_1 / (2 : Int32))).toInt.toNat) (v := ((w.2.1 195 (((w.1 127 4) + (x30_1 / (2 : Int32))).toInt.toNat)) ||| ((1 : Int64) <<< ((w.1 170 x30_1.toInt.toNat).toInt64 &&& 63)))) rfl) (k := 195) (j := (w.1 170 x30_1.toInt.toNat).toInt.toNat) (v := (((sJ w 195 (((w.1 127 4) + (x30_1 / (2 : Int32))).toInt.toNat) ((w.2.1 195 (((w.1 127 4) + (x30_1 / (2 : Int32))).toInt.toNat)) ||| ((1 : Int64) <<< ((w.1 170 x30_1.toInt.toNat).toInt64 &&& 63)))).2.1 195 ((w.1 170 x30_1.toInt.toNat).toInt.toNat)) ||| ((1 : Int64) <<< (((w.1 127 4) + (x30_1 / (2 : Int32))).toInt64 &&& 63)))) rfl).tr hL13182 rfl
          have o13184 : (0 ≤ (x30_1 + (1 : Int32)).toInt) ∧ ((x30_1 + (1 : Int32)).toInt ≤ 48) := by have := bd_127_11 hI; have := ti_add2 (Eq.refl x30_1.toInt) (by decide : ((1 : Int32)).toInt = 1) (by omega) (by omega); have := ti_mul2 (by decide : ((2 : Int32)).toInt = 2) (Eq.refl (w.1 127 11).toInt) (by omega) (by omega); exact ⟨by omega, by omega⟩
          exact ih _ w13180 hI13181  o13184.1 o13184.2 (by have := bd_127_11 hI; have := ti_add2 (Eq.refl x30_1.toInt) (by decide : ((1 : Int32)).toInt = 1) (by omega) (by omega); have := ti_mul2 (by decide : ((2 : Int32)).toInt = 2) (Eq.refl (w.1 127 11).toInt) (by omega) (by omega); omega) (fun w9 hI9 hF9 => hE w9 hI9 (hF13183.tr hF9 rfl) ) (fun w9 hI9 hF9 q0 => q0.elim)
set_option maxRecDepth 20000 in
set_option maxHeartbeats 2000000 in
theorem h_Mo_join {w : MW} {Q : MW → Prop} (hI : BND w)  (hQ : ∀ (w' : MW), BND w' → FR l_Mo_join w w' → Q w') : p_Mo_join w Q := by
  refine Eq.mpr (p_Mo_join.eq_1 _ _) ?_
  have o13185 : (0 ≤ (0 : Int32).toInt) ∧ ((0 : Int32).toInt ≤ 44) := by have := (by decide : ((0 : Int32)).toInt = 0); exact ⟨by omega, by omega⟩
  refine hq_Mo_join_2 FU _ w hI  o13185.1 o13185.2 (fu_lt (by have := (by decide : ((0 : Int32)).toInt = 0); omega)) (fun w13186 hI13187 hL13188  => ?_) (fun w9 hI9 hF9 q0 => q0.elim)
  have hF13189 : FR l_Mo_join w w13186 := (FR.refl _ w).tr hL13188 rfl
  have o13190 : (0 ≤ (0 : Int32).toInt) ∧ ((0 : Int32).toInt ≤ 48) := by have := (by decide : ((0 : Int32)).toInt = 0); exact ⟨by omega, by omega⟩
  refine hq_Mo_join_30 FU _ w13186 hI13187  o13190.1 o13190.2 (fu_lt (by have := (by decide : ((0 : Int32)).toInt = 0); omega)) (fun w13191 hI13192 hL13193  => ?_) (fun w9 hI9 hF9 q0 => q0.elim)
  have hF13194 : FR l_Mo_join w w13191 := hF13189.tr hL13193 rfl
  exact hQ _ hI13192 hF13194 
def l_Mo_isCalm_6 : Pl := [(196, none)]
def l_Mo_isCalm_57 : Pl := [(127, some 45), (127, some 46), (127, some 47), (127, some 48)]
def l_Mo_isCalm_46 : Pl := [(127, some 45), (127, some 46), (127, some 47), (127, some 48)]
def l_Mo_isCalm_31 : Pl := [(127, some 45), (127, some 46), (127, some 47), (127, some 48)]
def l_Mo_isCalm : Pl := [(127, some 45), (127, some 46), (127, some 47), (127, some 48), (195, none), (196, none)]
set_option maxRecDepth 20000 in
set_option maxHeartbeats 2000000 in
theorem hq_Mo_isCalm_6 {x6_1 : Int32} {E : MW → Prop} {Q : Int32 → MW → Prop} (n : Nat) : ∀ (x6_2 : Int32) (w : MW), BND w → 1 ≤ x6_1.toInt → x6_1.toInt ≤ 196 → 1 ≤ x6_2.toInt → x6_2.toInt ≤ 16 → (16 - x6_2.toInt).toNat < n → (∀ (w' : MW), BND w' → FR l_Mo_isCalm_6 w w' → E w') → (∀ (r : Int32) (w' : MW), BND w' → FR l_Mo_isCalm_6 w w' → False → Q r w') → q_Mo_isCalm_6 x6_1 E Q n x6_2 w := by
  induction n with
  | zero => intros; omega
  | succ n ih =>
    intro x6_2 w hI  hp0 hp1 hp2 hp3 hm hE hQ
    rw [q_Mo_isCalm_6.eq_2]
    refine ⟨fun h13195 => ?_, fun h13195 => ?_⟩
    · exact hE _ hI (FR.refl _ w)
    · have o13196 : (1 ≤ x6_2.toInt) ∧ (x6_2.toInt ≤ 15) := by have := (by decide : ((16 : Int32)).toInt = 16); exact ⟨by omega, by omega⟩
      refine h_Mo_flood hI  o13196.1 o13196.2 (fun r13200 w13197 hI13198 hL13199  => ?_)
      have hF13201 : FR l_Mo_isCalm_6 w w13197 := (FR.refl _ w).tr hL13199 rfl
      have o13202 : 0 ≤ x6_2.toInt ∧ x6_2.toInt < 16 := by have := (by decide : ((16 : Int32)).toInt = 16); omega
      refine ⟨o13202, ?_⟩
      have o13203 : (1 ≤ x6_1.toInt) ∧ (x6_1.toInt ≤ 196) ∧ (1 ≤ (x6_2 + (1 : Int32)).toInt) ∧ ((x6_2 + (1 : Int32)).toInt ≤ 16) := by have := (by decide : ((16 : Int32)).toInt = 16); have := ti_add2 (Eq.refl x6_2.toInt) (by decide : ((1 : Int32)).toInt = 1) (by omega) (by omega); exact ⟨by omega, by omega, by omega, by omega⟩
      exact ih _ (sJ w13197 196 x6_2.toInt.toNat r13200) (bnd_J hI13198 (k := 196) (j := x6_2.toInt.toNat) (v := r13200))  o13203.1 o13203.2.1 o13203.2.2.1 o13203.2.2.2 (by have := (by decide : ((16 : Int32)).toInt = 16); have := ti_add2 (Eq.refl x6_2.toInt) (by decide : ((1 : Int32)).toInt = 1) (by omega) (by omega); omega) (fun w9 hI9 hF9 => hE w9 hI9 ((FR.J hF13201 (k := 196) (j := x6_2.toInt.toNat) (v := r13200) rfl).tr hF9 rfl) ) (fun r w9 hI9 hF9 q0 => q0.elim)
set_option maxRecDepth 20000 in
set_option maxHeartbeats 2000000 in
theorem hq_Mo_isCalm_57 {x57_1 : Int32} {x57_2 : Int32} {x57_3 : Int32} {E : MW → Prop} {Q : Int32 → MW → Prop} (n : Nat) : ∀ (x57_4 : Int32) (w : MW), BND w → 1 ≤ x57_1.toInt → x57_1.toInt ≤ 196 → 0 ≤ x57_2.toInt → x57_2.toInt ≤ 43 → 1 ≤ x57_3.toInt → x57_3.toInt ≤ 15 → 2 ≤ x57_4.toInt → x57_4.toInt ≤ 16 → (16 - x57_4.toInt).toNat < n → (∀ (w' : MW), BND w' → FR l_Mo_isCalm_57 w w' → E w') → (∀ (r : Int32) (w' : MW), BND w' → FR l_Mo_isCalm_57 w w' → 0 ≤ r.toInt → r.toInt ≤ 0 → Q r w') → q_Mo_isCalm_57 x57_1 x57_2 x57_3 E Q n x57_4 w := by
  induction n with
  | zero => intros; omega
  | succ n ih =>
    intro x57_4 w hI  hp0 hp1 hp2 hp3 hp4 hp5 hp6 hp7 hm hE hQ
    rw [q_Mo_isCalm_57.eq_2]
    refine ⟨fun h13204 => ?_, fun h13204 => ?_⟩
    · exact hE _ hI (FR.refl _ w)
    · have o13205 : 0 ≤ x57_3.toInt ∧ x57_3.toInt < 16 := by omega
      refine ⟨o13205, ?_⟩
      have o13206 : 0 ≤ x57_4.toInt ∧ x57_4.toInt < 16 := by have := (by decide : ((16 : Int32)).toInt = 16); omega
      refine ⟨o13206, ?_⟩
      refine ⟨fun h13207 => ?_, fun h13207 => ?_⟩
      · have o13208 : (1 ≤ x57_1.toInt) ∧ (x57_1.toInt ≤ 196) ∧ (0 ≤ x57_2.toInt) ∧ (x57_2.toInt ≤ 43) ∧ (1 ≤ x57_3.toInt) ∧ (x57_3.toInt ≤ 15) ∧ (2 ≤ (x57_4 + (1 : Int32)).toInt) ∧ ((x57_4 + (1 : Int32)).toInt ≤ 16) := by have := (by decide : ((16 : Int32)).toInt = 16); have := ti_add2 (Eq.refl x57_4.toInt) (by decide : ((1 : Int32)).toInt = 1) (by omega) (by omega); exact ⟨by omega, by omega, by omega, by omega, by omega, by omega, by omega, by omega⟩
        exact ih _ w hI  o13208.1 o13208.2.1 o13208.2.2.1 o13208.2.2.2.1 o13208.2.2.2.2.1 o13208.2.2.2.2.2.1 o13208.2.2.2.2.2.2.1 o13208.2.2.2.2.2.2.2 (by have := (by decide : ((16 : Int32)).toInt = 16); have := ti_add2 (Eq.refl x57_4.toInt) (by decide : ((1 : Int32)).toInt = 1) (by omega) (by omega); omega) (fun w9 hI9 hF9 => hE w9 hI9 ((FR.refl _ w).tr hF9 rfl) ) (fun r w9 hI9 hF9 q0 q1 => hQ r w9 hI9 ((FR.refl _ w).tr hF9 rfl) (by have := (by decide : ((16 : Int32)).toInt = 16); have := ti_add2 (Eq.refl x57_4.toInt) (by decide : ((1 : Int32)).toInt = 1) (by omega) (by omega); omega) (by have := (by decide : ((16 : Int32)).toInt = 16); have := ti_add2 (Eq.refl x57_4.toInt) (by decide : ((1 : Int32)).toInt = 1) (by omega) (by omega); omega))
      · refine Eq.mpr (p_Mo_mayMeet.eq_1 _ _ _ _) ?_
        refine ⟨fun h13209 => ?_, fun h13209 => ?_⟩
        · refine ⟨fun _ => ?_, fun h => absurd (by decide) h⟩
          have o13210 : (1 ≤ x57_1.toInt) ∧ (x57_1.toInt ≤ 196) ∧ (0 ≤ x57_2.toInt) ∧ (x57_2.toInt ≤ 43) ∧ (1 ≤ x57_3.toInt) ∧ (x57_3.toInt ≤ 15) ∧ (2 ≤ (x57_4 + (1 : Int32)).toInt) ∧ ((x57_4 + (1 : Int32)).toInt ≤ 16) := by have := (by decide : ((16 : Int32)).toInt = 16); have := ti_add2 (Eq.refl x57_4.toInt) (by decide : ((1 : Int32)).toInt = 1) (by omega) (by omega); exact ⟨by omega, by omega, by omega, by omega, by omega, by omega, by omega, by omega⟩
          exact ih _ w hI  o13210.1 o13210.2.1 o13210.2.2.1 o13210.2.2.2.1 o13210.2.2.2.2.1 o13210.2.2.2.2.2.1 o13210.2.2.2.2.2.2.1 o13210.2.2.2.2.2.2.2 (by have := (by decide : ((16 : Int32)).toInt = 16); have := ti_add2 (Eq.refl x57_4.toInt) (by decide : ((1 : Int32)).toInt = 1) (by omega) (by omega); omega) (fun w9 hI9 hF9 => hE w9 hI9 ((FR.refl _ w).tr hF9 rfl) ) (fun r w9 hI9 hF9 q0 q1 => hQ r w9 hI9 ((FR.refl _ w).tr hF9 rfl) (by have := (by decide : ((16 : Int32)).toInt = 16); have := ti_add2 (Eq.refl x57_4.toInt) (by decide : ((1 : Int32)).toInt = 1) (by omega) (by omega); omega) (by have := (by decide : ((16 : Int32)).toInt = 16); have := ti_add2 (Eq.refl x57_4.toInt) (by decide : ((1 : Int32)).toInt = 1) (by omega) (by omega); omega))
        · refine ⟨fun h13211 => ?_, fun h13211 => ?_⟩
          · refine ⟨fun h => absurd h (by decide), fun _ => ?_⟩
            have hI13212 : BND (sI w 127 45 x57_1) := wbd_127_45 hI
            have hI13213 : BND (sI (sI w 127 45 x57_1) 127 46 x57_2) := wbd_127_46 hI13212
            have hI13214 : BND (sI (sI (sI w 127 45 x57_1) 127 46 x57_2) 127 47 x57_3) := wbd_127_47 hI13213
            have hI13215 : BND (sI (sI (sI (sI w 127 45 x57_1) 127 46 x57_2) 127 47 x57_3) 127 48 x57_4) := wbd_127_48 hI13214
            have o13216 : (0 ≤ (0 : Int32).toInt) ∧ ((0 : Int32).toInt ≤ 0) := by have := (by decide : ((0 : Int32)).toInt = 0); exact ⟨by omega, by omega⟩
            exact hQ _ _ hI13215 (FR.I (FR.I (FR.I (FR.I (FR.refl _ w) (k := 127) (j := 45) (v := x57_1) rfl) (k := 127) (j := 46) (v := x57_2) rfl) (k := 127) (j := 47) (v := x57_3) rfl) (k := 127) (j := 48) (v := x57_4) rfl)  o13216.1 o13216.2
          · refine ⟨fun h13217 => ?_, fun h13217 => ?_⟩
            · refine ⟨fun h => absurd h (by decide), fun _ => ?_⟩
              have hI13218 : BND (sI w 127 45 x57_1) := wbd_127_45 hI
              have hI13219 : BND (sI (sI w 127 45 x57_1) 127 46 x57_2) := wbd_127_46 hI13218
              have hI13220 : BND (sI (sI (sI w 127 45 x57_1) 127 46 x57_2) 127 47 x57_3) := wbd_127_47 hI13219
              have hI13221 : BND (sI (sI (sI (sI w 127 45 x57_1) 127 46 x57_2) 127 47 x57_3) 127 48 x57_4) := wbd_127_48 hI13220
              have o13222 : (0 ≤ (0 : Int32).toInt) ∧ ((0 : Int32).toInt ≤ 0) := by have := (by decide : ((0 : Int32)).toInt = 0); exact ⟨by omega, by omega⟩
              exact hQ _ _ hI13221 (FR.I (FR.I (FR.I (FR.I (FR.refl _ w) (k := 127) (j := 45) (v := x57_1) rfl) (k := 127) (j := 46) (v := x57_2) rfl) (k := 127) (j := 47) (v := x57_3) rfl) (k := 127) (j := 48) (v := x57_4) rfl)  o13222.1 o13222.2
            · have o13223 : 0 ≤ (((16 : Int32) * x57_3) + x57_4).toInt ∧ (((16 : Int32) * x57_3) + x57_4).toInt < 256 := by have := (by decide : ((16 : Int32)).toInt = 16); have := (by decide : ((15 : Int32)).toInt = 15); have := ti_mul2 (by decide : ((16 : Int32)).toInt = 16) (Eq.refl x57_3.toInt) (by omega) (by omega); have := ti_add2 (Eq.refl ((16 : Int32) * x57_3).toInt) (Eq.refl x57_4.toInt) (by omega) (by omega); omega
              refine ⟨o13223, ?_⟩
              refine ⟨fun h13224 => ?_, fun h13224 => ?_⟩
              · refine ⟨fun h => absurd h (by decide), fun _ => ?_⟩
                have hI13225 : BND (sI w 127 45 x57_1) := wbd_127_45 hI
                have hI13226 : BND (sI (sI w 127 45 x57_1) 127 46 x57_2) := wbd_127_46 hI13225
                have hI13227 : BND (sI (sI (sI w 127 45 x57_1) 127 46 x57_2) 127 47 x57_3) := wbd_127_47 hI13226
                have hI13228 : BND (sI (sI (sI (sI w 127 45 x57_1) 127 46 x57_2) 127 47 x57_3) 127 48 x57_4) := wbd_127_48 hI13227
                have o13229 : (0 ≤ (0 : Int32).toInt) ∧ ((0 : Int32).toInt ≤ 0) := by have := (by decide : ((0 : Int32)).toInt = 0); exact ⟨by omega, by omega⟩
                exact hQ _ _ hI13228 (FR.I (FR.I (FR.I (FR.I (FR.refl _ w) (k := 127) (j := 45) (v := x57_1) rfl) (k := 127) (j := 46) (v := x57_2) rfl) (k := 127) (j := 47) (v := x57_3) rfl) (k := 127) (j := 48) (v := x57_4) rfl)  o13229.1 o13229.2
              · refine ⟨fun _ => ?_, fun h => absurd (by decide) h⟩
                have o13230 : (1 ≤ x57_1.toInt) ∧ (x57_1.toInt ≤ 196) ∧ (0 ≤ x57_2.toInt) ∧ (x57_2.toInt ≤ 43) ∧ (1 ≤ x57_3.toInt) ∧ (x57_3.toInt ≤ 15) ∧ (2 ≤ (x57_4 + (1 : Int32)).toInt) ∧ ((x57_4 + (1 : Int32)).toInt ≤ 16) := by have := (by decide : ((16 : Int32)).toInt = 16); have := (by decide : ((15 : Int32)).toInt = 15); have := ti_add2 (Eq.refl x57_4.toInt) (by decide : ((1 : Int32)).toInt = 1) (by omega) (by omega); exact ⟨by omega, by omega, by omega, by omega, by omega, by omega, by omega, by omega⟩
                exact ih _ w hI  o13230.1 o13230.2.1 o13230.2.2.1 o13230.2.2.2.1 o13230.2.2.2.2.1 o13230.2.2.2.2.2.1 o13230.2.2.2.2.2.2.1 o13230.2.2.2.2.2.2.2 (by have := (by decide : ((16 : Int32)).toInt = 16); have := (by decide : ((15 : Int32)).toInt = 15); have := ti_add2 (Eq.refl x57_4.toInt) (by decide : ((1 : Int32)).toInt = 1) (by omega) (by omega); omega) (fun w9 hI9 hF9 => hE w9 hI9 ((FR.refl _ w).tr hF9 rfl) ) (fun r w9 hI9 hF9 q0 q1 => hQ r w9 hI9 ((FR.refl _ w).tr hF9 rfl) (by have := (by decide : ((16 : Int32)).toInt = 16); have := (by decide : ((15 : Int32)).toInt = 15); have := ti_add2 (Eq.refl x57_4.toInt) (by decide : ((1 : Int32)).toInt = 1) (by omega) (by omega); omega) (by have := (by decide : ((16 : Int32)).toInt = 16); have := (by decide : ((15 : Int32)).toInt = 15); have := ti_add2 (Eq.refl x57_4.toInt) (by decide : ((1 : Int32)).toInt = 1) (by omega) (by omega); omega))
set_option maxRecDepth 20000 in
set_option maxHeartbeats 2000000 in
theorem hq_Mo_isCalm_46 {x46_1 : Int32} {x46_2 : Int32} {E : MW → Prop} {Q : Int32 → MW → Prop} (n : Nat) : ∀ (x46_3 : Int32) (w : MW), BND w → 1 ≤ x46_1.toInt → x46_1.toInt ≤ 196 → 0 ≤ x46_2.toInt → x46_2.toInt ≤ 43 → 1 ≤ x46_3.toInt → x46_3.toInt ≤ 16 → (16 - x46_3.toInt).toNat < n → (∀ (w' : MW), BND w' → FR l_Mo_isCalm_46 w w' → E w') → (∀ (r : Int32) (w' : MW), BND w' → FR l_Mo_isCalm_46 w w' → 0 ≤ r.toInt → r.toInt ≤ 0 → Q r w') → q_Mo_isCalm_46 x46_1 x46_2 E Q n x46_3 w := by
  induction n with
  | zero => intros; omega
  | succ n ih =>
    intro x46_3 w hI  hp0 hp1 hp2 hp3 hp4 hp5 hm hE hQ
    rw [q_Mo_isCalm_46.eq_2]
    refine ⟨fun h13231 => ?_, fun h13231 => ?_⟩
    · exact hE _ hI (FR.refl _ w)
    · have o13232 : (1 ≤ x46_1.toInt) ∧ (x46_1.toInt ≤ 196) ∧ (0 ≤ x46_2.toInt) ∧ (x46_2.toInt ≤ 43) ∧ (1 ≤ x46_3.toInt) ∧ (x46_3.toInt ≤ 15) ∧ (2 ≤ (x46_3 + (1 : Int32)).toInt) ∧ ((x46_3 + (1 : Int32)).toInt ≤ 16) := by have := (by decide : ((16 : Int32)).toInt = 16); have := ti_add2 (Eq.refl x46_3.toInt) (by decide : ((1 : Int32)).toInt = 1) (by omega) (by omega); exact ⟨by omega, by omega, by omega, by omega, by omega, by omega, by omega, by omega⟩
      refine hq_Mo_isCalm_57 FU _ w hI  o13232.1 o13232.2.1 o13232.2.2.1 o13232.2.2.2.1 o13232.2.2.2.2.1 o13232.2.2.2.2.2.1 o13232.2.2.2.2.2.2.1 o13232.2.2.2.2.2.2.2 (fu_lt (by have := (by decide : ((16 : Int32)).toInt = 16); have := ti_add2 (Eq.refl x46_3.toInt) (by decide : ((1 : Int32)).toInt = 1) (by omega) (by omega); omega)) (fun w13233 hI13234 hL13235  => ?_) (fun r w9 hI9 hF9 q0 q1 => hQ r w9 hI9 (((FR.refl _ w)).tr hF9 rfl) (by have := (by decide : ((16 : Int32)).toInt = 16); have := ti_add2 (Eq.refl x46_3.toInt) (by decide : ((1 : Int32)).toInt = 1) (by omega) (by omega); omega) (by have := (by decide : ((16 : Int32)).toInt = 16); have := ti_add2 (Eq.refl x46_3.toInt) (by decide : ((1 : Int32)).toInt = 1) (by omega) (by omega); omega))
      have hF13236 : FR l_Mo_isCalm_46 w w13233 := (FR.refl _ w).tr hL13235 rfl
      have o13237 : (1 ≤ x46_1.toInt) ∧ (x46_1.toInt ≤ 196) ∧ (0 ≤ x46_2.toInt) ∧ (x46_2.toInt ≤ 43) ∧ (1 ≤ (x46_3 + (1 : Int32)).toInt) ∧ ((x46_3 + (1 : Int32)).toInt ≤ 16) := by have := (by decide : ((16 : Int32)).toInt = 16); have := ti_add2 (Eq.refl x46_3.toInt) (by decide : ((1 : Int32)).toInt = 1) (by omega) (by omega); exact ⟨by omega, by omega, by omega, by omega, by omega, by omega⟩
      exact ih _ w13233 hI13234  o13237.1 o13237.2.1 o13237.2.2.1 o13237.2.2.2.1 o13237.2.2.2.2.1 o13237.2.2.2.2.2 (by have := (by decide : ((16 : Int32)).toInt = 16); have := ti_add2 (Eq.refl x46_3.toInt) (by decide : ((1 : Int32)).toInt = 1) (by omega) (by omega); omega) (fun w9 hI9 hF9 => hE w9 hI9 (hF13236.tr hF9 rfl) ) (fun r w9 hI9 hF9 q0 q1 => hQ r w9 hI9 (hF13236.tr hF9 rfl) (by have := (by decide : ((16 : Int32)).toInt = 16); have := ti_add2 (Eq.refl x46_3.toInt) (by decide : ((1 : Int32)).toInt = 1) (by omega) (by omega); omega) (by have := (by decide : ((16 : Int32)).toInt = 16); have := ti_add2 (Eq.refl x46_3.toInt) (by decide : ((1 : Int32)).toInt = 1) (by omega) (by omega); omega))
set_option maxRecDepth 20000 in
set_option maxHeartbeats 2000000 in
theorem hq_Mo_isCalm_31 {x31_1 : Int32} {E : MW → Prop} {Q : Int32 → MW → Prop} (n : Nat) : ∀ (x31_2 : Int32) (w : MW), BND w → 1 ≤ x31_1.toInt → x31_1.toInt ≤ 196 → 0 ≤ x31_2.toInt → x31_2.toInt ≤ 44 → (44 - x31_2.toInt).toNat < n → (∀ (w' : MW), BND w' → FR l_Mo_isCalm_31 w w' → E w') → (∀ (r : Int32) (w' : MW), BND w' → FR l_Mo_isCalm_31 w w' → 0 ≤ r.toInt → r.toInt ≤ 0 → Q r w') → q_Mo_isCalm_31 x31_1 E Q n x31_2 w := by
  induction n with
  | zero => intros; omega
  | succ n ih =>
    intro x31_2 w hI  hp0 hp1 hp2 hp3 hm hE hQ
    rw [q_Mo_isCalm_31.eq_2]
    refine ⟨fun h13238 => ?_, fun h13238 => ?_⟩
    · exact hE _ hI (FR.refl _ w)
    · have o13239 : (1 ≤ x31_1.toInt) ∧ (x31_1.toInt ≤ 196) ∧ (0 ≤ x31_2.toInt) ∧ (x31_2.toInt ≤ 43) ∧ (1 ≤ (1 : Int32).toInt) ∧ ((1 : Int32).toInt ≤ 16) := by have := (by decide : ((1 : Int32)).toInt = 1); have := bd_127_4 hI; have := bd_127_11 hI; have := ti_add2 (Eq.refl (w.1 127 4).toInt) (Eq.refl (w.1 127 11).toInt) (by omega) (by omega); exact ⟨by omega, by omega, by omega, by omega, by omega, by omega⟩
      refine hq_Mo_isCalm_46 FU _ w hI  o13239.1 o13239.2.1 o13239.2.2.1 o13239.2.2.2.1 o13239.2.2.2.2.1 o13239.2.2.2.2.2 (fu_lt (by have := (by decide : ((1 : Int32)).toInt = 1); have := bd_127_4 hI; have := bd_127_11 hI; have := ti_add2 (Eq.refl (w.1 127 4).toInt) (Eq.refl (w.1 127 11).toInt) (by omega) (by omega); omega)) (fun w13240 hI13241 hL13242  => ?_) (fun r w9 hI9 hF9 q0 q1 => hQ r w9 hI9 (((FR.refl _ w)).tr hF9 rfl) (by have := (by decide : ((1 : Int32)).toInt = 1); have := bd_127_4 hI; have := bd_127_11 hI; have := ti_add2 (Eq.refl (w.1 127 4).toInt) (Eq.refl (w.1 127 11).toInt) (by omega) (by omega); omega) (by have := (by decide : ((1 : Int32)).toInt = 1); have := bd_127_4 hI; have := bd_127_11 hI; have := ti_add2 (Eq.refl (w.1 127 4).toInt) (Eq.refl (w.1 127 11).toInt) (by omega) (by omega); omega))
      have hF13243 : FR l_Mo_isCalm_31 w w13240 := (FR.refl _ w).tr hL13242 rfl
      have o13244 : (1 ≤ x31_1.toInt) ∧ (x31_1.toInt ≤ 196) ∧ (0 ≤ (x31_2 + (1 : Int32)).toInt) ∧ ((x31_2 + (1 : Int32)).toInt ≤ 44) := by have := bd_127_4 hI; have := bd_127_11 hI; have := ti_add2 (Eq.refl x31_2.toInt) (by decide : ((1 : Int32)).toInt = 1) (by omega) (by omega); have := ti_add2 (Eq.refl (w.1 127 4).toInt) (Eq.refl (w.1 127 11).toInt) (by omega) (by omega); exact ⟨by omega, by omega, by omega, by omega⟩
      exact ih _ w13240 hI13241  o13244.1 o13244.2.1 o13244.2.2.1 o13244.2.2.2 (by have := bd_127_4 hI; have := bd_127_11 hI; have := ti_add2 (Eq.refl x31_2.toInt) (by decide : ((1 : Int32)).toInt = 1) (by omega) (by omega); have := ti_add2 (Eq.refl (w.1 127 4).toInt) (Eq.refl (w.1 127 11).toInt) (by omega) (by omega); omega) (fun w9 hI9 hF9 => hE w9 hI9 (hF13243.tr hF9 rfl) ) (fun r w9 hI9 hF9 q0 q1 => hQ r w9 hI9 (hF13243.tr hF9 rfl) (by have := bd_127_4 hI; have := bd_127_11 hI; have := ti_add2 (Eq.refl x31_2.toInt) (by decide : ((1 : Int32)).toInt = 1) (by omega) (by omega); have := ti_add2 (Eq.refl (w.1 127 4).toInt) (Eq.refl (w.1 127 11).toInt) (by omega) (by omega); omega) (by have := bd_127_4 hI; have := bd_127_11 hI; have := ti_add2 (Eq.refl x31_2.toInt) (by decide : ((1 : Int32)).toInt = 1) (by omega) (by omega); have := ti_add2 (Eq.refl (w.1 127 4).toInt) (Eq.refl (w.1 127 11).toInt) (by omega) (by omega); omega))
set_option maxRecDepth 20000 in
set_option maxHeartbeats 2000000 in
theorem h_Mo_isCalm {w : MW} {a0 : Int32} {Q : Int32 → MW → Prop} (hI : BND w) (hp0 : 1 ≤ a0.toInt) (hp1 : a0.toInt ≤ 196) (hQ : ∀ (r : Int32) (w' : MW), BND w' → FR l_Mo_isCalm w w' → 0 ≤ r.toInt → r.toInt ≤ 1 → Q r w') : p_Mo_isCalm w a0 Q := by
  refine Eq.mpr (p_Mo_isCalm.eq_1 _ _ _) ?_
  refine h_Mo_join hI   (fun w13245 hI13246 hL13247  => ?_)
  have hF13249 : FR l_Mo_isCalm w w13245 := (FR.refl _ w).tr hL13247 rfl
  have o13250 : (1 ≤ a0.toInt) ∧ (a0.toInt ≤ 196) ∧ (1 ≤ (1 : Int32).toInt) ∧ ((1 : Int32).toInt ≤ 16) := by have := (by decide : ((1 : Int32)).toInt = 1); exact ⟨by omega, by omega, by omega, by omega⟩
  refine hq_Mo_isCalm_6 FU _ w13245 hI13246  o13250.1 o13250.2.1 o13250.2.2.1 o13250.2.2.2 (fu_lt (by have := (by decide : ((1 : Int32)).toInt = 1); omega)) (fun w13251 hI13252 hL13253  => ?_) (fun r w9 hI9 hF9 q0 => q0.elim)
  have hF13254 : FR l_Mo_isCalm w w13251 := hF13249.tr hL13253 rfl
  have o13255 : (1 ≤ a0.toInt) ∧ (a0.toInt ≤ 196) ∧ (0 ≤ (0 : Int32).toInt) ∧ ((0 : Int32).toInt ≤ 44) := by have := (by decide : ((0 : Int32)).toInt = 0); exact ⟨by omega, by omega, by omega, by omega⟩
  refine hq_Mo_isCalm_31 FU _ w13251 hI13252  o13255.1 o13255.2.1 o13255.2.2.1 o13255.2.2.2 (fu_lt (by have := (by decide : ((0 : Int32)).toInt = 0); omega)) (fun w13256 hI13257 hL13258  => ?_) (fun r w9 hI9 hF9 q0 q1 => hQ r w9 hI9 ((hF13254).tr hF9 rfl) (by have := (by decide : ((0 : Int32)).toInt = 0); omega) (by have := (by decide : ((0 : Int32)).toInt = 0); omega))
  have hF13259 : FR l_Mo_isCalm w w13256 := hF13254.tr hL13258 rfl
  have o13260 : (0 ≤ (1 : Int32).toInt) ∧ ((1 : Int32).toInt ≤ 1) := by have := (by decide : ((1 : Int32)).toInt = 1); exact ⟨by omega, by omega⟩
  exact hQ _ _ hI13257 hF13259  o13260.1 o13260.2
