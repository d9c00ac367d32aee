def l_Tx_tell_49 : Pl := [(139, none)]
def l_Tx_tell : Pl := [(129, some 10), (129, some 24), (139, none), (140, none), (141, none), (142, none), (143, none)]
set_option maxRecDepth 20000 in
set_option maxHeartbeats 2000000 in
theorem hq_Tx_tell_49 {x49_1 : Int32} {x49_2 : Int32} {E : MW → Prop} {Q : Int32 → MW → Prop} (n : Nat) : ∀ (x49_3 : Int32) (w : MW), BND w → (-1128) ≤ x49_1.toInt → x49_1.toInt ≤ 1000 → 0 ≤ x49_2.toInt → x49_2.toInt ≤ 79 → 0 ≤ x49_3.toInt → x49_3.toInt ≤ 4020 → (w.1 129 5).toInt ≤ x49_3.toInt → (w.1 129 6).toInt ≤ (w.1 129 5).toInt + 12 → (4020 - x49_3.toInt).toNat < n → (∀ (w' : MW), BND w' → FR l_Tx_tell_49 w w' → E w') → (∀ (r : Int32) (w' : MW), BND w' → FR l_Tx_tell_49 w w' → False → Q r w') → q_Tx_tell_49 x49_1 x49_2 E Q n x49_3 w := by
  induction n with
  | zero => intros; omega
  | succ n ih =>
    intro x49_3 w hI  hp0 hp1 hp2 hp3 hp4 hp5 hp6 hp7 hm hE hQ
    rw [q_Tx_tell_49.eq_2]
    refine ⟨fun h8995 => ?_, fun h8995 => ?_⟩
    · exact hE _ hI (FR.refl _ w)
    · have o8996 : 0 ≤ x49_3.toInt ∧ x49_3.toInt < 4020 := by have := bd_129_5 hI; have := bd_129_6 hI; omega
      refine ⟨o8996, ?_⟩
      have o8997 : 0 ≤ ((((12 : Int32) * x49_2) + x49_3) - (w.1 129 5)).toInt ∧ ((((12 : Int32) * x49_2) + x49_3) - (w.1 129 5)).toInt < 960 := by have := bd_129_5 hI; have := bd_129_6 hI; have := ti_mul2 (by decide : ((12 : Int32)).toInt = 12) (Eq.refl x49_2.toInt) (by omega) (by omega); have := ti_add2 (Eq.refl ((12 : Int32) * x49_2).toInt) (Eq.refl x49_3.toInt) (by omega) (by omega); have := ti_sub2 (Eq.refl (((12 : Int32) * x49_2) + x49_3).toInt) (Eq.refl (w.1 129 5).toInt) (by omega) (by omega); omega
      refine ⟨o8997, ?_⟩
      have o8999 : (-128) ≤ (vp_nar .byte (w.1 130 x49_3.toInt.toNat)).toInt ∧ (vp_nar .byte (w.1 130 x49_3.toInt.toNat)).toInt ≤ 127 := by have := bd_130 hI x49_3.toInt.toNat; have := nb_byteq (x := (w.1 130 x49_3.toInt.toNat)) (by omega) (by omega); omega
      have hI8998 : BND (sI w 139 (((((12 : Int32) * x49_2) + x49_3) - (w.1 129 5)).toInt.toNat) (vp_nar .byte (w.1 130 x49_3.toInt.toNat))) := wbd_139 hI (((((12 : Int32) * x49_2) + x49_3) - (w.1 129 5)).toInt.toNat) o8999.1 o8999.2
      have o9000 : ((-1128) ≤ x49_1.toInt) ∧ (x49_1.toInt ≤ 1000) ∧ (0 ≤ x49_2.toInt) ∧ (x49_2.toInt ≤ 79) ∧ (0 ≤ (x49_3 + (1 : Int32)).toInt) ∧ ((x49_3 + (1 : Int32)).toInt ≤ 4020) ∧ (((sI w 139 (((((12 : Int32) * x49_2) + x49_3) - (w.1 129 5)).toInt.toNat) (vp_nar .byte (w.1 130 x49_3.toInt.toNat))).1 129 5).toInt ≤ (x49_3 + (1 : Int32)).toInt) ∧ (((sI w 139 (((((12 : Int32) * x49_2) + x49_3) - (w.1 129 5)).toInt.toNat) (vp_nar .byte (w.1 130 x49_3.toInt.toNat))).1 129 6).toInt ≤ ((sI w 139 (((((12 : Int32) * x49_2) + x49_3) - (w.1 129 5)).toInt.toNat) (vp_nar .byte (w.1 130 x49_3.toInt.toNat))).1 129 5).toInt + 12) := by have := bd_129_5 hI; have : ((sI w 139 (((((12 : Int32) * x49_2) + x49_3) - (w.1 129 5)).toInt.toNat) (vp_nar .byte (w.1 130 x49_3.toInt.toNat))).1 129 5).toInt = (w.1 129 5).toInt := rfl; have := bd_129_6 hI; have : ((sI w 139 (((((12 : Int32) * x49_2) + x49_3) - (w.1 129 5)).toInt.toNat) (vp_nar .byte (w.1 130 x49_3.toInt.toNat))).1 129 6).toInt = (w.1 129 6).toInt := rfl; have := ti_add2 (Eq.refl x49_3.toInt) (by decide : ((1 : Int32)).toInt = 1) (by omega) (by omega); exact ⟨by omega, by omega, by omega, by omega, by omega, by omega, by omega, by omega⟩
      exact ih _ (sI w 139 (((((12 : Int32) * x49_2) + x49_3) - (w.1 129 5)).toInt.toNat) (vp_nar .byte (w.1 130 x49_3.toInt.toNat))) hI8998  o9000.1 o9000.2.1 o9000.2.2.1 o9000.2.2.2.1 o9000.2.2.2.2.1 o9000.2.2.2.2.2.1 o9000.2.2.2.2.2.2.1 o9000.2.2.2.2.2.2.2 (by have := bd_129_5 hI; have := bd_129_6 hI; have := ti_add2 (Eq.refl x49_3.toInt) (by decide : ((1 : Int32)).toInt = 1) (by omega) (by omega); omega) (fun w9 hI9 hF9 => hE w9 hI9 ((FR.I (FR.refl _ w) (k := 139) (j := ((((12 : Int32) * x49_2) + x49_3) - (w.1 129 5)).toInt.toNat) (v := (vp_nar .byte (w.1 130 x49_3.toInt.toNat))) rfl).tr hF9 rfl) ) (fun r w9 hI9 hF9 q0 => q0.elim)
set_option maxRecDepth 20000 in
set_option maxHeartbeats 2000000 in
theorem h_Tx_tell {w : MW} {a0 : Int32} {Q : Int32 → MW → Prop} (hI : BND w) (hp0 : (-1128) ≤ a0.toInt) (hp1 : a0.toInt ≤ 1000) (hp2 : (w.1 129 4).toInt < 900 ∨ 2000 ≤ (w.1 129 4).toInt ∨ ((w.1 129 5).toInt ≤ (w.1 129 6).toInt ∧ (w.1 129 6).toInt ≤ (w.1 129 5).toInt + 12)) (hQ : ∀ (r : Int32) (w' : MW), BND w' → FR l_Tx_tell w w' → (-1) ≤ r.toInt → r.toInt ≤ 39 → r.toInt < 0 ∨ (w'.1 129 24).toInt = (w.1 129 24).toInt + 1 → (w.1 129 24).toInt ≤ (w'.1 129 24).toInt → Q r w') : p_Tx_tell w a0 Q := by
  refine Eq.mpr (p_Tx_tell.eq_1 _ _ _) ?_
  refine Eq.mpr (p_Tx_isWord.eq_1 _ _ _) ?_
  refine ⟨fun h9001 => ?_, fun h9001 => ?_⟩
  · refine ⟨fun _ => ?_, fun h => absurd (by decide) h⟩
    refine Eq.mpr (p_Tx_bad.eq_1 _ _) ?_
    have hI9002 : BND (sI w 129 10 (w.1 129 5)) := wbd_129_10 hI
    have o9003 : ((-1) ≤ ((-1) : Int32).toInt) ∧ (((-1) : Int32).toInt ≤ 39) ∧ (((-1) : Int32).toInt < 0 ∨ ((sI w 129 10 (w.1 129 5)).1 129 24).toInt = (w.1 129 24).toInt + 1) ∧ ((w.1 129 24).toInt ≤ ((sI w 129 10 (w.1 129 5)).1 129 24).toInt) := by have := (by decide : (((-1) : Int32)).toInt = (-1)); have := bd_129_24 hI; have : ((sI w 129 10 (w.1 129 5)).1 129 24).toInt = (w.1 129 24).toInt := rfl; have := bd_129_4 hI; have := bd_129_5 hI; have := bd_129_6 hI; have := (by decide : ((1000 : Int32)).toInt = 1000); have := ti_dec (1000 : Int32) (by omega); exact ⟨by omega, by omega, by omega, by omega⟩
    exact hQ _ _ hI9002 (FR.I (FR.refl _ w) (k := 129) (j := 10) (v := (w.1 129 5)) rfl)  o9003.1 o9003.2.1 o9003.2.2.1 o9003.2.2.2
  · refine ⟨fun h => absurd h (by decide), fun _ => ?_⟩
    refine h_Tx_nameOf hI   (fun r9007 w9004 hI9005 hL9006 p9008 p9009 => ?_)
    have hF9010 : FR l_Tx_tell w w9004 := (FR.refl _ w).tr hL9006 rfl
    refine ⟨fun h9011 => ?_, fun h9011 => ?_⟩
    · refine Eq.mpr (p_Tx_bad.eq_1 _ _) ?_
      have hI9012 : BND (sI w9004 129 10 (w9004.1 129 5)) := wbd_129_10 hI9005
      have o9013 : ((-1) ≤ ((-1) : Int32).toInt) ∧ (((-1) : Int32).toInt ≤ 39) ∧ (((-1) : Int32).toInt < 0 ∨ ((sI w9004 129 10 (w9004.1 129 5)).1 129 24).toInt = (w.1 129 24).toInt + 1) ∧ ((w.1 129 24).toInt ≤ ((sI w9004 129 10 (w9004.1 129 5)).1 129 24).toInt) := by have := (by decide : (((-1) : Int32)).toInt = (-1)); have := bd_129_24 hI9005; have := bd_129_24 hI; have := (congrArg Int32.toInt (hL9006 129 24 rfl).1); have : ((sI w9004 129 10 (w9004.1 129 5)).1 129 24).toInt = (w9004.1 129 24).toInt := rfl; have := bd_129_4 hI; have := bd_129_5 hI; have := bd_129_6 hI; have := (by decide : ((1000 : Int32)).toInt = 1000); have := ti_dec (1000 : Int32) (by omega); exact ⟨by omega, by omega, by omega, by omega⟩
      exact hQ _ _ hI9012 (FR.I hF9010 (k := 129) (j := 10) (v := (w9004.1 129 5)) rfl)  o9013.1 o9013.2.1 o9013.2.2.1 o9013.2.2.2
    · refine ⟨fun h9014 => ?_, fun h9014 => ?_⟩
      · have o9015 : ((-1128) ≤ a0.toInt) ∧ (a0.toInt ≤ 1000) ∧ (0 ≤ (((40 : Int32) * ((1 : Int32) - (w9004.1 129 12))) + (w9004.1 129 24)).toInt) ∧ ((((40 : Int32) * ((1 : Int32) - (w9004.1 129 12))) + (w9004.1 129 24)).toInt ≤ 79) ∧ (0 ≤ (w9004.1 129 5).toInt) ∧ ((w9004.1 129 5).toInt ≤ 4020) ∧ ((w9004.1 129 5).toInt ≤ (w9004.1 129 5).toInt) ∧ ((w9004.1 129 6).toInt ≤ (w9004.1 129 5).toInt + 12) := by have := bd_129_12 hI9005; have := bd_129_12 hI; have := (congrArg Int32.toInt (hL9006 129 12 rfl).1); have := bd_129_24 hI9005; have := bd_129_24 hI; have := (congrArg Int32.toInt (hL9006 129 24 rfl).1); have := bd_129_5 hI9005; have := bd_129_5 hI; have := (congrArg Int32.toInt (hL9006 129 5 rfl).1); have := bd_129_6 hI9005; have := bd_129_6 hI; have := (congrArg Int32.toInt (hL9006 129 6 rfl).1); have := bd_129_4 hI; have := (by decide : ((1000 : Int32)).toInt = 1000); have := (by decide : ((40 : Int32)).toInt = 40); have := ti_sub2 (by decide : ((1 : Int32)).toInt = 1) (Eq.refl (w9004.1 129 12).toInt) (by omega) (by omega); have := ti_mul2 (by decide : ((40 : Int32)).toInt = 40) (Eq.refl ((1 : Int32) - (w9004.1 129 12)).toInt) (by omega) (by omega); have := ti_add2 (Eq.refl ((40 : Int32) * ((1 : Int32) - (w9004.1 129 12))).toInt) (Eq.refl (w9004.1 129 24).toInt) (by omega) (by omega); have := ti_dec (1000 : Int32) (by omega); exact ⟨by omega, by omega, by omega, by omega, by omega, by omega, by omega, by omega⟩
        refine hq_Tx_tell_49 FU _ w9004 hI9005  o9015.1 o9015.2.1 o9015.2.2.1 o9015.2.2.2.1 o9015.2.2.2.2.1 o9015.2.2.2.2.2.1 o9015.2.2.2.2.2.2.1 o9015.2.2.2.2.2.2.2 (fu_lt (by have := bd_129_12 hI9005; have := bd_129_12 hI; have := (congrArg Int32.toInt (hL9006 129 12 rfl).1); have := bd_129_24 hI9005; have := bd_129_24 hI; have := (congrArg Int32.toInt (hL9006 129 24 rfl).1); have := bd_129_5 hI9005; have := bd_129_5 hI; have := (congrArg Int32.toInt (hL9006 129 5 rfl).1); have := bd_129_4 hI; have := bd_129_6 hI; have := (by decide : ((1000 : Int32)).toInt = 1000); have := (by decide : ((40 : Int32)).toInt = 40); have := ti_sub2 (by decide : ((1 : Int32)).toInt = 1) (Eq.refl (w9004.1 129 12).toInt) (by omega) (by omega); have := ti_mul2 (by decide : ((40 : Int32)).toInt = 40) (Eq.refl ((1 : Int32) - (w9004.1 129 12)).toInt) (by omega) (by omega); have := ti_add2 (Eq.refl ((40 : Int32) * ((1 : Int32) - (w9004.1 129 12))).toInt) (Eq.refl (w9004.1 129 24).toInt) (by omega) (by omega); have := ti_dec (1000 : Int32) (by omega); omega)) (fun w9016 hI9017 hL9018  => ?_) (fun r w9 hI9 hF9 q0 => q0.elim)
        have hF9019 : FR l_Tx_tell w w9016 := hF9010.tr hL9018 rfl
        have o9020 : 0 ≤ (((40 : Int32) * ((1 : Int32) - (w9004.1 129 12))) + (w9004.1 129 24)).toInt ∧ (((40 : Int32) * ((1 : Int32) - (w9004.1 129 12))) + (w9004.1 129 24)).toInt < 80 := by have := bd_129_12 hI9005; have := bd_129_12 hI; have := (congrArg Int32.toInt (hL9006 129 12 rfl).1); have := bd_129_24 hI9005; have := bd_129_24 hI; have := (congrArg Int32.toInt (hL9006 129 24 rfl).1); have := (by decide : ((40 : Int32)).toInt = 40); have := ti_sub2 (by decide : ((1 : Int32)).toInt = 1) (Eq.refl (w9004.1 129 12).toInt) (by omega) (by omega); have := ti_mul2 (by decide : ((40 : Int32)).toInt = 40) (Eq.refl ((1 : Int32) - (w9004.1 129 12)).toInt) (by omega) (by omega); have := ti_add2 (Eq.refl ((40 : Int32) * ((1 : Int32) - (w9004.1 129 12))).toInt) (Eq.refl (w9004.1 129 24).toInt) (by omega) (by omega); omega
        refine ⟨o9020, ?_⟩
        have o9021 : 0 ≤ (((40 : Int32) * ((1 : Int32) - (w9004.1 129 12))) + (w9004.1 129 24)).toInt ∧ (((40 : Int32) * ((1 : Int32) - (w9004.1 129 12))) + (w9004.1 129 24)).toInt < 80 := by have := bd_129_12 hI9005; have := bd_129_12 hI; have := (congrArg Int32.toInt (hL9006 129 12 rfl).1); have := bd_129_24 hI9005; have := bd_129_24 hI; have := (congrArg Int32.toInt (hL9006 129 24 rfl).1); have := (by decide : ((40 : Int32)).toInt = 40); have := ti_sub2 (by decide : ((1 : Int32)).toInt = 1) (Eq.refl (w9004.1 129 12).toInt) (by omega) (by omega); have := ti_mul2 (by decide : ((40 : Int32)).toInt = 40) (Eq.refl ((1 : Int32) - (w9004.1 129 12)).toInt) (by omega) (by omega); have := ti_add2 (Eq.refl ((40 : Int32) * ((1 : Int32) - (w9004.1 129 12))).toInt) (Eq.refl (w9004.1 129 24).toInt) (by omega) (by omega); omega
        refine ⟨o9021, ?_⟩
        have o9022 : 0 ≤ (((40 : Int32) * ((1 : Int32) - (w9004.1 129 12))) + (w9004.1 129 24)).toInt ∧ (((40 : Int32) * ((1 : Int32) - (w9004.1 129 12))) + (w9004.1 129 24)).toInt < 80 := by have := bd_129_12 hI9005; have := bd_129_12 hI; have := (congrArg Int32.toInt (hL9006 129 12 rfl).1); have := bd_129_24 hI9005; have := bd_129_24 hI; have := (congrArg Int32.toInt (hL9006 129 24 rfl).1); have := (by decide : ((40 : Int32)).toInt = 40); have := ti_sub2 (by decide : ((1 : Int32)).toInt = 1) (Eq.refl (w9004.1 129 12).toInt) (by omega) (by omega); have := ti_mul2 (by decide : ((40 : Int32)).toInt = 40) (Eq.refl ((1 : Int32) - (w9004.1 129 12)).toInt) (by omega) (by omega); have := ti_add2 (Eq.refl ((40 : Int32) * ((1 : Int32) - (w9004.1 129 12))).toInt) (Eq.refl (w9004.1 129 24).toInt) (by omega) (by omega); omega
        refine ⟨o9022, ?_⟩
        have o9023 : 0 ≤ (((40 : Int32) * ((1 : Int32) - (w9004.1 129 12))) + (w9004.1 129 24)).toInt ∧ (((40 : Int32) * ((1 : Int32) - (w9004.1 129 12))) + (w9004.1 129 24)).toInt < 80 := by have := bd_129_12 hI9005; have := bd_129_12 hI; have := (congrArg Int32.toInt (hL9006 129 12 rfl).1); have := bd_129_24 hI9005; have := bd_129_24 hI; have := (congrArg Int32.toInt (hL9006 129 24 rfl).1); have := (by decide : ((40 : Int32)).toInt = 40); have := ti_sub2 (by decide : ((1 : Int32)).toInt = 1) (Eq.refl (w9004.1 129 12).toInt) (by omega) (by omega); have := ti_mul2 (by decide : ((40 : Int32)).toInt = 40) (Eq.refl ((1 : Int32) - (w9004.1 129 12)).toInt) (by omega) (by omega); have := ti_add2 (Eq.refl ((40 : Int32) * ((1 : Int32) - (w9004.1 129 12))).toInt) (Eq.refl (w9004.1 129 24).toInt) (by omega) (by omega); omega
        refine ⟨o9023, ?_⟩
        have o9025 : 0 ≤ ((w9016.1 129 6) - (w9016.1 129 5)).toInt ∧ ((w9016.1 129 6) - (w9016.1 129 5)).toInt ≤ 12 := by have := bd_129_6 hI9017; have := bd_129_6 hI9005; have := bd_129_6 hI; have := (congrArg Int32.toInt (hL9006 129 6 rfl).1); have := (congrArg Int32.toInt (hL9018 129 6 rfl).1); have := bd_129_5 hI9017; have := bd_129_5 hI9005; have := bd_129_5 hI; have := (congrArg Int32.toInt (hL9006 129 5 rfl).1); have := (congrArg Int32.toInt (hL9018 129 5 rfl).1); have := bd_129_4 hI; have := (by decide : ((1000 : Int32)).toInt = 1000); have := ti_sub2 (Eq.refl (w9016.1 129 6).toInt) (Eq.refl (w9016.1 129 5).toInt) (by omega) (by omega); have := ti_dec (1000 : Int32) (by omega); omega
        have hI9024 : BND (sI w9016 140 ((((40 : Int32) * ((1 : Int32) - (w9004.1 129 12))) + (w9004.1 129 24)).toInt.toNat) ((w9016.1 129 6) - (w9016.1 129 5))) := wbd_140 hI9017 ((((40 : Int32) * ((1 : Int32) - (w9004.1 129 12))) + (w9004.1 129 24)).toInt.toNat) o9025.1 o9025.2
        have hI9026 : BND (sI (sI w9016 140 ((((40 : Int32) * ((1 : Int32) - (w9004.1 129 12))) + (w9004.1 129 24)).toInt.toNat) ((w9016.1 129 6) - (w9016.1 129 5))) 141 ((((40 : Int32) * ((1 : Int32) - (w9004.1 129 12))) + (w9004.1 129 24)).toInt.toNat) a0) := wbd_141 hI9024 ((((40 : Int32) * ((1 : Int32) - (w9004.1 129 12))) + (w9004.1 129 24)).toInt.toNat)
        have hI9027 : BND (sI (sI (sI w9016 140 ((((40 : Int32) * ((1 : Int32) - (w9004.1 129 12))) + (w9004.1 129 24)).toInt.toNat) ((w9016.1 129 6) - (w9016.1 129 5))) 141 ((((40 : Int32) * ((1 : Int32) - (w9004.1 129 12))) + (w9004.1 129 24)).toInt.toNat) a0) 142 ((((40 : Int32) * ((1 : Int32) - (w9004.1 129 12))) + (w9004.1 129 24)).toInt.toNat) 0) := wbd_142 hI9026 ((((40 : Int32) * ((1 : Int32) - (w9004.1 129 12))) + (w9004.1 129 24)).toInt.toNat) (by decide) (by decide)
        have hI9028 : BND (sI (sI (sI (sI w9016 140 ((((40 : Int32) * ((1 : Int32) - (w9004.1 129 12))) + (w9004.1 129 24)).toInt.toNat) ((w9016.1 129 6) - (w9016.1 129 5))) 141 ((((40 : Int32) * ((1 : Int32) - (w9004.1 129 12))) + (w9004.1 129 24)).toInt.toNat) a0) 142 ((((40 : Int32) * ((1 : Int32) - (w9004.1 129 12))) + (w9004.1 129 24)).toInt.toNat) 0) 143 ((((40 : Int32) * ((1 : Int32) - (w9004.1 129 12))) + (w9004.1 129 24)).toInt.toNat) (-1)) := wbd_143 hI9027 ((((40 : Int32) * ((1 : Int32) - (w9004.1 129 12))) + (w9004.1 129 24)).toInt.toNat) (by decide) (by decide)
        have o9030 : 0 ≤ ((w9016.1 129 24) + (1 : Int32)).toInt ∧ ((w9016.1 129 24) + (1 : Int32)).toInt ≤ 40 := by have := bd_129_24 hI9017; have := bd_129_24 hI9005; have := bd_129_24 hI; have := (congrArg Int32.toInt (hL9006 129 24 rfl).1); have := (congrArg Int32.toInt (hL9018 129 24 rfl).1); have := (by decide : ((40 : Int32)).toInt = 40); have := ti_add2 (Eq.refl (w9016.1 129 24).toInt) (by decide : ((1 : Int32)).toInt = 1) (by omega) (by omega); omega
        have hI9029 : BND (sI (sI (sI (sI (sI w9016 140 ((((40 : Int32) * ((1 : Int32) - (w9004.1 129 12))) + (w9004.1 129 24)).toInt.toNat) ((w9016.1 129 6) - (w9016.1 129 5))) 141 ((((40 : Int32) * ((1 : Int32) - (w9004.1 129 12))) + (w9004.1 129 24)).toInt.toNat) a0) 142 ((((40 : Int32) * ((1 : Int32) - (w9004.1 129 12))) + (w9004.1 129 24)).toInt.toNat) 0) 143 ((((40 : Int32) * ((1 : Int32) - (w9004.1 129 12))) + (w9004.1 129 24)).toInt.toNat) (-1)) 129 24 ((w9016.1 129 24) + (1 : Int32))) := wbd_129_24 hI9028 o9030.1 o9030.2
        have o9031 : ((-1) ≤ (((w9016.1 129 24) + (1 : Int32)) - (1 : Int32)).toInt) ∧ ((((w9016.1 129 24) + (1 : Int32)) - (1 : Int32)).toInt ≤ 39) ∧ ((((w9016.1 129 24) + (1 : Int32)) - (1 : Int32)).toInt < 0 ∨ ((sI (sI (sI (sI (sI w9016 140 ((((40 : Int32) * ((1 : Int32) - (w9004.1 129 12))) + (w9004.1 129 24)).toInt.toNat) ((w9016.1 129 6) - (w9016.1 129 5))) 141 ((((40 : Int32) * ((1 : Int32) - (w9004.1 129 12))) + (w9004.1 129 24)).toInt.toNat) a0) 142 ((((40 : Int32) * ((1 : Int32) - (w9004.1 129 12))) + (w9004.1 129 24)).toInt.toNat) 0) 143 ((((40 : Int32) * ((1 : Int32) - (w9004.1 129 12))) + (w9004.1 129 24)).toInt.toNat) (-1)) 129 24 ((w9016.1 129 24) + (1 : Int32))).1 129 24).toInt = (w.1 129 24).toInt + 1) ∧ ((w.1 129 24).toInt ≤ ((sI (sI (sI (sI (sI w9016 140 ((((40 : Int32) * ((1 : Int32) - (w9004.1 129 12))) + (w9004.1 129 24)).toInt.toNat) ((w9016.1 129 6) - (w9016.1 129 5))) 141 ((((40 : Int32) * ((1 : Int32) - (w9004.1 129 12))) + (w9004.1 129 24)).toInt.toNat) a0) 142 ((((40 : Int32) * ((1 : Int32) - (w9004.1 129 12))) + (w9004.1 129 24)).toInt.toNat) 0) 143 ((((40 : Int32) * ((1 : Int32) - (w9004.1 129 12))) + (w9004.1 129 24)).toInt.toNat) (-1)) 129 24 ((w9016.1 129 24) + (1 : Int32))).1 129 24).toInt) := by have := bd_129_24 hI9017; have := bd_129_24 hI9005; have := bd_129_24 hI; have := (congrArg Int32.toInt (hL9006 129 24 rfl).1); have := (congrArg Int32.toInt (hL9018 129 24 rfl).1); have : ((sI (sI (sI (sI (sI w9016 140 ((((40 : Int32) * ((1 : Int32) - (w9004.1 129 12))) + (w9004.1 129 24)).toInt.toNat) ((w9016.1 129 6) - (w9016.1 129 5))) 141 ((((40 : Int32) * ((1 : Int32) - (w9004.1 129 12))) + (w9004.1 129 24)).toInt.toNat) a0) 142 ((((40 : Int32) * ((1 : Int32) - (w9004.1 129 12))) + (w9004.1 129 24)).toInt.toNat) 0) 143 ((((40 : Int32) * ((1 : Int32) - (w9004.1 129 12))) + (w9004.1 129 24)).toInt.toNat) (-1)) 129 24 ((w9016.1 129 24) + (1 : Int32))).1 129 24).toInt = ((w9016.1 129 24) + (1 : Int32)).toInt := rfl; have := (by decide : ((40 : Int32)).toInt = 40); have := ti_add2 (Eq.refl (w9016.1 129 24).toInt) (by decide : ((1 : Int32)).toInt = 1) (by omega) (by omega); have := ti_sub2 (Eq.refl ((w9016.1 129 24) + (1 : Int32)).toInt) (by decide : ((1 : Int32)).toInt = 1) (by omega) (by omega); exact ⟨by omega, by omega, by omega, by omega⟩
        exact hQ _ _ hI9029 (FR.I (FR.I (FR.I (FR.I (FR.I hF9019 (k := 140) (j := (((40 : Int32) * ((1 : Int32) - (w9004.1 129 12))) + (w9004.1 129 24)).toInt.toNat) (v := ((w9016.1 129 6) - (w9016.1 129 5))) rfl) (k := 141) (j := (((40 : Int32) * ((1 : Int32) - (w9004.1 129 12))) + (w9004.1 129 24)).toInt.toNat) (v := a0) rfl) (k := 142) (j := (((40 : Int32) * ((1 : Int32) - (w9004.1 129 12))) + (w9004.1 129 24)).toInt.toNat) (v := 0) rfl) (k := 143) (j := (((40 : Int32) * ((1 : Int32) - (w9004.1 129 12))) + (w9004.1 129 24)).toInt.toNat) (v := (-1)) rfl) (k := 129) (j := 24) (v := ((w9016.1 129 24) + (1 : Int32))) rfl)  o9031.1 o9031.2.1 o9031.2.2.1 o9031.2.2.2
      · refine Eq.mpr (p_Tx_bad.eq_1 _ _) ?_
        have hI9032 : BND (sI w9004 129 10 (w9004.1 129 5)) := wbd_129_10 hI9005
        have o9033 : ((-1) ≤ ((-1) : Int32).toInt) ∧ (((-1) : Int32).toInt ≤ 39) ∧ (((-1) : Int32).toInt < 0 ∨ ((sI w9004 129 10 (w9004.1 129 5)).1 129 24).toInt = (w.1 129 24).toInt + 1) ∧ ((w.1 129 24).toInt ≤ ((sI w9004 129 10 (w9004.1 129 5)).1 129 24).toInt) := by have := (by decide : (((-1) : Int32)).toInt = (-1)); have := bd_129_24 hI9005; have := bd_129_24 hI; have := (congrArg Int32.toInt (hL9006 129 24 rfl).1); have : ((sI w9004 129 10 (w9004.1 129 5)).1 129 24).toInt = (w9004.1 129 24).toInt := rfl; have := bd_129_4 hI; have := bd_129_5 hI; have := bd_129_6 hI; have := (by decide : ((1000 : Int32)).toInt = 1000); have := (by decide : ((40 : Int32)).toInt = 40); have := ti_dec (1000 : Int32) (by omega); exact ⟨by omega, by omega, by omega, by omega⟩
        exact hQ _ _ hI9032 (FR.I hF9010 (k := 129) (j := 10) (v := (w9004.1 129 5)) rfl)  o9033.1 o9033.2.1 o9033.2.2.1 o9033.2.2.2
def l_Tx_unit : Pl := [(129, some 1), (130, none)]
set_option maxRecDepth 20000 in
set_option maxHeartbeats 2000000 in
theorem h_Tx_unit {w : MW} {a0 : Int32} {Q : Int32 → MW → Prop} (hI : BND w) (hp0 : (-128) ≤ a0.toInt) (hp1 : a0.toInt ≤ 127) (hQ : ∀ (r : Int32) (w' : MW), BND w' → FR l_Tx_unit w w' → 0 ≤ r.toInt → r.toInt ≤ 1 → Q r w') : p_Tx_unit w a0 Q := by
  refine Eq.mpr (p_Tx_unit.eq_1 _ _ _) ?_
  refine ⟨fun h9034 => ?_, fun h9034 => ?_⟩
  · have o9035 : (0 ≤ (0 : Int32).toInt) ∧ ((0 : Int32).toInt ≤ 1) := by have := (by decide : ((0 : Int32)).toInt = 0); exact ⟨by omega, by omega⟩
    exact hQ _ _ hI (FR.refl _ w)  o9035.1 o9035.2
  · refine ⟨fun h9036 => ?_, fun h9036 => ?_⟩
    · exfalso; have := (by decide : ((1 : Int32)).toInt = 1); have := (by decide : ((127 : Int32)).toInt = 127); omega
    · refine ⟨fun h9037 => ?_, fun h9037 => ?_⟩
      · have o9038 : 0 ≤ (w.1 129 1).toInt ∧ (w.1 129 1).toInt < 4020 := by have := bd_129_1 hI; have := (by decide : ((4020 : Int32)).toInt = 4020); omega
        refine ⟨o9038, ?_⟩
        have o9040 : (-128) ≤ (vp_nar .byte ((Int32.toInt8 a0).toInt32)).toInt ∧ (vp_nar .byte ((Int32.toInt8 a0).toInt32)).toInt ≤ 127 := by have := (by decide : ((1 : Int32)).toInt = 1); have := (by decide : ((127 : Int32)).toInt = 127); have := nb_i2beq (x := a0) (by omega) (by omega); have := nb_byteq (x := ((Int32.toInt8 a0).toInt32)) (by omega) (by omega); omega
        have hI9039 : BND (sI w 130 ((w.1 129 1).toInt.toNat) (vp_nar .byte ((Int32.toInt8 a0).toInt32))) := wbd_130 hI ((w.1 129 1).toInt.toNat) o9040.1 o9040.2
        have o9042 : 0 ≤ ((w.1 129 1) + (1 : Int32)).toInt ∧ ((w.1 129 1) + (1 : Int32)).toInt ≤ 4020 := by have := bd_129_1 hI; have := (by decide : ((4020 : Int32)).toInt = 4020); have := ti_add2 (Eq.refl (w.1 129 1).toInt) (by decide : ((1 : Int32)).toInt = 1) (by omega) (by omega); omega
        have hI9041 : BND (sI (sI w 130 ((w.1 129 1).toInt.toNat) (vp_nar .byte ((Int32.toInt8 a0).toInt32))) 129 1 ((w.1 129 1) + (1 : Int32))) := wbd_129_1 hI9039 o9042.1 o9042.2
        have o9043 : (0 ≤ (1 : Int32).toInt) ∧ ((1 : Int32).toInt ≤ 1) := by have := (by decide : ((1 : Int32)).toInt = 1); exact ⟨by omega, by omega⟩
        exact hQ _ _ hI9041 (FR.I (FR.I (FR.refl _ w) (k := 130) (j := (w.1 129 1).toInt.toNat) (v := (vp_nar .byte ((Int32.toInt8 a0).toInt32))) rfl) (k := 129) (j := 1) (v := ((w.1 129 1) + (1 : Int32))) rfl)  o9043.1 o9043.2
      · have o9044 : (0 ≤ (0 : Int32).toInt) ∧ ((0 : Int32).toInt ≤ 1) := by have := (by decide : ((0 : Int32)).toInt = 0); exact ⟨by omega, by omega⟩
        exact hQ _ _ hI (FR.refl _ w)  o9044.1 o9044.2
def l_Mo_say_2 : Pl := [(127, some 83), (127, some 84)]
def l_Mo_say : Pl := [(127, some 83), (127, some 84)]
set_option maxRecDepth 20000 in
set_option maxHeartbeats 2000000 in
theorem hq_Mo_say_2 {E : MW → Prop} {Q : MW → Prop} (n : Nat) : ∀ (x2_3 : Int64) (w : MW), BND w → 0 ≤ x2_3.toInt → x2_3.toInt ≤ 435778511222 → (x2_3.toInt - 0).toNat < n → (∀ (w' : MW), BND w' → FR l_Mo_say_2 w w' → E w') → (∀ (w' : MW), BND w' → FR l_Mo_say_2 w w' → False → Q w') → q_Mo_say_2 E Q n x2_3 w := by
  induction n with
  | zero => intros; omega
  | succ n ih =>
    intro x2_3 w hI  hp0 hp1 hm hE hQ
    rw [q_Mo_say_2.eq_2]
    refine ⟨fun h9045 => ?_, fun h9045 => ?_⟩
    · exact hE _ hI (FR.refl _ w)
    · refine Eq.mpr (p_Mo_letter.eq_1 _ _ _) ?_
      refine ⟨fun h9046 => ?_, fun h9046 => ?_⟩
      · have hI9047 : BND (sI w 127 84 (w.1 127 84)) := wbd_127_84 hI
        have hI9048 : BND (sI (sI w 127 84 (w.1 127 84)) 127 83 ((w.1 127 83) - (1 : Int32))) := wbd_127_83 hI9047
        have o9049 : (0 ≤ ((x2_3.toUInt64 >>> ((8 : Int32).toInt64.toUInt64 &&& Int64.toUInt64 63)).toInt64).toInt) ∧ (((x2_3.toUInt64 >>> ((8 : Int32).toInt64.toUInt64 &&& Int64.toUInt64 63)).toInt64).toInt ≤ 435778511222) := by have := nb_cmp x2_3 (0 : Int64); have := (by decide : ((0 : Int64)).toInt = 0); have := (by decide : ((0 : Int32)).toInt = 0); have := nb_lushr8 x2_3 (by omega); exact ⟨by omega, by omega⟩
        exact ih _ (sI (sI w 127 84 (w.1 127 84)) 127 83 ((w.1 127 83) - (1 : Int32))) hI9048  o9049.1 o9049.2 (by have := nb_cmp x2_3 (0 : Int64); have := (by decide : ((0 : Int64)).toInt = 0); have := (by decide : ((0 : Int32)).toInt = 0); have := nb_lushr8 x2_3 (by omega); omega) (fun w9 hI9 hF9 => hE w9 hI9 ((FR.I (FR.I (FR.refl _ w) (k := 127) (j := 84) (v := (w.1 127 84)) rfl) (k := 127) (j := 83) (v := ((w.1 127 83) - (1 : Int32))) rfl).tr hF9 rfl) ) (fun w9 hI9 hF9 q0 => q0.elim)
      · have hI9050 : BND (sI w 127 84 (Int64.toInt32 (x2_3 &&& (255 : Int64)))) := wbd_127_84 hI
        have hI9051 : BND (sI (sI w 127 84 (Int64.toInt32 (x2_3 &&& (255 : Int64)))) 127 83 ((w.1 127 83) - (1 : Int32))) := wbd_127_83 hI9050
        have o9052 : (0 ≤ ((x2_3.toUInt64 >>> ((8 : Int32).toInt64.toUInt64 &&& Int64.toUInt64 63)).toInt64).toInt) ∧ (((x2_3.toUInt64 >>> ((8 : Int32).toInt64.toUInt64 &&& Int64.toUInt64 63)).toInt64).toInt ≤ 435778511222) := by have := nb_cmp x2_3 (0 : Int64); have := (by decide : ((0 : Int64)).toInt = 0); have := (by decide : ((0 : Int32)).toInt = 0); have := nb_lushr8 x2_3 (by omega); exact ⟨by omega, by omega⟩
        exact ih _ (sI (sI w 127 84 (Int64.toInt32 (x2_3 &&& (255 : Int64)))) 127 83 ((w.1 127 83) - (1 : Int32))) hI9051  o9052.1 o9052.2 (by have := nb_cmp x2_3 (0 : Int64); have := (by decide : ((0 : Int64)).toInt = 0); have := (by decide : ((0 : Int32)).toInt = 0); have := nb_lushr8 x2_3 (by omega); omega) (fun w9 hI9 hF9 => hE w9 hI9 ((FR.I (FR.I (FR.refl _ w) (k := 127) (j := 84) (v := (Int64.toInt32 (x2_3 &&& (255 : Int64)))) rfl) (k := 127) (j := 83) (v := ((w.1 127 83) - (1 : Int32))) rfl).tr hF9 rfl) ) (fun w9 hI9 hF9 q0 => q0.elim)
set_option maxRecDepth 20000 in
set_option maxHeartbeats 2000000 in
theorem h_Mo_say {w : MW} {a0 : Int64} {Q : MW → Prop} (hI : BND w) (hp0 : 1701865840 ≤ a0.toInt) (hp1 : a0.toInt ≤ 435778511222) (hQ : ∀ (w' : MW), BND w' → FR l_Mo_say w w' → Q w') : p_Mo_say w a0 Q := by
  refine Eq.mpr (p_Mo_say.eq_1 _ _ _) ?_
  have o9053 : (0 ≤ a0.toInt) ∧ (a0.toInt ≤ 435778511222) := by exact ⟨by omega, by omega⟩
  refine hq_Mo_say_2 FU _ w hI  o9053.1 o9053.2 (fu_lt (by omega)) (fun w9054 hI9055 hL9056  => ?_) (fun w9 hI9 hF9 q0 => q0.elim)
  have hF9057 : FR l_Mo_say w w9054 := (FR.refl _ w).tr hL9056 rfl
  exact hQ _ hI9055 hF9057 
def l_Mo_sayNumber_19 : Pl := []
def l_Mo_sayNumber_37 : Pl := [(127, some 83), (127, some 84)]
def l_Mo_sayNumber : Pl := [(127, some 83), (127, some 84)]
set_option maxRecDepth 20000 in
set_option maxHeartbeats 2000000 in
theorem hq_Mo_sayNumber_19 {x19_1 : Int32} {E : Int32 → MW → Prop} {Q : MW → Prop} (n : Nat) : ∀ (x19_2 : Int32) (w : MW), BND w → 0 ≤ x19_1.toInt → x19_1.toInt ≤ 100000 → 1 ≤ x19_2.toInt → x19_2.toInt ≤ 1000000 → (1000000 - x19_2.toInt).toNat < n → (∀ (e19_2 : Int32) (w' : MW), BND w' → FR l_Mo_sayNumber_19 w w' → 1 ≤ e19_2.toInt → e19_2.toInt ≤ 1000000 → E e19_2 w') → (∀ (w' : MW), BND w' → FR l_Mo_sayNumber_19 w w' → False → Q w') → q_Mo_sayNumber_19 x19_1 E Q n x19_2 w := by
  induction n with
  | zero => intros; omega
  | succ n ih =>
    intro x19_2 w hI  hp0 hp1 hp2 hp3 hm hE hQ
    rw [q_Mo_sayNumber_19.eq_2]
    have o9058 : ¬ x19_2.toInt = 0 := by omega
    refine ⟨o9058, ?_⟩
    refine ⟨fun h9059 => ?_, fun h9059 => ?_⟩
    · have o9060 : (1 ≤ x19_2.toInt) ∧ (x19_2.toInt ≤ 1000000) := by have := (by decide : ((10 : Int32)).toInt = 10); have := nb_divb (x := x19_1) (y := x19_2) (by omega) (by omega); have := nb_div10 (x := x19_1) (y := x19_2) (by omega) (by omega); exact ⟨by omega, by omega⟩
      exact hE _ _ hI (FR.refl _ w) o9060.1 o9060.2
    · have o9061 : (0 ≤ x19_1.toInt) ∧ (x19_1.toInt ≤ 100000) ∧ (1 ≤ (x19_2 * (10 : Int32)).toInt) ∧ ((x19_2 * (10 : Int32)).toInt ≤ 1000000) := by have := (by decide : ((10 : Int32)).toInt = 10); have := ti_mul2 (Eq.refl x19_2.toInt) (by decide : ((10 : Int32)).toInt = 10) (by omega) (by omega); have := nb_divb (x := x19_1) (y := x19_2) (by omega) (by omega); have := nb_div10 (x := x19_1) (y := x19_2) (by omega) (by omega); exact ⟨by omega, by omega, by omega, by omega⟩
      exact ih _ w hI  o9061.1 o9061.2.1 o9061.2.2.1 o9061.2.2.2 (by have := (by decide : ((10 : Int32)).toInt = 10); have := ti_mul2 (Eq.refl x19_2.toInt) (by decide : ((10 : Int32)).toInt = 10) (by omega) (by omega); have := nb_divb (x := x19_1) (y := x19_2) (by omega) (by omega); have := nb_div10 (x := x19_1) (y := x19_2) (by omega) (by omega); omega) (fun e0 w9 hI9 hF9 p0 p1 => hE e0 w9 hI9 ((FR.refl _ w).tr hF9 rfl) p0 p1 ) (fun w9 hI9 hF9 q0 => q0.elim)
set_option maxRecDepth 20000 in
set_option maxHeartbeats 2000000 in
theorem hq_Mo_sayNumber_37 {x37_1 : Int32} {E : MW → Prop} {Q : MW → Prop} (n : Nat) : ∀ (x37_3 : Int32) (w : MW), BND w → 0 ≤ x37_1.toInt → x37_1.toInt ≤ 100000 → 0 ≤ x37_3.toInt → x37_3.toInt ≤ 1000000 → (x37_3.toInt - 0).toNat < n → (∀ (w' : MW), BND w' → FR l_Mo_sayNumber_37 w w' → E w') → (∀ (w' : MW), BND w' → FR l_Mo_sayNumber_37 w w' → False → Q w') → q_Mo_sayNumber_37 x37_1 E Q n x37_3 w := by
  induction n with
  | zero => intros; omega
  | succ n ih =>
    intro x37_3 w hI  hp0 hp1 hp2 hp3 hm hE hQ
    rw [q_Mo_sayNumber_37.eq_2]
    refine ⟨fun h9062 => ?_, fun h9062 => ?_⟩
    · exact hE _ hI (FR.refl _ w)
    · have o9063 : ¬ x37_3.toInt = 0 := by have := (by decide : ((0 : Int32)).toInt = 0); omega
      refine ⟨o9063, ?_⟩
      refine Eq.mpr (p_Mo_letter.eq_1 _ _ _) ?_
      refine ⟨fun h9064 => ?_, fun h9064 => ?_⟩
      · have hI9065 : BND (sI w 127 84 (w.1 127 84)) := wbd_127_84 hI
        have hI9066 : BND (sI (sI w 127 84 (w.1 127 84)) 127 83 ((w.1 127 83) - (1 : Int32))) := wbd_127_83 hI9065
        have o9067 : (0 ≤ x37_1.toInt) ∧ (x37_1.toInt ≤ 100000) ∧ (0 ≤ (x37_3 / (10 : Int32)).toInt) ∧ ((x37_3 / (10 : Int32)).toInt ≤ 1000000) := by have := (by decide : ((0 : Int32)).toInt = 0); have := nb_div (x := x37_3) (by omega) (by decide : ((10 : Int32)).toInt = 10) (by decide); exact ⟨by omega, by omega, by omega, by omega⟩
        exact ih _ (sI (sI w 127 84 (w.1 127 84)) 127 83 ((w.1 127 83) - (1 : Int32))) hI9066  o9067.1 o9067.2.1 o9067.2.2.1 o9067.2.2.2 (by have := (by decide : ((0 : Int32)).toInt = 0); have := nb_div (x := x37_3) (by omega) (by decide : ((10 : Int32)).toInt = 10) (by decide); omega) (fun w9 hI9 hF9 => hE w9 hI9 ((FR.I (FR.I (FR.refl _ w) (k := 127) (j := 84) (v := (w.1 127 84)) rfl) (k := 127) (j := 83) (v := ((w.1 127 83) - (1 : Int32))) rfl).tr hF9 rfl) ) (fun w9 hI9 hF9 q0 => q0.elim)
      · have hI9068 : BND (sI w 127 84 ((48 : Int32) + ((x37_1 / x37_3) - (x37_1 / x37_3) / (10 : Int32) * (10 : Int32)))) := wbd_127_84 hI
        have hI9069 : BND (sI (sI w 127 84 ((48 : Int32) + ((x37_1 / x37_3) - (x37_1 / x37_3) / (10 : Int32) * (10 : Int32)))) 127 83 ((w.1 127 83) - (1 : Int32))) := wbd_127_83 hI9068
        have o9070 : (0 ≤ x37_1.toInt) ∧ (x37_1.toInt ≤ 100000) ∧ (0 ≤ (x37_3 / (10 : Int32)).toInt) ∧ ((x37_3 / (10 : Int32)).toInt ≤ 1000000) := by have := (by decide : ((0 : Int32)).toInt = 0); have := nb_div (x := x37_3) (by omega) (by decide : ((10 : Int32)).toInt = 10) (by decide); exact ⟨by omega, by omega, by omega, by omega⟩
        exact ih _ (sI (sI w 127 84 ((48 : Int32) + ((x37_1 / x37_3) - (x37_1 / x37_3) / (10 : Int32) * (10 : Int32)))) 127 83 ((w.1 127 83) - (1 : Int32))) hI9069  o9070.1 o9070.2.1 o9070.2.2.1 o9070.2.2.2 (by have := (by decide : ((0 : Int32)).toInt = 0); have := nb_div (x := x37_3) (by omega) (by decide : ((10 : Int32)).toInt = 10) (by decide); omega) (fun w9 hI9 hF9 => hE w9 hI9 ((FR.I (FR.I (FR.refl _ w) (k := 127) (j := 84) (v := ((48 : Int32) + ((x37_1 / x37_3) - (x37_1 / x37_3) / (10 : Int32) * (10 : Int32)))) rfl) (k := 127) (j := 83) (v := ((w.1 127 83) - (1 : Int32))) rfl).tr hF9 rfl) ) (fun w9 hI9 hF9 q0 => q0.elim)
set_option maxRecDepth 20000 in
set_option maxHeartbeats 2000000 in
theorem h_Mo_sayNumber {w : MW} {a0 : Int32} {Q : MW → Prop} (hI : BND w) (hp0 : (-1) ≤ a0.toInt) (hp1 : a0.toInt ≤ 100000) (hQ : ∀ (w' : MW), BND w' → FR l_Mo_sayNumber w w' → Q w') : p_Mo_sayNumber w a0 Q := by
  refine Eq.mpr (p_Mo_sayNumber.eq_1 _ _ _) ?_
  refine Eq.mpr (p_Mo_letter.eq_1 _ _ _) ?_
  refine ⟨fun h9071 => ?_, fun h9071 => ?_⟩
  · refine ⟨fun h9072 => ?_, fun h9072 => ?_⟩
    · have hI9073 : BND (sI w 127 84 (w.1 127 84)) := wbd_127_84 hI
      have hI9074 : BND (sI (sI w 127 84 (w.1 127 84)) 127 83 ((w.1 127 83) - (1 : Int32))) := wbd_127_83 hI9073
      have o9075 : (0 ≤ a0.toInt) ∧ (a0.toInt ≤ 100000) ∧ (1 ≤ (1 : Int32).toInt) ∧ ((1 : Int32).toInt ≤ 1000000) := by have := (by decide : ((1 : Int32)).toInt = 1); have := (by decide : ((0 : Int32)).toInt = 0); exact ⟨by omega, by omega, by omega, by omega⟩
      refine hq_Mo_sayNumber_19 FU _ (sI (sI w 127 84 (w.1 127 84)) 127 83 ((w.1 127 83) - (1 : Int32))) hI9074  o9075.1 o9075.2.1 o9075.2.2.1 o9075.2.2.2 (fu_lt (by have := (by decide : ((1 : Int32)).toInt = 1); have := (by decide : ((0 : Int32)).toInt = 0); omega)) (fun e9079 w9076 hI9077 hL9078 p9080 p9081 => ?_) (fun w9 hI9 hF9 q0 => q0.elim)
      have hF9082 : FR l_Mo_sayNumber w w9076 := (FR.I (FR.I (FR.refl _ w) (k := 127) (j := 84) (v := (w.1 127 84)) rfl) (k := 127) (j := 83) (v := ((w.1 127 83) - (1 : Int32))) rfl).tr hL9078 rfl
      have o9083 : (0 ≤ a0.toInt) ∧ (a0.toInt ≤ 100000) ∧ (0 ≤ e9079.toInt) ∧ (e9079.toInt ≤ 1000000) := by have := (by decide : ((0 : Int32)).toInt = 0); exact ⟨by omega, by omega, by omega, by omega⟩
      refine hq_Mo_sayNumber_37 FU _ w9076 hI9077  o9083.1 o9083.2.1 o9083.2.2.1 o9083.2.2.2 (fu_lt (by have := (by decide : ((0 : Int32)).toInt = 0); omega)) (fun w9084 hI9085 hL9086  => ?_) (fun w9 hI9 hF9 q0 => q0.elim)
      have hF9087 : FR l_Mo_sayNumber w w9084 := hF9082.tr hL9086 rfl
      exact hQ _ hI9085 hF9087 
    · refine Eq.mpr (p_Mo_letter.eq_1 _ _ _) ?_
      refine ⟨fun h9088 => ?_, fun h9088 => ?_⟩
      · have hI9089 : BND (sI w 127 84 (w.1 127 84)) := wbd_127_84 hI
        have hI9090 : BND (sI (sI w 127 84 (w.1 127 84)) 127 83 ((w.1 127 83) - (1 : Int32))) := wbd_127_83 hI9089
        have hI9091 : BND (sI (sI (sI w 127 84 (w.1 127 84)) 127 83 ((w.1 127 83) - (1 : Int32))) 127 84 ((sI (sI w 127 84 (w.1 127 84)) 127 83 ((w.1 127 83) - (1 : Int32))).1 127 84)) := wbd_127_84 hI9090
        have hI9092 : BND (sI (sI (sI (sI w 127 84 (w.1 127 84)) 127 83 ((w.1 127 83) - (1 : Int32))) 127 84 ((sI (sI w 127 84 (w.1 127 84)) 127 83 ((w.1 127 83) - (1 : Int32))).1 127 84)) 127 83 (((sI (sI w 127 84 (w.1 127 84)) 127 83 ((w.1 127 83) - (1 : Int32))).1 127 83) - (1 : Int32))) := wbd_127_83 hI9091
        exact hQ _ hI9092 (FR.I (FR.I (FR.I (FR.I (FR.refl _ w) (k := 127) (j := 84) (v := (w.1 127 84)) rfl) (k := 127) (j := 83) (v := ((w.1 127 83) - (1 : Int32))) rfl) (k := 127) (j := 84) (v := ((sI (sI w 127 84 (w.1 127 84)) 127 83 ((w.1 127 83) - (1 : Int32))).1 127 84)) rfl) (k := 127) (j := 83) (v := (((sI (sI w 127 84 (w.1 127 84)) 127 83 ((w.1 127 83) - (1 : Int32))).1 127 83) - (1 : Int32))) rfl) 
      · have hI9093 : BND (sI w 127 84 (w.1 127 84)) := wbd_127_84 hI
        have hI9094 : BND (sI (sI w 127 84 (w.1 127 84)) 127 83 ((w.1 127 83) - (1 : Int32))) := wbd_127_83 hI9093
        have hI9095 : BND (sI (sI (sI w 127 84 (w.1 127 84)) 127 83 ((w.1 127 83) - (1 : Int32))) 127 84 45) := wbd_127_84 hI9094
        have hI9096 : BND (sI (sI (sI (sI w 127 84 (w.1 127 84)) 127 83 ((w.1 127 83) - (1 : Int32))) 127 84 45) 127 83 (((sI (sI w 127 84 (w.1 127 84)) 127 83 ((w.1 127 83) - (1 : Int32))).1 127 83) - (1 : Int32))) := wbd_127_83 hI9095
        exact hQ _ hI9096 (FR.I (FR.I (FR.I (FR.I (FR.refl _ w) (k := 127) (j := 84) (v := (w.1 127 84)) rfl) (k := 127) (j := 83) (v := ((w.1 127 83) - (1 : Int32))) rfl) (k := 127) (j := 84) (v := 45) rfl) (k := 127) (j := 83) (v := (((sI (sI w 127 84 (w.1 127 84)) 127 83 ((w.1 127 83) - (1 : Int32))).1 127 83) - (1 : Int32))) rfl) 
  · refine ⟨fun h9097 => ?_, fun h9097 => ?_⟩
    · have hI9098 : BND (sI w 127 84 32) := wbd_127_84 hI
      have hI9099 : BND (sI (sI w 127 84 32) 127 83 ((w.1 127 83) - (1 : Int32))) := wbd_127_83 hI9098
      have o9100 : (0 ≤ a0.toInt) ∧ (a0.toInt ≤ 100000) ∧ (1 ≤ (1 : Int32).toInt) ∧ ((1 : Int32).toInt ≤ 1000000) := by have := (by decide : ((1 : Int32)).toInt = 1); have := (by decide : ((0 : Int32)).toInt = 0); exact ⟨by omega, by omega, by omega, by omega⟩
      refine hq_Mo_sayNumber_19 FU _ (sI (sI w 127 84 32) 127 83 ((w.1 127 83) - (1 : Int32))) hI9099  o9100.1 o9100.2.1 o9100.2.2.1 o9100.2.2.2 (fu_lt (by have := (by decide : ((1 : Int32)).toInt = 1); have := (by decide : ((0 : Int32)).toInt = 0); omega)) (fun e9104 w9101 hI9102 hL9103 p9105 p9106 => ?_) (fun w9 hI9 hF9 q0 => q0.elim)
      have hF9107 : FR l_Mo_sayNumber w w9101 := (FR.I (FR.I (FR.refl _ w) (k := 127) (j := 84) (v := 32) rfl) (k := 127) (j := 83) (v := ((w.1 127 83) - (1 : Int32))) rfl).tr hL9103 rfl
      have o9108 : (0 ≤ a0.toInt) ∧ (a0.toInt ≤ 100000) ∧ (0 ≤ e9104.toInt) ∧ (e9104.toInt ≤ 1000000) := by have := (by decide : ((0 : Int32)).toInt = 0); exact ⟨by omega, by omega, by omega, by omega⟩
      refine hq_Mo_sayNumber_37 FU _ w9101 hI9102  o9108.1 o9108.2.1 o9108.2.2.1 o9108.2.2.2 (fu_lt (by have := (by decide : ((0 : Int32)).toInt = 0); omega)) (fun w9109 hI9110 hL9111  => ?_) (fun w9 hI9 hF9 q0 => q0.elim)
      have hF9112 : FR l_Mo_sayNumber w w9109 := hF9107.tr hL9111 rfl
      exact hQ _ hI9110 hF9112 
    · refine Eq.mpr (p_Mo_letter.eq_1 _ _ _) ?_
      refine ⟨fun h9113 => ?_, fun h9113 => ?_⟩
      · have hI9114 : BND (sI w 127 84 32) := wbd_127_84 hI
        have hI9115 : BND (sI (sI w 127 84 32) 127 83 ((w.1 127 83) - (1 : Int32))) := wbd_127_83 hI9114
        have hI9116 : BND (sI (sI (sI w 127 84 32) 127 83 ((w.1 127 83) - (1 : Int32))) 127 84 ((sI (sI w 127 84 32) 127 83 ((w.1 127 83) - (1 : Int32))).1 127 84)) := wbd_127_84 hI9115
        have hI9117 : BND (sI (sI (sI (sI w 127 84 32) 127 83 ((w.1 127 83) - (1 : Int32))) 127 84 ((sI (sI w 127 84 32) 127 83 ((w.1 127 83) - (1 : Int32))).1 127 84)) 127 83 (((sI (sI w 127 84 32) 127 83 ((w.1 127 83) - (1 : Int32))).1 127 83) - (1 : Int32))) := wbd_127_83 hI9116
        exact hQ _ hI9117 (FR.I (FR.I (FR.I (FR.I (FR.refl _ w) (k := 127) (j := 84) (v := 32) rfl) (k := 127) (j := 83) (v := ((w.1 127 83) - (1 : Int32))) rfl) (k := 127) (j := 84) (v := ((sI (sI w 127 84 32) 127 83 ((w.1 127 83) - (1 : Int32))).1 127 84)) rfl) (k := 127) (j := 83) (v := (((sI (sI w 127 84 32) 127 83 ((w.1 127 83) - (1 : Int32))).1 127 83) - (1 : Int32))) rfl) 
      · exfalso; have := (by decide : ((0 : Int32)).toInt = 0); have : ((sI (sI w 127 84 32) 127 83 ((w.1 127 83) - (1 : Int32))).1 127 83).toInt = ((w.1 127 83) - (1 : Int32)).toInt := rfl; have := ti_sub2 (Eq.refl (w.1 127 83).toInt) (by decide : ((1 : Int32)).toInt = 1) (by omega) (by omega); omega
def l_Mo_write_59 : Pl := [(127, some 83), (127, some 84)]
def l_Mo_write_12 : Pl := [(127, some 83), (127, some 84)]
def l_Mo_write_116 : Pl := [(127, some 83), (127, some 84)]
def l_Mo_write : Pl := [(127, some 83), (127, some 84)]
set_option maxRecDepth 20000 in
set_option maxHeartbeats 2000000 in
theorem hq_Mo_write_12 {x12_1 : Int32} {E : MW → Prop} {Q : Int32 → MW → Prop} (n : Nat) : ∀ (x12_2 : Int32) (w : MW), BND w → 0 ≤ x12_2.toInt → x12_2.toInt ≤ 20 → (20 - x12_2.toInt).toNat < n → (∀ (w' : MW), BND w' → FR l_Mo_write_12 w w' → E w') → (∀ (r : Int32) (w' : MW), BND w' → FR l_Mo_write_12 w w' → False → Q r w') → q_Mo_write_12 x12_1 E Q n x12_2 w := by
  induction n with
  | zero => intros; omega
  | succ n ih =>
    intro x12_2 w hI  hp0 hp1 hm hE hQ
    rw [q_Mo_write_12.eq_2]
    refine ⟨fun h9118 => ?_, fun h9118 => ?_⟩
    · exact hE _ hI (FR.refl _ w)
    · refine ⟨fun h9119 => ?_, fun h9119 => ?_⟩
      · exact hE _ hI (FR.refl _ w)
      · have o9120 : 0 ≤ x12_2.toInt ∧ x12_2.toInt < 20 := by have := bd_127_4 hI; omega
        refine ⟨o9120, ?_⟩
        refine ⟨fun h9121 => ?_, fun h9121 => ?_⟩
        · have o9122 : 0 ≤ x12_2.toInt ∧ x12_2.toInt < 20 := by have := bd_127_4 hI; omega
          refine ⟨o9122, ?_⟩
          refine ⟨fun h9123 => ?_, fun h9123 => ?_⟩
          · refine Eq.mpr (q_Mo_write_59.eq_1 _ _ _ _ _ _ _) ?_
            have o9124 : (1701865840 ≤ (435778511222 : Int64).toInt) ∧ ((435778511222 : Int64).toInt ≤ 435778511222) := by have := (by decide : ((435778511222 : Int64)).toInt = 435778511222); exact ⟨by omega, by omega⟩
            refine h_Mo_say hI  o9124.1 o9124.2 (fun w9125 hI9126 hL9127  => ?_)
            have hF9129 : FR l_Mo_write_12 w w9125 := (FR.refl _ w).tr hL9127 rfl
            have o9130 : 0 ≤ x12_2.toInt ∧ x12_2.toInt < 20 := by have := bd_127_4 hI; omega
            refine ⟨o9130, ?_⟩
            refine ⟨fun h9131 => ?_, fun h9131 => ?_⟩
            · refine Eq.mpr (p_Mo_letter.eq_1 _ _ _) ?_
              refine ⟨fun h9132 => ?_, fun h9132 => ?_⟩
              · have hI9133 : BND (sI w9125 127 84 (w9125.1 127 84)) := wbd_127_84 hI9126
                have hI9134 : BND (sI (sI w9125 127 84 (w9125.1 127 84)) 127 83 ((w9125.1 127 83) - (1 : Int32))) := wbd_127_83 hI9133
                have o9135 : (0 ≤ (x12_2 + (1 : Int32)).toInt) ∧ ((x12_2 + (1 : Int32)).toInt ≤ 20) := by have := bd_127_4 hI; have := ti_add2 (Eq.refl x12_2.toInt) (by decide : ((1 : Int32)).toInt = 1) (by omega) (by omega); exact ⟨by omega, by omega⟩
                exact ih _ (sI (sI w9125 127 84 (w9125.1 127 84)) 127 83 ((w9125.1 127 83) - (1 : Int32))) hI9134  o9135.1 o9135.2 (by have := bd_127_4 hI; have := ti_add2 (Eq.refl x12_2.toInt) (by decide : ((1 : Int32)).toInt = 1) (by omega) (by omega); omega) (fun w9 hI9 hF9 => hE w9 hI9 ((FR.I (FR.I hF9129 (k := 127) (j := 84) (v := (w9125.1 127 84)) rfl) (k := 127) (j := 83) (v := ((w9125.1 127 83) - (1 : Int32))) rfl).tr hF9 rfl) ) (fun r w9 hI9 hF9 q0 => q0.elim)
              · have hI9136 : BND (sI w9125 127 84 10) := wbd_127_84 hI9126
                have hI9137 : BND (sI (sI w9125 127 84 10) 127 83 ((w9125.1 127 83) - (1 : Int32))) := wbd_127_83 hI9136
                have o9138 : (0 ≤ (x12_2 + (1 : Int32)).toInt) ∧ ((x12_2 + (1 : Int32)).toInt ≤ 20) := by have := bd_127_4 hI; have := ti_add2 (Eq.refl x12_2.toInt) (by decide : ((1 : Int32)).toInt = 1) (by omega) (by omega); exact ⟨by omega, by omega⟩
                exact ih _ (sI (sI w9125 127 84 10) 127 83 ((w9125.1 127 83) - (1 : Int32))) hI9137  o9138.1 o9138.2 (by have := bd_127_4 hI; have := ti_add2 (Eq.refl x12_2.toInt) (by decide : ((1 : Int32)).toInt = 1) (by omega) (by omega); omega) (fun w9 hI9 hF9 => hE w9 hI9 ((FR.I (FR.I hF9129 (k := 127) (j := 84) (v := 10) rfl) (k := 127) (j := 83) (v := ((w9125.1 127 83) - (1 : Int32))) rfl).tr hF9 rfl) ) (fun r w9 hI9 hF9 q0 => q0.elim)
            · have o9139 : 0 ≤ x12_2.toInt ∧ x12_2.toInt < 20 := by have := bd_127_4 hI; omega
              refine ⟨o9139, ?_⟩
              refine ⟨fun h9140 => ?_, fun h9140 => ?_⟩
              · have o9141 : 0 ≤ x12_2.toInt ∧ x12_2.toInt < 20 := by have := bd_127_4 hI; omega
                refine ⟨o9141, ?_⟩
                have o9142 : ((-1) ≤ ((w9125.1 163 x12_2.toInt.toNat) - (2 : Int32)).toInt) ∧ (((w9125.1 163 x12_2.toInt.toNat) - (2 : Int32)).toInt ≤ 100000) := by have := bd_163 hI9126 x12_2.toInt.toNat; have := bd_163 hI x12_2.toInt.toNat; have := (congrArg Int32.toInt (hL9127 163 x12_2.toInt.toNat rfl).1); have := (by decide : ((0 : Int32)).toInt = 0); have := (by decide : ((1 : Int32)).toInt = 1); have := ti_sub2 (Eq.refl (w9125.1 163 x12_2.toInt.toNat).toInt) (by decide : ((2 : Int32)).toInt = 2) (by omega) (by omega); exact ⟨by omega, by omega⟩
                refine h_Mo_sayNumber hI9126  o9142.1 o9142.2 (fun w9143 hI9144 hL9145  => ?_)
                have hF9147 : FR l_Mo_write_12 w w9143 := hF9129.tr hL9145 rfl
                refine Eq.mpr (p_Mo_letter.eq_1 _ _ _) ?_
                refine ⟨fun h9148 => ?_, fun h9148 => ?_⟩
                · have hI9149 : BND (sI w9143 127 84 (w9143.1 127 84)) := wbd_127_84 hI9144
                  have hI9150 : BND (sI (sI w9143 127 84 (w9143.1 127 84)) 127 83 ((w9143.1 127 83) - (1 : Int32))) := wbd_127_83 hI9149
                  have o9151 : (0 ≤ (x12_2 + (1 : Int32)).toInt) ∧ ((x12_2 + (1 : Int32)).toInt ≤ 20) := by have := bd_127_4 hI; have := ti_add2 (Eq.refl x12_2.toInt) (by decide : ((1 : Int32)).toInt = 1) (by omega) (by omega); exact ⟨by omega, by omega⟩
                  exact ih _ (sI (sI w9143 127 84 (w9143.1 127 84)) 127 83 ((w9143.1 127 83) - (1 : Int32))) hI9150  o9151.1 o9151.2 (by have := bd_127_4 hI; have := ti_add2 (Eq.refl x12_2.toInt) (by decide : ((1 : Int32)).toInt = 1) (by omega) (by omega); omega) (fun w9 hI9 hF9 => hE w9 hI9 ((FR.I (FR.I hF9147 (k := 127) (j := 84) (v := (w9143.1 127 84)) rfl) (k := 127) (j := 83) (v := ((w9143.1 127 83) - (1 : Int32))) rfl).tr hF9 rfl) ) (fun r w9 hI9 hF9 q0 => q0.elim)
                · have hI9152 : BND (sI w9143 127 84 10) := wbd_127_84 hI9144
                  have hI9153 : BND (sI (sI w9143 127 84 10) 127 83 ((w9143.1 127 83) - (1 : Int32))) := wbd_127_83 hI9152
                  have o9154 : (0 ≤ (x12_2 + (1 : Int32)).toInt) ∧ ((x12_2 + (1 : Int32)).toInt ≤ 20) := by have := bd_127_4 hI; have := ti_add2 (Eq.refl x12_2.toInt) (by decide : ((1 : Int32)).toInt = 1) (by omega) (by omega); exact ⟨by omega, by omega⟩
                  exact ih _ (sI (sI w9143 127 84 10) 127 83 ((w9143.1 127 83) - (1 : Int32))) hI9153  o9154.1 o9154.2 (by have := bd_127_4 hI; have := ti_add2 (Eq.refl x12_2.toInt) (by decide : ((1 : Int32)).toInt = 1) (by omega) (by omega); omega) (fun w9 hI9 hF9 => hE w9 hI9 ((FR.I (FR.I hF9147 (k := 127) (j := 84) (v := 10) rfl) (k := 127) (j := 83) (v := ((w9143.1 127 83) - (1 : Int32))) rfl).tr hF9 rfl) ) (fun r w9 hI9 hF9 q0 => q0.elim)
              · have o9155 : 0 ≤ x12_2.toInt ∧ x12_2.toInt < 20 := by have := bd_127_4 hI; omega
                refine ⟨o9155, ?_⟩
                have o9156 : ((-1) ≤ (w9125.1 164 x12_2.toInt.toNat).toInt) ∧ ((w9125.1 164 x12_2.toInt.toNat).toInt ≤ 100000) := by have := bd_164 hI9126 x12_2.toInt.toNat; have := bd_164 hI x12_2.toInt.toNat; have := (congrArg Int32.toInt (hL9127 164 x12_2.toInt.toNat rfl).1); exact ⟨by omega, by omega⟩
                refine h_Mo_sayNumber hI9126  o9156.1 o9156.2 (fun w9157 hI9158 hL9159  => ?_)
                have hF9161 : FR l_Mo_write_12 w w9157 := hF9129.tr hL9159 rfl
                refine Eq.mpr (p_Mo_letter.eq_1 _ _ _) ?_
                refine ⟨fun h9162 => ?_, fun h9162 => ?_⟩
                · have hI9163 : BND (sI w9157 127 84 (w9157.1 127 84)) := wbd_127_84 hI9158
                  have hI9164 : BND (sI (sI w9157 127 84 (w9157.1 127 84)) 127 83 ((w9157.1 127 83) - (1 : Int32))) := wbd_127_83 hI9163
                  have o9165 : (0 ≤ (x12_2 + (1 : Int32)).toInt) ∧ ((x12_2 + (1 : Int32)).toInt ≤ 20) := by have := bd_127_4 hI; have := ti_add2 (Eq.refl x12_2.toInt) (by decide : ((1 : Int32)).toInt = 1) (by omega) (by omega); exact ⟨by omega, by omega⟩
                  exact ih _ (sI (sI w9157 127 84 (w9157.1 127 84)) 127 83 ((w9157.1 127 83) - (1 : Int32))) hI9164  o9165.1 o9165.2 (by have := bd_127_4 hI; have := ti_add2 (Eq.refl x12_2.toInt) (by decide : ((1 : Int32)).toInt = 1) (by omega) (by omega); omega) (fun w9 hI9 hF9 => hE w9 hI9 ((FR.I (FR.I hF9161 (k := 127) (j := 84) (v := (w9157.1 127 84)) rfl) (k := 127) (j := 83) (v := ((w9157.1 127 83) - (1 : Int32))) rfl).tr hF9 rfl) ) (fun r w9 hI9 hF9 q0 => q0.elim)
                · have hI9166 : BND (sI w9157 127 84 10) := wbd_127_84 hI9158
                  have hI9167 : BND (sI (sI w9157 127 84 10) 127 83 ((w9157.1 127 83) - (1 : Int32))) := wbd_127_83 hI9166
                  have o9168 : (0 ≤ (x12_2 + (1 : Int32)).toInt) ∧ ((x12_2 + (1 : Int32)).toInt ≤ 20) := by have := bd_127_4 hI; have := ti_add2 (Eq.refl x12_2.toInt) (by decide : ((1 : Int32)).toInt = 1) (by omega) (by omega); exact ⟨by omega, by omega⟩
                  exact ih _ (sI (sI w9157 127 84 10) 127 83 ((w9157.1 127 83) - (1 : Int32))) hI9167  o9168.1 o9168.2 (by have := bd_127_4 hI; have := ti_add2 (Eq.refl x12_2.toInt) (by decide : ((1 : Int32)).toInt = 1) (by omega) (by omega); omega) (fun w9 hI9 hF9 => hE w9 hI9 ((FR.I (FR.I hF9161 (k := 127) (j := 84) (v := 10) rfl) (k := 127) (j := 83) (v := ((w9157.1 127 83) - (1 : Int32))) rfl).tr hF9 rfl) ) (fun r w9 hI9 hF9 q0 => q0.elim)
          · refine Eq.mpr (q_Mo_write_59.eq_1 _ _ _ _ _ _ _) ?_
            have o9169 : (1701865840 ≤ (1886221680 : Int64).toInt) ∧ ((1886221680 : Int64).toInt ≤ 435778511222) := by have := (by decide : ((1886221680 : Int64)).toInt = 1886221680); exact ⟨by omega, by omega⟩
            refine h_Mo_say hI  o9169.1 o9169.2 (fun w9170 hI9171 hL9172  => ?_)
            have hF9174 : FR l_Mo_write_12 w w9170 := (FR.refl _ w).tr hL9172 rfl
            have o9175 : 0 ≤ x12_2.toInt ∧ x12_2.toInt < 20 := by have := bd_127_4 hI; omega
            refine ⟨o9175, ?_⟩
            refine ⟨fun h9176 => ?_, fun h9176 => ?_⟩
            · refine Eq.mpr (p_Mo_letter.eq_1 _ _ _) ?_
              refine ⟨fun h9177 => ?_, fun h9177 => ?_⟩
              · have hI9178 : BND (sI w9170 127 84 (w9170.1 127 84)) := wbd_127_84 hI9171
                have hI9179 : BND (sI (sI w9170 127 84 (w9170.1 127 84)) 127 83 ((w9170.1 127 83) - (1 : Int32))) := wbd_127_83 hI9178
                have o9180 : (0 ≤ (x12_2 + (1 : Int32)).toInt) ∧ ((x12_2 + (1 : Int32)).toInt ≤ 20) := by have := bd_127_4 hI; have := ti_add2 (Eq.refl x12_2.toInt) (by decide : ((1 : Int32)).toInt = 1) (by omega) (by omega); exact ⟨by omega, by omega⟩
                exact ih _ (sI (sI w9170 127 84 (w9170.1 127 84)) 127 83 ((w9170.1 127 83) - (1 : Int32))) hI9179  o9180.1 o9180.2 (by have := bd_127_4 hI; have := ti_add2 (Eq.refl x12_2.toInt) (by decide : ((1 : Int32)).toInt = 1) (by omega) (by omega); omega) (fun w9 hI9 hF9 => hE w9 hI9 ((FR.I (FR.I hF9174 (k := 127) (j := 84) (v := (w9170.1 127 84)) rfl) (k := 127) (j := 83) (v := ((w9170.1 127 83) - (1 : Int32))) rfl).tr hF9 rfl) ) (fun r w9 hI9 hF9 q0 => q0.elim)
              · have hI9181 : BND (sI w9170 127 84 10) := wbd_127_84 hI9171
                have hI9182 : BND (sI (sI w9170 127 84 10) 127 83 ((w9170.1 127 83) - (1 : Int32))) := wbd_127_83 hI9181
                have o9183 : (0 ≤ (x12_2 + (1 : Int32)).toInt) ∧ ((x12_2 + (1 : Int32)).toInt ≤ 20) := by have := bd_127_4 hI; have := ti_add2 (Eq.refl x12_2.toInt) (by decide : ((1 : Int32)).toInt = 1) (by omega) (by omega); exact ⟨by omega, by omega⟩
                exact ih _ (sI (sI w9170 127 84 10) 127 83 ((w9170.1 127 83) - (1 : Int32))) hI9182  o9183.1 o9183.2 (by have := bd_127_4 hI; have := ti_add2 (Eq.refl x12_2.toInt) (by decide : ((1 : Int32)).toInt = 1) (by omega) (by omega); omega) (fun w9 hI9 hF9 => hE w9 hI9 ((FR.I (FR.I hF9174 (k := 127) (j := 84) (v := 10) rfl) (k := 127) (j := 83) (v := ((w9170.1 127 83) - (1 : Int32))) rfl).tr hF9 rfl) ) (fun r w9 hI9 hF9 q0 => q0.elim)
            · have o9184 : 0 ≤ x12_2.toInt ∧ x12_2.toInt < 20 := by have := bd_127_4 hI; omega
              refine ⟨o9184, ?_⟩
              refine ⟨fun h9185 => ?_, fun h9185 => ?_⟩
              · have o9186 : 0 ≤ x12_2.toInt ∧ x12_2.toInt < 20 := by have := bd_127_4 hI; omega
                refine ⟨o9186, ?_⟩
                have o9187 : ((-1) ≤ ((w9170.1 163 x12_2.toInt.toNat) - (2 : Int32)).toInt) ∧ (((w9170.1 163 x12_2.toInt.toNat) - (2 : Int32)).toInt ≤ 100000) := by have := bd_163 hI9171 x12_2.toInt.toNat; have := bd_163 hI x12_2.toInt.toNat; have := (congrArg Int32.toInt (hL9172 163 x12_2.toInt.toNat rfl).1); have := (by decide : ((0 : Int32)).toInt = 0); have := (by decide : ((1 : Int32)).toInt = 1); have := ti_sub2 (Eq.refl (w9170.1 163 x12_2.toInt.toNat).toInt) (by decide : ((2 : Int32)).toInt = 2) (by omega) (by omega); exact ⟨by omega, by omega⟩
                refine h_Mo_sayNumber hI9171  o9187.1 o9187.2 (fun w9188 hI9189 hL9190  => ?_)
                have hF9192 : FR l_Mo_write_12 w w9188 := hF9174.tr hL9190 rfl
                refine Eq.mpr (p_Mo_letter.eq_1 _ _ _) ?_
                refine ⟨fun h9193 => ?_, fun h9193 => ?_⟩
                · have hI9194 : BND (sI w9188 127 84 (w9188.1 127 84)) := wbd_127_84 hI9189
                  have hI9195 : BND (sI (sI w9188 127 84 (w9188.1 127 84)) 127 83 ((w9188.1 127 83) - (1 : Int32))) := wbd_127_83 hI9194
                  have o9196 : (0 ≤ (x12_2 + (1 : Int32)).toInt) ∧ ((x12_2 + (1 : Int32)).toInt ≤ 20) := by have := bd_127_4 hI; have := ti_add2 (Eq.refl x12_2.toInt) (by decide : ((1 : Int32)).toInt = 1) (by omega) (by omega); exact ⟨by omega, by omega⟩
                  exact ih _ (sI (sI w9188 127 84 (w9188.1 127 84)) 127 83 ((w9188.1 127 83) - (1 : Int32))) hI9195  o9196.1 o9196.2 (by have := bd_127_4 hI; have := ti_add2 (Eq.refl x12_2.toInt) (by decide : ((1 : Int32)).toInt = 1) (by omega) (by omega); omega) (fun w9 hI9 hF9 => hE w9 hI9 ((FR.I (FR.I hF9192 (k := 127) (j := 84) (v := (w9188.1 127 84)) rfl) (k := 127) (j := 83) (v := ((w9188.1 127 83) - (1 : Int32))) rfl).tr hF9 rfl) ) (fun r w9 hI9 hF9 q0 => q0.elim)
                · have hI9197 : BND (sI w9188 127 84 10) := wbd_127_84 hI9189
                  have hI9198 : BND (sI (sI w9188 127 84 10) 127 83 ((w9188.1 127 83) - (1 : Int32))) := wbd_127_83 hI9197
                  have o9199 : (0 ≤ (x12_2 + (1 : Int32)).toInt) ∧ ((x12_2 + (1 : Int32)).toInt ≤ 20) := by have := bd_127_4 hI; have := ti_add2 (Eq.refl x12_2.toInt) (by decide : ((1 : Int32)).toInt = 1) (by omega) (by omega); exact ⟨by omega, by omega⟩
                  exact ih _ (sI (sI w9188 127 84 10) 127 83 ((w9188.1 127 83) - (1 : Int32))) hI9198  o9199.1 o9199.2 (by have := bd_127_4 hI; have := ti_add2 (Eq.refl x12_2.toInt) (by decide : ((1 : Int32)).toInt = 1) (by omega) (by omega); omega) (fun w9 hI9 hF9 => hE w9 hI9 ((FR.I (FR.I hF9192 (k := 127) (j := 84) (v := 10) rfl) (k := 127) (j := 83) (v := ((w9188.1 127 83) - (1 : Int32))) rfl).tr hF9 rfl) ) (fun r w9 hI9 hF9 q0 => q0.elim)
              · have o9200 : 0 ≤ x12_2.toInt ∧ x12_2.toInt < 20 := by have := bd_127_4 hI; omega
                refine ⟨o9200, ?_⟩
                have o9201 : ((-1) ≤ (w9170.1 164 x12_2.toInt.toNat).toInt) ∧ ((w9170.1 164 x12_2.toInt.toNat).toInt ≤ 100000) := by have := bd_164 hI9171 x12_2.toInt.toNat; have := bd_164 hI x12_2.toInt.toNat; have := (congrArg Int32.toInt (hL9172 164 x12_2.toInt.toNat rfl).1); exact ⟨by omega, by omega⟩
                refine h_Mo_sayNumber hI9171  o9201.1 o9201.2 (fun w9202 hI9203 hL9204  => ?_)
                have hF9206 : FR l_Mo_write_12 w w9202 := hF9174.tr hL9204 rfl
                refine Eq.mpr (p_Mo_letter.eq_1 _ _ _) ?_
                refine ⟨fun h9207 => ?_, fun h9207 => ?_⟩
                · have hI9208 : BND (sI w9202 127 84 (w9202.1 127 84)) := wbd_127_84 hI9203
                  have hI9209 : BND (sI (sI w9202 127 84 (w9202.1 127 84)) 127 83 ((w9202.1 127 83) - (1 : Int32))) := wbd_127_83 hI9208
                  have o9210 : (0 ≤ (x12_2 + (1 : Int32)).toInt) ∧ ((x12_2 + (1 : Int32)).toInt ≤ 20) := by have := bd_127_4 hI; have := ti_add2 (Eq.refl x12_2.toInt) (by decide : ((1 : Int32)).toInt = 1) (by omega) (by omega); exact ⟨by omega, by omega⟩
                  exact ih _ (sI (sI w9202 127 84 (w9202.1 127 84)) 127 83 ((w9202.1 127 83) - (1 : Int32))) hI9209  o9210.1 o9210.2 (by have := bd_127_4 hI; have := ti_add2 (Eq.refl x12_2.toInt) (by decide : ((1 : Int32)).toInt = 1) (by omega) (by omega); omega) (fun w9 hI9 hF9 => hE w9 hI9 ((FR.I (FR.I hF9206 (k := 127) (j := 84) (v := (w9202.1 127 84)) rfl) (k := 127) (j := 83) (v := ((w9202.1 127 83) - (1 : Int32))) rfl).tr hF9 rfl) ) (fun r w9 hI9 hF9 q0 => q0.elim)
                · have hI9211 : BND (sI w9202 127 84 10) := wbd_127_84 hI9203
                  have hI9212 : BND (sI (sI w9202 127 84 10) 127 83 ((w9202.1 127 83) - (1 : Int32))) := wbd_127_83 hI9211
                  have o9213 : (0 ≤ (x12_2 + (1 : Int32)).toInt) ∧ ((x12_2 + (1 : Int32)).toInt ≤ 20) := by have := bd_127_4 hI; have := ti_add2 (Eq.refl x12_2.toInt) (by decide : ((1 : Int32)).toInt = 1) (by omega) (by omega); exact ⟨by omega, by omega⟩
                  exact ih _ (sI (sI w9202 127 84 10) 127 83 ((w9202.1 127 83) - (1 : Int32))) hI9212  o9213.1 o9213.2 (by have := bd_127_4 hI; have := ti_add2 (Eq.refl x12_2.toInt) (by decide : ((1 : Int32)).toInt = 1) (by omega) (by omega); omega) (fun w9 hI9 hF9 => hE w9 hI9 ((FR.I (FR.I hF9206 (k := 127) (j := 84) (v := 10) rfl) (k := 127) (j := 83) (v := ((w9202.1 127 83) - (1 : Int32))) rfl).tr hF9 rfl) ) (fun r w9 hI9 hF9 q0 => q0.elim)
        · refine Eq.mpr (q_Mo_write_59.eq_1 _ _ _ _ _ _ _) ?_
          have o9214 : (1701865840 ≤ (1802396020 : Int64).toInt) ∧ ((1802396020 : Int64).toInt ≤ 435778511222) := by have := (by decide : ((1802396020 : Int64)).toInt = 1802396020); exact ⟨by omega, by omega⟩
          refine h_Mo_say hI  o9214.1 o9214.2 (fun w9215 hI9216 hL9217  => ?_)
          have hF9219 : FR l_Mo_write_12 w w9215 := (FR.refl _ w).tr hL9217 rfl
          have o9220 : 0 ≤ x12_2.toInt ∧ x12_2.toInt < 20 := by have := bd_127_4 hI; omega
          refine ⟨o9220, ?_⟩
          refine ⟨fun h9221 => ?_, fun h9221 => ?_⟩
          · refine Eq.mpr (p_Mo_letter.eq_1 _ _ _) ?_
            refine ⟨fun h9222 => ?_, fun h9222 => ?_⟩
            · have hI9223 : BND (sI w9215 127 84 (w9215.1 127 84)) := wbd_127_84 hI9216
              have hI9224 : BND (sI (sI w9215 127 84 (w9215.1 127 84)) 127 83 ((w9215.1 127 83) - (1 : Int32))) := wbd_127_83 hI9223
              have o9225 : (0 ≤ (x12_2 + (1 : Int32)).toInt) ∧ ((x12_2 + (1 : Int32)).toInt ≤ 20) := by have := bd_127_4 hI; have := ti_add2 (Eq.refl x12_2.toInt) (by decide : ((1 : Int32)).toInt = 1) (by omega) (by omega); exact ⟨by omega, by omega⟩
              exact ih _ (sI (sI w9215 127 84 (w9215.1 127 84)) 127 83 ((w9215.1 127 83) - (1 : Int32))) hI9224  o9225.1 o9225.2 (by have := bd_127_4 hI; have := ti_add2 (Eq.refl x12_2.toInt) (by decide : ((1 : Int32)).toInt = 1) (by omega) (by omega); omega) (fun w9 hI9 hF9 => hE w9 hI9 ((FR.I (FR.I hF9219 (k := 127) (j := 84) (v := (w9215.1 127 84)) rfl) (k := 127) (j := 83) (v := ((w9215.1 127 83) - (1 : Int32))) rfl).tr hF9 rfl) ) (fun r w9 hI9 hF9 q0 => q0.elim)
            · have hI9226 : BND (sI w9215 127 84 10) := wbd_127_84 hI9216
              have hI9227 : BND (sI (sI w9215 127 84 10) 127 83 ((w9215.1 127 83) - (1 : Int32))) := wbd_127_83 hI9226
              have o9228 : (0 ≤ (x12_2 + (1 : Int32)).toInt) ∧ ((x12_2 + (1 : Int32)).toInt ≤ 20) := by have := bd_127_4 hI; have := ti_add2 (Eq.refl x12_2.toInt) (by decide : ((1 : Int32)).toInt = 1) (by omega) (by omega); exact ⟨by omega, by omega⟩
              exact ih _ (sI (sI w9215 127 84 10) 127 83 ((w9215.1 127 83) - (1 : Int32))) hI9227  o9228.1 o9228.2 (by have := bd_127_4 hI; have := ti_add2 (Eq.refl x12_2.toInt) (by decide : ((1 : Int32)).toInt = 1) (by omega) (by omega); omega) (fun w9 hI9 hF9 => hE w9 hI9 ((FR.I (FR.I hF9219 (k := 127) (j := 84) (v := 10) rfl) (k := 127) (j := 83) (v := ((w9215.1 127 83) - (1 : Int32))) rfl).tr hF9 rfl) ) (fun r w9 hI9 hF9 q0 => q0.elim)
          · have o9229 : 0 ≤ x12_2.toInt ∧ x12_2.toInt < 20 := by have := bd_127_4 hI; omega
            refine ⟨o9229, ?_⟩
            refine ⟨fun h9230 => ?_, fun h9230 => ?_⟩
            · have o9231 : 0 ≤ x12_2.toInt ∧ x12_2.toInt < 20 := by have := bd_127_4 hI; omega
              refine ⟨o9231, ?_⟩
              have o9232 : ((-1) ≤ ((w9215.1 163 x12_2.toInt.toNat) - (2 : Int32)).toInt) ∧ (((w9215.1 163 x12_2.toInt.toNat) - (2 : Int32)).toInt ≤ 100000) := by have := bd_163 hI9216 x12_2.toInt.toNat; have := bd_163 hI x12_2.toInt.toNat; have := (congrArg Int32.toInt (hL9217 163 x12_2.toInt.toNat rfl).1); have := (by decide : ((0 : Int32)).toInt = 0); have := (by decide : ((1 : Int32)).toInt = 1); have := ti_sub2 (Eq.refl (w9215.1 163 x12_2.toInt.toNat).toInt) (by decide : ((2 : Int32)).toInt = 2) (by omega) (by omega); exact ⟨by omega, by omega⟩
              refine h_Mo_sayNumber hI9216  o9232.1 o9232.2 (fun w9233 hI9234 hL9235  => ?_)
              have hF9237 : FR l_Mo_write_12 w w9233 := hF9219.tr hL9235 rfl
              refine Eq.mpr (p_Mo_letter.eq_1 _ _ _) ?_
              refine ⟨fun h9238 => ?_, fun h9238 => ?_⟩
              · have hI9239 : BND (sI w9233 127 84 (w9233.1 127 84)) := wbd_127_84 hI9234
                have hI9240 : BND (sI (sI w9233 127 84 (w9233.1 127 84)) 127 83 ((w9233.1 127 83) - (1 : Int32))) := wbd_127_83 hI9239
                have o9241 : (0 ≤ (x12_2 + (1 : Int32)).toInt) ∧ ((x12_2 + (1 : Int32)).toInt ≤ 20) := by have := bd_127_4 hI; have := ti_add2 (Eq.refl x12_2.toInt) (by decide : ((1 : Int32)).toInt = 1) (by omega) (by omega); exact ⟨by omega, by omega⟩
                exact ih _ (sI (sI w9233 127 84 (w9233.1 127 84)) 127 83 ((w9233.1 127 83) - (1 : Int32))) hI9240  o9241.1 o9241.2 (by have := bd_127_4 hI; have := ti_add2 (Eq.refl x12_2.toInt) (by decide : ((1 : Int32)).toInt = 1) (by omega) (by omega); omega) (fun w9 hI9 hF9 => hE w9 hI9 ((FR.I (FR.I hF9237 (k := 127) (j := 84) (v := (w9233.1 127 84)) rfl) (k := 127) (j := 83) (v := ((w9233.1 127 83) - (1 : Int32))) rfl).tr hF9 rfl) ) (fun r w9 hI9 hF9 q0 => q0.elim)
              · have hI9242 : BND (sI w9233 127 84 10) := wbd_127_84 hI9234
                have hI9243 : BND (sI (sI w9233 127 84 10) 127 83 ((w9233.1 127 83) - (1 : Int32))) := wbd_127_83 hI9242
                have o9244 : (0 ≤ (x12_2 + (1 : Int32)).toInt) ∧ ((x12_2 + (1 : Int32)).toInt ≤ 20) := by have := bd_127_4 hI; have := ti_add2 (Eq.refl x12_2.toInt) (by decide : ((1 : Int32)).toInt = 1) (by omega) (by omega); exact ⟨by omega, by omega⟩
                exact ih _ (sI (sI w9233 127 84 10) 127 83 ((w9233.1 127 83) - (1 : Int32))) hI9243  o9244.1 o9244.2 (by have := bd_127_4 hI; have := ti_add2 (Eq.refl x12_2.toInt) (by decide : ((1 : Int32)).toInt = 1) (by omega) (by omega); omega) (fun w9 hI9 hF9 => hE w9 hI9 ((FR.I (FR.I hF9237 (k := 127) (j := 84) (v := 10) rfl) (k := 127) (j := 83) (v := ((w9233.1 127 83) - (1 : Int32))) rfl).tr hF9 rfl) ) (fun r w9 hI9 hF9 q0 => q0.elim)
            · have o9245 : 0 ≤ x12_2.toInt ∧ x12_2.toInt < 20 := by have := bd_127_4 hI; omega
              refine ⟨o9245, ?_⟩
              have o9246 : ((-1) ≤ (w9215.1 164 x12_2.toInt.toNat).toInt) ∧ ((w9215.1 164 x12_2.toInt.toNat).toInt ≤ 100000) := by have := bd_164 hI9216 x12_2.toInt.toNat; have := bd_164 hI x12_2.toInt.toNat; have := (congrArg Int32.toInt (hL9217 164 x12_2.toInt.toNat rfl).1); exact ⟨by omega, by omega⟩
              refine h_Mo_sayNumber hI9216  o9246.1 o9246.2 (fun w9247 hI9248 hL9249  => ?_)
              have hF9251 : FR l_Mo_write_12 w w9247 := hF9219.tr hL9249 rfl
              refine Eq.mpr (p_Mo_letter.eq_1 _ _ _) ?_
              refine ⟨fun h9252 => ?_, fun h9252 => ?_⟩
              · have hI9253 : BND (sI w9247 127 84 (w9247.1 127 84)) := wbd_127_84 hI9248
                have hI9254 : BND (sI (sI w9247 127 84 (w9247.1 127 84)) 127 83 ((w9247.1 127 83) - (1 : Int32))) := wbd_127_83 hI9253
                have o9255 : (0 ≤ (x12_2 + (1 : Int32)).toInt) ∧ ((x12_2 + (1 : Int32)).toInt ≤ 20) := by have := bd_127_4 hI; have := ti_add2 (Eq.refl x12_2.toInt) (by decide : ((1 : Int32)).toInt = 1) (by omega) (by omega); exact ⟨by omega, by omega⟩
                exact ih _ (sI (sI w9247 127 84 (w9247.1 127 84)) 127 83 ((w9247.1 127 83) - (1 : Int32))) hI9254  o9255.1 o9255.2 (by have := bd_127_4 hI; have := ti_add2 (Eq.refl x12_2.toInt) (by decide : ((1 : Int32)).toInt = 1) (by omega) (by omega); omega) (fun w9 hI9 hF9 => hE w9 hI9 ((FR.I (FR.I hF9251 (k := 127) (j := 84) (v := (w9247.1 127 84)) rfl) (k := 127) (j := 83) (v := ((w9247.1 127 83) - (1 : Int32))) rfl).tr hF9 rfl) ) (fun r w9 hI9 hF9 q0 => q0.elim)
              · have hI9256 : BND (sI w9247 127 84 10) := wbd_127_84 hI9248
                have hI9257 : BND (sI (sI w9247 127 84 10) 127 83 ((w9247.1 127 83) - (1 : Int32))) := wbd_127_83 hI9256
                have o9258 : (0 ≤ (x12_2 + (1 : Int32)).toInt) ∧ ((x12_2 + (1 : Int32)).toInt ≤ 20) := by have := bd_127_4 hI; have := ti_add2 (Eq.refl x12_2.toInt) (by decide : ((1 : Int32)).toInt = 1) (by omega) (by omega); exact ⟨by omega, by omega⟩
                exact ih _ (sI (sI w9247 127 84 10) 127 83 ((w9247.1 127 83) - (1 : Int32))) hI9257  o9258.1 o9258.2 (by have := bd_127_4 hI; have := ti_add2 (Eq.refl x12_2.toInt) (by decide : ((1 : Int32)).toInt = 1) (by omega) (by omega); omega) (fun w9 hI9 hF9 => hE w9 hI9 ((FR.I (FR.I hF9251 (k := 127) (j := 84) (v := 10) rfl) (k := 127) (j := 83) (v := ((w9247.1 127 83) - (1 : Int32))) rfl).tr hF9 rfl) ) (fun r w9 hI9 hF9 q0 => q0.elim)
set_option maxRecDepth 20000 in
set_option maxHeartbeats 2000000 in
theorem hq_Mo_write_116 {x116_1 : Int32} {E : MW → Prop} {Q : Int32 → MW → Prop} (n : Nat) : ∀ (x116_2 : Int32) (w : MW), BND w → 0 ≤ x116_2.toInt → x116_2.toInt ≤ 24 → (24 - x116_2.toInt).toNat < n → (∀ (w' : MW), BND w' → FR l_Mo_write_116 w w' → E w') → (∀ (r : Int32) (w' : MW), BND w' → FR l_Mo_write_116 w w' → False → Q r w') → q_Mo_write_116 x116_1 E Q n x116_2 w := by
  induction n with
  | zero => intros; omega
  | succ n ih =>
    intro x116_2 w hI  hp0 hp1 hm hE hQ
    rw [q_Mo_write_116.eq_2]
    refine ⟨fun h9259 => ?_, fun h9259 => ?_⟩
    · exact hE _ hI (FR.refl _ w)
    · refine ⟨fun h9260 => ?_, fun h9260 => ?_⟩
      · exact hE _ hI (FR.refl _ w)
      · have o9261 : (1701865840 ≤ (1701865840 : Int64).toInt) ∧ ((1701865840 : Int64).toInt ≤ 435778511222) := by have := (by decide : ((1701865840 : Int64)).toInt = 1701865840); exact ⟨by omega, by omega⟩
        refine h_Mo_say hI  o9261.1 o9261.2 (fun w9262 hI9263 hL9264  => ?_)
        have hF9266 : FR l_Mo_write_116 w w9262 := (FR.refl _ w).tr hL9264 rfl
        have o9267 : 0 ≤ ((2 : Int32) * x116_2).toInt ∧ ((2 : Int32) * x116_2).toInt < 48 := by have := bd_127_11 hI; have := ti_mul2 (by decide : ((2 : Int32)).toInt = 2) (Eq.refl x116_2.toInt) (by omega) (by omega); omega
        refine ⟨o9267, ?_⟩
        have o9268 : ((-1) ≤ (w9262.1 170 (((2 : Int32) * x116_2).toInt.toNat)).toInt) ∧ ((w9262.1 170 (((2 : Int32) * x116_2).toInt.toNat)).toInt ≤ 100000) := by have := bd_170 hI9263 (((2 : Int32) * x116_2).toInt.toNat); have := bd_170 hI (((2 : Int32) * x116_2).toInt.toNat); have := (congrArg Int32.toInt (hL9264 170 (((2 : Int32) * x116_2).toInt.toNat) rfl).1); exact ⟨by omega, by omega⟩
        refine h_Mo_sayNumber hI9263  o9268.1 o9268.2 (fun w9269 hI9270 hL9271  => ?_)
        have hF9273 : FR l_Mo_write_116 w w9269 := hF9266.tr hL9271 rfl
        have o9274 : 0 ≤ (((2 : Int32) * x116_2) + (1 : Int32)).toInt ∧ (((2 : Int32) * x116_2) + (1 : Int32)).toInt < 48 := by have := bd_127_11 hI; have := ti_mul2 (by decide : ((2 : Int32)).toInt = 2) (Eq.refl x116_2.toInt) (by omega) (by omega); have := ti_add2 (Eq.refl ((2 : Int32) * x116_2).toInt) (by decide : ((1 : Int32)).toInt = 1) (by omega) (by omega); omega
        refine ⟨o9274, ?_⟩
        have o9275 : ((-1) ≤ (w9269.1 170 ((((2 : Int32) * x116_2) + (1 : Int32)).toInt.toNat)).toInt) ∧ ((w9269.1 170 ((((2 : Int32) * x116_2) + (1 : Int32)).toInt.toNat)).toInt ≤ 100000) := by have := bd_170 hI9270 ((((2 : Int32) * x116_2) + (1 : Int32)).toInt.toNat); have := bd_170 hI9263 ((((2 : Int32) * x116_2) + (1 : Int32)).toInt.toNat); have := bd_170 hI ((((2 : Int32) * x116_2) + (1 : Int32)).toInt.toNat); have := (congrArg Int32.toInt (hL9264 170 ((((2 : Int32) * x116_2) + (1 : Int32)).toInt.toNat) rfl).1); have := (congrArg Int32.toInt (hL9271 170 ((((2 : Int32) * x116_2) + (1 : Int32)).toInt.toNat) rfl).1); exact ⟨by omega, by omega⟩
        refine h_Mo_sayNumber hI9270  o9275.1 o9275.2 (fun w9276 hI9277 hL9278  => ?_)
        have hF9280 : FR l_Mo_write_116 w w9276 := hF9273.tr hL9278 rfl
        have o9281 : 0 ≤ x116_2.toInt ∧ x116_2.toInt < 24 := by have := bd_127_11 hI; omega
        refine ⟨o9281, ?_⟩
        have o9282 : ((-1) ≤ (w9276.1 169 x116_2.toInt.toNat).toInt) ∧ ((w9276.1 169 x116_2.toInt.toNat).toInt ≤ 100000) := by have := bd_169 hI9277 x116_2.toInt.toNat; have := bd_169 hI9270 x116_2.toInt.toNat; have := bd_169 hI9263 x116_2.toInt.toNat; have := bd_169 hI x116_2.toInt.toNat; have := (congrArg Int32.toInt (hL9264 169 x116_2.toInt.toNat rfl).1); have := (congrArg Int32.toInt (hL9271 169 x116_2.toInt.toNat rfl).1); have := (congrArg Int32.toInt (hL9278 169 x116_2.toInt.toNat rfl).1); exact ⟨by omega, by omega⟩
        refine h_Mo_sayNumber hI9277  o9282.1 o9282.2 (fun w9283 hI9284 hL9285  => ?_)
        have hF9287 : FR l_Mo_write_116 w w9283 := hF9280.tr hL9285 rfl
        refine Eq.mpr (p_Mo_letter.eq_1 _ _ _) ?_
        refine ⟨fun h9288 => ?_, fun h9288 => ?_⟩
        · have hI9289 : BND (sI w9283 127 84 (w9283.1 127 84)) := wbd_127_84 hI9284
          have hI9290 : BND (sI (sI w9283 127 84 (w9283.1 127 84)) 127 83 ((w9283.1 127 83) - (1 : Int32))) := wbd_127_83 hI9289
          have o9291 : (0 ≤ (x116_2 + (1 : Int32)).toInt) ∧ ((x116_2 + (1 : Int32)).toInt ≤ 24) := by have := bd_127_11 hI; have := ti_add2 (Eq.refl x116_2.toInt) (by decide : ((1 : Int32)).toInt = 1) (by omega) (by omega); exact ⟨by omega, by omega⟩
          exact ih _ (sI (sI w9283 127 84 (w9283.1 127 84)) 127 83 ((w9283.1 127 83) - (1 : Int32))) hI9290  o9291.1 o9291.2 (by have := bd_127_11 hI; have := ti_add2 (Eq.refl x116_2.toInt) (by decide : ((1 : Int32)).toInt = 1) (by omega) (by omega); omega) (fun w9 hI9 hF9 => hE w9 hI9 ((FR.I (FR.I hF9287 (k := 127) (j := 84) (v := (w9283.1 127 84)) rfl) (k := 127) (j := 83) (v := ((w9283.1 127 83) - (1 : Int32))) rfl).tr hF9 rfl) ) (fun r w9 hI9 hF9 q0 => q0.elim)
        · have hI9292 : BND (sI w9283 127 84 10) := wbd_127_84 hI9284
          have hI9293 : BND (sI (sI w9283 127 84 10) 127 83 ((w9283.1 127 83) - (1 : Int32))) := wbd_127_83 hI9292
          have o9294 : (0 ≤ (x116_2 + (1 : Int32)).toInt) ∧ ((x116_2 + (1 : Int32)).toInt ≤ 24) := by have := bd_127_11 hI; have := ti_add2 (Eq.refl x116_2.toInt) (by decide : ((1 : Int32)).toInt = 1) (by omega) (by omega); exact ⟨by omega, by omega⟩
          exact ih _ (sI (sI w9283 127 84 10) 127 83 ((w9283.1 127 83) - (1 : Int32))) hI9293  o9294.1 o9294.2 (by have := bd_127_11 hI; have := ti_add2 (Eq.refl x116_2.toInt) (by decide : ((1 : Int32)).toInt = 1) (by omega) (by omega); omega) (fun w9 hI9 hF9 => hE w9 hI9 ((FR.I (FR.I hF9287 (k := 127) (j := 84) (v := 10) rfl) (k := 127) (j := 83) (v := ((w9283.1 127 83) - (1 : Int32))) rfl).tr hF9 rfl) ) (fun r w9 hI9 hF9 q0 => q0.elim)
set_option maxRecDepth 20000 in
set_option maxHeartbeats 2000000 in
theorem h_Mo_write {w : MW} {a0 : Int32} {Q : Int32 → MW → Prop} (hI : BND w)  (hQ : ∀ (r : Int32) (w' : MW), BND w' → FR l_Mo_write w w' → Q r w') : p_Mo_write w a0 Q := by
  refine Eq.mpr (p_Mo_write.eq_1 _ _ _) ?_
  have hI9295 : BND (sI w 127 83 a0) := wbd_127_83 hI
  have hI9296 : BND (sI (sI w 127 83 a0) 127 84 (-1)) := wbd_127_84 hI9295
  have o9297 : (0 ≤ (0 : Int32).toInt) ∧ ((0 : Int32).toInt ≤ 20) := by have := ti_lo a0; have := ti_hi a0; have := (by decide : ((0 : Int32)).toInt = 0); exact ⟨by omega, by omega⟩
  refine hq_Mo_write_12 FU _ (sI (sI w 127 83 a0) 127 84 (-1)) hI9296  o9297.1 o9297.2 (fu_lt (by have := ti_lo a0; have := ti_hi a0; have := (by decide : ((0 : Int32)).toInt = 0); omega)) (fun w9298 hI9299 hL9300  => ?_) (fun r w9 hI9 hF9 q0 => q0.elim)
  have hF9301 : FR l_Mo_write w w9298 := (FR.I (FR.I (FR.refl _ w) (k := 127) (j := 83) (v := a0) rfl) (k := 127) (j := 84) (v := (-1)) rfl).tr hL9300 rfl
  have o9302 : (0 ≤ (0 : Int32).toInt) ∧ ((0 : Int32).toInt ≤ 24) := by have := ti_lo a0; have := ti_hi a0; have := (by decide : ((0 : Int32)).toInt = 0); exact ⟨by omega, by omega⟩
  refine hq_Mo_write_116 FU _ w9298 hI9299  o9302.1 o9302.2 (fu_lt (by have := ti_lo a0; have := ti_hi a0; have := (by decide : ((0 : Int32)).toInt = 0); omega)) (fun w9303 hI9304 hL9305  => ?_) (fun r w9 hI9 hF9 q0 => q0.elim)
  have hF9306 : FR l_Mo_write w w9303 := hF9301.tr hL9305 rfl
  exact hQ _ _ hI9304 hF9306 
