def l_Tx_tell_49 : Pl := [(139, none)]
def l_Tx_tell : Pl := [(129, some 10), (129, some 24), (139, none), (140, none), (141, none), (142, none), (143, none)]
set_option maxRecDepth 20000 in
set_option maxHeartbeats 2000000 in
theorem hq_Tx_tell_49 {x49_1 : Int32} {x49_2 : Int32} {E : MW → Prop} {Q : Int32 → MW → Prop} (n : Nat) : ∀ (x49_3 : Int32) (w : MW), BND w → 0 ≤ x49_2.toInt → x49_2.toInt ≤ 79 → 0 ≤ x49_3.toInt → x49_3.toInt ≤ 4020 → (4020 - x49_3.toInt).toNat < n → (∀ (w' : MW), BND w' → FR l_Tx_tell_49 w w' → E w') → (∀ (r : Int32) (w' : MW), BND w' → FR l_Tx_tell_49 w w' → False → Q r w') → q_Tx_tell_49 x49_1 x49_2 E Q n x49_3 w := by
  induction n with
  | zero => intros; (first | omega | sorry)
  | succ n ih =>
    intro x49_3 w hI  hp0 hp1 hp2 hp3 hm hE hQ
    rw [q_Tx_tell_49.eq_2]
    refine ⟨fun h12989 => ?_, fun h12989 => ?_⟩
    · exact hE _ hI (FR.refl _ w)
    · have o12990 : 0 ≤ x49_3.toInt ∧ x49_3.toInt < 4020 := by have := bd_129_6 hI; (first | omega | sorry)
      refine ⟨o12990, ?_⟩
      have o12991 : 0 ≤ ((((12 : Int32) * x49_2) + x49_3) - (w.1 129 5)).toInt ∧ ((((12 : Int32) * x49_2) + x49_3) - (w.1 129 5)).toInt < 960 := by have := ti_mul2 (by decide : ((12 : Int32)).toInt = 12) (Eq.refl x49_2.toInt) (by (first | omega | sorry)) (by (first | omega | sorry)); have := ti_add2 (Eq.refl ((12 : Int32) * x49_2).toInt) (Eq.refl x49_3.toInt) (by (first | omega | sorry)) (by (first | omega | sorry)); have := bd_129_5 hI; have := ti_sub2 (Eq.refl (((12 : Int32) * x49_2) + x49_3).toInt) (Eq.refl (w.1 129 5).toInt) (by (first | omega | sorry)) (by (first | omega | sorry)); have := bd_129_6 hI; (first | omega | sorry)
      refine ⟨o12991, ?_⟩
      have o12993 : (-128) ≤ (vp_nar .byte (w.1 130 x49_3.toInt.toNat)).toInt ∧ (vp_nar .byte (w.1 130 x49_3.toInt.toNat)).toInt ≤ 127 := by have := bd_130 hI x49_3.toInt.toNat; have := nb_byteq (x := (w.1 130 x49_3.toInt.toNat)) (by (first | omega | sorry)) (by (first | omega | sorry)); (first | omega | sorry)
      have hI12992 : BND (sI w 139 (((((12 : Int32) * x49_2) + x49_3) - (w.1 129 5)).toInt.toNat) (vp_nar .byte (w.1 130 x49_3.toInt.toNat))) := wbd_139 hI (((((12 : Int32) * x49_2) + x49_3) - (w.1 129 5)).toInt.toNat) o12993.1 o12993.2
      have o12994 : (0 ≤ x49_2.toInt) ∧ (x49_2.toInt ≤ 79) ∧ (0 ≤ (x49_3 + (1 : Int32)).toInt) ∧ ((x49_3 + (1 : Int32)).toInt ≤ 4020) := by have := ti_add2 (Eq.refl x49_3.toInt) (by decide : ((1 : Int32)).toInt = 1) (by (first | omega | sorry)) (by (first | omega | sorry)); have := bd_129_6 hI; exact ⟨by (first | omega | sorry), by (first | omega | sorry), by (first | omega | sorry), by (first | omega | sorry)⟩
      exact ih _ (sI w 139 (((((12 : Int32) * x49_2) + x49_3) - (w.1 129 5)).toInt.toNat) (vp_nar .byte (w.1 130 x49_3.toInt.toNat))) hI12992  o12994.1 o12994.2.1 o12994.2.2.1 o12994.2.2.2 (by have := ti_add2 (Eq.refl x49_3.toInt) (by decide : ((1 : Int32)).toInt = 1) (by (first | omega | sorry)) (by (first | omega | sorry)); have := bd_129_6 hI; (first | omega | sorry)) (fun w9 hI9 hF9 => hE w9 hI9 ((FR.I (FR.refl _ w) (k := 139) (j := ((((12 : Int32) * x49_2) + x49_3) - (w.1 129 5)).toInt.toNat) (v := (vp_nar .byte (w.1 130 x49_3.toInt.toNat))) rfl).tr hF9 rfl) ) (fun r w9 hI9 hF9 q0 => q0.elim)
set_option maxRecDepth 20000 in
set_option maxHeartbeats 2000000 in
theorem h_Tx_tell {w : MW} {a0 : Int32} {Q : Int32 → MW → Prop} (hI : BND w) (hp0 : (w.1 129 4).toInt < 900 ∨ 2000 ≤ (w.1 129 4).toInt ∨ ((w.1 129 5).toInt ≤ (w.1 129 6).toInt ∧ (w.1 129 6).toInt ≤ (w.1 129 5).toInt + 12)) (hQ : ∀ (r : Int32) (w' : MW), BND w' → FR l_Tx_tell w w' → (-1) ≤ r.toInt → r.toInt ≤ 39 → r.toInt < 0 ∨ (w'.1 129 24).toInt = (w.1 129 24).toInt + 1 → Q r w') : p_Tx_tell w a0 Q := by
  refine Eq.mpr (p_Tx_tell.eq_1 _ _ _) ?_
  refine Eq.mpr (p_Tx_isWord.eq_1 _ _ _) ?_
  refine ⟨fun h12995 => ?_, fun h12995 => ?_⟩
  · refine ⟨fun _ => ?_, fun h => absurd (by decide) h⟩
    refine Eq.mpr (p_Tx_bad.eq_1 _ _) ?_
    have hI12996 : BND (sI w 129 10 (w.1 129 5)) := wbd_129_10 hI
    have o12997 : ((-1) ≤ ((-1) : Int32).toInt) ∧ (((-1) : Int32).toInt ≤ 39) ∧ (((-1) : Int32).toInt < 0 ∨ ((sI w 129 10 (w.1 129 5)).1 129 24).toInt = (w.1 129 24).toInt + 1) := by have := (by decide : (((-1) : Int32)).toInt = (-1)); have := bd_129_24 hI; have : ((sI w 129 10 (w.1 129 5)).1 129 24).toInt = (w.1 129 24).toInt := rfl; have := bd_129_5 hI; have := bd_129_6 hI; have := ti_add2 (by decide : ((1000 : Int32)).toInt = 1000) (by decide : (((-1) : Int32)).toInt = (-1)) (by (first | omega | sorry)) (by (first | omega | sorry)); exact ⟨by (first | omega | sorry), by (first | omega | sorry), by (first | omega | sorry)⟩
    exact hQ _ _ hI12996 (FR.I (FR.refl _ w) (k := 129) (j := 10) (v := (w.1 129 5)) rfl)  o12997.1 o12997.2.1 o12997.2.2
  · refine ⟨fun h => absurd h (by decide), fun _ => ?_⟩
    refine h_Tx_nameOf hI   (fun r13001 w12998 hI12999 hL13000 p13002 p13003 => ?_)
    have hF13004 : FR l_Tx_tell w w12998 := (FR.refl _ w).tr hL13000 rfl
    refine ⟨fun h13005 => ?_, fun h13005 => ?_⟩
    · refine Eq.mpr (p_Tx_bad.eq_1 _ _) ?_
      have hI13006 : BND (sI w12998 129 10 (w12998.1 129 5)) := wbd_129_10 hI12999
      have o13007 : ((-1) ≤ ((-1) : Int32).toInt) ∧ (((-1) : Int32).toInt ≤ 39) ∧ (((-1) : Int32).toInt < 0 ∨ ((sI w12998 129 10 (w12998.1 129 5)).1 129 24).toInt = (w.1 129 24).toInt + 1) := by have := (by decide : (((-1) : Int32)).toInt = (-1)); have := bd_129_24 hI12999; have := bd_129_24 hI; have := (congrArg Int32.toInt (hL13000 129 24 rfl).1); have : ((sI w12998 129 10 (w12998.1 129 5)).1 129 24).toInt = (w12998.1 129 24).toInt := rfl; have := bd_129_5 hI; have := bd_129_6 hI; have := ti_add2 (by decide : ((1000 : Int32)).toInt = 1000) (by decide : (((-1) : Int32)).toInt = (-1)) (by (first | omega | sorry)) (by (first | omega | sorry)); exact ⟨by (first | omega | sorry), by (first | omega | sorry), by (first | omega | sorry)⟩
      exact hQ _ _ hI13006 (FR.I hF13004 (k := 129) (j := 10) (v := (w12998.1 129 5)) rfl)  o13007.1 o13007.2.1 o13007.2.2
    · refine ⟨fun h13008 => ?_, fun h13008 => ?_⟩
      · have o13009 : (0 ≤ (((40 : Int32) * ((1 : Int32) - (w12998.1 129 12))) + (w12998.1 129 24)).toInt) ∧ ((((40 : Int32) * ((1 : Int32) - (w12998.1 129 12))) + (w12998.1 129 24)).toInt ≤ 79) ∧ (0 ≤ (w12998.1 129 5).toInt) ∧ ((w12998.1 129 5).toInt ≤ 4020) := by have := ti_lo a0; have := ti_hi a0; have := bd_129_12 hI12999; have := bd_129_12 hI; have := (congrArg Int32.toInt (hL13000 129 12 rfl).1); have := ti_sub2 (by decide : ((1 : Int32)).toInt = 1) (Eq.refl (w12998.1 129 12).toInt) (by (first | omega | sorry)) (by (first | omega | sorry)); have := ti_mul2 (by decide : ((40 : Int32)).toInt = 40) (Eq.refl ((1 : Int32) - (w12998.1 129 12)).toInt) (by (first | omega | sorry)) (by (first | omega | sorry)); have := bd_129_24 hI12999; have := bd_129_24 hI; have := (congrArg Int32.toInt (hL13000 129 24 rfl).1); have := ti_add2 (Eq.refl ((40 : Int32) * ((1 : Int32) - (w12998.1 129 12))).toInt) (Eq.refl (w12998.1 129 24).toInt) (by (first | omega | sorry)) (by (first | omega | sorry)); have := bd_129_5 hI12999; have := bd_129_5 hI; have := (congrArg Int32.toInt (hL13000 129 5 rfl).1); have := bd_129_6 hI; have := ti_add2 (by decide : ((1000 : Int32)).toInt = 1000) (by decide : (((-1) : Int32)).toInt = (-1)) (by (first | omega | sorry)) (by (first | omega | sorry)); have := (by decide : ((40 : Int32)).toInt = 40); exact ⟨by (first | omega | sorry), by (first | omega | sorry), by (first | omega | sorry), by (first | omega | sorry)⟩
        refine hq_Tx_tell_49 FU _ w12998 hI12999  o13009.1 o13009.2.1 o13009.2.2.1 o13009.2.2.2 (fu_lt (by have := ti_lo a0; have := ti_hi a0; have := bd_129_12 hI12999; have := bd_129_12 hI; have := (congrArg Int32.toInt (hL13000 129 12 rfl).1); have := ti_sub2 (by decide : ((1 : Int32)).toInt = 1) (Eq.refl (w12998.1 129 12).toInt) (by (first | omega | sorry)) (by (first | omega | sorry)); have := ti_mul2 (by decide : ((40 : Int32)).toInt = 40) (Eq.refl ((1 : Int32) - (w12998.1 129 12)).toInt) (by (first | omega | sorry)) (by (first | omega | sorry)); have := bd_129_24 hI12999; have := bd_129_24 hI; have := (congrArg Int32.toInt (hL13000 129 24 rfl).1); have := ti_add2 (Eq.refl ((40 : Int32) * ((1 : Int32) - (w12998.1 129 12))).toInt) (Eq.refl (w12998.1 129 24).toInt) (by (first | omega | sorry)) (by (first | omega | sorry)); have := bd_129_5 hI12999; have := bd_129_5 hI; have := (congrArg Int32.toInt (hL13000 129 5 rfl).1); have := bd_129_6 hI; have := ti_add2 (by decide : ((1000 : Int32)).toInt = 1000) (by decide : (((-1) : Int32)).toInt = (-1)) (by (first | omega | sorry)) (by (first | omega | sorry)); have := (by decide : ((40 : Int32)).toInt = 40); (first | omega | sorry))) (fun w13010 hI13011 hL13012  => ?_) (fun r w9 hI9 hF9 q0 => q0.elim)
        have hF13013 : FR l_Tx_tell w w13010 := hF13004.tr hL13012 rfl
        have o13014 : 0 ≤ (((40 : Int32) * ((1 : Int32) - (w12998.1 129 12))) + (w12998.1 129 24)).toInt ∧ (((40 : Int32) * ((1 : Int32) - (w12998.1 129 12))) + (w12998.1 129 24)).toInt < 80 := by have := bd_129_12 hI12999; have := bd_129_12 hI; have := (congrArg Int32.toInt (hL13000 129 12 rfl).1); have := ti_sub2 (by decide : ((1 : Int32)).toInt = 1) (Eq.refl (w12998.1 129 12).toInt) (by (first | omega | sorry)) (by (first | omega | sorry)); have := ti_mul2 (by decide : ((40 : Int32)).toInt = 40) (Eq.refl ((1 : Int32) - (w12998.1 129 12)).toInt) (by (first | omega | sorry)) (by (first | omega | sorry)); have := bd_129_24 hI12999; have := bd_129_24 hI; have := (congrArg Int32.toInt (hL13000 129 24 rfl).1); have := ti_add2 (Eq.refl ((40 : Int32) * ((1 : Int32) - (w12998.1 129 12))).toInt) (Eq.refl (w12998.1 129 24).toInt) (by (first | omega | sorry)) (by (first | omega | sorry)); have := (by decide : ((40 : Int32)).toInt = 40); (first | omega | sorry)
        refine ⟨o13014, ?_⟩
        have o13015 : 0 ≤ (((40 : Int32) * ((1 : Int32) - (w12998.1 129 12))) + (w12998.1 129 24)).toInt ∧ (((40 : Int32) * ((1 : Int32) - (w12998.1 129 12))) + (w12998.1 129 24)).toInt < 80 := by have := bd_129_12 hI12999; have := bd_129_12 hI; have := (congrArg Int32.toInt (hL13000 129 12 rfl).1); have := ti_sub2 (by decide : ((1 : Int32)).toInt = 1) (Eq.refl (w12998.1 129 12).toInt) (by (first | omega | sorry)) (by (first | omega | sorry)); have := ti_mul2 (by decide : ((40 : Int32)).toInt = 40) (Eq.refl ((1 : Int32) - (w12998.1 129 12)).toInt) (by (first | omega | sorry)) (by (first | omega | sorry)); have := bd_129_24 hI12999; have := bd_129_24 hI; have := (congrArg Int32.toInt (hL13000 129 24 rfl).1); have := ti_add2 (Eq.refl ((40 : Int32) * ((1 : Int32) - (w12998.1 129 12))).toInt) (Eq.refl (w12998.1 129 24).toInt) (by (first | omega | sorry)) (by (first | omega | sorry)); have := (by decide : ((40 : Int32)).toInt = 40); (first | omega | sorry)
        refine ⟨o13015, ?_⟩
        have o13016 : 0 ≤ (((40 : Int32) * ((1 : Int32) - (w12998.1 129 12))) + (w12998.1 129 24)).toInt ∧ (((40 : Int32) * ((1 : Int32) - (w12998.1 129 12))) + (w12998.1 129 24)).toInt < 80 := by have := bd_129_12 hI12999; have := bd_129_12 hI; have := (congrArg Int32.toInt (hL13000 129 12 rfl).1); have := ti_sub2 (by decide : ((1 : Int32)).toInt = 1) (Eq.refl (w12998.1 129 12).toInt) (by (first | omega | sorry)) (by (first | omega | sorry)); have := ti_mul2 (by decide : ((40 : Int32)).toInt = 40) (Eq.refl ((1 : Int32) - (w12998.1 129 12)).toInt) (by (first | omega | sorry)) (by (first | omega | sorry)); have := bd_129_24 hI12999; have := bd_129_24 hI; have := (congrArg Int32.toInt (hL13000 129 24 rfl).1); have := ti_add2 (Eq.refl ((40 : Int32) * ((1 : Int32) - (w12998.1 129 12))).toInt) (Eq.refl (w12998.1 129 24).toInt) (by (first | omega | sorry)) (by (first | omega | sorry)); have := (by decide : ((40 : Int32)).toInt = 40); (first | omega | sorry)
        refine ⟨o13016, ?_⟩
        have o13017 : 0 ≤ (((40 : Int32) * ((1 : Int32) - (w12998.1 129 12))) + (w12998.1 129 24)).toInt ∧ (((40 : Int32) * ((1 : Int32) - (w12998.1 129 12))) + (w12998.1 129 24)).toInt < 80 := by have := bd_129_12 hI12999; have := bd_129_12 hI; have := (congrArg Int32.toInt (hL13000 129 12 rfl).1); have := ti_sub2 (by decide : ((1 : Int32)).toInt = 1) (Eq.refl (w12998.1 129 12).toInt) (by (first | omega | sorry)) (by (first | omega | sorry)); have := ti_mul2 (by decide : ((40 : Int32)).toInt = 40) (Eq.refl ((1 : Int32) - (w12998.1 129 12)).toInt) (by (first | omega | sorry)) (by (first | omega | sorry)); have := bd_129_24 hI12999; have := bd_129_24 hI; have := (congrArg Int32.toInt (hL13000 129 24 rfl).1); have := ti_add2 (Eq.refl ((40 : Int32) * ((1 : Int32) - (w12998.1 129 12))).toInt) (Eq.refl (w12998.1 129 24).toInt) (by (first | omega | sorry)) (by (first | omega | sorry)); have := (by decide : ((40 : Int32)).toInt = 40); (first | omega | sorry)
        refine ⟨o13017, ?_⟩
        have o13019 : 0 ≤ ((w13010.1 129 6) - (w13010.1 129 5)).toInt ∧ ((w13010.1 129 6) - (w13010.1 129 5)).toInt ≤ 12 := by have := bd_129_6 hI13011; have := bd_129_6 hI12999; have := bd_129_6 hI; have := (congrArg Int32.toInt (hL13000 129 6 rfl).1); have := (congrArg Int32.toInt (hL13012 129 6 rfl).1); have := bd_129_5 hI13011; have := bd_129_5 hI12999; have := bd_129_5 hI; have := (congrArg Int32.toInt (hL13000 129 5 rfl).1); have := (congrArg Int32.toInt (hL13012 129 5 rfl).1); have := ti_sub2 (Eq.refl (w13010.1 129 6).toInt) (Eq.refl (w13010.1 129 5).toInt) (by (first | omega | sorry)) (by (first | omega | sorry)); have := ti_add2 (by decide : ((1000 : Int32)).toInt = 1000) (by decide : (((-1) : Int32)).toInt = (-1)) (by (first | omega | sorry)) (by (first | omega | sorry)); (first | omega | sorry)
        have hI13018 : BND (sI w13010 140 ((((40 : Int32) * ((1 : Int32) - (w12998.1 129 12))) + (w12998.1 129 24)).toInt.toNat) ((w13010.1 129 6) - (w13010.1 129 5))) := wbd_140 hI13011 ((((40 : Int32) * ((1 : Int32) - (w12998.1 129 12))) + (w12998.1 129 24)).toInt.toNat) o13019.1 o13019.2
        have hI13020 : BND (sI (sI w13010 140 ((((40 : Int32) * ((1 : Int32) - (w12998.1 129 12))) + (w12998.1 129 24)).toInt.toNat) ((w13010.1 129 6) - (w13010.1 129 5))) 141 ((((40 : Int32) * ((1 : Int32) - (w12998.1 129 12))) + (w12998.1 129 24)).toInt.toNat) a0) := wbd_141 hI13018 ((((40 : Int32) * ((1 : Int32) - (w12998.1 129 12))) + (w12998.1 129 24)).toInt.toNat)
        have hI13021 : BND (sI (sI (sI w13010 140 ((((40 : Int32) * ((1 : Int32) - (w12998.1 129 12))) + (w12998.1 129 24)).toInt.toNat) ((w13010.1 129 6) - (w13010.1 129 5))) 141 ((((40 : Int32) * ((1 : Int32) - (w12998.1 129 12))) + (w12998.1 129 24)).toInt.toNat) a0) 142 ((((40 : Int32) * ((1 : Int32) - (w12998.1 129 12))) + (w12998.1 129 24)).toInt.toNat) 0) := wbd_142 hI13020 ((((40 : Int32) * ((1 : Int32) - (w12998.1 129 12))) + (w12998.1 129 24)).toInt.toNat) (by decide) (by decide)
        have hI13022 : BND (sI (sI (sI (sI w13010 140 ((((40 : Int32) * ((1 : Int32) - (w12998.1 129 12))) + (w12998.1 129 24)).toInt.toNat) ((w13010.1 129 6) - (w13010.1 129 5))) 141 ((((40 : Int32) * ((1 : Int32) - (w12998.1 129 12))) + (w12998.1 129 24)).toInt.toNat) a0) 142 ((((40 : Int32) * ((1 : Int32) - (w12998.1 129 12))) + (w12998.1 129 24)).toInt.toNat) 0) 143 ((((40 : Int32) * ((1 : Int32) - (w12998.1 129 12))) + (w12998.1 129 24)).toInt.toNat) (-1)) := wbd_143 hI13021 ((((40 : Int32) * ((1 : Int32) - (w12998.1 129 12))) + (w12998.1 129 24)).toInt.toNat) (by decide) (by decide)
        have o13024 : 0 ≤ ((w13010.1 129 24) + (1 : Int32)).toInt ∧ ((w13010.1 129 24) + (1 : Int32)).toInt ≤ 40 := by have := bd_129_24 hI13011; have := bd_129_24 hI12999; have := bd_129_24 hI; have := (congrArg Int32.toInt (hL13000 129 24 rfl).1); have := (congrArg Int32.toInt (hL13012 129 24 rfl).1); have := ti_add2 (Eq.refl (w13010.1 129 24).toInt) (by decide : ((1 : Int32)).toInt = 1) (by (first | omega | sorry)) (by (first | omega | sorry)); have := (by decide : ((40 : Int32)).toInt = 40); (first | omega | sorry)
        have hI13023 : BND (sI (sI (sI (sI (sI w13010 140 ((((40 : Int32) * ((1 : Int32) - (w12998.1 129 12))) + (w12998.1 129 24)).toInt.toNat) ((w13010.1 129 6) - (w13010.1 129 5))) 141 ((((40 : Int32) * ((1 : Int32) - (w12998.1 129 12))) + (w12998.1 129 24)).toInt.toNat) a0) 142 ((((40 : Int32) * ((1 : Int32) - (w12998.1 129 12))) + (w12998.1 129 24)).toInt.toNat) 0) 143 ((((40 : Int32) * ((1 : Int32) - (w12998.1 129 12))) + (w12998.1 129 24)).toInt.toNat) (-1)) 129 24 ((w13010.1 129 24) + (1 : Int32))) := wbd_129_24 hI13022 o13024.1 o13024.2
        have o13025 : ((-1) ≤ (((w13010.1 129 24) + (1 : Int32)) - (1 : Int32)).toInt) ∧ ((((w13010.1 129 24) + (1 : Int32)) - (1 : Int32)).toInt ≤ 39) ∧ ((((w13010.1 129 24) + (1 : Int32)) - (1 : Int32)).toInt < 0 ∨ ((sI (sI (sI (sI (sI w13010 140 ((((40 : Int32) * ((1 : Int32) - (w12998.1 129 12))) + (w12998.1 129 24)).toInt.toNat) ((w13010.1 129 6) - (w13010.1 129 5))) 141 ((((40 : Int32) * ((1 : Int32) - (w12998.1 129 12))) + (w12998.1 129 24)).toInt.toNat) a0) 142 ((((40 : Int32) * ((1 : Int32) - (w12998.1 129 12))) + (w12998.1 129 24)).toInt.toNat) 0) 143 ((((40 : Int32) * ((1 : Int32) - (w12998.1 129 12))) + (w12998.1 129 24)).toInt.toNat) (-1)) 129 24 ((w13010.1 129 24) + (1 : Int32))).1 129 24).toInt = (w.1 129 24).toInt + 1) := by have := bd_129_24 hI13011; have := bd_129_24 hI12999; have := bd_129_24 hI; have := (congrArg Int32.toInt (hL13000 129 24 rfl).1); have := (congrArg Int32.toInt (hL13012 129 24 rfl).1); have := ti_add2 (Eq.refl (w13010.1 129 24).toInt) (by decide : ((1 : Int32)).toInt = 1) (by (first | omega | sorry)) (by (first | omega | sorry)); have := ti_sub2 (Eq.refl ((w13010.1 129 24) + (1 : Int32)).toInt) (by decide : ((1 : Int32)).toInt = 1) (by (first | omega | sorry)) (by (first | omega | sorry)); have : ((sI (sI (sI (sI (sI w13010 140 ((((40 : Int32) * ((1 : Int32) - (w12998.1 129 12))) + (w12998.1 129 24)).toInt.toNat) ((w13010.1 129 6) - (w13010.1 129 5))) 141 ((((40 : Int32) * ((1 : Int32) - (w12998.1 129 12))) + (w12998.1 129 24)).toInt.toNat) a0) 142 ((((40 : Int32) * ((1 : Int32) - (w12998.1 129 12))) + (w12998.1 129 24)).toInt.toNat) 0) 143 ((((40 : Int32) * ((1 : Int32) - (w12998.1 129 12))) + (w12998.1 129 24)).toInt.toNat) (-1)) 129 24 ((w13010.1 129 24) + (1 : Int32))).1 129 24).toInt = ((w13010.1 129 24) + (1 : Int32)).toInt := rfl; have := (by decide : ((40 : Int32)).toInt = 40); exact ⟨by (first | omega | sorry), by (first | omega | sorry), by (first | omega | sorry)⟩
        exact hQ _ _ hI13023 (FR.I (FR.I (FR.I (FR.I (FR.I hF13013 (k := 140) (j := (((40 : Int32) * ((1 : Int32) - (w12998.1 129 12))) + (w12998.1 129 24)).toInt.toNat) (v := ((w13010.1 129 6) - (w13010.1 129 5))) rfl) (k := 141) (j := (((40 : Int32) * ((1 : Int32) - (w12998.1 129 12))) + (w12998.1 129 24)).toInt.toNat) (v := a0) rfl) (k := 142) (j := (((40 : Int32) * ((1 : Int32) - (w12998.1 129 12))) + (w12998.1 129 24)).toInt.toNat) (v := 0) rfl) (k := 143) (j := (((40 : Int32) * ((1 : Int32) - (w12998.1 129 12))) + (w12998.1 129 24)).toInt.toNat) (v := (-1)) rfl) (k := 129) (j := 24) (v := ((w13010.1 129 24) + (1 : Int32))) rfl)  o13025.1 o13025.2.1 o13025.2.2
      · refine Eq.mpr (p_Tx_bad.eq_1 _ _) ?_
        have hI13026 : BND (sI w12998 129 10 (w12998.1 129 5)) := wbd_129_10 hI12999
        have o13027 : ((-1) ≤ ((-1) : Int32).toInt) ∧ (((-1) : Int32).toInt ≤ 39) ∧ (((-1) : Int32).toInt < 0 ∨ ((sI w12998 129 10 (w12998.1 129 5)).1 129 24).toInt = (w.1 129 24).toInt + 1) := by have := (by decide : (((-1) : Int32)).toInt = (-1)); have := bd_129_24 hI12999; have := bd_129_24 hI; have := (congrArg Int32.toInt (hL13000 129 24 rfl).1); have : ((sI w12998 129 10 (w12998.1 129 5)).1 129 24).toInt = (w12998.1 129 24).toInt := rfl; have := bd_129_5 hI; have := bd_129_6 hI; have := ti_add2 (by decide : ((1000 : Int32)).toInt = 1000) (by decide : (((-1) : Int32)).toInt = (-1)) (by (first | omega | sorry)) (by (first | omega | sorry)); have := (by decide : ((40 : Int32)).toInt = 40); exact ⟨by (first | omega | sorry), by (first | omega | sorry), by (first | omega | sorry)⟩
        exact hQ _ _ hI13026 (FR.I hF13004 (k := 129) (j := 10) (v := (w12998.1 129 5)) rfl)  o13027.1 o13027.2.1 o13027.2.2
def l_Tx_declaration : Pl := [(129, some 2), (129, some 3), (129, some 4), (129, some 5), (129, some 6), (129, some 7), (129, some 8), (129, some 9), (129, some 10), (129, some 11), (129, some 13), (129, some 21), (129, some 23), (129, some 24), (129, some 35), (129, some 38), (131, none), (132, none), (133, none), (134, none), (135, none), (136, none), (137, none), (138, none), (139, none), (140, none), (141, none), (142, none), (143, none), (144, none)]
set_option maxRecDepth 20000 in
set_option maxHeartbeats 2000000 in
theorem h_Tx_declaration {w : MW} {Q : Int32 → MW → Prop} (hI : BND w) (hf_PZ : PZ w) (hp0 : (w.1 129 35).toInt + (w.1 129 21).toInt + (w.1 129 23).toInt ≤ (w.1 129 13).toInt) (hQ : ∀ (r : Int32) (w' : MW), BND w' → FR l_Tx_declaration w w' → PZ w' → 0 ≤ r.toInt → r.toInt ≤ 1 → r.toInt = 0 ∨ ((w'.1 129 35).toInt + (w'.1 129 21).toInt + (w'.1 129 23).toInt ≤ (w'.1 129 13).toInt ∧ (w'.1 129 24).toInt = (w.1 129 24).toInt + 1) → (w.1 129 24).toInt ≤ (w'.1 129 24).toInt → Q r w') : p_Tx_declaration w Q := by
  refine Eq.mpr (p_Tx_declaration.eq_1 _ _) ?_
  refine h_Tx_go hI hf_PZ  (fun r13031 w13028 hI13029 hL13030 hlw13028_PZ p13032 p13033 p13034 => ?_)
  have hF13035 : FR l_Tx_declaration w w13028 := (FR.refl _ w).tr hL13030 rfl
  refine ⟨fun h13036 => ?_, fun h13036 => ?_⟩
  · refine h_Tx_tell hI13029  (by have := True.intro; have := bd_129_5 hI13029; have := bd_129_6 hI13029; have := (by decide : ((0 : Int32)).toInt = 0); (first | omega | sorry)) (fun r13040 w13037 hI13038 hL13039 p13041 p13042 p13043 => ?_)
    have hF13044 : FR l_Tx_declaration w w13037 := hF13035.tr hL13039 rfl
    refine ⟨fun h13045 => ?_, fun h13045 => ?_⟩
    · have o13046 : (0 ≤ (0 : Int32).toInt) ∧ ((0 : Int32).toInt ≤ 1) ∧ ((0 : Int32).toInt = 0 ∨ ((w13037.1 129 35).toInt + (w13037.1 129 21).toInt + (w13037.1 129 23).toInt ≤ (w13037.1 129 13).toInt ∧ (w13037.1 129 24).toInt = (w.1 129 24).toInt + 1)) ∧ ((w.1 129 24).toInt ≤ (w13037.1 129 24).toInt) := by have := (by decide : ((0 : Int32)).toInt = 0); have := bd_129_35 hI13038; have := bd_129_35 hI13029; have := bd_129_35 hI; have := (congrArg Int32.toInt (hL13030 129 35 rfl).1); have := (congrArg Int32.toInt (hL13039 129 35 rfl).1); have := bd_129_21 hI13038; have := bd_129_21 hI13029; have := bd_129_21 hI; have := (congrArg Int32.toInt (hL13030 129 21 rfl).1); have := (congrArg Int32.toInt (hL13039 129 21 rfl).1); have := bd_129_23 hI13038; have := bd_129_23 hI13029; have := bd_129_23 hI; have := (congrArg Int32.toInt (hL13030 129 23 rfl).1); have := (congrArg Int32.toInt (hL13039 129 23 rfl).1); have := bd_129_13 hI13038; have := bd_129_13 hI13029; have := bd_129_13 hI; have := (congrArg Int32.toInt (hL13030 129 13 rfl).1); have := (congrArg Int32.toInt (hL13039 129 13 rfl).1); have := bd_129_24 hI13038; have := bd_129_24 hI; have := bd_129_24 hI13029; have := (congrArg Int32.toInt (hL13030 129 24 rfl).1); exact ⟨by (first | omega | sorry), by (first | omega | sorry), by (first | omega | sorry), by (first | omega | sorry)⟩
      exact hQ _ _ hI13038 hF13044 (PZ_fr hL13039 rfl hlw13028_PZ)  o13046.1 o13046.2.1 o13046.2.2.1 o13046.2.2.2
    · refine h_Tx_go hI13038 (PZ_fr hL13039 rfl hlw13028_PZ)  (fun r13050 w13047 hI13048 hL13049 hlw13047_PZ p13051 p13052 p13053 => ?_)
      have hF13054 : FR l_Tx_declaration w w13047 := hF13044.tr hL13049 rfl
      refine ⟨fun h13055 => ?_, fun h13055 => ?_⟩
      · refine ⟨fun h13056 => ?_, fun h13056 => ?_⟩
        · refine h_Tx_block hI13048 hlw13047_PZ (by have := bd_129_35 hI13048; have := bd_129_35 hI13038; have := bd_129_35 hI13029; have := bd_129_35 hI; have := (congrArg Int32.toInt (hL13030 129 35 rfl).1); have := (congrArg Int32.toInt (hL13039 129 35 rfl).1); have := (congrArg Int32.toInt (hL13049 129 35 rfl).1); have := bd_129_21 hI13048; have := bd_129_21 hI13038; have := bd_129_21 hI13029; have := bd_129_21 hI; have := (congrArg Int32.toInt (hL13030 129 21 rfl).1); have := (congrArg Int32.toInt (hL13039 129 21 rfl).1); have := (congrArg Int32.toInt (hL13049 129 21 rfl).1); have := bd_129_23 hI13048; have := bd_129_23 hI13038; have := bd_129_23 hI13029; have := bd_129_23 hI; have := (congrArg Int32.toInt (hL13030 129 23 rfl).1); have := (congrArg Int32.toInt (hL13039 129 23 rfl).1); have := (congrArg Int32.toInt (hL13049 129 23 rfl).1); have := bd_129_13 hI13048; have := bd_129_13 hI13038; have := bd_129_13 hI13029; have := bd_129_13 hI; have := (congrArg Int32.toInt (hL13030 129 13 rfl).1); have := (congrArg Int32.toInt (hL13039 129 13 rfl).1); have := (congrArg Int32.toInt (hL13049 129 13 rfl).1); (first | omega | sorry)) (fun r13060 w13057 hI13058 hL13059 hlw13057_PZ p13061 p13062 p13063 p13064 p13065 => ?_)
          have hF13066 : FR l_Tx_declaration w w13057 := hF13054.tr hL13059 rfl
          refine Eq.mpr (p_Tx_pushed.eq_1 _ _ _) ?_
          refine ⟨fun h13067 => ?_, fun h13067 => ?_⟩
          · refine Eq.mpr (p_Tx_push.eq_1 _ _ _) ?_
            have o13068 : 0 ≤ (w13057.1 129 35).toInt ∧ (w13057.1 129 35).toInt < 600 := by have := bd_129_35 hI13058; have := bd_129_35 hI; have := bd_129_21 hI; have := bd_129_23 hI; have := bd_129_13 hI; have := bd_129_13 hI13058; have := bd_129_35 hI13048; have := bd_129_35 hI13038; have := bd_129_35 hI13029; have := (congrArg Int32.toInt (hL13030 129 35 rfl).1); have := (congrArg Int32.toInt (hL13039 129 35 rfl).1); have := (congrArg Int32.toInt (hL13049 129 35 rfl).1); have := bd_129_23 hI13058; have := bd_129_23 hI13048; have := bd_129_23 hI13038; have := bd_129_23 hI13029; have := (congrArg Int32.toInt (hL13030 129 23 rfl).1); have := (congrArg Int32.toInt (hL13039 129 23 rfl).1); have := (congrArg Int32.toInt (hL13049 129 23 rfl).1); have := (congrArg Int32.toInt (hL13059 129 23 rfl).1); have := bd_129_21 hI13058; have := bd_129_11 hI13058; have := bd_129_11 hI13048; have := bd_129_11 hI13038; have := bd_129_11 hI13029; have := bd_129_11 hI; have := (congrArg Int32.toInt (hL13030 129 11 rfl).1); have := (congrArg Int32.toInt (hL13039 129 11 rfl).1); have := (congrArg Int32.toInt (hL13049 129 11 rfl).1); have := bd_129_13 hI13048; have := bd_129_13 hI13038; have := bd_129_13 hI13029; have := (congrArg Int32.toInt (hL13030 129 13 rfl).1); have := (congrArg Int32.toInt (hL13039 129 13 rfl).1); have := (congrArg Int32.toInt (hL13049 129 13 rfl).1); have := (by decide : ((0 : Int32)).toInt = 0); (first | omega | sorry)
            refine ⟨o13068, ?_⟩
            refine ⟨fun _ => ?_, fun h => absurd (by decide) h⟩
            have o13070 : 0 ≤ r13060.toInt ∧ r13060.toInt ≤ 299 := by have := bd_129_13 hI13058; have := bd_129_35 hI13058; have := bd_129_35 hI13048; have := bd_129_35 hI13038; have := bd_129_35 hI13029; have := bd_129_35 hI; have := (congrArg Int32.toInt (hL13030 129 35 rfl).1); have := (congrArg Int32.toInt (hL13039 129 35 rfl).1); have := (congrArg Int32.toInt (hL13049 129 35 rfl).1); have := bd_129_23 hI13058; have := bd_129_23 hI13048; have := bd_129_23 hI13038; have := bd_129_23 hI13029; have := bd_129_23 hI; have := (congrArg Int32.toInt (hL13030 129 23 rfl).1); have := (congrArg Int32.toInt (hL13039 129 23 rfl).1); have := (congrArg Int32.toInt (hL13049 129 23 rfl).1); have := (congrArg Int32.toInt (hL13059 129 23 rfl).1); have := bd_129_21 hI13058; have := bd_129_11 hI13058; have := bd_129_11 hI13048; have := bd_129_11 hI13038; have := bd_129_11 hI13029; have := bd_129_11 hI; have := (congrArg Int32.toInt (hL13030 129 11 rfl).1); have := (congrArg Int32.toInt (hL13039 129 11 rfl).1); have := (congrArg Int32.toInt (hL13049 129 11 rfl).1); have := bd_129_13 hI13048; have := bd_129_13 hI13038; have := bd_129_13 hI13029; have := bd_129_13 hI; have := (congrArg Int32.toInt (hL13030 129 13 rfl).1); have := (congrArg Int32.toInt (hL13039 129 13 rfl).1); have := (congrArg Int32.toInt (hL13049 129 13 rfl).1); have := (by decide : ((0 : Int32)).toInt = 0); have := bd_129_21 hI; (first | omega | sorry)
            have hI13069 : BND (sI w13057 144 ((w13057.1 129 35).toInt.toNat) r13060) := wbd_144 hI13058 ((w13057.1 129 35).toInt.toNat) o13070.1 o13070.2
            have o13072 : 0 ≤ ((w13057.1 129 35) + (1 : Int32)).toInt ∧ ((w13057.1 129 35) + (1 : Int32)).toInt ≤ 300 := by have := bd_129_35 hI13058; have := ti_add2 (Eq.refl (w13057.1 129 35).toInt) (by decide : ((1 : Int32)).toInt = 1) (by (first | omega | sorry)) (by (first | omega | sorry)); have := bd_129_35 hI; have := bd_129_21 hI; have := bd_129_23 hI; have := bd_129_13 hI; have := bd_129_13 hI13058; have := bd_129_35 hI13048; have := bd_129_35 hI13038; have := bd_129_35 hI13029; have := (congrArg Int32.toInt (hL13030 129 35 rfl).1); have := (congrArg Int32.toInt (hL13039 129 35 rfl).1); have := (congrArg Int32.toInt (hL13049 129 35 rfl).1); have := bd_129_23 hI13058; have := bd_129_23 hI13048; have := bd_129_23 hI13038; have := bd_129_23 hI13029; have := (congrArg Int32.toInt (hL13030 129 23 rfl).1); have := (congrArg Int32.toInt (hL13039 129 23 rfl).1); have := (congrArg Int32.toInt (hL13049 129 23 rfl).1); have := (congrArg Int32.toInt (hL13059 129 23 rfl).1); have := bd_129_21 hI13058; have := bd_129_11 hI13058; have := bd_129_11 hI13048; have := bd_129_11 hI13038; have := bd_129_11 hI13029; have := bd_129_11 hI; have := (congrArg Int32.toInt (hL13030 129 11 rfl).1); have := (congrArg Int32.toInt (hL13039 129 11 rfl).1); have := (congrArg Int32.toInt (hL13049 129 11 rfl).1); have := bd_129_13 hI13048; have := bd_129_13 hI13038; have := bd_129_13 hI13029; have := (congrArg Int32.toInt (hL13030 129 13 rfl).1); have := (congrArg Int32.toInt (hL13039 129 13 rfl).1); have := (congrArg Int32.toInt (hL13049 129 13 rfl).1); have := (by decide : ((0 : Int32)).toInt = 0); (first | omega | sorry)
            have hI13071 : BND (sI (sI w13057 144 ((w13057.1 129 35).toInt.toNat) r13060) 129 35 ((w13057.1 129 35) + (1 : Int32))) := wbd_129_35 hI13069 o13072.1 o13072.2
            have o13073 : (0 ≤ (24 : Int32).toInt) ∧ ((24 : Int32).toInt ≤ 24) ∧ ((-1) ≤ ((-1) : Int32).toInt) ∧ (((-1) : Int32).toInt ≤ 5) ∧ (0 ≤ (w13047.1 129 35).toInt) ∧ ((w13047.1 129 35).toInt ≤ 300) ∧ (0 ≤ (w13047.1 129 35).toInt) ∧ ((w13047.1 129 35).toInt ≤ ((sI (sI w13057 144 ((w13057.1 129 35).toInt.toNat) r13060) 129 35 ((w13057.1 129 35) + (1 : Int32))).1 129 35).toInt) ∧ (((sI (sI w13057 144 ((w13057.1 129 35).toInt.toNat) r13060) 129 35 ((w13057.1 129 35) + (1 : Int32))).1 129 35).toInt + ((sI (sI w13057 144 ((w13057.1 129 35).toInt.toNat) r13060) 129 35 ((w13057.1 129 35) + (1 : Int32))).1 129 21).toInt + ((sI (sI w13057 144 ((w13057.1 129 35).toInt.toNat) r13060) 129 35 ((w13057.1 129 35) + (1 : Int32))).1 129 23).toInt ≤ ((sI (sI w13057 144 ((w13057.1 129 35).toInt.toNat) r13060) 129 35 ((w13057.1 129 35) + (1 : Int32))).1 129 13).toInt) := by have := (by decide : ((24 : Int32)).toInt = 24); have := (by decide : (((-1) : Int32)).toInt = (-1)); have := bd_129_35 hI13048; have := bd_129_35 hI13038; have := bd_129_35 hI13029; have := bd_129_35 hI; have := (congrArg Int32.toInt (hL13030 129 35 rfl).1); have := (congrArg Int32.toInt (hL13039 129 35 rfl).1); have := (congrArg Int32.toInt (hL13049 129 35 rfl).1); have := bd_129_35 hI13058; have := ti_add2 (Eq.refl (w13057.1 129 35).toInt) (by decide : ((1 : Int32)).toInt = 1) (by (first | omega | sorry)) (by (first | omega | sorry)); have : ((sI (sI w13057 144 ((w13057.1 129 35).toInt.toNat) r13060) 129 35 ((w13057.1 129 35) + (1 : Int32))).1 129 35).toInt = ((w13057.1 129 35) + (1 : Int32)).toInt := rfl; have := bd_129_21 hI13058; have : ((sI (sI w13057 144 ((w13057.1 129 35).toInt.toNat) r13060) 129 35 ((w13057.1 129 35) + (1 : Int32))).1 129 21).toInt = (w13057.1 129 21).toInt := rfl; have := bd_129_23 hI13058; have := bd_129_23 hI13048; have := bd_129_23 hI13038; have := bd_129_23 hI13029; have := bd_129_23 hI; have := (congrArg Int32.toInt (hL13030 129 23 rfl).1); have := (congrArg Int32.toInt (hL13039 129 23 rfl).1); have := (congrArg Int32.toInt (hL13049 129 23 rfl).1); have := (congrArg Int32.toInt (hL13059 129 23 rfl).1); have : ((sI (sI w13057 144 ((w13057.1 129 35).toInt.toNat) r13060) 129 35 ((w13057.1 129 35) + (1 : Int32))).1 129 23).toInt = (w13057.1 129 23).toInt := rfl; have := bd_129_13 hI13058; have : ((sI (sI w13057 144 ((w13057.1 129 35).toInt.toNat) r13060) 129 35 ((w13057.1 129 35) + (1 : Int32))).1 129 13).toInt = (w13057.1 129 13).toInt := rfl; have := bd_129_21 hI; have := bd_129_13 hI; have := bd_129_24 hI13038; have := bd_129_24 hI13029; have := bd_129_24 hI; have := (congrArg Int32.toInt (hL13030 129 24 rfl).1); have := (by decide : ((0 : Int32)).toInt = 0); have := bd_129_11 hI13058; have := bd_129_11 hI13048; have := bd_129_11 hI13038; have := bd_129_11 hI13029; have := bd_129_11 hI; have := (congrArg Int32.toInt (hL13030 129 11 rfl).1); have := (congrArg Int32.toInt (hL13039 129 11 rfl).1); have := (congrArg Int32.toInt (hL13049 129 11 rfl).1); have := bd_129_13 hI13048; have := bd_129_13 hI13038; have := bd_129_13 hI13029; have := (congrArg Int32.toInt (hL13030 129 13 rfl).1); have := (congrArg Int32.toInt (hL13039 129 13 rfl).1); have := (congrArg Int32.toInt (hL13049 129 13 rfl).1); exact ⟨by (first | omega | sorry), by (first | omega | sorry), by (first | omega | sorry), by (first | omega | sorry), by (first | omega | sorry), by (first | omega | sorry), by (first | omega | sorry), by (first | omega | sorry), by (first | omega | sorry)⟩
            refine h_Tx_node0 hI13071  o13073.1 o13073.2.1 o13073.2.2.1 o13073.2.2.2.1 o13073.2.2.2.2.1 o13073.2.2.2.2.2.1 o13073.2.2.2.2.2.2.1 o13073.2.2.2.2.2.2.2.1 o13073.2.2.2.2.2.2.2.2 (fun r13077 w13074 hI13075 hL13076 p13078 p13079 p13080 p13081 => ?_)
            have hF13082 : FR l_Tx_declaration w w13074 := (FR.I (FR.I hF13066 (k := 144) (j := (w13057.1 129 35).toInt.toNat) (v := r13060) rfl) (k := 129) (j := 35) (v := ((w13057.1 129 35) + (1 : Int32))) rfl).tr hL13076 rfl
            refine ⟨fun h13083 => ?_, fun h13083 => ?_⟩
            · have o13084 : 0 ≤ (((40 : Int32) * ((1 : Int32) - (w13074.1 129 12))) + r13040).toInt ∧ (((40 : Int32) * ((1 : Int32) - (w13074.1 129 12))) + r13040).toInt < 80 := by have := bd_129_12 hI13075; have := bd_129_12 hI13058; have := bd_129_12 hI13048; have := bd_129_12 hI13038; have := bd_129_12 hI13029; have := bd_129_12 hI; have := (congrArg Int32.toInt (hL13030 129 12 rfl).1); have := (congrArg Int32.toInt (hL13039 129 12 rfl).1); have := (congrArg Int32.toInt (hL13049 129 12 rfl).1); have := (congrArg Int32.toInt (hL13059 129 12 rfl).1); have : ((sI (sI w13057 144 ((w13057.1 129 35).toInt.toNat) r13060) 129 35 ((w13057.1 129 35) + (1 : Int32))).1 129 12).toInt = (w13057.1 129 12).toInt := rfl; have := (congrArg Int32.toInt (hL13076 129 12 rfl).1); have := ti_sub2 (by decide : ((1 : Int32)).toInt = 1) (Eq.refl (w13074.1 129 12).toInt) (by (first | omega | sorry)) (by (first | omega | sorry)); have := ti_mul2 (by decide : ((40 : Int32)).toInt = 40) (Eq.refl ((1 : Int32) - (w13074.1 129 12)).toInt) (by (first | omega | sorry)) (by (first | omega | sorry)); have := ti_add2 (Eq.refl ((40 : Int32) * ((1 : Int32) - (w13074.1 129 12))).toInt) (Eq.refl r13040.toInt) (by (first | omega | sorry)) (by (first | omega | sorry)); have := bd_129_24 hI13038; have := bd_129_24 hI13029; have := bd_129_24 hI; have := (congrArg Int32.toInt (hL13030 129 24 rfl).1); have := (by decide : ((0 : Int32)).toInt = 0); (first | omega | sorry)
              refine ⟨o13084, ?_⟩
              refine Eq.mpr (p_Tx_base.eq_1 _ _) ?_
              have o13085 : 0 ≤ (((300 : Int32) * ((1 : Int32) - ((sI w13074 143 ((((40 : Int32) * ((1 : Int32) - (w13074.1 129 12))) + r13040).toInt.toNat) r13077).1 129 12))) + ((sI w13074 143 ((((40 : Int32) * ((1 : Int32) - (w13074.1 129 12))) + r13040).toInt.toNat) r13077).1 129 23)).toInt ∧ (((300 : Int32) * ((1 : Int32) - ((sI w13074 143 ((((40 : Int32) * ((1 : Int32) - (w13074.1 129 12))) + r13040).toInt.toNat) r13077).1 129 12))) + ((sI w13074 143 ((((40 : Int32) * ((1 : Int32) - (w13074.1 129 12))) + r13040).toInt.toNat) r13077).1 129 23)).toInt < 600 := by have := bd_129_12 hI13075; have := bd_129_12 hI13058; have := bd_129_12 hI13048; have := bd_129_12 hI13038; have := bd_129_12 hI13029; have := bd_129_12 hI; have := (congrArg Int32.toInt (hL13030 129 12 rfl).1); have := (congrArg Int32.toInt (hL13039 129 12 rfl).1); have := (congrArg Int32.toInt (hL13049 129 12 rfl).1); have := (congrArg Int32.toInt (hL13059 129 12 rfl).1); have : ((sI (sI w13057 144 ((w13057.1 129 35).toInt.toNat) r13060) 129 35 ((w13057.1 129 35) + (1 : Int32))).1 129 12).toInt = (w13057.1 129 12).toInt := rfl; have := (congrArg Int32.toInt (hL13076 129 12 rfl).1); have : ((sI w13074 143 ((((40 : Int32) * ((1 : Int32) - (w13074.1 129 12))) + r13040).toInt.toNat) r13077).1 129 12).toInt = (w13074.1 129 12).toInt := rfl; have := ti_sub2 (by decide : ((1 : Int32)).toInt = 1) (Eq.refl ((sI w13074 143 ((((40 : Int32) * ((1 : Int32) - (w13074.1 129 12))) + r13040).toInt.toNat) r13077).1 129 12).toInt) (by (first | omega | sorry)) (by (first | omega | sorry)); have := ti_mul2 (by decide : ((300 : Int32)).toInt = 300) (Eq.refl ((1 : Int32) - ((sI w13074 143 ((((40 : Int32) * ((1 : Int32) - (w13074.1 129 12))) + r13040).toInt.toNat) r13077).1 129 12)).toInt) (by (first | omega | sorry)) (by (first | omega | sorry)); have := bd_129_23 hI13075; have := bd_129_23 hI13058; have := bd_129_23 hI13048; have := bd_129_23 hI13038; have := bd_129_23 hI13029; have := bd_129_23 hI; have := (congrArg Int32.toInt (hL13030 129 23 rfl).1); have := (congrArg Int32.toInt (hL13039 129 23 rfl).1); have := (congrArg Int32.toInt (hL13049 129 23 rfl).1); have := (congrArg Int32.toInt (hL13059 129 23 rfl).1); have : ((sI (sI w13057 144 ((w13057.1 129 35).toInt.toNat) r13060) 129 35 ((w13057.1 129 35) + (1 : Int32))).1 129 23).toInt = (w13057.1 129 23).toInt := rfl; have := (congrArg Int32.toInt (hL13076 129 23 rfl).1); have : ((sI w13074 143 ((((40 : Int32) * ((1 : Int32) - (w13074.1 129 12))) + r13040).toInt.toNat) r13077).1 129 23).toInt = (w13074.1 129 23).toInt := rfl; have := ti_add2 (Eq.refl ((300 : Int32) * ((1 : Int32) - ((sI w13074 143 ((((40 : Int32) * ((1 : Int32) - (w13074.1 129 12))) + r13040).toInt.toNat) r13077).1 129 12))).toInt) (Eq.refl ((sI w13074 143 ((((40 : Int32) * ((1 : Int32) - (w13074.1 129 12))) + r13040).toInt.toNat) r13077).1 129 23).toInt) (by (first | omega | sorry)) (by (first | omega | sorry)); have := bd_129_35 hI; have := bd_129_21 hI; have := bd_129_13 hI; have := bd_129_13 hI13058; have := bd_129_35 hI13058; have := bd_129_35 hI13048; have := bd_129_35 hI13038; have := bd_129_35 hI13029; have := (congrArg Int32.toInt (hL13030 129 35 rfl).1); have := (congrArg Int32.toInt (hL13039 129 35 rfl).1); have := (congrArg Int32.toInt (hL13049 129 35 rfl).1); have := bd_129_21 hI13058; have := bd_129_11 hI13058; have := bd_129_11 hI13048; have := bd_129_11 hI13038; have := bd_129_11 hI13029; have := bd_129_11 hI; have := (congrArg Int32.toInt (hL13030 129 11 rfl).1); have := (congrArg Int32.toInt (hL13039 129 11 rfl).1); have := (congrArg Int32.toInt (hL13049 129 11 rfl).1); have := bd_129_13 hI13048; have := bd_129_13 hI13038; have := bd_129_13 hI13029; have := (congrArg Int32.toInt (hL13030 129 13 rfl).1); have := (congrArg Int32.toInt (hL13039 129 13 rfl).1); have := (congrArg Int32.toInt (hL13049 129 13 rfl).1); have := (by decide : ((0 : Int32)).toInt = 0); have : ((sI (sI w13057 144 ((w13057.1 129 35).toInt.toNat) r13060) 129 35 ((w13057.1 129 35) + (1 : Int32))).1 129 13).toInt = (w13057.1 129 13).toInt := rfl; have := bd_129_13 hI13075; have := bd_129_35 hI13075; have := bd_129_21 hI13075; have : ((sI (sI w13057 144 ((w13057.1 129 35).toInt.toNat) r13060) 129 35 ((w13057.1 129 35) + (1 : Int32))).1 129 21).toInt = (w13057.1 129 21).toInt := rfl; have := ti_add2 (Eq.refl (w13057.1 129 35).toInt) (by decide : ((1 : Int32)).toInt = 1) (by (first | omega | sorry)) (by (first | omega | sorry)); have : ((sI (sI w13057 144 ((w13057.1 129 35).toInt.toNat) r13060) 129 35 ((w13057.1 129 35) + (1 : Int32))).1 129 35).toInt = ((w13057.1 129 35) + (1 : Int32)).toInt := rfl; have := bd_129_11 hI13075; have : ((sI (sI w13057 144 ((w13057.1 129 35).toInt.toNat) r13060) 129 35 ((w13057.1 129 35) + (1 : Int32))).1 129 11).toInt = (w13057.1 129 11).toInt := rfl; have := (congrArg Int32.toInt (hL13076 129 11 rfl).1); (first | omega | sorry)
              refine ⟨o13085, ?_⟩
              have o13087 : (-1) ≤ r13077.toInt ∧ r13077.toInt ≤ 299 := by have := bd_129_13 hI13058; have : ((sI (sI w13057 144 ((w13057.1 129 35).toInt.toNat) r13060) 129 35 ((w13057.1 129 35) + (1 : Int32))).1 129 13).toInt = (w13057.1 129 13).toInt := rfl; have := bd_129_13 hI13075; have := bd_129_35 hI13075; have := bd_129_21 hI13075; have := bd_129_21 hI13058; have : ((sI (sI w13057 144 ((w13057.1 129 35).toInt.toNat) r13060) 129 35 ((w13057.1 129 35) + (1 : Int32))).1 129 21).toInt = (w13057.1 129 21).toInt := rfl; have := bd_129_35 hI13058; have := ti_add2 (Eq.refl (w13057.1 129 35).toInt) (by decide : ((1 : Int32)).toInt = 1) (by (first | omega | sorry)) (by (first | omega | sorry)); have : ((sI (sI w13057 144 ((w13057.1 129 35).toInt.toNat) r13060) 129 35 ((w13057.1 129 35) + (1 : Int32))).1 129 35).toInt = ((w13057.1 129 35) + (1 : Int32)).toInt := rfl; have := bd_129_23 hI13075; have := bd_129_23 hI13058; have := bd_129_23 hI13048; have := bd_129_23 hI13038; have := bd_129_23 hI13029; have := bd_129_23 hI; have := (congrArg Int32.toInt (hL13030 129 23 rfl).1); have := (congrArg Int32.toInt (hL13039 129 23 rfl).1); have := (congrArg Int32.toInt (hL13049 129 23 rfl).1); have := (congrArg Int32.toInt (hL13059 129 23 rfl).1); have : ((sI (sI w13057 144 ((w13057.1 129 35).toInt.toNat) r13060) 129 35 ((w13057.1 129 35) + (1 : Int32))).1 129 23).toInt = (w13057.1 129 23).toInt := rfl; have := (congrArg Int32.toInt (hL13076 129 23 rfl).1); have := bd_129_11 hI13075; have := bd_129_11 hI13058; have : ((sI (sI w13057 144 ((w13057.1 129 35).toInt.toNat) r13060) 129 35 ((w13057.1 129 35) + (1 : Int32))).1 129 11).toInt = (w13057.1 129 11).toInt := rfl; have := (congrArg Int32.toInt (hL13076 129 11 rfl).1); have := bd_129_35 hI13048; have := bd_129_35 hI13038; have := bd_129_35 hI13029; have := bd_129_35 hI; have := (congrArg Int32.toInt (hL13030 129 35 rfl).1); have := (congrArg Int32.toInt (hL13039 129 35 rfl).1); have := (congrArg Int32.toInt (hL13049 129 35 rfl).1); have := (by decide : ((0 : Int32)).toInt = 0); have := bd_129_21 hI; have := bd_129_13 hI; have := bd_129_11 hI13048; have := bd_129_11 hI13038; have := bd_129_11 hI13029; have := bd_129_11 hI; have := (congrArg Int32.toInt (hL13030 129 11 rfl).1); have := (congrArg Int32.toInt (hL13039 129 11 rfl).1); have := (congrArg Int32.toInt (hL13049 129 11 rfl).1); have := bd_129_13 hI13048; have := bd_129_13 hI13038; have := bd_129_13 hI13029; have := (congrArg Int32.toInt (hL13030 129 13 rfl).1); have := (congrArg Int32.toInt (hL13039 129 13 rfl).1); have := (congrArg Int32.toInt (hL13049 129 13 rfl).1); (first | omega | sorry)
              have hI13086 : BND (sI w13074 143 ((((40 : Int32) * ((1 : Int32) - (w13074.1 129 12))) + r13040).toInt.toNat) r13077) := wbd_143 hI13075 ((((40 : Int32) * ((1 : Int32) - (w13074.1 129 12))) + r13040).toInt.toNat) o13087.1 o13087.2
              have o13089 : 0 ≤ r13077.toInt ∧ r13077.toInt ≤ 299 := by have := bd_129_13 hI13058; have : ((sI (sI w13057 144 ((w13057.1 129 35).toInt.toNat) r13060) 129 35 ((w13057.1 129 35) + (1 : Int32))).1 129 13).toInt = (w13057.1 129 13).toInt := rfl; have := bd_129_13 hI13075; have := bd_129_35 hI13075; have := bd_129_21 hI13075; have := bd_129_21 hI13058; have : ((sI (sI w13057 144 ((w13057.1 129 35).toInt.toNat) r13060) 129 35 ((w13057.1 129 35) + (1 : Int32))).1 129 21).toInt = (w13057.1 129 21).toInt := rfl; have := bd_129_35 hI13058; have := ti_add2 (Eq.refl (w13057.1 129 35).toInt) (by decide : ((1 : Int32)).toInt = 1) (by (first | omega | sorry)) (by (first | omega | sorry)); have : ((sI (sI w13057 144 ((w13057.1 129 35).toInt.toNat) r13060) 129 35 ((w13057.1 129 35) + (1 : Int32))).1 129 35).toInt = ((w13057.1 129 35) + (1 : Int32)).toInt := rfl; have := bd_129_23 hI13075; have := bd_129_23 hI13058; have := bd_129_23 hI13048; have := bd_129_23 hI13038; have := bd_129_23 hI13029; have := bd_129_23 hI; have := (congrArg Int32.toInt (hL13030 129 23 rfl).1); have := (congrArg Int32.toInt (hL13039 129 23 rfl).1); have := (congrArg Int32.toInt (hL13049 129 23 rfl).1); have := (congrArg Int32.toInt (hL13059 129 23 rfl).1); have : ((sI (sI w13057 144 ((w13057.1 129 35).toInt.toNat) r13060) 129 35 ((w13057.1 129 35) + (1 : Int32))).1 129 23).toInt = (w13057.1 129 23).toInt := rfl; have := (congrArg Int32.toInt (hL13076 129 23 rfl).1); have := bd_129_11 hI13075; have := bd_129_11 hI13058; have : ((sI (sI w13057 144 ((w13057.1 129 35).toInt.toNat) r13060) 129 35 ((w13057.1 129 35) + (1 : Int32))).1 129 11).toInt = (w13057.1 129 11).toInt := rfl; have := (congrArg Int32.toInt (hL13076 129 11 rfl).1); have := bd_129_35 hI13048; have := bd_129_35 hI13038; have := bd_129_35 hI13029; have := bd_129_35 hI; have := (congrArg Int32.toInt (hL13030 129 35 rfl).1); have := (congrArg Int32.toInt (hL13039 129 35 rfl).1); have := (congrArg Int32.toInt (hL13049 129 35 rfl).1); have := (by decide : ((0 : Int32)).toInt = 0); have := bd_129_21 hI; have := bd_129_13 hI; have := bd_129_11 hI13048; have := bd_129_11 hI13038; have := bd_129_11 hI13029; have := bd_129_11 hI; have := (congrArg Int32.toInt (hL13030 129 11 rfl).1); have := (congrArg Int32.toInt (hL13039 129 11 rfl).1); have := (congrArg Int32.toInt (hL13049 129 11 rfl).1); have := bd_129_13 hI13048; have := bd_129_13 hI13038; have := bd_129_13 hI13029; have := (congrArg Int32.toInt (hL13030 129 13 rfl).1); have := (congrArg Int32.toInt (hL13039 129 13 rfl).1); have := (congrArg Int32.toInt (hL13049 129 13 rfl).1); (first | omega | sorry)
              have hI13088 : BND (sI (sI w13074 143 ((((40 : Int32) * ((1 : Int32) - (w13074.1 129 12))) + r13040).toInt.toNat) r13077) 138 ((((300 : Int32) * ((1 : Int32) - ((sI w13074 143 ((((40 : Int32) * ((1 : Int32) - (w13074.1 129 12))) + r13040).toInt.toNat) r13077).1 129 12))) + ((sI w13074 143 ((((40 : Int32) * ((1 : Int32) - (w13074.1 129 12))) + r13040).toInt.toNat) r13077).1 129 23)).toInt.toNat) r13077) := wbd_138 hI13086 ((((300 : Int32) * ((1 : Int32) - ((sI w13074 143 ((((40 : Int32) * ((1 : Int32) - (w13074.1 129 12))) + r13040).toInt.toNat) r13077).1 129 12))) + ((sI w13074 143 ((((40 : Int32) * ((1 : Int32) - (w13074.1 129 12))) + r13040).toInt.toNat) r13077).1 129 23)).toInt.toNat) o13089.1 o13089.2
              have o13091 : 0 ≤ (((sI w13074 143 ((((40 : Int32) * ((1 : Int32) - (w13074.1 129 12))) + r13040).toInt.toNat) r13077).1 129 23) + (1 : Int32)).toInt ∧ (((sI w13074 143 ((((40 : Int32) * ((1 : Int32) - (w13074.1 129 12))) + r13040).toInt.toNat) r13077).1 129 23) + (1 : Int32)).toInt ≤ 300 := by have := bd_129_23 hI13075; have := bd_129_23 hI13058; have := bd_129_23 hI13048; have := bd_129_23 hI13038; have := bd_129_23 hI13029; have := bd_129_23 hI; have := (congrArg Int32.toInt (hL13030 129 23 rfl).1); have := (congrArg Int32.toInt (hL13039 129 23 rfl).1); have := (congrArg Int32.toInt (hL13049 129 23 rfl).1); have := (congrArg Int32.toInt (hL13059 129 23 rfl).1); have : ((sI (sI w13057 144 ((w13057.1 129 35).toInt.toNat) r13060) 129 35 ((w13057.1 129 35) + (1 : Int32))).1 129 23).toInt = (w13057.1 129 23).toInt := rfl; have := (congrArg Int32.toInt (hL13076 129 23 rfl).1); have : ((sI w13074 143 ((((40 : Int32) * ((1 : Int32) - (w13074.1 129 12))) + r13040).toInt.toNat) r13077).1 129 23).toInt = (w13074.1 129 23).toInt := rfl; have := ti_add2 (Eq.refl ((sI w13074 143 ((((40 : Int32) * ((1 : Int32) - (w13074.1 129 12))) + r13040).toInt.toNat) r13077).1 129 23).toInt) (by decide : ((1 : Int32)).toInt = 1) (by (first | omega | sorry)) (by (first | omega | sorry)); have := bd_129_35 hI; have := bd_129_21 hI; have := bd_129_13 hI; have := bd_129_13 hI13058; have := bd_129_35 hI13058; have := bd_129_35 hI13048; have := bd_129_35 hI13038; have := bd_129_35 hI13029; have := (congrArg Int32.toInt (hL13030 129 35 rfl).1); have := (congrArg Int32.toInt (hL13039 129 35 rfl).1); have := (congrArg Int32.toInt (hL13049 129 35 rfl).1); have := bd_129_21 hI13058; have := bd_129_11 hI13058; have := bd_129_11 hI13048; have := bd_129_11 hI13038; have := bd_129_11 hI13029; have := bd_129_11 hI; have := (congrArg Int32.toInt (hL13030 129 11 rfl).1); have := (congrArg Int32.toInt (hL13039 129 11 rfl).1); have := (congrArg Int32.toInt (hL13049 129 11 rfl).1); have := bd_129_13 hI13048; have := bd_129_13 hI13038; have := bd_129_13 hI13029; have := (congrArg Int32.toInt (hL13030 129 13 rfl).1); have := (congrArg Int32.toInt (hL13039 129 13 rfl).1); have := (congrArg Int32.toInt (hL13049 129 13 rfl).1); have := (by decide : ((0 : Int32)).toInt = 0); have : ((sI (sI w13057 144 ((w13057.1 129 35).toInt.toNat) r13060) 129 35 ((w13057.1 129 35) + (1 : Int32))).1 129 13).toInt = (w13057.1 129 13).toInt := rfl; have := bd_129_13 hI13075; have := bd_129_35 hI13075; have := bd_129_21 hI13075; have : ((sI (sI w13057 144 ((w13057.1 129 35).toInt.toNat) r13060) 129 35 ((w13057.1 129 35) + (1 : Int32))).1 129 21).toInt = (w13057.1 129 21).toInt := rfl; have := ti_add2 (Eq.refl (w13057.1 129 35).toInt) (by decide : ((1 : Int32)).toInt = 1) (by (first | omega | sorry)) (by (first | omega | sorry)); have : ((sI (sI w13057 144 ((w13057.1 129 35).toInt.toNat) r13060) 129 35 ((w13057.1 129 35) + (1 : Int32))).1 129 35).toInt = ((w13057.1 129 35) + (1 : Int32)).toInt := rfl; have := bd_129_11 hI13075; have : ((sI (sI w13057 144 ((w13057.1 129 35).toInt.toNat) r13060) 129 35 ((w13057.1 129 35) + (1 : Int32))).1 129 11).toInt = (w13057.1 129 11).toInt := rfl; have := (congrArg Int32.toInt (hL13076 129 11 rfl).1); (first | omega | sorry)
              have hI13090 : BND (sI (sI (sI w13074 143 ((((40 : Int32) * ((1 : Int32) - (w13074.1 129 12))) + r13040).toInt.toNat) r13077) 138 ((((300 : Int32) * ((1 : Int32) - ((sI w13074 143 ((((40 : Int32) * ((1 : Int32) - (w13074.1 129 12))) + r13040).toInt.toNat) r13077).1 129 12))) + ((sI w13074 143 ((((40 : Int32) * ((1 : Int32) - (w13074.1 129 12))) + r13040).toInt.toNat) r13077).1 129 23)).toInt.toNat) r13077) 129 23 (((sI w13074 143 ((((40 : Int32) * ((1 : Int32) - (w13074.1 129 12))) + r13040).toInt.toNat) r13077).1 129 23) + (1 : Int32))) := wbd_129_23 hI13088 o13091.1 o13091.2
              have o13092 : (0 ≤ (1 : Int32).toInt) ∧ ((1 : Int32).toInt ≤ 1) ∧ ((1 : Int32).toInt = 0 ∨ (((sI (sI (sI w13074 143 ((((40 : Int32) * ((1 : Int32) - (w13074.1 129 12))) + r13040).toInt.toNat) r13077) 138 ((((300 : Int32) * ((1 : Int32) - ((sI w13074 143 ((((40 : Int32) * ((1 : Int32) - (w13074.1 129 12))) + r13040).toInt.toNat) r13077).1 129 12))) + ((sI w13074 143 ((((40 : Int32) * ((1 : Int32) - (w13074.1 129 12))) + r13040).toInt.toNat) r13077).1 129 23)).toInt.toNat) r13077) 129 23 (((sI w13074 143 ((((40 : Int32) * ((1 : Int32) - (w13074.1 129 12))) + r13040).toInt.toNat) r13077).1 129 23) + (1 : Int32))).1 129 35).toInt + ((sI (sI (sI w13074 143 ((((40 : Int32) * ((1 : Int32) - (w13074.1 129 12))) + r13040).toInt.toNat) r13077) 138 ((((300 : Int32) * ((1 : Int32) - ((sI w13074 143 ((((40 : Int32) * ((1 : Int32) - (w13074.1 129 12))) + r13040).toInt.toNat) r13077).1 129 12))) + ((sI w13074 143 ((((40 : Int32) * ((1 : Int32) - (w13074.1 129 12))) + r13040).toInt.toNat) r13077).1 129 23)).toInt.toNat) r13077) 129 23 (((sI w13074 143 ((((40 : Int32) * ((1 : Int32) - (w13074.1 129 12))) + r13040).toInt.toNat) r13077).1 129 23) + (1 : Int32))).1 129 21).toInt + ((sI (sI (sI w13074 143 ((((40 : Int32) * ((1 : Int32) - (w13074.1 129 12))) + r13040).toInt.toNat) r13077) 138 ((((300 : Int32) * ((1 : Int32) - ((sI w13074 143 ((((40 : Int32) * ((1 : Int32) - (w13074.1 129 12))) + r13040).toInt.toNat) r13077).1 129 12))) + ((sI w13074 143 ((((40 : Int32) * ((1 : Int32) - (w13074.1 129 12))) + r13040).toInt.toNat) r13077).1 129 23)).toInt.toNat) r13077) 129 23 (((sI w13074 143 ((((40 : Int32) * ((1 : Int32) - (w13074.1 129 12))) + r13040).toInt.toNat) r13077).1 129 23) + (1 : Int32))).1 129 23).toInt ≤ ((sI (sI (sI w13074 143 ((((40 : Int32) * ((1 : Int32) - (w13074.1 129 12))) + r13040).toInt.toNat) r13077) 138 ((((300 : Int32) * ((1 : Int32) - ((sI w13074 143 ((((40 : Int32) * ((1 : Int32) - (w13074.1 129 12))) + r13040).toInt.toNat) r13077).1 129 12))) + ((sI w13074 143 ((((40 : Int32) * ((1 : Int32) - (w13074.1 129 12))) + r13040).toInt.toNat) r13077).1 129 23)).toInt.toNat) r13077) 129 23 (((sI w13074 143 ((((40 : Int32) * ((1 : Int32) - (w13074.1 129 12))) + r13040).toInt.toNat) r13077).1 129 23) + (1 : Int32))).1 129 13).toInt ∧ ((sI (sI (sI w13074 143 ((((40 : Int32) * ((1 : Int32) - (w13074.1 129 12))) + r13040).toInt.toNat) r13077) 138 ((((300 : Int32) * ((1 : Int32) - ((sI w13074 143 ((((40 : Int32) * ((1 : Int32) - (w13074.1 129 12))) + r13040).toInt.toNat) r13077).1 129 12))) + ((sI w13074 143 ((((40 : Int32) * ((1 : Int32) - (w13074.1 129 12))) + r13040).toInt.toNat) r13077).1 129 23)).toInt.toNat) r13077) 129 23 (((sI w13074 143 ((((40 : Int32) * ((1 : Int32) - (w13074.1 129 12))) + r13040).toInt.toNat) r13077).1 129 23) + (1 : Int32))).1 129 24).toInt = (w.1 129 24).toInt + 1)) ∧ ((w.1 129 24).toInt ≤ ((sI (sI (sI w13074 143 ((((40 : Int32) * ((1 : Int32) - (w13074.1 129 12))) + r13040).toInt.toNat) r13077) 138 ((((300 : Int32) * ((1 : Int32) - ((sI w13074 143 ((((40 : Int32) * ((1 : Int32) - (w13074.1 129 12))) + r13040).toInt.toNat) r13077).1 129 12))) + ((sI w13074 143 ((((40 : Int32) * ((1 : Int32) - (w13074.1 129 12))) + r13040).toInt.toNat) r13077).1 129 23)).toInt.toNat) r13077) 129 23 (((sI w13074 143 ((((40 : Int32) * ((1 : Int32) - (w13074.1 129 12))) + r13040).toInt.toNat) r13077).1 129 23) + (1 : Int32))).1 129 24).toInt) := by have := (by decide : ((1 : Int32)).toInt = 1); have := bd_129_35 hI13075; have : ((sI (sI (sI w13074 143 ((((40 : Int32) * ((1 : Int32) - (w13074.1 129 12))) + r13040).toInt.toNat) r13077) 138 ((((300 : Int32) * ((1 : Int32) - ((sI w13074 143 ((((40 : Int32) * ((1 : Int32) - (w13074.1 129 12))) + r13040).toInt.toNat) r13077).1 129 12))) + ((sI w13074 143 ((((40 : Int32) * ((1 : Int32) - (w13074.1 129 12))) + r13040).toInt.toNat) r13077).1 129 23)).toInt.toNat) r13077) 129 23 (((sI w13074 143 ((((40 : Int32) * ((1 : Int32) - (w13074.1 129 12))) + r13040).toInt.toNat) r13077).1 129 23) + (1 : Int32))).1 129 35).toInt = (w13074.1 129 35).toInt := rfl; have := bd_129_21 hI13075; have : ((sI (sI (sI w13074 143 ((((40 : Int32) * ((1 : Int32) - (w13074.1 129 12))) + r13040).toInt.toNat) r13077) 138 ((((300 : Int32) * ((1 : Int32) - ((sI w13074 143 ((((40 : Int32) * ((1 : Int32) - (w13074.1 129 12))) + r13040).toInt.toNat) r13077).1 129 12))) + ((sI w13074 143 ((((40 : Int32) * ((1 : Int32) - (w13074.1 129 12))) + r13040).toInt.toNat) r13077).1 129 23)).toInt.toNat) r13077) 129 23 (((sI w13074 143 ((((40 : Int32) * ((1 : Int32) - (w13074.1 129 12))) + r13040).toInt.toNat) r13077).1 129 23) + (1 : Int32))).1 129 21).toInt = (w13074.1 129 21).toInt := rfl; have := bd_129_23 hI13075; have := bd_129_23 hI13058; have := bd_129_23 hI13048; have := bd_129_23 hI13038; have := bd_129_23 hI13029; have := bd_129_23 hI; have := (congrArg Int32.toInt (hL13030 129 23 rfl).1); have := (congrArg Int32.toInt (hL13039 129 23 rfl).1); have := (congrArg Int32.toInt (hL13049 129 23 rfl).1); have := (congrArg Int32.toInt (hL13059 129 23 rfl).1); have : ((sI (sI w13057 144 ((w13057.1 129 35).toInt.toNat) r13060) 129 35 ((w13057.1 129 35) + (1 : Int32))).1 129 23).toInt = (w13057.1 129 23).toInt := rfl; have := (congrArg Int32.toInt (hL13076 129 23 rfl).1); have : ((sI w13074 143 ((((40 : Int32) * ((1 : Int32) - (w13074.1 129 12))) + r13040).toInt.toNat) r13077).1 129 23).toInt = (w13074.1 129 23).toInt := rfl; have := ti_add2 (Eq.refl ((sI w13074 143 ((((40 : Int32) * ((1 : Int32) - (w13074.1 129 12))) + r13040).toInt.toNat) r13077).1 129 23).toInt) (by decide : ((1 : Int32)).toInt = 1) (by (first | omega | sorry)) (by (first | omega | sorry)); have : ((sI (sI (sI w13074 143 ((((40 : Int32) * ((1 : Int32) - (w13074.1 129 12))) + r13040).toInt.toNat) r13077) 138 ((((300 : Int32) * ((1 : Int32) - ((sI w13074 143 ((((40 : Int32) * ((1 : Int32) - (w13074.1 129 12))) + r13040).toInt.toNat) r13077).1 129 12))) + ((sI w13074 143 ((((40 : Int32) * ((1 : Int32) - (w13074.1 129 12))) + r13040).toInt.toNat) r13077).1 129 23)).toInt.toNat) r13077) 129 23 (((sI w13074 143 ((((40 : Int32) * ((1 : Int32) - (w13074.1 129 12))) + r13040).toInt.toNat) r13077).1 129 23) + (1 : Int32))).1 129 23).toInt = (((sI w13074 143 ((((40 : Int32) * ((1 : Int32) - (w13074.1 129 12))) + r13040).toInt.toNat) r13077).1 129 23) + (1 : Int32)).toInt := rfl; have := bd_129_13 hI13075; have : ((sI (sI (sI w13074 143 ((((40 : Int32) * ((1 : Int32) - (w13074.1 129 12))) + r13040).toInt.toNat) r13077) 138 ((((300 : Int32) * ((1 : Int32) - ((sI w13074 143 ((((40 : Int32) * ((1 : Int32) - (w13074.1 129 12))) + r13040).toInt.toNat) r13077).1 129 12))) + ((sI w13074 143 ((((40 : Int32) * ((1 : Int32) - (w13074.1 129 12))) + r13040).toInt.toNat) r13077).1 129 23)).toInt.toNat) r13077) 129 23 (((sI w13074 143 ((((40 : Int32) * ((1 : Int32) - (w13074.1 129 12))) + r13040).toInt.toNat) r13077).1 129 23) + (1 : Int32))).1 129 13).toInt = (w13074.1 129 13).toInt := rfl; have := bd_129_24 hI13075; have := bd_129_24 hI13058; have := bd_129_24 hI13048; have := bd_129_24 hI13038; have := (congrArg Int32.toInt (hL13049 129 24 rfl).1); have := (congrArg Int32.toInt (hL13059 129 24 rfl).1); have : ((sI (sI w13057 144 ((w13057.1 129 35).toInt.toNat) r13060) 129 35 ((w13057.1 129 35) + (1 : Int32))).1 129 24).toInt = (w13057.1 129 24).toInt := rfl; have := (congrArg Int32.toInt (hL13076 129 24 rfl).1); have : ((sI (sI (sI w13074 143 ((((40 : Int32) * ((1 : Int32) - (w13074.1 129 12))) + r13040).toInt.toNat) r13077) 138 ((((300 : Int32) * ((1 : Int32) - ((sI w13074 143 ((((40 : Int32) * ((1 : Int32) - (w13074.1 129 12))) + r13040).toInt.toNat) r13077).1 129 12))) + ((sI w13074 143 ((((40 : Int32) * ((1 : Int32) - (w13074.1 129 12))) + r13040).toInt.toNat) r13077).1 129 23)).toInt.toNat) r13077) 129 23 (((sI w13074 143 ((((40 : Int32) * ((1 : Int32) - (w13074.1 129 12))) + r13040).toInt.toNat) r13077).1 129 23) + (1 : Int32))).1 129 24).toInt = (w13074.1 129 24).toInt := rfl; have := bd_129_24 hI; have := bd_129_35 hI; have := bd_129_21 hI; have := bd_129_13 hI; have := bd_129_24 hI13029; have := (congrArg Int32.toInt (hL13030 129 24 rfl).1); have := (by decide : ((0 : Int32)).toInt = 0); have := bd_129_13 hI13058; have := bd_129_35 hI13058; have := bd_129_35 hI13048; have := bd_129_35 hI13038; have := bd_129_35 hI13029; have := (congrArg Int32.toInt (hL13030 129 35 rfl).1); have := (congrArg Int32.toInt (hL13039 129 35 rfl).1); have := (congrArg Int32.toInt (hL13049 129 35 rfl).1); have := bd_129_21 hI13058; have := bd_129_11 hI13058; have := bd_129_11 hI13048; have := bd_129_11 hI13038; have := bd_129_11 hI13029; have := bd_129_11 hI; have := (congrArg Int32.toInt (hL13030 129 11 rfl).1); have := (congrArg Int32.toInt (hL13039 129 11 rfl).1); have := (congrArg Int32.toInt (hL13049 129 11 rfl).1); have := bd_129_13 hI13048; have := bd_129_13 hI13038; have := bd_129_13 hI13029; have := (congrArg Int32.toInt (hL13030 129 13 rfl).1); have := (congrArg Int32.toInt (hL13039 129 13 rfl).1); have := (congrArg Int32.toInt (hL13049 129 13 rfl).1); have : ((sI (sI w13057 144 ((w13057.1 129 35).toInt.toNat) r13060) 129 35 ((w13057.1 129 35) + (1 : Int32))).1 129 13).toInt = (w13057.1 129 13).toInt := rfl; have : ((sI (sI w13057 144 ((w13057.1 129 35).toInt.toNat) r13060) 129 35 ((w13057.1 129 35) + (1 : Int32))).1 129 21).toInt = (w13057.1 129 21).toInt := rfl; have := ti_add2 (Eq.refl (w13057.1 129 35).toInt) (by decide : ((1 : Int32)).toInt = 1) (by (first | omega | sorry)) (by (first | omega | sorry)); have : ((sI (sI w13057 144 ((w13057.1 129 35).toInt.toNat) r13060) 129 35 ((w13057.1 129 35) + (1 : Int32))).1 129 35).toInt = ((w13057.1 129 35) + (1 : Int32)).toInt := rfl; have := bd_129_11 hI13075; have : ((sI (sI w13057 144 ((w13057.1 129 35).toInt.toNat) r13060) 129 35 ((w13057.1 129 35) + (1 : Int32))).1 129 11).toInt = (w13057.1 129 11).toInt := rfl; have := (congrArg Int32.toInt (hL13076 129 11 rfl).1); exact ⟨by (first | omega | sorry), by (first | omega | sorry), by (first | omega | sorry), by (first | omega | sorry)⟩
              exact hQ _ _ hI13090 (FR.I (FR.I (FR.I hF13082 (k := 143) (j := (((40 : Int32) * ((1 : Int32) - (w13074.1 129 12))) + r13040).toInt.toNat) (v := r13077) rfl) (k := 138) (j := (((300 : Int32) * ((1 : Int32) - ((sI w13074 143 ((((40 : Int32) * ((1 : Int32) - (w13074.1 129 12))) + r13040).toInt.toNat) r13077).1 129 12))) + ((sI w13074 143 ((((40 : Int32) * ((1 : Int32) - (w13074.1 129 12))) + r13040).toInt.toNat) r13077).1 129 23)).toInt.toNat) (v := r13077) rfl) (k := 129) (j := 23) (v := (((sI w13074 143 ((((40 : Int32) * ((1 : Int32) - (w13074.1 129 12))) + r13040).toInt.toNat) r13077).1 129 23) + (1 : Int32))) rfl) (PZ_fr (l := [(129, some 23)]) (FR.I (FR.refl _ (sI (sI w13074 143 ((((40 : Int32) * ((1 : Int32) - (w13074.1 129 12))) + r13040).toInt.toNat) r13077) 138 ((((300 : Int32) * ((1 : Int32) - ((sI w13074 143 ((((40 : Int32) * ((1 : Int32) - (w13074.1 129 12))) + r13040).toInt.toNat) r13077).1 129 12))) + ((sI w13074 143 ((((40 : Int32) * ((1 : Int32) - (w13074.1 129 12))) + r13040).toInt.toNat) r13077).1 129 23)).toInt.toNat) r13077)) (k := 129) (j := 23) (v := (((sI w13074 143 ((((40 : Int32) * ((1 : Int32) - (w13074.1 129 12))) + r13040).toInt.toNat) r13077).1 129 23) + (1 : Int32))) rfl) rfl (PZ_fr (l := [(138, none)]) (FR.I (FR.refl _ (sI w13074 143 ((((40 : Int32) * ((1 : Int32) - (w13074.1 129 12))) + r13040).toInt.toNat) r13077)) (k := 138) (j := (((300 : Int32) * ((1 : Int32) - ((sI w13074 143 ((((40 : Int32) * ((1 : Int32) - (w13074.1 129 12))) + r13040).toInt.toNat) r13077).1 129 12))) + ((sI w13074 143 ((((40 : Int32) * ((1 : Int32) - (w13074.1 129 12))) + r13040).toInt.toNat) r13077).1 129 23)).toInt.toNat) (v := r13077) rfl) rfl (PZ_fr (l := [(143, none)]) (FR.I (FR.refl _ w13074) (k := 143) (j := (((40 : Int32) * ((1 : Int32) - (w13074.1 129 12))) + r13040).toInt.toNat) (v := r13077) rfl) rfl (PZ_fr hL13076 rfl (PZ_fr (l := [(129, some 35)]) (FR.I (FR.refl _ (sI w13057 144 ((w13057.1 129 35).toInt.toNat) r13060)) (k := 129) (j := 35) (v := ((w13057.1 129 35) + (1 : Int32))) rfl) rfl (PZ_fr (l := [(144, none)]) (FR.I (FR.refl _ w13057) (k := 144) (j := (w13057.1 129 35).toInt.toNat) (v := r13060) rfl) rfl hlw13057_PZ))))))  o13092.1 o13092.2.1 o13092.2.2.1 o13092.2.2.2
            · have o13093 : (0 ≤ (0 : Int32).toInt) ∧ ((0 : Int32).toInt ≤ 1) ∧ ((0 : Int32).toInt = 0 ∨ ((w13074.1 129 35).toInt + (w13074.1 129 21).toInt + (w13074.1 129 23).toInt ≤ (w13074.1 129 13).toInt ∧ (w13074.1 129 24).toInt = (w.1 129 24).toInt + 1)) ∧ ((w.1 129 24).toInt ≤ (w13074.1 129 24).toInt) := by have := (by decide : ((0 : Int32)).toInt = 0); have := bd_129_35 hI13075; have := bd_129_21 hI13075; have := bd_129_23 hI13075; have := bd_129_23 hI13058; have := bd_129_23 hI13048; have := bd_129_23 hI13038; have := bd_129_23 hI13029; have := bd_129_23 hI; have := (congrArg Int32.toInt (hL13030 129 23 rfl).1); have := (congrArg Int32.toInt (hL13039 129 23 rfl).1); have := (congrArg Int32.toInt (hL13049 129 23 rfl).1); have := (congrArg Int32.toInt (hL13059 129 23 rfl).1); have : ((sI (sI w13057 144 ((w13057.1 129 35).toInt.toNat) r13060) 129 35 ((w13057.1 129 35) + (1 : Int32))).1 129 23).toInt = (w13057.1 129 23).toInt := rfl; have := (congrArg Int32.toInt (hL13076 129 23 rfl).1); have := bd_129_13 hI13075; have := bd_129_24 hI13075; have := bd_129_24 hI13058; have := bd_129_24 hI13048; have := bd_129_24 hI13038; have := (congrArg Int32.toInt (hL13049 129 24 rfl).1); have := (congrArg Int32.toInt (hL13059 129 24 rfl).1); have : ((sI (sI w13057 144 ((w13057.1 129 35).toInt.toNat) r13060) 129 35 ((w13057.1 129 35) + (1 : Int32))).1 129 24).toInt = (w13057.1 129 24).toInt := rfl; have := (congrArg Int32.toInt (hL13076 129 24 rfl).1); have := bd_129_24 hI; have := bd_129_35 hI; have := bd_129_21 hI; have := bd_129_13 hI; have := bd_129_24 hI13029; have := (congrArg Int32.toInt (hL13030 129 24 rfl).1); have := bd_129_13 hI13058; have := bd_129_35 hI13058; have := bd_129_35 hI13048; have := bd_129_35 hI13038; have := bd_129_35 hI13029; have := (congrArg Int32.toInt (hL13030 129 35 rfl).1); have := (congrArg Int32.toInt (hL13039 129 35 rfl).1); have := (congrArg Int32.toInt (hL13049 129 35 rfl).1); have := bd_129_21 hI13058; have := bd_129_11 hI13058; have := bd_129_11 hI13048; have := bd_129_11 hI13038; have := bd_129_11 hI13029; have := bd_129_11 hI; have := (congrArg Int32.toInt (hL13030 129 11 rfl).1); have := (congrArg Int32.toInt (hL13039 129 11 rfl).1); have := (congrArg Int32.toInt (hL13049 129 11 rfl).1); have := bd_129_13 hI13048; have := bd_129_13 hI13038; have := bd_129_13 hI13029; have := (congrArg Int32.toInt (hL13030 129 13 rfl).1); have := (congrArg Int32.toInt (hL13039 129 13 rfl).1); have := (congrArg Int32.toInt (hL13049 129 13 rfl).1); have : ((sI (sI w13057 144 ((w13057.1 129 35).toInt.toNat) r13060) 129 35 ((w13057.1 129 35) + (1 : Int32))).1 129 13).toInt = (w13057.1 129 13).toInt := rfl; have : ((sI (sI w13057 144 ((w13057.1 129 35).toInt.toNat) r13060) 129 35 ((w13057.1 129 35) + (1 : Int32))).1 129 21).toInt = (w13057.1 129 21).toInt := rfl; have := ti_add2 (Eq.refl (w13057.1 129 35).toInt) (by decide : ((1 : Int32)).toInt = 1) (by (first | omega | sorry)) (by (first | omega | sorry)); have : ((sI (sI w13057 144 ((w13057.1 129 35).toInt.toNat) r13060) 129 35 ((w13057.1 129 35) + (1 : Int32))).1 129 35).toInt = ((w13057.1 129 35) + (1 : Int32)).toInt := rfl; have := bd_129_11 hI13075; have : ((sI (sI w13057 144 ((w13057.1 129 35).toInt.toNat) r13060) 129 35 ((w13057.1 129 35) + (1 : Int32))).1 129 11).toInt = (w13057.1 129 11).toInt := rfl; have := (congrArg Int32.toInt (hL13076 129 11 rfl).1); exact ⟨by (first | omega | sorry), by (first | omega | sorry), by (first | omega | sorry), by (first | omega | sorry)⟩
              exact hQ _ _ hI13075 hF13082 (PZ_fr hL13076 rfl (PZ_fr (l := [(129, some 35)]) (FR.I (FR.refl _ (sI w13057 144 ((w13057.1 129 35).toInt.toNat) r13060)) (k := 129) (j := 35) (v := ((w13057.1 129 35) + (1 : Int32))) rfl) rfl (PZ_fr (l := [(144, none)]) (FR.I (FR.refl _ w13057) (k := 144) (j := (w13057.1 129 35).toInt.toNat) (v := r13060) rfl) rfl hlw13057_PZ)))  o13093.1 o13093.2.1 o13093.2.2.1 o13093.2.2.2
          · refine ⟨fun h => absurd h (by decide), fun _ => ?_⟩
            have o13094 : (0 ≤ (0 : Int32).toInt) ∧ ((0 : Int32).toInt ≤ 1) ∧ ((0 : Int32).toInt = 0 ∨ ((w13057.1 129 35).toInt + (w13057.1 129 21).toInt + (w13057.1 129 23).toInt ≤ (w13057.1 129 13).toInt ∧ (w13057.1 129 24).toInt = (w.1 129 24).toInt + 1)) ∧ ((w.1 129 24).toInt ≤ (w13057.1 129 24).toInt) := by have := (by decide : ((0 : Int32)).toInt = 0); have := bd_129_35 hI13058; have := bd_129_21 hI13058; have := bd_129_23 hI13058; have := bd_129_23 hI13048; have := bd_129_23 hI13038; have := bd_129_23 hI13029; have := bd_129_23 hI; have := (congrArg Int32.toInt (hL13030 129 23 rfl).1); have := (congrArg Int32.toInt (hL13039 129 23 rfl).1); have := (congrArg Int32.toInt (hL13049 129 23 rfl).1); have := (congrArg Int32.toInt (hL13059 129 23 rfl).1); have := bd_129_13 hI13058; have := bd_129_24 hI13058; have := bd_129_24 hI13048; have := bd_129_24 hI13038; have := (congrArg Int32.toInt (hL13049 129 24 rfl).1); have := (congrArg Int32.toInt (hL13059 129 24 rfl).1); have := bd_129_24 hI; have := bd_129_35 hI; have := bd_129_21 hI; have := bd_129_13 hI; have := bd_129_24 hI13029; have := (congrArg Int32.toInt (hL13030 129 24 rfl).1); have := bd_129_35 hI13048; have := bd_129_35 hI13038; have := bd_129_35 hI13029; have := (congrArg Int32.toInt (hL13030 129 35 rfl).1); have := (congrArg Int32.toInt (hL13039 129 35 rfl).1); have := (congrArg Int32.toInt (hL13049 129 35 rfl).1); have := bd_129_11 hI13058; have := bd_129_11 hI13048; have := bd_129_11 hI13038; have := bd_129_11 hI13029; have := bd_129_11 hI; have := (congrArg Int32.toInt (hL13030 129 11 rfl).1); have := (congrArg Int32.toInt (hL13039 129 11 rfl).1); have := (congrArg Int32.toInt (hL13049 129 11 rfl).1); have := bd_129_13 hI13048; have := bd_129_13 hI13038; have := bd_129_13 hI13029; have := (congrArg Int32.toInt (hL13030 129 13 rfl).1); have := (congrArg Int32.toInt (hL13039 129 13 rfl).1); have := (congrArg Int32.toInt (hL13049 129 13 rfl).1); exact ⟨by (first | omega | sorry), by (first | omega | sorry), by (first | omega | sorry), by (first | omega | sorry)⟩
            exact hQ _ _ hI13058 hF13066 hlw13057_PZ  o13094.1 o13094.2.1 o13094.2.2.1 o13094.2.2.2
        · refine Eq.mpr (p_Tx_unitWord.eq_1 _ _) ?_
          refine ⟨fun h13095 => ?_, fun h13095 => ?_⟩
          · have o13096 : 0 ≤ (((40 : Int32) * ((1 : Int32) - (w13047.1 129 12))) + r13040).toInt ∧ (((40 : Int32) * ((1 : Int32) - (w13047.1 129 12))) + r13040).toInt < 80 := by have := bd_129_12 hI13048; have := bd_129_12 hI13038; have := bd_129_12 hI13029; have := bd_129_12 hI; have := (congrArg Int32.toInt (hL13030 129 12 rfl).1); have := (congrArg Int32.toInt (hL13039 129 12 rfl).1); have := (congrArg Int32.toInt (hL13049 129 12 rfl).1); have := ti_sub2 (by decide : ((1 : Int32)).toInt = 1) (Eq.refl (w13047.1 129 12).toInt) (by (first | omega | sorry)) (by (first | omega | sorry)); have := ti_mul2 (by decide : ((40 : Int32)).toInt = 40) (Eq.refl ((1 : Int32) - (w13047.1 129 12)).toInt) (by (first | omega | sorry)) (by (first | omega | sorry)); have := ti_add2 (Eq.refl ((40 : Int32) * ((1 : Int32) - (w13047.1 129 12))).toInt) (Eq.refl r13040.toInt) (by (first | omega | sorry)) (by (first | omega | sorry)); have := bd_129_24 hI13038; have := bd_129_24 hI13029; have := bd_129_24 hI; have := (congrArg Int32.toInt (hL13030 129 24 rfl).1); have := (by decide : ((0 : Int32)).toInt = 0); (first | omega | sorry)
            refine ⟨o13096, ?_⟩
            refine ⟨fun _ => ?_, fun h => absurd (by decide) h⟩
            refine Eq.mpr (p_Tx_over.eq_1 _ _ _) ?_
            refine ⟨fun h13097 => ?_, fun h13097 => ?_⟩
            · replace h13097 : ((sI w13047 142 ((((40 : Int32) * ((1 : Int32) - (w13047.1 129 12))) + r13040).toInt.toNat) 0).1 129 4).toInt = 59 := h13097
              have hI13098 : BND (sI w13047 142 ((((40 : Int32) * ((1 : Int32) - (w13047.1 129 12))) + r13040).toInt.toNat) 0) := wbd_142 hI13048 ((((40 : Int32) * ((1 : Int32) - (w13047.1 129 12))) + r13040).toInt.toNat) (by decide) (by decide)
              refine h_Tx_go hI13098 (PZ_fr (l := [(142, none)]) (FR.I (FR.refl _ w13047) (k := 142) (j := (((40 : Int32) * ((1 : Int32) - (w13047.1 129 12))) + r13040).toInt.toNat) (v := 0) rfl) rfl hlw13047_PZ)  (fun r13102 w13099 hI13100 hL13101 hlw13099_PZ p13103 p13104 p13105 => ?_)
              have hF13106 : FR l_Tx_declaration w w13099 := (FR.I hF13054 (k := 142) (j := (((40 : Int32) * ((1 : Int32) - (w13047.1 129 12))) + r13040).toInt.toNat) (v := 0) rfl).tr hL13101 rfl
              refine ⟨fun h13107 => ?_, fun h13107 => ?_⟩
              · have o13108 : (0 ≤ (0 : Int32).toInt) ∧ ((0 : Int32).toInt ≤ 1) ∧ ((0 : Int32).toInt = 0 ∨ ((w13099.1 129 35).toInt + (w13099.1 129 21).toInt + (w13099.1 129 23).toInt ≤ (w13099.1 129 13).toInt ∧ (w13099.1 129 24).toInt = (w.1 129 24).toInt + 1)) ∧ ((w.1 129 24).toInt ≤ (w13099.1 129 24).toInt) := by have := (by decide : ((0 : Int32)).toInt = 0); have := bd_129_35 hI13100; have := bd_129_35 hI13048; have := bd_129_35 hI13038; have := bd_129_35 hI13029; have := bd_129_35 hI; have := (congrArg Int32.toInt (hL13030 129 35 rfl).1); have := (congrArg Int32.toInt (hL13039 129 35 rfl).1); have := (congrArg Int32.toInt (hL13049 129 35 rfl).1); have : ((sI w13047 142 ((((40 : Int32) * ((1 : Int32) - (w13047.1 129 12))) + r13040).toInt.toNat) 0).1 129 35).toInt = (w13047.1 129 35).toInt := rfl; have := (congrArg Int32.toInt (hL13101 129 35 rfl).1); have := bd_129_21 hI13100; have := bd_129_21 hI13048; have := bd_129_21 hI13038; have := bd_129_21 hI13029; have := bd_129_21 hI; have := (congrArg Int32.toInt (hL13030 129 21 rfl).1); have := (congrArg Int32.toInt (hL13039 129 21 rfl).1); have := (congrArg Int32.toInt (hL13049 129 21 rfl).1); have : ((sI w13047 142 ((((40 : Int32) * ((1 : Int32) - (w13047.1 129 12))) + r13040).toInt.toNat) 0).1 129 21).toInt = (w13047.1 129 21).toInt := rfl; have := (congrArg Int32.toInt (hL13101 129 21 rfl).1); have := bd_129_23 hI13100; have := bd_129_23 hI13048; have := bd_129_23 hI13038; have := bd_129_23 hI13029; have := bd_129_23 hI; have := (congrArg Int32.toInt (hL13030 129 23 rfl).1); have := (congrArg Int32.toInt (hL13039 129 23 rfl).1); have := (congrArg Int32.toInt (hL13049 129 23 rfl).1); have : ((sI w13047 142 ((((40 : Int32) * ((1 : Int32) - (w13047.1 129 12))) + r13040).toInt.toNat) 0).1 129 23).toInt = (w13047.1 129 23).toInt := rfl; have := (congrArg Int32.toInt (hL13101 129 23 rfl).1); have := bd_129_13 hI13100; have := bd_129_13 hI13048; have := bd_129_13 hI13038; have := bd_129_13 hI13029; have := bd_129_13 hI; have := (congrArg Int32.toInt (hL13030 129 13 rfl).1); have := (congrArg Int32.toInt (hL13039 129 13 rfl).1); have := (congrArg Int32.toInt (hL13049 129 13 rfl).1); have : ((sI w13047 142 ((((40 : Int32) * ((1 : Int32) - (w13047.1 129 12))) + r13040).toInt.toNat) 0).1 129 13).toInt = (w13047.1 129 13).toInt := rfl; have := (congrArg Int32.toInt (hL13101 129 13 rfl).1); have := bd_129_24 hI13100; have := bd_129_24 hI13048; have := bd_129_24 hI13038; have := (congrArg Int32.toInt (hL13049 129 24 rfl).1); have : ((sI w13047 142 ((((40 : Int32) * ((1 : Int32) - (w13047.1 129 12))) + r13040).toInt.toNat) 0).1 129 24).toInt = (w13047.1 129 24).toInt := rfl; have := (congrArg Int32.toInt (hL13101 129 24 rfl).1); have := bd_129_24 hI; have := bd_129_24 hI13029; have := (congrArg Int32.toInt (hL13030 129 24 rfl).1); exact ⟨by (first | omega | sorry), by (first | omega | sorry), by (first | omega | sorry), by (first | omega | sorry)⟩
                exact hQ _ _ hI13100 hF13106 hlw13099_PZ  o13108.1 o13108.2.1 o13108.2.2.1 o13108.2.2.2
              · have o13109 : (0 ≤ (1 : Int32).toInt) ∧ ((1 : Int32).toInt ≤ 1) ∧ ((1 : Int32).toInt = 0 ∨ ((w13099.1 129 35).toInt + (w13099.1 129 21).toInt + (w13099.1 129 23).toInt ≤ (w13099.1 129 13).toInt ∧ (w13099.1 129 24).toInt = (w.1 129 24).toInt + 1)) ∧ ((w.1 129 24).toInt ≤ (w13099.1 129 24).toInt) := by have := (by decide : ((1 : Int32)).toInt = 1); have := bd_129_35 hI13100; have := bd_129_35 hI13048; have := bd_129_35 hI13038; have := bd_129_35 hI13029; have := bd_129_35 hI; have := (congrArg Int32.toInt (hL13030 129 35 rfl).1); have := (congrArg Int32.toInt (hL13039 129 35 rfl).1); have := (congrArg Int32.toInt (hL13049 129 35 rfl).1); have : ((sI w13047 142 ((((40 : Int32) * ((1 : Int32) - (w13047.1 129 12))) + r13040).toInt.toNat) 0).1 129 35).toInt = (w13047.1 129 35).toInt := rfl; have := (congrArg Int32.toInt (hL13101 129 35 rfl).1); have := bd_129_21 hI13100; have := bd_129_21 hI13048; have := bd_129_21 hI13038; have := bd_129_21 hI13029; have := bd_129_21 hI; have := (congrArg Int32.toInt (hL13030 129 21 rfl).1); have := (congrArg Int32.toInt (hL13039 129 21 rfl).1); have := (congrArg Int32.toInt (hL13049 129 21 rfl).1); have : ((sI w13047 142 ((((40 : Int32) * ((1 : Int32) - (w13047.1 129 12))) + r13040).toInt.toNat) 0).1 129 21).toInt = (w13047.1 129 21).toInt := rfl; have := (congrArg Int32.toInt (hL13101 129 21 rfl).1); have := bd_129_23 hI13100; have := bd_129_23 hI13048; have := bd_129_23 hI13038; have := bd_129_23 hI13029; have := bd_129_23 hI; have := (congrArg Int32.toInt (hL13030 129 23 rfl).1); have := (congrArg Int32.toInt (hL13039 129 23 rfl).1); have := (congrArg Int32.toInt (hL13049 129 23 rfl).1); have : ((sI w13047 142 ((((40 : Int32) * ((1 : Int32) - (w13047.1 129 12))) + r13040).toInt.toNat) 0).1 129 23).toInt = (w13047.1 129 23).toInt := rfl; have := (congrArg Int32.toInt (hL13101 129 23 rfl).1); have := bd_129_13 hI13100; have := bd_129_13 hI13048; have := bd_129_13 hI13038; have := bd_129_13 hI13029; have := bd_129_13 hI; have := (congrArg Int32.toInt (hL13030 129 13 rfl).1); have := (congrArg Int32.toInt (hL13039 129 13 rfl).1); have := (congrArg Int32.toInt (hL13049 129 13 rfl).1); have : ((sI w13047 142 ((((40 : Int32) * ((1 : Int32) - (w13047.1 129 12))) + r13040).toInt.toNat) 0).1 129 13).toInt = (w13047.1 129 13).toInt := rfl; have := (congrArg Int32.toInt (hL13101 129 13 rfl).1); have := bd_129_24 hI13100; have := bd_129_24 hI13048; have := bd_129_24 hI13038; have := (congrArg Int32.toInt (hL13049 129 24 rfl).1); have : ((sI w13047 142 ((((40 : Int32) * ((1 : Int32) - (w13047.1 129 12))) + r13040).toInt.toNat) 0).1 129 24).toInt = (w13047.1 129 24).toInt := rfl; have := (congrArg Int32.toInt (hL13101 129 24 rfl).1); have := bd_129_24 hI; have := bd_129_24 hI13029; have := (congrArg Int32.toInt (hL13030 129 24 rfl).1); have := (by decide : ((0 : Int32)).toInt = 0); exact ⟨by (first | omega | sorry), by (first | omega | sorry), by (first | omega | sorry), by (first | omega | sorry)⟩
                exact hQ _ _ hI13100 hF13106 hlw13099_PZ  o13109.1 o13109.2.1 o13109.2.2.1 o13109.2.2.2
            · replace h13097 : ¬ (((sI w13047 142 ((((40 : Int32) * ((1 : Int32) - (w13047.1 129 12))) + r13040).toInt.toNat) 0).1 129 4).toInt = 59) := h13097
              refine ⟨fun _ => ?_, fun h => absurd (by decide) h⟩
              have hI13110 : BND (sI w13047 142 ((((40 : Int32) * ((1 : Int32) - (w13047.1 129 12))) + r13040).toInt.toNat) 0) := wbd_142 hI13048 ((((40 : Int32) * ((1 : Int32) - (w13047.1 129 12))) + r13040).toInt.toNat) (by decide) (by decide)
              have hI13111 : BND (sI (sI w13047 142 ((((40 : Int32) * ((1 : Int32) - (w13047.1 129 12))) + r13040).toInt.toNat) 0) 129 10 ((sI w13047 142 ((((40 : Int32) * ((1 : Int32) - (w13047.1 129 12))) + r13040).toInt.toNat) 0).1 129 5)) := wbd_129_10 hI13110
              have o13112 : (0 ≤ (0 : Int32).toInt) ∧ ((0 : Int32).toInt ≤ 1) ∧ ((0 : Int32).toInt = 0 ∨ (((sI (sI w13047 142 ((((40 : Int32) * ((1 : Int32) - (w13047.1 129 12))) + r13040).toInt.toNat) 0) 129 10 ((sI w13047 142 ((((40 : Int32) * ((1 : Int32) - (w13047.1 129 12))) + r13040).toInt.toNat) 0).1 129 5)).1 129 35).toInt + ((sI (sI w13047 142 ((((40 : Int32) * ((1 : Int32) - (w13047.1 129 12))) + r13040).toInt.toNat) 0) 129 10 ((sI w13047 142 ((((40 : Int32) * ((1 : Int32) - (w13047.1 129 12))) + r13040).toInt.toNat) 0).1 129 5)).1 129 21).toInt + ((sI (sI w13047 142 ((((40 : Int32) * ((1 : Int32) - (w13047.1 129 12))) + r13040).toInt.toNat) 0) 129 10 ((sI w13047 142 ((((40 : Int32) * ((1 : Int32) - (w13047.1 129 12))) + r13040).toInt.toNat) 0).1 129 5)).1 129 23).toInt ≤ ((sI (sI w13047 142 ((((40 : Int32) * ((1 : Int32) - (w13047.1 129 12))) + r13040).toInt.toNat) 0) 129 10 ((sI w13047 142 ((((40 : Int32) * ((1 : Int32) - (w13047.1 129 12))) + r13040).toInt.toNat) 0).1 129 5)).1 129 13).toInt ∧ ((sI (sI w13047 142 ((((40 : Int32) * ((1 : Int32) - (w13047.1 129 12))) + r13040).toInt.toNat) 0) 129 10 ((sI w13047 142 ((((40 : Int32) * ((1 : Int32) - (w13047.1 129 12))) + r13040).toInt.toNat) 0).1 129 5)).1 129 24).toInt = (w.1 129 24).toInt + 1)) ∧ ((w.1 129 24).toInt ≤ ((sI (sI w13047 142 ((((40 : Int32) * ((1 : Int32) - (w13047.1 129 12))) + r13040).toInt.toNat) 0) 129 10 ((sI w13047 142 ((((40 : Int32) * ((1 : Int32) - (w13047.1 129 12))) + r13040).toInt.toNat) 0).1 129 5)).1 129 24).toInt) := by have := (by decide : ((0 : Int32)).toInt = 0); have := bd_129_35 hI13048; have := bd_129_35 hI13038; have := bd_129_35 hI13029; have := bd_129_35 hI; have := (congrArg Int32.toInt (hL13030 129 35 rfl).1); have := (congrArg Int32.toInt (hL13039 129 35 rfl).1); have := (congrArg Int32.toInt (hL13049 129 35 rfl).1); have : ((sI (sI w13047 142 ((((40 : Int32) * ((1 : Int32) - (w13047.1 129 12))) + r13040).toInt.toNat) 0) 129 10 ((sI w13047 142 ((((40 : Int32) * ((1 : Int32) - (w13047.1 129 12))) + r13040).toInt.toNat) 0).1 129 5)).1 129 35).toInt = (w13047.1 129 35).toInt := rfl; have := bd_129_21 hI13048; have := bd_129_21 hI13038; have := bd_129_21 hI13029; have := bd_129_21 hI; have := (congrArg Int32.toInt (hL13030 129 21 rfl).1); have := (congrArg Int32.toInt (hL13039 129 21 rfl).1); have := (congrArg Int32.toInt (hL13049 129 21 rfl).1); have : ((sI (sI w13047 142 ((((40 : Int32) * ((1 : Int32) - (w13047.1 129 12))) + r13040).toInt.toNat) 0) 129 10 ((sI w13047 142 ((((40 : Int32) * ((1 : Int32) - (w13047.1 129 12))) + r13040).toInt.toNat) 0).1 129 5)).1 129 21).toInt = (w13047.1 129 21).toInt := rfl; have := bd_129_23 hI13048; have := bd_129_23 hI13038; have := bd_129_23 hI13029; have := bd_129_23 hI; have := (congrArg Int32.toInt (hL13030 129 23 rfl).1); have := (congrArg Int32.toInt (hL13039 129 23 rfl).1); have := (congrArg Int32.toInt (hL13049 129 23 rfl).1); have : ((sI (sI w13047 142 ((((40 : Int32) * ((1 : Int32) - (w13047.1 129 12))) + r13040).toInt.toNat) 0) 129 10 ((sI w13047 142 ((((40 : Int32) * ((1 : Int32) - (w13047.1 129 12))) + r13040).toInt.toNat) 0).1 129 5)).1 129 23).toInt = (w13047.1 129 23).toInt := rfl; have := bd_129_13 hI13048; have := bd_129_13 hI13038; have := bd_129_13 hI13029; have := bd_129_13 hI; have := (congrArg Int32.toInt (hL13030 129 13 rfl).1); have := (congrArg Int32.toInt (hL13039 129 13 rfl).1); have := (congrArg Int32.toInt (hL13049 129 13 rfl).1); have : ((sI (sI w13047 142 ((((40 : Int32) * ((1 : Int32) - (w13047.1 129 12))) + r13040).toInt.toNat) 0) 129 10 ((sI w13047 142 ((((40 : Int32) * ((1 : Int32) - (w13047.1 129 12))) + r13040).toInt.toNat) 0).1 129 5)).1 129 13).toInt = (w13047.1 129 13).toInt := rfl; have := bd_129_24 hI13048; have := bd_129_24 hI13038; have := (congrArg Int32.toInt (hL13049 129 24 rfl).1); have : ((sI (sI w13047 142 ((((40 : Int32) * ((1 : Int32) - (w13047.1 129 12))) + r13040).toInt.toNat) 0) 129 10 ((sI w13047 142 ((((40 : Int32) * ((1 : Int32) - (w13047.1 129 12))) + r13040).toInt.toNat) 0).1 129 5)).1 129 24).toInt = (w13047.1 129 24).toInt := rfl; have := bd_129_24 hI; have := bd_129_5 hI13029; have := bd_129_6 hI13029; have := bd_129_24 hI13029; have := (congrArg Int32.toInt (hL13030 129 24 rfl).1); have := bd_129_5 hI13048; have := bd_129_6 hI13048; have := True.intro; have := (by decide : ((24 : Int32)).toInt = 24); have := True.intro; have := True.intro; have := (by decide : ((1 : Int32)).toInt = 1); have : ((sI w13047 142 ((((40 : Int32) * ((1 : Int32) - (w13047.1 129 12))) + r13040).toInt.toNat) 0).1 129 4).toInt = (w13047.1 129 4).toInt := rfl; have := (by decide : ((59 : Int32)).toInt = 59); exact ⟨by (first | omega | sorry), by (first | omega | sorry), by (first | omega | sorry), by (first | omega | sorry)⟩
              exact hQ _ _ hI13111 (FR.I (FR.I hF13054 (k := 142) (j := (((40 : Int32) * ((1 : Int32) - (w13047.1 129 12))) + r13040).toInt.toNat) (v := 0) rfl) (k := 129) (j := 10) (v := ((sI w13047 142 ((((40 : Int32) * ((1 : Int32) - (w13047.1 129 12))) + r13040).toInt.toNat) 0).1 129 5)) rfl) (PZ_fr (l := [(129, some 10)]) (FR.I (FR.refl _ (sI w13047 142 ((((40 : Int32) * ((1 : Int32) - (w13047.1 129 12))) + r13040).toInt.toNat) 0)) (k := 129) (j := 10) (v := ((sI w13047 142 ((((40 : Int32) * ((1 : Int32) - (w13047.1 129 12))) + r13040).toInt.toNat) 0).1 129 5)) rfl) rfl (PZ_fr (l := [(142, none)]) (FR.I (FR.refl _ w13047) (k := 142) (j := (((40 : Int32) * ((1 : Int32) - (w13047.1 129 12))) + r13040).toInt.toNat) (v := 0) rfl) rfl hlw13047_PZ))  o13112.1 o13112.2.1 o13112.2.2.1 o13112.2.2.2
          · refine ⟨fun h13113 => ?_, fun h13113 => ?_⟩
            · have o13114 : 0 ≤ (((40 : Int32) * ((1 : Int32) - (w13047.1 129 12))) + r13040).toInt ∧ (((40 : Int32) * ((1 : Int32) - (w13047.1 129 12))) + r13040).toInt < 80 := by have := bd_129_12 hI13048; have := bd_129_12 hI13038; have := bd_129_12 hI13029; have := bd_129_12 hI; have := (congrArg Int32.toInt (hL13030 129 12 rfl).1); have := (congrArg Int32.toInt (hL13039 129 12 rfl).1); have := (congrArg Int32.toInt (hL13049 129 12 rfl).1); have := ti_sub2 (by decide : ((1 : Int32)).toInt = 1) (Eq.refl (w13047.1 129 12).toInt) (by (first | omega | sorry)) (by (first | omega | sorry)); have := ti_mul2 (by decide : ((40 : Int32)).toInt = 40) (Eq.refl ((1 : Int32) - (w13047.1 129 12)).toInt) (by (first | omega | sorry)) (by (first | omega | sorry)); have := ti_add2 (Eq.refl ((40 : Int32) * ((1 : Int32) - (w13047.1 129 12))).toInt) (Eq.refl r13040.toInt) (by (first | omega | sorry)) (by (first | omega | sorry)); have := bd_129_24 hI13038; have := bd_129_24 hI13029; have := bd_129_24 hI; have := (congrArg Int32.toInt (hL13030 129 24 rfl).1); have := (by decide : ((0 : Int32)).toInt = 0); (first | omega | sorry)
              refine ⟨o13114, ?_⟩
              refine ⟨fun _ => ?_, fun h => absurd (by decide) h⟩
              refine Eq.mpr (p_Tx_over.eq_1 _ _ _) ?_
              refine ⟨fun h13115 => ?_, fun h13115 => ?_⟩
              · replace h13115 : ((sI w13047 142 ((((40 : Int32) * ((1 : Int32) - (w13047.1 129 12))) + r13040).toInt.toNat) 0).1 129 4).toInt = 59 := h13115
                have hI13116 : BND (sI w13047 142 ((((40 : Int32) * ((1 : Int32) - (w13047.1 129 12))) + r13040).toInt.toNat) 0) := wbd_142 hI13048 ((((40 : Int32) * ((1 : Int32) - (w13047.1 129 12))) + r13040).toInt.toNat) (by decide) (by decide)
                refine h_Tx_go hI13116 (PZ_fr (l := [(142, none)]) (FR.I (FR.refl _ w13047) (k := 142) (j := (((40 : Int32) * ((1 : Int32) - (w13047.1 129 12))) + r13040).toInt.toNat) (v := 0) rfl) rfl hlw13047_PZ)  (fun r13120 w13117 hI13118 hL13119 hlw13117_PZ p13121 p13122 p13123 => ?_)
                have hF13124 : FR l_Tx_declaration w w13117 := (FR.I hF13054 (k := 142) (j := (((40 : Int32) * ((1 : Int32) - (w13047.1 129 12))) + r13040).toInt.toNat) (v := 0) rfl).tr hL13119 rfl
                refine ⟨fun h13125 => ?_, fun h13125 => ?_⟩
                · have o13126 : (0 ≤ (0 : Int32).toInt) ∧ ((0 : Int32).toInt ≤ 1) ∧ ((0 : Int32).toInt = 0 ∨ ((w13117.1 129 35).toInt + (w13117.1 129 21).toInt + (w13117.1 129 23).toInt ≤ (w13117.1 129 13).toInt ∧ (w13117.1 129 24).toInt = (w.1 129 24).toInt + 1)) ∧ ((w.1 129 24).toInt ≤ (w13117.1 129 24).toInt) := by have := (by decide : ((0 : Int32)).toInt = 0); have := bd_129_35 hI13118; have := bd_129_35 hI13048; have := bd_129_35 hI13038; have := bd_129_35 hI13029; have := bd_129_35 hI; have := (congrArg Int32.toInt (hL13030 129 35 rfl).1); have := (congrArg Int32.toInt (hL13039 129 35 rfl).1); have := (congrArg Int32.toInt (hL13049 129 35 rfl).1); have : ((sI w13047 142 ((((40 : Int32) * ((1 : Int32) - (w13047.1 129 12))) + r13040).toInt.toNat) 0).1 129 35).toInt = (w13047.1 129 35).toInt := rfl; have := (congrArg Int32.toInt (hL13119 129 35 rfl).1); have := bd_129_21 hI13118; have := bd_129_21 hI13048; have := bd_129_21 hI13038; have := bd_129_21 hI13029; have := bd_129_21 hI; have := (congrArg Int32.toInt (hL13030 129 21 rfl).1); have := (congrArg Int32.toInt (hL13039 129 21 rfl).1); have := (congrArg Int32.toInt (hL13049 129 21 rfl).1); have : ((sI w13047 142 ((((40 : Int32) * ((1 : Int32) - (w13047.1 129 12))) + r13040).toInt.toNat) 0).1 129 21).toInt = (w13047.1 129 21).toInt := rfl; have := (congrArg Int32.toInt (hL13119 129 21 rfl).1); have := bd_129_23 hI13118; have := bd_129_23 hI13048; have := bd_129_23 hI13038; have := bd_129_23 hI13029; have := bd_129_23 hI; have := (congrArg Int32.toInt (hL13030 129 23 rfl).1); have := (congrArg Int32.toInt (hL13039 129 23 rfl).1); have := (congrArg Int32.toInt (hL13049 129 23 rfl).1); have : ((sI w13047 142 ((((40 : Int32) * ((1 : Int32) - (w13047.1 129 12))) + r13040).toInt.toNat) 0).1 129 23).toInt = (w13047.1 129 23).toInt := rfl; have := (congrArg Int32.toInt (hL13119 129 23 rfl).1); have := bd_129_13 hI13118; have := bd_129_13 hI13048; have := bd_129_13 hI13038; have := bd_129_13 hI13029; have := bd_129_13 hI; have := (congrArg Int32.toInt (hL13030 129 13 rfl).1); have := (congrArg Int32.toInt (hL13039 129 13 rfl).1); have := (congrArg Int32.toInt (hL13049 129 13 rfl).1); have : ((sI w13047 142 ((((40 : Int32) * ((1 : Int32) - (w13047.1 129 12))) + r13040).toInt.toNat) 0).1 129 13).toInt = (w13047.1 129 13).toInt := rfl; have := (congrArg Int32.toInt (hL13119 129 13 rfl).1); have := bd_129_24 hI13118; have := bd_129_24 hI13048; have := bd_129_24 hI13038; have := (congrArg Int32.toInt (hL13049 129 24 rfl).1); have : ((sI w13047 142 ((((40 : Int32) * ((1 : Int32) - (w13047.1 129 12))) + r13040).toInt.toNat) 0).1 129 24).toInt = (w13047.1 129 24).toInt := rfl; have := (congrArg Int32.toInt (hL13119 129 24 rfl).1); have := bd_129_24 hI; have := bd_129_24 hI13029; have := (congrArg Int32.toInt (hL13030 129 24 rfl).1); exact ⟨by (first | omega | sorry), by (first | omega | sorry), by (first | omega | sorry), by (first | omega | sorry)⟩
                  exact hQ _ _ hI13118 hF13124 hlw13117_PZ  o13126.1 o13126.2.1 o13126.2.2.1 o13126.2.2.2
                · have o13127 : (0 ≤ (1 : Int32).toInt) ∧ ((1 : Int32).toInt ≤ 1) ∧ ((1 : Int32).toInt = 0 ∨ ((w13117.1 129 35).toInt + (w13117.1 129 21).toInt + (w13117.1 129 23).toInt ≤ (w13117.1 129 13).toInt ∧ (w13117.1 129 24).toInt = (w.1 129 24).toInt + 1)) ∧ ((w.1 129 24).toInt ≤ (w13117.1 129 24).toInt) := by have := (by decide : ((1 : Int32)).toInt = 1); have := bd_129_35 hI13118; have := bd_129_35 hI13048; have := bd_129_35 hI13038; have := bd_129_35 hI13029; have := bd_129_35 hI; have := (congrArg Int32.toInt (hL13030 129 35 rfl).1); have := (congrArg Int32.toInt (hL13039 129 35 rfl).1); have := (congrArg Int32.toInt (hL13049 129 35 rfl).1); have : ((sI w13047 142 ((((40 : Int32) * ((1 : Int32) - (w13047.1 129 12))) + r13040).toInt.toNat) 0).1 129 35).toInt = (w13047.1 129 35).toInt := rfl; have := (congrArg Int32.toInt (hL13119 129 35 rfl).1); have := bd_129_21 hI13118; have := bd_129_21 hI13048; have := bd_129_21 hI13038; have := bd_129_21 hI13029; have := bd_129_21 hI; have := (congrArg Int32.toInt (hL13030 129 21 rfl).1); have := (congrArg Int32.toInt (hL13039 129 21 rfl).1); have := (congrArg Int32.toInt (hL13049 129 21 rfl).1); have : ((sI w13047 142 ((((40 : Int32) * ((1 : Int32) - (w13047.1 129 12))) + r13040).toInt.toNat) 0).1 129 21).toInt = (w13047.1 129 21).toInt := rfl; have := (congrArg Int32.toInt (hL13119 129 21 rfl).1); have := bd_129_23 hI13118; have := bd_129_23 hI13048; have := bd_129_23 hI13038; have := bd_129_23 hI13029; have := bd_129_23 hI; have := (congrArg Int32.toInt (hL13030 129 23 rfl).1); have := (congrArg Int32.toInt (hL13039 129 23 rfl).1); have := (congrArg Int32.toInt (hL13049 129 23 rfl).1); have : ((sI w13047 142 ((((40 : Int32) * ((1 : Int32) - (w13047.1 129 12))) + r13040).toInt.toNat) 0).1 129 23).toInt = (w13047.1 129 23).toInt := rfl; have := (congrArg Int32.toInt (hL13119 129 23 rfl).1); have := bd_129_13 hI13118; have := bd_129_13 hI13048; have := bd_129_13 hI13038; have := bd_129_13 hI13029; have := bd_129_13 hI; have := (congrArg Int32.toInt (hL13030 129 13 rfl).1); have := (congrArg Int32.toInt (hL13039 129 13 rfl).1); have := (congrArg Int32.toInt (hL13049 129 13 rfl).1); have : ((sI w13047 142 ((((40 : Int32) * ((1 : Int32) - (w13047.1 129 12))) + r13040).toInt.toNat) 0).1 129 13).toInt = (w13047.1 129 13).toInt := rfl; have := (congrArg Int32.toInt (hL13119 129 13 rfl).1); have := bd_129_24 hI13118; have := bd_129_24 hI13048; have := bd_129_24 hI13038; have := (congrArg Int32.toInt (hL13049 129 24 rfl).1); have : ((sI w13047 142 ((((40 : Int32) * ((1 : Int32) - (w13047.1 129 12))) + r13040).toInt.toNat) 0).1 129 24).toInt = (w13047.1 129 24).toInt := rfl; have := (congrArg Int32.toInt (hL13119 129 24 rfl).1); have := bd_129_24 hI; have := bd_129_24 hI13029; have := (congrArg Int32.toInt (hL13030 129 24 rfl).1); have := (by decide : ((0 : Int32)).toInt = 0); exact ⟨by (first | omega | sorry), by (first | omega | sorry), by (first | omega | sorry), by (first | omega | sorry)⟩
                  exact hQ _ _ hI13118 hF13124 hlw13117_PZ  o13127.1 o13127.2.1 o13127.2.2.1 o13127.2.2.2
              · replace h13115 : ¬ (((sI w13047 142 ((((40 : Int32) * ((1 : Int32) - (w13047.1 129 12))) + r13040).toInt.toNat) 0).1 129 4).toInt = 59) := h13115
                refine ⟨fun _ => ?_, fun h => absurd (by decide) h⟩
                have hI13128 : BND (sI w13047 142 ((((40 : Int32) * ((1 : Int32) - (w13047.1 129 12))) + r13040).toInt.toNat) 0) := wbd_142 hI13048 ((((40 : Int32) * ((1 : Int32) - (w13047.1 129 12))) + r13040).toInt.toNat) (by decide) (by decide)
                have hI13129 : BND (sI (sI w13047 142 ((((40 : Int32) * ((1 : Int32) - (w13047.1 129 12))) + r13040).toInt.toNat) 0) 129 10 ((sI w13047 142 ((((40 : Int32) * ((1 : Int32) - (w13047.1 129 12))) + r13040).toInt.toNat) 0).1 129 5)) := wbd_129_10 hI13128
                have o13130 : (0 ≤ (0 : Int32).toInt) ∧ ((0 : Int32).toInt ≤ 1) ∧ ((0 : Int32).toInt = 0 ∨ (((sI (sI w13047 142 ((((40 : Int32) * ((1 : Int32) - (w13047.1 129 12))) + r13040).toInt.toNat) 0) 129 10 ((sI w13047 142 ((((40 : Int32) * ((1 : Int32) - (w13047.1 129 12))) + r13040).toInt.toNat) 0).1 129 5)).1 129 35).toInt + ((sI (sI w13047 142 ((((40 : Int32) * ((1 : Int32) - (w13047.1 129 12))) + r13040).toInt.toNat) 0) 129 10 ((sI w13047 142 ((((40 : Int32) * ((1 : Int32) - (w13047.1 129 12))) + r13040).toInt.toNat) 0).1 129 5)).1 129 21).toInt + ((sI (sI w13047 142 ((((40 : Int32) * ((1 : Int32) - (w13047.1 129 12))) + r13040).toInt.toNat) 0) 129 10 ((sI w13047 142 ((((40 : Int32) * ((1 : Int32) - (w13047.1 129 12))) + r13040).toInt.toNat) 0).1 129 5)).1 129 23).toInt ≤ ((sI (sI w13047 142 ((((40 : Int32) * ((1 : Int32) - (w13047.1 129 12))) + r13040).toInt.toNat) 0) 129 10 ((sI w13047 142 ((((40 : Int32) * ((1 : Int32) - (w13047.1 129 12))) + r13040).toInt.toNat) 0).1 129 5)).1 129 13).toInt ∧ ((sI (sI w13047 142 ((((40 : Int32) * ((1 : Int32) - (w13047.1 129 12))) + r13040).toInt.toNat) 0) 129 10 ((sI w13047 142 ((((40 : Int32) * ((1 : Int32) - (w13047.1 129 12))) + r13040).toInt.toNat) 0).1 129 5)).1 129 24).toInt = (w.1 129 24).toInt + 1)) ∧ ((w.1 129 24).toInt ≤ ((sI (sI w13047 142 ((((40 : Int32) * ((1 : Int32) - (w13047.1 129 12))) + r13040).toInt.toNat) 0) 129 10 ((sI w13047 142 ((((40 : Int32) * ((1 : Int32) - (w13047.1 129 12))) + r13040).toInt.toNat) 0).1 129 5)).1 129 24).toInt) := by have := (by decide : ((0 : Int32)).toInt = 0); have := bd_129_35 hI13048; have := bd_129_35 hI13038; have := bd_129_35 hI13029; have := bd_129_35 hI; have := (congrArg Int32.toInt (hL13030 129 35 rfl).1); have := (congrArg Int32.toInt (hL13039 129 35 rfl).1); have := (congrArg Int32.toInt (hL13049 129 35 rfl).1); have : ((sI (sI w13047 142 ((((40 : Int32) * ((1 : Int32) - (w13047.1 129 12))) + r13040).toInt.toNat) 0) 129 10 ((sI w13047 142 ((((40 : Int32) * ((1 : Int32) - (w13047.1 129 12))) + r13040).toInt.toNat) 0).1 129 5)).1 129 35).toInt = (w13047.1 129 35).toInt := rfl; have := bd_129_21 hI13048; have := bd_129_21 hI13038; have := bd_129_21 hI13029; have := bd_129_21 hI; have := (congrArg Int32.toInt (hL13030 129 21 rfl).1); have := (congrArg Int32.toInt (hL13039 129 21 rfl).1); have := (congrArg Int32.toInt (hL13049 129 21 rfl).1); have : ((sI (sI w13047 142 ((((40 : Int32) * ((1 : Int32) - (w13047.1 129 12))) + r13040).toInt.toNat) 0) 129 10 ((sI w13047 142 ((((40 : Int32) * ((1 : Int32) - (w13047.1 129 12))) + r13040).toInt.toNat) 0).1 129 5)).1 129 21).toInt = (w13047.1 129 21).toInt := rfl; have := bd_129_23 hI13048; have := bd_129_23 hI13038; have := bd_129_23 hI13029; have := bd_129_23 hI; have := (congrArg Int32.toInt (hL13030 129 23 rfl).1); have := (congrArg Int32.toInt (hL13039 129 23 rfl).1); have := (congrArg Int32.toInt (hL13049 129 23 rfl).1); have : ((sI (sI w13047 142 ((((40 : Int32) * ((1 : Int32) - (w13047.1 129 12))) + r13040).toInt.toNat) 0) 129 10 ((sI w13047 142 ((((40 : Int32) * ((1 : Int32) - (w13047.1 129 12))) + r13040).toInt.toNat) 0).1 129 5)).1 129 23).toInt = (w13047.1 129 23).toInt := rfl; have := bd_129_13 hI13048; have := bd_129_13 hI13038; have := bd_129_13 hI13029; have := bd_129_13 hI; have := (congrArg Int32.toInt (hL13030 129 13 rfl).1); have := (congrArg Int32.toInt (hL13039 129 13 rfl).1); have := (congrArg Int32.toInt (hL13049 129 13 rfl).1); have : ((sI (sI w13047 142 ((((40 : Int32) * ((1 : Int32) - (w13047.1 129 12))) + r13040).toInt.toNat) 0) 129 10 ((sI w13047 142 ((((40 : Int32) * ((1 : Int32) - (w13047.1 129 12))) + r13040).toInt.toNat) 0).1 129 5)).1 129 13).toInt = (w13047.1 129 13).toInt := rfl; have := bd_129_24 hI13048; have := bd_129_24 hI13038; have := (congrArg Int32.toInt (hL13049 129 24 rfl).1); have : ((sI (sI w13047 142 ((((40 : Int32) * ((1 : Int32) - (w13047.1 129 12))) + r13040).toInt.toNat) 0) 129 10 ((sI w13047 142 ((((40 : Int32) * ((1 : Int32) - (w13047.1 129 12))) + r13040).toInt.toNat) 0).1 129 5)).1 129 24).toInt = (w13047.1 129 24).toInt := rfl; have := bd_129_24 hI; have := bd_129_5 hI13029; have := bd_129_6 hI13029; have := bd_129_24 hI13029; have := (congrArg Int32.toInt (hL13030 129 24 rfl).1); have := bd_129_5 hI13048; have := bd_129_6 hI13048; have := True.intro; have := (by decide : ((24 : Int32)).toInt = 24); have := True.intro; have := True.intro; have := (by decide : ((1 : Int32)).toInt = 1); have := (by decide : ((5 : Int32)).toInt = 5); have : ((sI w13047 142 ((((40 : Int32) * ((1 : Int32) - (w13047.1 129 12))) + r13040).toInt.toNat) 0).1 129 4).toInt = (w13047.1 129 4).toInt := rfl; have := (by decide : ((59 : Int32)).toInt = 59); exact ⟨by (first | omega | sorry), by (first | omega | sorry), by (first | omega | sorry), by (first | omega | sorry)⟩
                exact hQ _ _ hI13129 (FR.I (FR.I hF13054 (k := 142) (j := (((40 : Int32) * ((1 : Int32) - (w13047.1 129 12))) + r13040).toInt.toNat) (v := 0) rfl) (k := 129) (j := 10) (v := ((sI w13047 142 ((((40 : Int32) * ((1 : Int32) - (w13047.1 129 12))) + r13040).toInt.toNat) 0).1 129 5)) rfl) (PZ_fr (l := [(129, some 10)]) (FR.I (FR.refl _ (sI w13047 142 ((((40 : Int32) * ((1 : Int32) - (w13047.1 129 12))) + r13040).toInt.toNat) 0)) (k := 129) (j := 10) (v := ((sI w13047 142 ((((40 : Int32) * ((1 : Int32) - (w13047.1 129 12))) + r13040).toInt.toNat) 0).1 129 5)) rfl) rfl (PZ_fr (l := [(142, none)]) (FR.I (FR.refl _ w13047) (k := 142) (j := (((40 : Int32) * ((1 : Int32) - (w13047.1 129 12))) + r13040).toInt.toNat) (v := 0) rfl) rfl hlw13047_PZ))  o13130.1 o13130.2.1 o13130.2.2.1 o13130.2.2.2
            · have o13131 : 0 ≤ (((40 : Int32) * ((1 : Int32) - (w13047.1 129 12))) + r13040).toInt ∧ (((40 : Int32) * ((1 : Int32) - (w13047.1 129 12))) + r13040).toInt < 80 := by have := bd_129_12 hI13048; have := bd_129_12 hI13038; have := bd_129_12 hI13029; have := bd_129_12 hI; have := (congrArg Int32.toInt (hL13030 129 12 rfl).1); have := (congrArg Int32.toInt (hL13039 129 12 rfl).1); have := (congrArg Int32.toInt (hL13049 129 12 rfl).1); have := ti_sub2 (by decide : ((1 : Int32)).toInt = 1) (Eq.refl (w13047.1 129 12).toInt) (by (first | omega | sorry)) (by (first | omega | sorry)); have := ti_mul2 (by decide : ((40 : Int32)).toInt = 40) (Eq.refl ((1 : Int32) - (w13047.1 129 12)).toInt) (by (first | omega | sorry)) (by (first | omega | sorry)); have := ti_add2 (Eq.refl ((40 : Int32) * ((1 : Int32) - (w13047.1 129 12))).toInt) (Eq.refl r13040.toInt) (by (first | omega | sorry)) (by (first | omega | sorry)); have := bd_129_24 hI13038; have := bd_129_24 hI13029; have := bd_129_24 hI; have := (congrArg Int32.toInt (hL13030 129 24 rfl).1); have := (by decide : ((0 : Int32)).toInt = 0); (first | omega | sorry)
              refine ⟨o13131, ?_⟩
              refine ⟨fun h13132 => ?_, fun h13132 => ?_⟩
              · exfalso; have := bd_129_35 hI; have := bd_129_21 hI; have := bd_129_23 hI; have := bd_129_13 hI; have := bd_129_5 hI13029; have := bd_129_6 hI13029; have := (by decide : ((0 : Int32)).toInt = 0); have := bd_129_24 hI13038; have := bd_129_24 hI13029; have := bd_129_24 hI; have := (congrArg Int32.toInt (hL13030 129 24 rfl).1); have := bd_129_5 hI13048; have := bd_129_6 hI13048; have := True.intro; have := (by decide : ((24 : Int32)).toInt = 24); have := True.intro; have := True.intro; have := (by decide : ((1 : Int32)).toInt = 1); have := (by decide : ((5 : Int32)).toInt = 5); (first | omega | sorry)
              · have o13134 : 0 ≤ (((w13047.1 129 4) - (1000 : Int32)) - (39 : Int32)).toInt ∧ (((w13047.1 129 4) - (1000 : Int32)) - (39 : Int32)).toInt ≤ 5 := by have := True.intro; have := True.intro; have := bd_129_5 hI13029; have := bd_129_6 hI13029; have := (by decide : ((0 : Int32)).toInt = 0); have := bd_129_5 hI13048; have := bd_129_6 hI13048; have := True.intro; have := (by decide : ((24 : Int32)).toInt = 24); have := (by decide : ((1 : Int32)).toInt = 1); have := (by decide : ((5 : Int32)).toInt = 5); (first | omega | sorry)
                have hI13133 : BND (sI w13047 142 ((((40 : Int32) * ((1 : Int32) - (w13047.1 129 12))) + r13040).toInt.toNat) (((w13047.1 129 4) - (1000 : Int32)) - (39 : Int32))) := wbd_142 hI13048 ((((40 : Int32) * ((1 : Int32) - (w13047.1 129 12))) + r13040).toInt.toNat) o13134.1 o13134.2
                refine h_Tx_go hI13133 (PZ_fr (l := [(142, none)]) (FR.I (FR.refl _ w13047) (k := 142) (j := (((40 : Int32) * ((1 : Int32) - (w13047.1 129 12))) + r13040).toInt.toNat) (v := (((w13047.1 129 4) - (1000 : Int32)) - (39 : Int32))) rfl) rfl hlw13047_PZ)  (fun r13138 w13135 hI13136 hL13137 hlw13135_PZ p13139 p13140 p13141 => ?_)
                have hF13142 : FR l_Tx_declaration w w13135 := (FR.I hF13054 (k := 142) (j := (((40 : Int32) * ((1 : Int32) - (w13047.1 129 12))) + r13040).toInt.toNat) (v := (((w13047.1 129 4) - (1000 : Int32)) - (39 : Int32))) rfl).tr hL13137 rfl
                refine ⟨fun h13143 => ?_, fun h13143 => ?_⟩
                · have o13144 : (0 ≤ (0 : Int32).toInt) ∧ ((0 : Int32).toInt ≤ 1) ∧ ((0 : Int32).toInt = 0 ∨ ((w13135.1 129 35).toInt + (w13135.1 129 21).toInt + (w13135.1 129 23).toInt ≤ (w13135.1 129 13).toInt ∧ (w13135.1 129 24).toInt = (w.1 129 24).toInt + 1)) ∧ ((w.1 129 24).toInt ≤ (w13135.1 129 24).toInt) := by have := (by decide : ((0 : Int32)).toInt = 0); have := bd_129_35 hI13136; have := bd_129_35 hI13048; have := bd_129_35 hI13038; have := bd_129_35 hI13029; have := bd_129_35 hI; have := (congrArg Int32.toInt (hL13030 129 35 rfl).1); have := (congrArg Int32.toInt (hL13039 129 35 rfl).1); have := (congrArg Int32.toInt (hL13049 129 35 rfl).1); have : ((sI w13047 142 ((((40 : Int32) * ((1 : Int32) - (w13047.1 129 12))) + r13040).toInt.toNat) (((w13047.1 129 4) - (1000 : Int32)) - (39 : Int32))).1 129 35).toInt = (w13047.1 129 35).toInt := rfl; have := (congrArg Int32.toInt (hL13137 129 35 rfl).1); have := bd_129_21 hI13136; have := bd_129_21 hI13048; have := bd_129_21 hI13038; have := bd_129_21 hI13029; have := bd_129_21 hI; have := (congrArg Int32.toInt (hL13030 129 21 rfl).1); have := (congrArg Int32.toInt (hL13039 129 21 rfl).1); have := (congrArg Int32.toInt (hL13049 129 21 rfl).1); have : ((sI w13047 142 ((((40 : Int32) * ((1 : Int32) - (w13047.1 129 12))) + r13040).toInt.toNat) (((w13047.1 129 4) - (1000 : Int32)) - (39 : Int32))).1 129 21).toInt = (w13047.1 129 21).toInt := rfl; have := (congrArg Int32.toInt (hL13137 129 21 rfl).1); have := bd_129_23 hI13136; have := bd_129_23 hI13048; have := bd_129_23 hI13038; have := bd_129_23 hI13029; have := bd_129_23 hI; have := (congrArg Int32.toInt (hL13030 129 23 rfl).1); have := (congrArg Int32.toInt (hL13039 129 23 rfl).1); have := (congrArg Int32.toInt (hL13049 129 23 rfl).1); have : ((sI w13047 142 ((((40 : Int32) * ((1 : Int32) - (w13047.1 129 12))) + r13040).toInt.toNat) (((w13047.1 129 4) - (1000 : Int32)) - (39 : Int32))).1 129 23).toInt = (w13047.1 129 23).toInt := rfl; have := (congrArg Int32.toInt (hL13137 129 23 rfl).1); have := bd_129_13 hI13136; have := bd_129_13 hI13048; have := bd_129_13 hI13038; have := bd_129_13 hI13029; have := bd_129_13 hI; have := (congrArg Int32.toInt (hL13030 129 13 rfl).1); have := (congrArg Int32.toInt (hL13039 129 13 rfl).1); have := (congrArg Int32.toInt (hL13049 129 13 rfl).1); have : ((sI w13047 142 ((((40 : Int32) * ((1 : Int32) - (w13047.1 129 12))) + r13040).toInt.toNat) (((w13047.1 129 4) - (1000 : Int32)) - (39 : Int32))).1 129 13).toInt = (w13047.1 129 13).toInt := rfl; have := (congrArg Int32.toInt (hL13137 129 13 rfl).1); have := bd_129_24 hI13136; have := bd_129_24 hI13048; have := bd_129_24 hI13038; have := (congrArg Int32.toInt (hL13049 129 24 rfl).1); have : ((sI w13047 142 ((((40 : Int32) * ((1 : Int32) - (w13047.1 129 12))) + r13040).toInt.toNat) (((w13047.1 129 4) - (1000 : Int32)) - (39 : Int32))).1 129 24).toInt = (w13047.1 129 24).toInt := rfl; have := (congrArg Int32.toInt (hL13137 129 24 rfl).1); have := bd_129_24 hI; have := bd_129_24 hI13029; have := (congrArg Int32.toInt (hL13030 129 24 rfl).1); exact ⟨by (first | omega | sorry), by (first | omega | sorry), by (first | omega | sorry), by (first | omega | sorry)⟩
                  exact hQ _ _ hI13136 hF13142 hlw13135_PZ  o13144.1 o13144.2.1 o13144.2.2.1 o13144.2.2.2
                · refine Eq.mpr (p_Tx_over.eq_1 _ _ _) ?_
                  refine ⟨fun h13145 => ?_, fun h13145 => ?_⟩
                  · replace h13145 : (w13135.1 129 4).toInt = 59 := h13145
                    refine h_Tx_go hI13136 hlw13135_PZ  (fun r13149 w13146 hI13147 hL13148 hlw13146_PZ p13150 p13151 p13152 => ?_)
                    have hF13153 : FR l_Tx_declaration w w13146 := hF13142.tr hL13148 rfl
                    refine ⟨fun h13154 => ?_, fun h13154 => ?_⟩
                    · have o13155 : (0 ≤ (0 : Int32).toInt) ∧ ((0 : Int32).toInt ≤ 1) ∧ ((0 : Int32).toInt = 0 ∨ ((w13146.1 129 35).toInt + (w13146.1 129 21).toInt + (w13146.1 129 23).toInt ≤ (w13146.1 129 13).toInt ∧ (w13146.1 129 24).toInt = (w.1 129 24).toInt + 1)) ∧ ((w.1 129 24).toInt ≤ (w13146.1 129 24).toInt) := by have := (by decide : ((0 : Int32)).toInt = 0); have := bd_129_35 hI13147; have := bd_129_35 hI13136; have := bd_129_35 hI13048; have := bd_129_35 hI13038; have := bd_129_35 hI13029; have := bd_129_35 hI; have := (congrArg Int32.toInt (hL13030 129 35 rfl).1); have := (congrArg Int32.toInt (hL13039 129 35 rfl).1); have := (congrArg Int32.toInt (hL13049 129 35 rfl).1); have : ((sI w13047 142 ((((40 : Int32) * ((1 : Int32) - (w13047.1 129 12))) + r13040).toInt.toNat) (((w13047.1 129 4) - (1000 : Int32)) - (39 : Int32))).1 129 35).toInt = (w13047.1 129 35).toInt := rfl; have := (congrArg Int32.toInt (hL13137 129 35 rfl).1); have := (congrArg Int32.toInt (hL13148 129 35 rfl).1); have := bd_129_21 hI13147; have := bd_129_21 hI13136; have := bd_129_21 hI13048; have := bd_129_21 hI13038; have := bd_129_21 hI13029; have := bd_129_21 hI; have := (congrArg Int32.toInt (hL13030 129 21 rfl).1); have := (congrArg Int32.toInt (hL13039 129 21 rfl).1); have := (congrArg Int32.toInt (hL13049 129 21 rfl).1); have : ((sI w13047 142 ((((40 : Int32) * ((1 : Int32) - (w13047.1 129 12))) + r13040).toInt.toNat) (((w13047.1 129 4) - (1000 : Int32)) - (39 : Int32))).1 129 21).toInt = (w13047.1 129 21).toInt := rfl; have := (congrArg Int32.toInt (hL13137 129 21 rfl).1); have := (congrArg Int32.toInt (hL13148 129 21 rfl).1); have := bd_129_23 hI13147; have := bd_129_23 hI13136; have := bd_129_23 hI13048; have := bd_129_23 hI13038; have := bd_129_23 hI13029; have := bd_129_23 hI; have := (congrArg Int32.toInt (hL13030 129 23 rfl).1); have := (congrArg Int32.toInt (hL13039 129 23 rfl).1); have := (congrArg Int32.toInt (hL13049 129 23 rfl).1); have : ((sI w13047 142 ((((40 : Int32) * ((1 : Int32) - (w13047.1 129 12))) + r13040).toInt.toNat) (((w13047.1 129 4) - (1000 : Int32)) - (39 : Int32))).1 129 23).toInt = (w13047.1 129 23).toInt := rfl; have := (congrArg Int32.toInt (hL13137 129 23 rfl).1); have := (congrArg Int32.toInt (hL13148 129 23 rfl).1); have := bd_129_13 hI13147; have := bd_129_13 hI13136; have := bd_129_13 hI13048; have := bd_129_13 hI13038; have := bd_129_13 hI13029; have := bd_129_13 hI; have := (congrArg Int32.toInt (hL13030 129 13 rfl).1); have := (congrArg Int32.toInt (hL13039 129 13 rfl).1); have := (congrArg Int32.toInt (hL13049 129 13 rfl).1); have : ((sI w13047 142 ((((40 : Int32) * ((1 : Int32) - (w13047.1 129 12))) + r13040).toInt.toNat) (((w13047.1 129 4) - (1000 : Int32)) - (39 : Int32))).1 129 13).toInt = (w13047.1 129 13).toInt := rfl; have := (congrArg Int32.toInt (hL13137 129 13 rfl).1); have := (congrArg Int32.toInt (hL13148 129 13 rfl).1); have := bd_129_24 hI13147; have := bd_129_24 hI13136; have := bd_129_24 hI13048; have := bd_129_24 hI13038; have := (congrArg Int32.toInt (hL13049 129 24 rfl).1); have : ((sI w13047 142 ((((40 : Int32) * ((1 : Int32) - (w13047.1 129 12))) + r13040).toInt.toNat) (((w13047.1 129 4) - (1000 : Int32)) - (39 : Int32))).1 129 24).toInt = (w13047.1 129 24).toInt := rfl; have := (congrArg Int32.toInt (hL13137 129 24 rfl).1); have := (congrArg Int32.toInt (hL13148 129 24 rfl).1); have := bd_129_24 hI; have := bd_129_24 hI13029; have := (congrArg Int32.toInt (hL13030 129 24 rfl).1); exact ⟨by (first | omega | sorry), by (first | omega | sorry), by (first | omega | sorry), by (first | omega | sorry)⟩
                      exact hQ _ _ hI13147 hF13153 hlw13146_PZ  o13155.1 o13155.2.1 o13155.2.2.1 o13155.2.2.2
                    · have o13156 : (0 ≤ (1 : Int32).toInt) ∧ ((1 : Int32).toInt ≤ 1) ∧ ((1 : Int32).toInt = 0 ∨ ((w13146.1 129 35).toInt + (w13146.1 129 21).toInt + (w13146.1 129 23).toInt ≤ (w13146.1 129 13).toInt ∧ (w13146.1 129 24).toInt = (w.1 129 24).toInt + 1)) ∧ ((w.1 129 24).toInt ≤ (w13146.1 129 24).toInt) := by have := (by decide : ((1 : Int32)).toInt = 1); have := bd_129_35 hI13147; have := bd_129_35 hI13136; have := bd_129_35 hI13048; have := bd_129_35 hI13038; have := bd_129_35 hI13029; have := bd_129_35 hI; have := (congrArg Int32.toInt (hL13030 129 35 rfl).1); have := (congrArg Int32.toInt (hL13039 129 35 rfl).1); have := (congrArg Int32.toInt (hL13049 129 35 rfl).1); have : ((sI w13047 142 ((((40 : Int32) * ((1 : Int32) - (w13047.1 129 12))) + r13040).toInt.toNat) (((w13047.1 129 4) - (1000 : Int32)) - (39 : Int32))).1 129 35).toInt = (w13047.1 129 35).toInt := rfl; have := (congrArg Int32.toInt (hL13137 129 35 rfl).1); have := (congrArg Int32.toInt (hL13148 129 35 rfl).1); have := bd_129_21 hI13147; have := bd_129_21 hI13136; have := bd_129_21 hI13048; have := bd_129_21 hI13038; have := bd_129_21 hI13029; have := bd_129_21 hI; have := (congrArg Int32.toInt (hL13030 129 21 rfl).1); have := (congrArg Int32.toInt (hL13039 129 21 rfl).1); have := (congrArg Int32.toInt (hL13049 129 21 rfl).1); have : ((sI w13047 142 ((((40 : Int32) * ((1 : Int32) - (w13047.1 129 12))) + r13040).toInt.toNat) (((w13047.1 129 4) - (1000 : Int32)) - (39 : Int32))).1 129 21).toInt = (w13047.1 129 21).toInt := rfl; have := (congrArg Int32.toInt (hL13137 129 21 rfl).1); have := (congrArg Int32.toInt (hL13148 129 21 rfl).1); have := bd_129_23 hI13147; have := bd_129_23 hI13136; have := bd_129_23 hI13048; have := bd_129_23 hI13038; have := bd_129_23 hI13029; have := bd_129_23 hI; have := (congrArg Int32.toInt (hL13030 129 23 rfl).1); have := (congrArg Int32.toInt (hL13039 129 23 rfl).1); have := (congrArg Int32.toInt (hL13049 129 23 rfl).1); have : ((sI w13047 142 ((((40 : Int32) * ((1 : Int32) - (w13047.1 129 12))) + r13040).toInt.toNat) (((w13047.1 129 4) - (1000 : Int32)) - (39 : Int32))).1 129 23).toInt = (w13047.1 129 23).toInt := rfl; have := (congrArg Int32.toInt (hL13137 129 23 rfl).1); have := (congrArg Int32.toInt (hL13148 129 23 rfl).1); have := bd_129_13 hI13147; have := bd_129_13 hI13136; have := bd_129_13 hI13048; have := bd_129_13 hI13038; have := bd_129_13 hI13029; have := bd_129_13 hI; have := (congrArg Int32.toInt (hL13030 129 13 rfl).1); have := (congrArg Int32.toInt (hL13039 129 13 rfl).1); have := (congrArg Int32.toInt (hL13049 129 13 rfl).1); have : ((sI w13047 142 ((((40 : Int32) * ((1 : Int32) - (w13047.1 129 12))) + r13040).toInt.toNat) (((w13047.1 129 4) - (1000 : Int32)) - (39 : Int32))).1 129 13).toInt = (w13047.1 129 13).toInt := rfl; have := (congrArg Int32.toInt (hL13137 129 13 rfl).1); have := (congrArg Int32.toInt (hL13148 129 13 rfl).1); have := bd_129_24 hI13147; have := bd_129_24 hI13136; have := bd_129_24 hI13048; have := bd_129_24 hI13038; have := (congrArg Int32.toInt (hL13049 129 24 rfl).1); have : ((sI w13047 142 ((((40 : Int32) * ((1 : Int32) - (w13047.1 129 12))) + r13040).toInt.toNat) (((w13047.1 129 4) - (1000 : Int32)) - (39 : Int32))).1 129 24).toInt = (w13047.1 129 24).toInt := rfl; have := (congrArg Int32.toInt (hL13137 129 24 rfl).1); have := (congrArg Int32.toInt (hL13148 129 24 rfl).1); have := bd_129_24 hI; have := bd_129_24 hI13029; have := (congrArg Int32.toInt (hL13030 129 24 rfl).1); have := (by decide : ((0 : Int32)).toInt = 0); exact ⟨by (first | omega | sorry), by (first | omega | sorry), by (first | omega | sorry), by (first | omega | sorry)⟩
                      exact hQ _ _ hI13147 hF13153 hlw13146_PZ  o13156.1 o13156.2.1 o13156.2.2.1 o13156.2.2.2
                  · replace h13145 : ¬ ((w13135.1 129 4).toInt = 59) := h13145
                    refine ⟨fun _ => ?_, fun h => absurd (by decide) h⟩
                    have hI13157 : BND (sI w13135 129 10 (w13135.1 129 5)) := wbd_129_10 hI13136
                    have o13158 : (0 ≤ (0 : Int32).toInt) ∧ ((0 : Int32).toInt ≤ 1) ∧ ((0 : Int32).toInt = 0 ∨ (((sI w13135 129 10 (w13135.1 129 5)).1 129 35).toInt + ((sI w13135 129 10 (w13135.1 129 5)).1 129 21).toInt + ((sI w13135 129 10 (w13135.1 129 5)).1 129 23).toInt ≤ ((sI w13135 129 10 (w13135.1 129 5)).1 129 13).toInt ∧ ((sI w13135 129 10 (w13135.1 129 5)).1 129 24).toInt = (w.1 129 24).toInt + 1)) ∧ ((w.1 129 24).toInt ≤ ((sI w13135 129 10 (w13135.1 129 5)).1 129 24).toInt) := by have := (by decide : ((0 : Int32)).toInt = 0); have := bd_129_35 hI13136; have := bd_129_35 hI13048; have := bd_129_35 hI13038; have := bd_129_35 hI13029; have := bd_129_35 hI; have := (congrArg Int32.toInt (hL13030 129 35 rfl).1); have := (congrArg Int32.toInt (hL13039 129 35 rfl).1); have := (congrArg Int32.toInt (hL13049 129 35 rfl).1); have : ((sI w13047 142 ((((40 : Int32) * ((1 : Int32) - (w13047.1 129 12))) + r13040).toInt.toNat) (((w13047.1 129 4) - (1000 : Int32)) - (39 : Int32))).1 129 35).toInt = (w13047.1 129 35).toInt := rfl; have := (congrArg Int32.toInt (hL13137 129 35 rfl).1); have : ((sI w13135 129 10 (w13135.1 129 5)).1 129 35).toInt = (w13135.1 129 35).toInt := rfl; have := bd_129_21 hI13136; have := bd_129_21 hI13048; have := bd_129_21 hI13038; have := bd_129_21 hI13029; have := bd_129_21 hI; have := (congrArg Int32.toInt (hL13030 129 21 rfl).1); have := (congrArg Int32.toInt (hL13039 129 21 rfl).1); have := (congrArg Int32.toInt (hL13049 129 21 rfl).1); have : ((sI w13047 142 ((((40 : Int32) * ((1 : Int32) - (w13047.1 129 12))) + r13040).toInt.toNat) (((w13047.1 129 4) - (1000 : Int32)) - (39 : Int32))).1 129 21).toInt = (w13047.1 129 21).toInt := rfl; have := (congrArg Int32.toInt (hL13137 129 21 rfl).1); have : ((sI w13135 129 10 (w13135.1 129 5)).1 129 21).toInt = (w13135.1 129 21).toInt := rfl; have := bd_129_23 hI13136; have := bd_129_23 hI13048; have := bd_129_23 hI13038; have := bd_129_23 hI13029; have := bd_129_23 hI; have := (congrArg Int32.toInt (hL13030 129 23 rfl).1); have := (congrArg Int32.toInt (hL13039 129 23 rfl).1); have := (congrArg Int32.toInt (hL13049 129 23 rfl).1); have : ((sI w13047 142 ((((40 : Int32) * ((1 : Int32) - (w13047.1 129 12))) + r13040).toInt.toNat) (((w13047.1 129 4) - (1000 : Int32)) - (39 : Int32))).1 129 23).toInt = (w13047.1 129 23).toInt := rfl; have := (congrArg Int32.toInt (hL13137 129 23 rfl).1); have : ((sI w13135 129 10 (w13135.1 129 5)).1 129 23).toInt = (w13135.1 129 23).toInt := rfl; have := bd_129_13 hI13136; have := bd_129_13 hI13048; have := bd_129_13 hI13038; have := bd_129_13 hI13029; have := bd_129_13 hI; have := (congrArg Int32.toInt (hL13030 129 13 rfl).1); have := (congrArg Int32.toInt (hL13039 129 13 rfl).1); have := (congrArg Int32.toInt (hL13049 129 13 rfl).1); have : ((sI w13047 142 ((((40 : Int32) * ((1 : Int32) - (w13047.1 129 12))) + r13040).toInt.toNat) (((w13047.1 129 4) - (1000 : Int32)) - (39 : Int32))).1 129 13).toInt = (w13047.1 129 13).toInt := rfl; have := (congrArg Int32.toInt (hL13137 129 13 rfl).1); have : ((sI w13135 129 10 (w13135.1 129 5)).1 129 13).toInt = (w13135.1 129 13).toInt := rfl; have := bd_129_24 hI13136; have := bd_129_24 hI13048; have := bd_129_24 hI13038; have := (congrArg Int32.toInt (hL13049 129 24 rfl).1); have : ((sI w13047 142 ((((40 : Int32) * ((1 : Int32) - (w13047.1 129 12))) + r13040).toInt.toNat) (((w13047.1 129 4) - (1000 : Int32)) - (39 : Int32))).1 129 24).toInt = (w13047.1 129 24).toInt := rfl; have := (congrArg Int32.toInt (hL13137 129 24 rfl).1); have : ((sI w13135 129 10 (w13135.1 129 5)).1 129 24).toInt = (w13135.1 129 24).toInt := rfl; have := bd_129_24 hI; have := bd_129_5 hI13029; have := bd_129_6 hI13029; have := bd_129_24 hI13029; have := (congrArg Int32.toInt (hL13030 129 24 rfl).1); have := bd_129_5 hI13048; have := bd_129_6 hI13048; have := True.intro; have := (by decide : ((24 : Int32)).toInt = 24); have := True.intro; have := True.intro; have := (by decide : ((1 : Int32)).toInt = 1); have := (by decide : ((5 : Int32)).toInt = 5); have := bd_129_5 hI13136; have := bd_129_6 hI13136; have := (by decide : ((59 : Int32)).toInt = 59); exact ⟨by (first | omega | sorry), by (first | omega | sorry), by (first | omega | sorry), by (first | omega | sorry)⟩
                    exact hQ _ _ hI13157 (FR.I hF13142 (k := 129) (j := 10) (v := (w13135.1 129 5)) rfl) (PZ_fr (l := [(129, some 10)]) (FR.I (FR.refl _ w13135) (k := 129) (j := 10) (v := (w13135.1 129 5)) rfl) rfl hlw13135_PZ)  o13158.1 o13158.2.1 o13158.2.2.1 o13158.2.2.2
      · have o13159 : (0 ≤ (0 : Int32).toInt) ∧ ((0 : Int32).toInt ≤ 1) ∧ ((0 : Int32).toInt = 0 ∨ ((w13047.1 129 35).toInt + (w13047.1 129 21).toInt + (w13047.1 129 23).toInt ≤ (w13047.1 129 13).toInt ∧ (w13047.1 129 24).toInt = (w.1 129 24).toInt + 1)) ∧ ((w.1 129 24).toInt ≤ (w13047.1 129 24).toInt) := by have := (by decide : ((0 : Int32)).toInt = 0); have := bd_129_35 hI13048; have := bd_129_35 hI13038; have := bd_129_35 hI13029; have := bd_129_35 hI; have := (congrArg Int32.toInt (hL13030 129 35 rfl).1); have := (congrArg Int32.toInt (hL13039 129 35 rfl).1); have := (congrArg Int32.toInt (hL13049 129 35 rfl).1); have := bd_129_21 hI13048; have := bd_129_21 hI13038; have := bd_129_21 hI13029; have := bd_129_21 hI; have := (congrArg Int32.toInt (hL13030 129 21 rfl).1); have := (congrArg Int32.toInt (hL13039 129 21 rfl).1); have := (congrArg Int32.toInt (hL13049 129 21 rfl).1); have := bd_129_23 hI13048; have := bd_129_23 hI13038; have := bd_129_23 hI13029; have := bd_129_23 hI; have := (congrArg Int32.toInt (hL13030 129 23 rfl).1); have := (congrArg Int32.toInt (hL13039 129 23 rfl).1); have := (congrArg Int32.toInt (hL13049 129 23 rfl).1); have := bd_129_13 hI13048; have := bd_129_13 hI13038; have := bd_129_13 hI13029; have := bd_129_13 hI; have := (congrArg Int32.toInt (hL13030 129 13 rfl).1); have := (congrArg Int32.toInt (hL13039 129 13 rfl).1); have := (congrArg Int32.toInt (hL13049 129 13 rfl).1); have := bd_129_24 hI13048; have := bd_129_24 hI13038; have := (congrArg Int32.toInt (hL13049 129 24 rfl).1); have := bd_129_24 hI; have := bd_129_24 hI13029; have := (congrArg Int32.toInt (hL13030 129 24 rfl).1); exact ⟨by (first | omega | sorry), by (first | omega | sorry), by (first | omega | sorry), by (first | omega | sorry)⟩
        exact hQ _ _ hI13048 hF13054 hlw13047_PZ  o13159.1 o13159.2.1 o13159.2.2.1 o13159.2.2.2
  · have o13160 : (0 ≤ (0 : Int32).toInt) ∧ ((0 : Int32).toInt ≤ 1) ∧ ((0 : Int32).toInt = 0 ∨ ((w13028.1 129 35).toInt + (w13028.1 129 21).toInt + (w13028.1 129 23).toInt ≤ (w13028.1 129 13).toInt ∧ (w13028.1 129 24).toInt = (w.1 129 24).toInt + 1)) ∧ ((w.1 129 24).toInt ≤ (w13028.1 129 24).toInt) := by have := (by decide : ((0 : Int32)).toInt = 0); have := bd_129_35 hI13029; have := bd_129_35 hI; have := (congrArg Int32.toInt (hL13030 129 35 rfl).1); have := bd_129_21 hI13029; have := bd_129_21 hI; have := (congrArg Int32.toInt (hL13030 129 21 rfl).1); have := bd_129_23 hI13029; have := bd_129_23 hI; have := (congrArg Int32.toInt (hL13030 129 23 rfl).1); have := bd_129_13 hI13029; have := bd_129_13 hI; have := (congrArg Int32.toInt (hL13030 129 13 rfl).1); have := bd_129_24 hI13029; have := bd_129_24 hI; have := (congrArg Int32.toInt (hL13030 129 24 rfl).1); exact ⟨by (first | omega | sorry), by (first | omega | sorry), by (first | omega | sorry), by (first | omega | sorry)⟩
    exact hQ _ _ hI13029 hF13035 hlw13028_PZ  o13160.1 o13160.2.1 o13160.2.2.1 o13160.2.2.2
def l_Tx_program_5 : Pl := [(129, some 2), (129, some 3), (129, some 4), (129, some 5), (129, some 6), (129, some 7), (129, some 8), (129, some 9), (129, some 10), (129, some 11), (129, some 13), (129, some 21), (129, some 23), (129, some 24), (129, some 35), (129, some 38), (131, none), (132, none), (133, none), (134, none), (135, none), (136, none), (137, none), (138, none), (139, none), (140, none), (141, none), (142, none), (143, none), (144, none)]
def l_Tx_program_70 : Pl := [(129, some 23), (138, none)]
def l_Tx_program_44 : Pl := [(129, some 2), (129, some 3), (129, some 4), (129, some 5), (129, some 6), (129, some 7), (129, some 8), (129, some 9), (129, some 10), (129, some 11), (129, some 13), (129, some 21), (129, some 23), (129, some 35), (129, some 38), (131, none), (132, none), (133, none), (134, none), (135, none), (136, none), (137, none), (138, none), (144, none)]
def l_Tx_program : Pl := [(129, some 2), (129, some 3), (129, some 4), (129, some 5), (129, some 6), (129, some 7), (129, some 8), (129, some 9), (129, some 10), (129, some 11), (129, some 13), (129, some 21), (129, some 23), (129, some 24), (129, some 35), (129, some 38), (131, none), (132, none), (133, none), (134, none), (135, none), (136, none), (137, none), (138, none), (139, none), (140, none), (141, none), (142, none), (143, none), (144, none)]
set_option maxRecDepth 20000 in
set_option maxHeartbeats 2000000 in
theorem hq_Tx_program_5 {E : Int32 → MW → Prop} {Q : Int32 → MW → Prop} (n : Nat) : ∀ (x5_1 : Int32) (w : MW), BND w → PZ w → 0 ≤ x5_1.toInt → x5_1.toInt ≤ 1 → x5_1.toInt = 0 ∨ (w.1 129 35).toInt + (w.1 129 21).toInt + (w.1 129 23).toInt ≤ (w.1 129 13).toInt → (2 * (40 - (w.1 129 24).toInt) + x5_1.toInt).toNat < n → (∀ (e5_1 : Int32) (w' : MW), BND w' → FR l_Tx_program_5 w w' → PZ w' → 0 ≤ e5_1.toInt → e5_1.toInt ≤ 1 → e5_1.toInt = 0 ∨ (w'.1 129 35).toInt + (w'.1 129 21).toInt + (w'.1 129 23).toInt ≤ (w'.1 129 13).toInt → E e5_1 w') → (∀ (r : Int32) (w' : MW), BND w' → FR l_Tx_program_5 w w' → PZ w' → False → Q r w') → q_Tx_program_5 E Q n x5_1 w := by
  induction n with
  | zero => intros; (first | omega | sorry)
  | succ n ih =>
    intro x5_1 w hI hf_PZ hp0 hp1 hp2 hm hE hQ
    rw [q_Tx_program_5.eq_2]
    refine ⟨fun h13161 => ?_, fun h13161 => ?_⟩
    · have o13162 : (0 ≤ x5_1.toInt) ∧ (x5_1.toInt ≤ 1) ∧ (x5_1.toInt = 0 ∨ (w.1 129 35).toInt + (w.1 129 21).toInt + (w.1 129 23).toInt ≤ (w.1 129 13).toInt) := by have := bd_129_35 hI; have := bd_129_21 hI; have := bd_129_23 hI; have := bd_129_13 hI; have := (by decide : ((0 : Int32)).toInt = 0); exact ⟨by (first | omega | sorry), by (first | omega | sorry), by (first | omega | sorry)⟩
      exact hE _ _ hI (FR.refl _ w) hf_PZ o13162.1 o13162.2.1 o13162.2.2
    · refine Eq.mpr (p_Tx_isWord.eq_1 _ _ _) ?_
      refine ⟨fun h13163 => ?_, fun h13163 => ?_⟩
      · refine ⟨fun h => absurd h (by decide), fun _ => ?_⟩
        refine Eq.mpr (p_Tx_isWord.eq_1 _ _ _) ?_
        refine ⟨fun h13164 => ?_, fun h13164 => ?_⟩
        · refine ⟨fun h => absurd h (by decide), fun _ => ?_⟩
          refine Eq.mpr (p_Tx_isWord.eq_1 _ _ _) ?_
          refine ⟨fun h13165 => ?_, fun h13165 => ?_⟩
          · refine ⟨fun _ => ?_, fun h => absurd (by decide) h⟩
            have o13166 : (0 ≤ x5_1.toInt) ∧ (x5_1.toInt ≤ 1) ∧ (x5_1.toInt = 0 ∨ (w.1 129 35).toInt + (w.1 129 21).toInt + (w.1 129 23).toInt ≤ (w.1 129 13).toInt) := by have := bd_129_35 hI; have := bd_129_21 hI; have := bd_129_23 hI; have := bd_129_13 hI; have := (by decide : ((0 : Int32)).toInt = 0); exact ⟨by (first | omega | sorry), by (first | omega | sorry), by (first | omega | sorry)⟩
            exact hE _ _ hI (FR.refl _ w) hf_PZ o13166.1 o13166.2.1 o13166.2.2
          · refine ⟨fun h => absurd h (by decide), fun _ => ?_⟩
            refine h_Tx_declaration hI hf_PZ (by have := bd_129_35 hI; have := bd_129_21 hI; have := bd_129_23 hI; have := bd_129_13 hI; have := (by decide : ((0 : Int32)).toInt = 0); (first | omega | sorry)) (fun r13170 w13167 hI13168 hL13169 hlw13167_PZ p13171 p13172 p13173 p13174 => ?_)
            have hF13175 : FR l_Tx_program_5 w w13167 := (FR.refl _ w).tr hL13169 rfl
            have o13176 : (0 ≤ r13170.toInt) ∧ (r13170.toInt ≤ 1) ∧ (r13170.toInt = 0 ∨ (w13167.1 129 35).toInt + (w13167.1 129 21).toInt + (w13167.1 129 23).toInt ≤ (w13167.1 129 13).toInt) := by have := bd_129_35 hI13168; have := bd_129_21 hI13168; have := bd_129_23 hI13168; have := bd_129_13 hI13168; have := bd_129_35 hI; have := bd_129_21 hI; have := bd_129_23 hI; have := bd_129_13 hI; have := (by decide : ((0 : Int32)).toInt = 0); have := bd_129_24 hI13168; have := bd_129_24 hI; exact ⟨by (first | omega | sorry), by (first | omega | sorry), by (first | omega | sorry)⟩
            exact ih _ w13167 hI13168 hlw13167_PZ o13176.1 o13176.2.1 o13176.2.2 (by have := bd_129_24 hI13168; have := bd_129_24 hI; have := bd_129_35 hI13168; have := bd_129_21 hI13168; have := bd_129_23 hI13168; have := bd_129_13 hI13168; have := bd_129_35 hI; have := bd_129_21 hI; have := bd_129_23 hI; have := bd_129_13 hI; have := (by decide : ((0 : Int32)).toInt = 0); (first | omega | sorry)) (fun e0 w9 hI9 hF9 hl9_PZ p0 p1 u0 => hE e0 w9 hI9 (hF13175.tr hF9 rfl) hl9_PZ p0 p1 (by have := bd_129_35 hI; have := bd_129_21 hI; have := bd_129_23 hI; have := bd_129_13 hI; have := (by decide : ((0 : Int32)).toInt = 0); have := bd_129_35 hI13168; have := bd_129_21 hI13168; have := bd_129_23 hI13168; have := bd_129_13 hI13168; have := bd_129_24 hI13168; have := bd_129_24 hI; (first | omega | sorry))) (fun r w9 hI9 hF9 hl9_PZ q0 => q0.elim)
        · refine ⟨fun _ => ?_, fun h => absurd (by decide) h⟩
          refine h_Tx_declaration hI hf_PZ (by have := bd_129_35 hI; have := bd_129_21 hI; have := bd_129_23 hI; have := bd_129_13 hI; have := (by decide : ((0 : Int32)).toInt = 0); (first | omega | sorry)) (fun r13180 w13177 hI13178 hL13179 hlw13177_PZ p13181 p13182 p13183 p13184 => ?_)
          have hF13185 : FR l_Tx_program_5 w w13177 := (FR.refl _ w).tr hL13179 rfl
          have o13186 : (0 ≤ r13180.toInt) ∧ (r13180.toInt ≤ 1) ∧ (r13180.toInt = 0 ∨ (w13177.1 129 35).toInt + (w13177.1 129 21).toInt + (w13177.1 129 23).toInt ≤ (w13177.1 129 13).toInt) := by have := bd_129_35 hI13178; have := bd_129_21 hI13178; have := bd_129_23 hI13178; have := bd_129_13 hI13178; have := bd_129_35 hI; have := bd_129_21 hI; have := bd_129_23 hI; have := bd_129_13 hI; have := (by decide : ((0 : Int32)).toInt = 0); have := bd_129_24 hI13178; have := bd_129_24 hI; exact ⟨by (first | omega | sorry), by (first | omega | sorry), by (first | omega | sorry)⟩
          exact ih _ w13177 hI13178 hlw13177_PZ o13186.1 o13186.2.1 o13186.2.2 (by have := bd_129_24 hI13178; have := bd_129_24 hI; have := bd_129_35 hI13178; have := bd_129_21 hI13178; have := bd_129_23 hI13178; have := bd_129_13 hI13178; have := bd_129_35 hI; have := bd_129_21 hI; have := bd_129_23 hI; have := bd_129_13 hI; have := (by decide : ((0 : Int32)).toInt = 0); (first | omega | sorry)) (fun e0 w9 hI9 hF9 hl9_PZ p0 p1 u0 => hE e0 w9 hI9 (hF13185.tr hF9 rfl) hl9_PZ p0 p1 (by have := bd_129_35 hI; have := bd_129_21 hI; have := bd_129_23 hI; have := bd_129_13 hI; have := (by decide : ((0 : Int32)).toInt = 0); have := bd_129_35 hI13178; have := bd_129_21 hI13178; have := bd_129_23 hI13178; have := bd_129_13 hI13178; have := bd_129_24 hI13178; have := bd_129_24 hI; (first | omega | sorry))) (fun r w9 hI9 hF9 hl9_PZ q0 => q0.elim)
      · refine ⟨fun _ => ?_, fun h => absurd (by decide) h⟩
        refine h_Tx_declaration hI hf_PZ (by have := bd_129_35 hI; have := bd_129_21 hI; have := bd_129_23 hI; have := bd_129_13 hI; have := (by decide : ((0 : Int32)).toInt = 0); (first | omega | sorry)) (fun r13190 w13187 hI13188 hL13189 hlw13187_PZ p13191 p13192 p13193 p13194 => ?_)
        have hF13195 : FR l_Tx_program_5 w w13187 := (FR.refl _ w).tr hL13189 rfl
        have o13196 : (0 ≤ r13190.toInt) ∧ (r13190.toInt ≤ 1) ∧ (r13190.toInt = 0 ∨ (w13187.1 129 35).toInt + (w13187.1 129 21).toInt + (w13187.1 129 23).toInt ≤ (w13187.1 129 13).toInt) := by have := bd_129_35 hI13188; have := bd_129_21 hI13188; have := bd_129_23 hI13188; have := bd_129_13 hI13188; have := bd_129_35 hI; have := bd_129_21 hI; have := bd_129_23 hI; have := bd_129_13 hI; have := (by decide : ((0 : Int32)).toInt = 0); have := bd_129_24 hI13188; have := bd_129_24 hI; exact ⟨by (first | omega | sorry), by (first | omega | sorry), by (first | omega | sorry)⟩
        exact ih _ w13187 hI13188 hlw13187_PZ o13196.1 o13196.2.1 o13196.2.2 (by have := bd_129_24 hI13188; have := bd_129_24 hI; have := bd_129_35 hI13188; have := bd_129_21 hI13188; have := bd_129_23 hI13188; have := bd_129_13 hI13188; have := bd_129_35 hI; have := bd_129_21 hI; have := bd_129_23 hI; have := bd_129_13 hI; have := (by decide : ((0 : Int32)).toInt = 0); (first | omega | sorry)) (fun e0 w9 hI9 hF9 hl9_PZ p0 p1 u0 => hE e0 w9 hI9 (hF13195.tr hF9 rfl) hl9_PZ p0 p1 (by have := bd_129_35 hI; have := bd_129_21 hI; have := bd_129_23 hI; have := bd_129_13 hI; have := (by decide : ((0 : Int32)).toInt = 0); have := bd_129_35 hI13188; have := bd_129_21 hI13188; have := bd_129_23 hI13188; have := bd_129_13 hI13188; have := bd_129_24 hI13188; have := bd_129_24 hI; (first | omega | sorry))) (fun r w9 hI9 hF9 hl9_PZ q0 => q0.elim)
set_option maxRecDepth 20000 in
set_option maxHeartbeats 2000000 in
theorem hq_Tx_program_44 {E : Int32 → MW → Prop} {Q : Int32 → MW → Prop} (n : Nat) : ∀ (x44_1 : Int32) (w : MW), BND w → PZ w → 0 ≤ x44_1.toInt → x44_1.toInt ≤ 1 → x44_1.toInt = 0 ∨ (w.1 129 35).toInt + (w.1 129 21).toInt + (w.1 129 23).toInt ≤ (w.1 129 13).toInt → (2 * (300 - (w.1 129 13).toInt) + x44_1.toInt).toNat < n → (∀ (e44_1 : Int32) (w' : MW), BND w' → FR l_Tx_program_44 w w' → PZ w' → 0 ≤ e44_1.toInt → e44_1.toInt ≤ 1 → E e44_1 w') → (∀ (r : Int32) (w' : MW), BND w' → FR l_Tx_program_44 w w' → PZ w' → False → Q r w') → q_Tx_program_44 E Q n x44_1 w := by
  induction n with
  | zero => intros; (first | omega | sorry)
  | succ n ih =>
    intro x44_1 w hI hf_PZ hp0 hp1 hp2 hm hE hQ
    rw [q_Tx_program_44.eq_2]
    refine ⟨fun h13197 => ?_, fun h13197 => ?_⟩
    · have o13198 : (0 ≤ x44_1.toInt) ∧ (x44_1.toInt ≤ 1) := by have := bd_129_35 hI; have := bd_129_21 hI; have := bd_129_23 hI; have := bd_129_13 hI; have := (by decide : ((0 : Int32)).toInt = 0); exact ⟨by (first | omega | sorry), by (first | omega | sorry)⟩
      exact hE _ _ hI (FR.refl _ w) hf_PZ o13198.1 o13198.2
    · refine ⟨fun h13199 => ?_, fun h13199 => ?_⟩
      · have o13200 : (0 ≤ x44_1.toInt) ∧ (x44_1.toInt ≤ 1) := by have := bd_129_35 hI; have := bd_129_21 hI; have := bd_129_23 hI; have := bd_129_13 hI; have := (by decide : ((0 : Int32)).toInt = 0); exact ⟨by (first | omega | sorry), by (first | omega | sorry)⟩
        exact hE _ _ hI (FR.refl _ w) hf_PZ o13200.1 o13200.2
      · refine h_Tx_statement hI hf_PZ (by have := bd_129_35 hI; have := bd_129_21 hI; have := bd_129_23 hI; have := bd_129_13 hI; have := (by decide : ((0 : Int32)).toInt = 0); (first | omega | sorry)) (fun r13204 w13201 hI13202 hL13203 hlw13201_PZ p13205 p13206 p13207 p13208 p13209 => ?_)
        have hF13210 : FR l_Tx_program_44 w w13201 := (FR.refl _ w).tr hL13203 rfl
        refine ⟨fun h13211 => ?_, fun h13211 => ?_⟩
        · refine Eq.mpr (q_Tx_program_70.eq_1 _ _ _ _ _ _) ?_
          refine ⟨fun _ => ?_, fun h => absurd (by decide) h⟩
          have o13212 : (0 ≤ (0 : Int32).toInt) ∧ ((0 : Int32).toInt ≤ 1) ∧ ((0 : Int32).toInt = 0 ∨ (w13201.1 129 35).toInt + (w13201.1 129 21).toInt + (w13201.1 129 23).toInt ≤ (w13201.1 129 13).toInt) := by have := (by decide : ((0 : Int32)).toInt = 0); have := bd_129_35 hI13202; have := bd_129_21 hI13202; have := bd_129_23 hI13202; have := bd_129_23 hI; have := (congrArg Int32.toInt (hL13203 129 23 rfl).1); have := bd_129_13 hI13202; have := bd_129_35 hI; have := bd_129_21 hI; have := bd_129_13 hI; have := bd_129_11 hI13202; have := bd_129_11 hI; exact ⟨by (first | omega | sorry), by (first | omega | sorry), by (first | omega | sorry)⟩
          exact ih _ w13201 hI13202 hlw13201_PZ o13212.1 o13212.2.1 o13212.2.2 (by have := (by decide : ((0 : Int32)).toInt = 0); have := bd_129_13 hI13202; have := bd_129_13 hI; have := bd_129_35 hI; have := bd_129_21 hI; have := bd_129_23 hI; have := bd_129_35 hI13202; have := bd_129_23 hI13202; have := (congrArg Int32.toInt (hL13203 129 23 rfl).1); have := bd_129_21 hI13202; have := bd_129_11 hI13202; have := bd_129_11 hI; (first | omega | sorry)) (fun e0 w9 hI9 hF9 hl9_PZ p0 p1 => hE e0 w9 hI9 (hF13210.tr hF9 rfl) hl9_PZ p0 p1 ) (fun r w9 hI9 hF9 hl9_PZ q0 => q0.elim)
        · refine Eq.mpr (q_Tx_program_70.eq_1 _ _ _ _ _ _) ?_
          refine ⟨fun h => absurd h (by decide), fun _ => ?_⟩
          refine Eq.mpr (p_Tx_base.eq_1 _ _) ?_
          have o13213 : 0 ≤ (((300 : Int32) * ((1 : Int32) - (w13201.1 129 12))) + (w13201.1 129 23)).toInt ∧ (((300 : Int32) * ((1 : Int32) - (w13201.1 129 12))) + (w13201.1 129 23)).toInt < 600 := by have := bd_129_12 hI13202; have := bd_129_12 hI; have := (congrArg Int32.toInt (hL13203 129 12 rfl).1); have := ti_sub2 (by decide : ((1 : Int32)).toInt = 1) (Eq.refl (w13201.1 129 12).toInt) (by (first | omega | sorry)) (by (first | omega | sorry)); have := ti_mul2 (by decide : ((300 : Int32)).toInt = 300) (Eq.refl ((1 : Int32) - (w13201.1 129 12)).toInt) (by (first | omega | sorry)) (by (first | omega | sorry)); have := bd_129_23 hI13202; have := bd_129_23 hI; have := (congrArg Int32.toInt (hL13203 129 23 rfl).1); have := ti_add2 (Eq.refl ((300 : Int32) * ((1 : Int32) - (w13201.1 129 12))).toInt) (Eq.refl (w13201.1 129 23).toInt) (by (first | omega | sorry)) (by (first | omega | sorry)); have := bd_129_35 hI; have := bd_129_21 hI; have := bd_129_13 hI; have := (by decide : ((0 : Int32)).toInt = 0); have := bd_129_13 hI13202; have := bd_129_35 hI13202; have := bd_129_21 hI13202; have := bd_129_11 hI13202; have := bd_129_11 hI; (first | omega | sorry)
          refine ⟨o13213, ?_⟩
          have o13215 : 0 ≤ r13204.toInt ∧ r13204.toInt ≤ 299 := by have := bd_129_13 hI13202; have := bd_129_35 hI13202; have := bd_129_35 hI; have := bd_129_23 hI13202; have := bd_129_23 hI; have := (congrArg Int32.toInt (hL13203 129 23 rfl).1); have := bd_129_21 hI13202; have := bd_129_11 hI13202; have := bd_129_11 hI; have := bd_129_13 hI; have := (by decide : ((0 : Int32)).toInt = 0); have := bd_129_21 hI; (first | omega | sorry)
          have hI13214 : BND (sI w13201 138 ((((300 : Int32) * ((1 : Int32) - (w13201.1 129 12))) + (w13201.1 129 23)).toInt.toNat) r13204) := wbd_138 hI13202 ((((300 : Int32) * ((1 : Int32) - (w13201.1 129 12))) + (w13201.1 129 23)).toInt.toNat) o13215.1 o13215.2
          have o13217 : 0 ≤ ((w13201.1 129 23) + (1 : Int32)).toInt ∧ ((w13201.1 129 23) + (1 : Int32)).toInt ≤ 300 := by have := bd_129_23 hI13202; have := bd_129_23 hI; have := (congrArg Int32.toInt (hL13203 129 23 rfl).1); have := ti_add2 (Eq.refl (w13201.1 129 23).toInt) (by decide : ((1 : Int32)).toInt = 1) (by (first | omega | sorry)) (by (first | omega | sorry)); have := bd_129_35 hI; have := bd_129_21 hI; have := bd_129_13 hI; have := (by decide : ((0 : Int32)).toInt = 0); have := bd_129_13 hI13202; have := bd_129_35 hI13202; have := bd_129_21 hI13202; have := bd_129_11 hI13202; have := bd_129_11 hI; (first | omega | sorry)
          have hI13216 : BND (sI (sI w13201 138 ((((300 : Int32) * ((1 : Int32) - (w13201.1 129 12))) + (w13201.1 129 23)).toInt.toNat) r13204) 129 23 ((w13201.1 129 23) + (1 : Int32))) := wbd_129_23 hI13214 o13217.1 o13217.2
          have o13218 : (0 ≤ (1 : Int32).toInt) ∧ ((1 : Int32).toInt ≤ 1) ∧ ((1 : Int32).toInt = 0 ∨ ((sI (sI w13201 138 ((((300 : Int32) * ((1 : Int32) - (w13201.1 129 12))) + (w13201.1 129 23)).toInt.toNat) r13204) 129 23 ((w13201.1 129 23) + (1 : Int32))).1 129 35).toInt + ((sI (sI w13201 138 ((((300 : Int32) * ((1 : Int32) - (w13201.1 129 12))) + (w13201.1 129 23)).toInt.toNat) r13204) 129 23 ((w13201.1 129 23) + (1 : Int32))).1 129 21).toInt + ((sI (sI w13201 138 ((((300 : Int32) * ((1 : Int32) - (w13201.1 129 12))) + (w13201.1 129 23)).toInt.toNat) r13204) 129 23 ((w13201.1 129 23) + (1 : Int32))).1 129 23).toInt ≤ ((sI (sI w13201 138 ((((300 : Int32) * ((1 : Int32) - (w13201.1 129 12))) + (w13201.1 129 23)).toInt.toNat) r13204) 129 23 ((w13201.1 129 23) + (1 : Int32))).1 129 13).toInt) := by have := (by decide : ((1 : Int32)).toInt = 1); have := bd_129_35 hI13202; have : ((sI (sI w13201 138 ((((300 : Int32) * ((1 : Int32) - (w13201.1 129 12))) + (w13201.1 129 23)).toInt.toNat) r13204) 129 23 ((w13201.1 129 23) + (1 : Int32))).1 129 35).toInt = (w13201.1 129 35).toInt := rfl; have := bd_129_21 hI13202; have : ((sI (sI w13201 138 ((((300 : Int32) * ((1 : Int32) - (w13201.1 129 12))) + (w13201.1 129 23)).toInt.toNat) r13204) 129 23 ((w13201.1 129 23) + (1 : Int32))).1 129 21).toInt = (w13201.1 129 21).toInt := rfl; have := bd_129_23 hI13202; have := bd_129_23 hI; have := (congrArg Int32.toInt (hL13203 129 23 rfl).1); have := ti_add2 (Eq.refl (w13201.1 129 23).toInt) (by decide : ((1 : Int32)).toInt = 1) (by (first | omega | sorry)) (by (first | omega | sorry)); have : ((sI (sI w13201 138 ((((300 : Int32) * ((1 : Int32) - (w13201.1 129 12))) + (w13201.1 129 23)).toInt.toNat) r13204) 129 23 ((w13201.1 129 23) + (1 : Int32))).1 129 23).toInt = ((w13201.1 129 23) + (1 : Int32)).toInt := rfl; have := bd_129_13 hI13202; have : ((sI (sI w13201 138 ((((300 : Int32) * ((1 : Int32) - (w13201.1 129 12))) + (w13201.1 129 23)).toInt.toNat) r13204) 129 23 ((w13201.1 129 23) + (1 : Int32))).1 129 13).toInt = (w13201.1 129 13).toInt := rfl; have := bd_129_35 hI; have := bd_129_21 hI; have := bd_129_13 hI; have := (by decide : ((0 : Int32)).toInt = 0); have := bd_129_11 hI13202; have := bd_129_11 hI; exact ⟨by (first | omega | sorry), by (first | omega | sorry), by (first | omega | sorry)⟩
          exact ih _ (sI (sI w13201 138 ((((300 : Int32) * ((1 : Int32) - (w13201.1 129 12))) + (w13201.1 129 23)).toInt.toNat) r13204) 129 23 ((w13201.1 129 23) + (1 : Int32))) hI13216 (PZ_fr (l := [(129, some 23)]) (FR.I (FR.refl _ (sI w13201 138 ((((300 : Int32) * ((1 : Int32) - (w13201.1 129 12))) + (w13201.1 129 23)).toInt.toNat) r13204)) (k := 129) (j := 23) (v := ((w13201.1 129 23) + (1 : Int32))) rfl) rfl (PZ_fr (l := [(138, none)]) (FR.I (FR.refl _ w13201) (k := 138) (j := (((300 : Int32) * ((1 : Int32) - (w13201.1 129 12))) + (w13201.1 129 23)).toInt.toNat) (v := r13204) rfl) rfl hlw13201_PZ)) o13218.1 o13218.2.1 o13218.2.2 (by have := (by decide : ((1 : Int32)).toInt = 1); have := bd_129_13 hI13202; have : ((sI (sI w13201 138 ((((300 : Int32) * ((1 : Int32) - (w13201.1 129 12))) + (w13201.1 129 23)).toInt.toNat) r13204) 129 23 ((w13201.1 129 23) + (1 : Int32))).1 129 13).toInt = (w13201.1 129 13).toInt := rfl; have := bd_129_13 hI; have := bd_129_35 hI; have := bd_129_21 hI; have := bd_129_23 hI; have := (by decide : ((0 : Int32)).toInt = 0); have := bd_129_35 hI13202; have := bd_129_23 hI13202; have := (congrArg Int32.toInt (hL13203 129 23 rfl).1); have := bd_129_21 hI13202; have := bd_129_11 hI13202; have := bd_129_11 hI; (first | omega | sorry)) (fun e0 w9 hI9 hF9 hl9_PZ p0 p1 => hE e0 w9 hI9 ((FR.I (FR.I hF13210 (k := 138) (j := (((300 : Int32) * ((1 : Int32) - (w13201.1 129 12))) + (w13201.1 129 23)).toInt.toNat) (v := r13204) rfl) (k := 129) (j := 23) (v := ((w13201.1 129 23) + (1 : Int32))) rfl).tr hF9 rfl) hl9_PZ p0 p1 ) (fun r w9 hI9 hF9 hl9_PZ q0 => q0.elim)
set_option maxRecDepth 20000 in
set_option maxHeartbeats 2000000 in
theorem h_Tx_program {w : MW} {Q : Int32 → MW → Prop} (hI : BND w) (hf_PZ : PZ w) (hp0 : (w.1 129 35).toInt + (w.1 129 21).toInt + (w.1 129 23).toInt ≤ (w.1 129 13).toInt) (hQ : ∀ (r : Int32) (w' : MW), BND w' → FR l_Tx_program w w' → PZ w' → 0 ≤ r.toInt → r.toInt ≤ 1 → Q r w') : p_Tx_program w Q := by
  refine Eq.mpr (p_Tx_program.eq_1 _ _) ?_
  refine h_Tx_go hI hf_PZ  (fun r13222 w13219 hI13220 hL13221 hlw13219_PZ p13223 p13224 p13225 => ?_)
  have hF13226 : FR l_Tx_program w w13219 := (FR.refl _ w).tr hL13221 rfl
  have o13227 : (0 ≤ r13222.toInt) ∧ (r13222.toInt ≤ 1) ∧ (r13222.toInt = 0 ∨ (w13219.1 129 35).toInt + (w13219.1 129 21).toInt + (w13219.1 129 23).toInt ≤ (w13219.1 129 13).toInt) := by have := bd_129_35 hI13220; have := bd_129_35 hI; have := (congrArg Int32.toInt (hL13221 129 35 rfl).1); have := bd_129_21 hI13220; have := bd_129_21 hI; have := (congrArg Int32.toInt (hL13221 129 21 rfl).1); have := bd_129_23 hI13220; have := bd_129_23 hI; have := (congrArg Int32.toInt (hL13221 129 23 rfl).1); have := bd_129_13 hI13220; have := bd_129_13 hI; have := (congrArg Int32.toInt (hL13221 129 13 rfl).1); have := bd_129_5 hI13220; have := bd_129_6 hI13220; exact ⟨by (first | omega | sorry), by (first | omega | sorry), by (first | omega | sorry)⟩
  refine hq_Tx_program_5 FU _ w13219 hI13220 hlw13219_PZ o13227.1 o13227.2.1 o13227.2.2 (fu_lt (by have := bd_129_24 hI13220; have := bd_129_24 hI; have := (congrArg Int32.toInt (hL13221 129 24 rfl).1); have := bd_129_5 hI13220; have := bd_129_6 hI13220; (first | omega | sorry))) (fun e13231 w13228 hI13229 hL13230 hlw13228_PZ p13232 p13233 p13234 => ?_) (fun r w9 hI9 hF9 hl9_PZ q0 => q0.elim)
  have hF13235 : FR l_Tx_program w w13228 := hF13226.tr hL13230 rfl
  have o13236 : (0 ≤ e13231.toInt) ∧ (e13231.toInt ≤ 1) ∧ (e13231.toInt = 0 ∨ (w13228.1 129 35).toInt + (w13228.1 129 21).toInt + (w13228.1 129 23).toInt ≤ (w13228.1 129 13).toInt) := by have := bd_129_35 hI13229; have := bd_129_21 hI13229; have := bd_129_23 hI13229; have := bd_129_13 hI13229; have := bd_129_35 hI; have := bd_129_21 hI; have := bd_129_23 hI; have := bd_129_13 hI; exact ⟨by (first | omega | sorry), by (first | omega | sorry), by (first | omega | sorry)⟩
  refine hq_Tx_program_44 FU _ w13228 hI13229 hlw13228_PZ o13236.1 o13236.2.1 o13236.2.2 (fu_lt (by have := bd_129_13 hI13229; have := bd_129_35 hI; have := bd_129_21 hI; have := bd_129_23 hI; have := bd_129_13 hI; have := bd_129_35 hI13229; have := bd_129_21 hI13229; have := bd_129_23 hI13229; (first | omega | sorry))) (fun e13240 w13237 hI13238 hL13239 hlw13237_PZ p13241 p13242 => ?_) (fun r w9 hI9 hF9 hl9_PZ q0 => q0.elim)
  have hF13243 : FR l_Tx_program w w13237 := hF13235.tr hL13239 rfl
  have o13244 : e13240.toInt = 0 ∨ e13240.toInt = 1 := by (first | omega | sorry)
  refine ⟨o13244, ?_⟩
  have o13245 : (0 ≤ e13240.toInt) ∧ (e13240.toInt ≤ 1) := by exact ⟨by (first | omega | sorry), by (first | omega | sorry)⟩
  exact hQ _ _ hI13238 hF13243 hlw13237_PZ  o13245.1 o13245.2
def l_Tx_read_69 : Pl := [(129, some 1), (129, some 12), (129, some 30), (129, some 31), (129, some 32), (129, some 33)]
def l_Tx_read : Pl := [(129, some 1), (129, some 2), (129, some 3), (129, some 4), (129, some 5), (129, some 6), (129, some 7), (129, some 8), (129, some 9), (129, some 10), (129, some 11), (129, some 12), (129, some 13), (129, some 21), (129, some 23), (129, some 24), (129, some 30), (129, some 31), (129, some 32), (129, some 33), (129, some 35), (129, some 38), (131, none), (132, none), (133, none), (134, none), (135, none), (136, none), (137, none), (138, none), (139, none), (140, none), (141, none), (142, none), (143, none), (144, none), (145, none), (146, none)]
set_option maxRecDepth 20000 in
set_option maxHeartbeats 2000000 in
theorem h_Tx_read {w : MW} {Q : Int32 → MW → Prop} (hI : BND w)  (hQ : ∀ (r : Int32) (w' : MW), BND w' → FR l_Tx_read w w' → Q r w') : p_Tx_read w Q := by
  refine Eq.mpr (p_Tx_read.eq_1 _ _) ?_
  have hI13246 : BND (sI w 129 2 0) := wbd_129_2 hI (by decide) (by decide)
  have hI13247 : BND (sI (sI w 129 2 0) 129 3 1) := wbd_129_3 hI13246
  have hI13248 : BND (sI (sI (sI w 129 2 0) 129 3 1) 129 11 0) := wbd_129_11 hI13247 (by decide) (by decide)
  have hI13249 : BND (sI (sI (sI (sI w 129 2 0) 129 3 1) 129 11 0) 129 13 0) := wbd_129_13 hI13248 (by decide) (by decide)
  have hI13250 : BND (sI (sI (sI (sI (sI w 129 2 0) 129 3 1) 129 11 0) 129 13 0) 129 21 0) := wbd_129_21 hI13249 (by decide) (by decide)
  have hI13251 : BND (sI (sI (sI (sI (sI (sI w 129 2 0) 129 3 1) 129 11 0) 129 13 0) 129 21 0) 129 23 0) := wbd_129_23 hI13250 (by decide) (by decide)
  have hI13252 : BND (sI (sI (sI (sI (sI (sI (sI w 129 2 0) 129 3 1) 129 11 0) 129 13 0) 129 21 0) 129 23 0) 129 24 0) := wbd_129_24 hI13251 (by decide) (by decide)
  have hI13253 : BND (sI (sI (sI (sI (sI (sI (sI (sI w 129 2 0) 129 3 1) 129 11 0) 129 13 0) 129 21 0) 129 23 0) 129 24 0) 129 35 0) := wbd_129_35 hI13252 (by decide) (by decide)
  have hI13254 : BND (sI (sI (sI (sI (sI (sI (sI (sI (sI w 129 2 0) 129 3 1) 129 11 0) 129 13 0) 129 21 0) 129 23 0) 129 24 0) 129 35 0) 129 38 0) := wbd_129_38 hI13253
  have hI13255 : BND (sI (sI (sI (sI (sI (sI (sI (sI (sI (sI w 129 2 0) 129 3 1) 129 11 0) 129 13 0) 129 21 0) 129 23 0) 129 24 0) 129 35 0) 129 38 0) 129 10 (-1)) := wbd_129_10 hI13254
  refine h_Tx_program hI13255 (PZ_fr (l := [(129, some 10)]) (FR.I (FR.refl _ (sI (sI (sI (sI (sI (sI (sI (sI (sI w 129 2 0) 129 3 1) 129 11 0) 129 13 0) 129 21 0) 129 23 0) 129 24 0) 129 35 0) 129 38 0)) (k := 129) (j := 10) (v := (-1)) rfl) rfl (PZ_fr (l := [(129, some 38)]) (FR.I (FR.refl _ (sI (sI (sI (sI (sI (sI (sI (sI w 129 2 0) 129 3 1) 129 11 0) 129 13 0) 129 21 0) 129 23 0) 129 24 0) 129 35 0)) (k := 129) (j := 38) (v := 0) rfl) rfl (PZ_fr (l := [(129, some 35)]) (FR.I (FR.refl _ (sI (sI (sI (sI (sI (sI (sI w 129 2 0) 129 3 1) 129 11 0) 129 13 0) 129 21 0) 129 23 0) 129 24 0)) (k := 129) (j := 35) (v := 0) rfl) rfl (PZ_fr (l := [(129, some 24)]) (FR.I (FR.refl _ (sI (sI (sI (sI (sI (sI w 129 2 0) 129 3 1) 129 11 0) 129 13 0) 129 21 0) 129 23 0)) (k := 129) (j := 24) (v := 0) rfl) rfl (PZ_fr (l := [(129, some 23)]) (FR.I (FR.refl _ (sI (sI (sI (sI (sI w 129 2 0) 129 3 1) 129 11 0) 129 13 0) 129 21 0)) (k := 129) (j := 23) (v := 0) rfl) rfl (PZ_fr (l := [(129, some 21)]) (FR.I (FR.refl _ (sI (sI (sI (sI w 129 2 0) 129 3 1) 129 11 0) 129 13 0)) (k := 129) (j := 21) (v := 0) rfl) rfl (PZ_fr (l := [(129, some 13)]) (FR.I (FR.refl _ (sI (sI (sI w 129 2 0) 129 3 1) 129 11 0)) (k := 129) (j := 13) (v := 0) rfl) rfl (PZ_fr (l := [(129, some 11)]) (FR.I (FR.refl _ (sI (sI w 129 2 0) 129 3 1)) (k := 129) (j := 11) (v := 0) rfl) rfl (PZ_fr (l := [(129, some 3)]) (FR.I (FR.refl _ (sI w 129 2 0)) (k := 129) (j := 3) (v := 1) rfl) rfl (by unfold PZ; have := bd_129_1 hI; have : ((sI w 129 2 0).1 129 1).toInt = (w.1 129 1).toInt := rfl; have : ((sI w 129 2 0).1 129 2).toInt = ((0 : Int32)).toInt := rfl; have := (by decide : ((0 : Int32)).toInt = 0); (first | omega | sorry))))))))))) (by have : ((sI (sI (sI (sI (sI (sI (sI (sI (sI (sI w 129 2 0) 129 3 1) 129 11 0) 129 13 0) 129 21 0) 129 23 0) 129 24 0) 129 35 0) 129 38 0) 129 10 (-1)).1 129 35).toInt = ((0 : Int32)).toInt := rfl; have := (by decide : ((0 : Int32)).toInt = 0); have : ((sI (sI (sI (sI (sI (sI (sI (sI (sI (sI w 129 2 0) 129 3 1) 129 11 0) 129 13 0) 129 21 0) 129 23 0) 129 24 0) 129 35 0) 129 38 0) 129 10 (-1)).1 129 21).toInt = ((0 : Int32)).toInt := rfl; have := (by decide : ((0 : Int32)).toInt = 0); have : ((sI (sI (sI (sI (sI (sI (sI (sI (sI (sI w 129 2 0) 129 3 1) 129 11 0) 129 13 0) 129 21 0) 129 23 0) 129 24 0) 129 35 0) 129 38 0) 129 10 (-1)).1 129 23).toInt = ((0 : Int32)).toInt := rfl; have := (by decide : ((0 : Int32)).toInt = 0); have : ((sI (sI (sI (sI (sI (sI (sI (sI (sI (sI w 129 2 0) 129 3 1) 129 11 0) 129 13 0) 129 21 0) 129 23 0) 129 24 0) 129 35 0) 129 38 0) 129 10 (-1)).1 129 13).toInt = ((0 : Int32)).toInt := rfl; have := (by decide : ((0 : Int32)).toInt = 0); (first | omega | sorry)) (fun r13259 w13256 hI13257 hL13258 hlw13256_PZ p13260 p13261 => ?_)
  have hF13262 : FR l_Tx_read w w13256 := (FR.I (FR.I (FR.I (FR.I (FR.I (FR.I (FR.I (FR.I (FR.I (FR.I (FR.refl _ w) (k := 129) (j := 2) (v := 0) rfl) (k := 129) (j := 3) (v := 1) rfl) (k := 129) (j := 11) (v := 0) rfl) (k := 129) (j := 13) (v := 0) rfl) (k := 129) (j := 21) (v := 0) rfl) (k := 129) (j := 23) (v := 0) rfl) (k := 129) (j := 24) (v := 0) rfl) (k := 129) (j := 35) (v := 0) rfl) (k := 129) (j := 38) (v := 0) rfl) (k := 129) (j := 10) (v := (-1)) rfl).tr hL13258 rfl
  refine ⟨fun h13263 => ?_, fun h13263 => ?_⟩
  · refine Eq.mpr (q_Tx_read_69.eq_1 _ _ _) ?_
    refine ⟨fun h => absurd h (by decide), fun _ => ?_⟩
    have hI13264 : BND (sI w13256 129 1 0) := wbd_129_1 hI13257 (by decide) (by decide)
    exact hQ _ _ hI13264 (FR.I hF13262 (k := 129) (j := 1) (v := 0) rfl) 
  · refine h_Tx_isSmall hI13257   (fun r13268 w13265 hI13266 hL13267 p13269 p13270 => ?_)
    have hF13271 : FR l_Tx_read w w13265 := hF13262.tr hL13267 rfl
    refine ⟨fun h13272 => ?_, fun h13272 => ?_⟩
    · refine Eq.mpr (q_Tx_read_69.eq_1 _ _ _) ?_
      refine ⟨fun h => absurd h (by decide), fun _ => ?_⟩
      have hI13273 : BND (sI w13265 129 1 0) := wbd_129_1 hI13266 (by decide) (by decide)
      exact hQ _ _ hI13273 (FR.I hF13271 (k := 129) (j := 1) (v := 0) rfl) 
    · refine Eq.mpr (q_Tx_read_69.eq_1 _ _ _) ?_
      refine ⟨fun _ => ?_, fun h => absurd (by decide) h⟩
      have hI13274 : BND (sI w13265 129 1 0) := wbd_129_1 hI13266 (by decide) (by decide)
      have o13276 : 0 ≤ ((1 : Int32) - (w13265.1 129 12)).toInt ∧ ((1 : Int32) - (w13265.1 129 12)).toInt ≤ 1 := by have := bd_129_12 hI13266; have := bd_129_12 hI13257; have := bd_129_12 hI; have : ((sI (sI (sI (sI (sI (sI (sI (sI (sI (sI w 129 2 0) 129 3 1) 129 11 0) 129 13 0) 129 21 0) 129 23 0) 129 24 0) 129 35 0) 129 38 0) 129 10 (-1)).1 129 12).toInt = (w.1 129 12).toInt := rfl; have := (congrArg Int32.toInt (hL13258 129 12 rfl).1); have := (congrArg Int32.toInt (hL13267 129 12 rfl).1); have := ti_sub2 (by decide : ((1 : Int32)).toInt = 1) (Eq.refl (w13265.1 129 12).toInt) (by (first | omega | sorry)) (by (first | omega | sorry)); (first | omega | sorry)
      have hI13275 : BND (sI (sI w13265 129 1 0) 129 12 ((1 : Int32) - (w13265.1 129 12))) := wbd_129_12 hI13274 o13276.1 o13276.2
      have o13278 : 0 ≤ (w13265.1 129 13).toInt ∧ (w13265.1 129 13).toInt ≤ 300 := by have := bd_129_13 hI13266; have := bd_129_13 hI13257; have := (congrArg Int32.toInt (hL13267 129 13 rfl).1); (first | omega | sorry)
      have hI13277 : BND (sI (sI (sI w13265 129 1 0) 129 12 ((1 : Int32) - (w13265.1 129 12))) 129 30 (w13265.1 129 13)) := wbd_129_30 hI13275 o13278.1 o13278.2
      have o13280 : 0 ≤ (w13265.1 129 23).toInt ∧ (w13265.1 129 23).toInt ≤ 300 := by have := bd_129_23 hI13266; have := bd_129_23 hI13257; have := (congrArg Int32.toInt (hL13267 129 23 rfl).1); (first | omega | sorry)
      have hI13279 : BND (sI (sI (sI (sI w13265 129 1 0) 129 12 ((1 : Int32) - (w13265.1 129 12))) 129 30 (w13265.1 129 13)) 129 31 (w13265.1 129 23)) := wbd_129_31 hI13277 o13280.1 o13280.2
      have o13282 : 0 ≤ (w13265.1 129 24).toInt ∧ (w13265.1 129 24).toInt ≤ 40 := by have := bd_129_24 hI13266; have := bd_129_24 hI13257; have := (congrArg Int32.toInt (hL13267 129 24 rfl).1); (first | omega | sorry)
      have hI13281 : BND (sI (sI (sI (sI (sI w13265 129 1 0) 129 12 ((1 : Int32) - (w13265.1 129 12))) 129 30 (w13265.1 129 13)) 129 31 (w13265.1 129 23)) 129 32 (w13265.1 129 24)) := wbd_129_32 hI13279 o13282.1 o13282.2
      have hI13283 : BND (sI (sI (sI (sI (sI (sI w13265 129 1 0) 129 12 ((1 : Int32) - (w13265.1 129 12))) 129 30 (w13265.1 129 13)) 129 31 (w13265.1 129 23)) 129 32 (w13265.1 129 24)) 129 33 (w13265.1 129 38)) := wbd_129_33 hI13281
      exact hQ _ _ hI13283 (FR.I (FR.I (FR.I (FR.I (FR.I (FR.I hF13271 (k := 129) (j := 1) (v := 0) rfl) (k := 129) (j := 12) (v := ((1 : Int32) - (w13265.1 129 12))) rfl) (k := 129) (j := 30) (v := (w13265.1 129 13)) rfl) (k := 129) (j := 31) (v := (w13265.1 129 23)) rfl) (k := 129) (j := 32) (v := (w13265.1 129 24)) rfl) (k := 129) (j := 33) (v := (w13265.1 129 38)) rfl) 
def l_Tx_unit : Pl := [(129, some 1), (130, none)]
set_option maxRecDepth 20000 in
set_option maxHeartbeats 2000000 in
theorem h_Tx_unit {w : MW} {a0 : Int32} {Q : Int32 → MW → Prop} (hI : BND w) (hp0 : (-128) ≤ a0.toInt) (hp1 : a0.toInt ≤ 127) (hQ : ∀ (r : Int32) (w' : MW), BND w' → FR l_Tx_unit w w' → 0 ≤ r.toInt → r.toInt ≤ 1 → Q r w') : p_Tx_unit w a0 Q := by
  refine Eq.mpr (p_Tx_unit.eq_1 _ _ _) ?_
  refine ⟨fun h13284 => ?_, fun h13284 => ?_⟩
  · have o13285 : (0 ≤ (0 : Int32).toInt) ∧ ((0 : Int32).toInt ≤ 1) := by have := (by decide : ((0 : Int32)).toInt = 0); exact ⟨by (first | omega | sorry), by (first | omega | sorry)⟩
    exact hQ _ _ hI (FR.refl _ w)  o13285.1 o13285.2
  · refine ⟨fun h13286 => ?_, fun h13286 => ?_⟩
    · exfalso; have := (by decide : ((1 : Int32)).toInt = 1); have := (by decide : ((127 : Int32)).toInt = 127); (first | omega | sorry)
    · refine ⟨fun h13287 => ?_, fun h13287 => ?_⟩
      · have o13288 : 0 ≤ (w.1 129 1).toInt ∧ (w.1 129 1).toInt < 4020 := by have := bd_129_1 hI; have := (by decide : ((4020 : Int32)).toInt = 4020); (first | omega | sorry)
        refine ⟨o13288, ?_⟩
        have o13290 : (-128) ≤ (vp_nar .byte ((Int32.toInt8 a0).toInt32)).toInt ∧ (vp_nar .byte ((Int32.toInt8 a0).toInt32)).toInt ≤ 127 := by have := nb_i2beq (x := a0) (by (first | omega | sorry)) (by (first | omega | sorry)); have := nb_byteq (x := ((Int32.toInt8 a0).toInt32)) (by (first | omega | sorry)) (by (first | omega | sorry)); have := (by decide : ((1 : Int32)).toInt = 1); have := (by decide : ((127 : Int32)).toInt = 127); (first | omega | sorry)
        have hI13289 : BND (sI w 130 ((w.1 129 1).toInt.toNat) (vp_nar .byte ((Int32.toInt8 a0).toInt32))) := wbd_130 hI ((w.1 129 1).toInt.toNat) o13290.1 o13290.2
        have o13292 : 0 ≤ ((w.1 129 1) + (1 : Int32)).toInt ∧ ((w.1 129 1) + (1 : Int32)).toInt ≤ 4020 := by have := bd_129_1 hI; have := ti_add2 (Eq.refl (w.1 129 1).toInt) (by decide : ((1 : Int32)).toInt = 1) (by (first | omega | sorry)) (by (first | omega | sorry)); have := (by decide : ((4020 : Int32)).toInt = 4020); (first | omega | sorry)
        have hI13291 : BND (sI (sI w 130 ((w.1 129 1).toInt.toNat) (vp_nar .byte ((Int32.toInt8 a0).toInt32))) 129 1 ((w.1 129 1) + (1 : Int32))) := wbd_129_1 hI13289 o13292.1 o13292.2
        have o13293 : (0 ≤ (1 : Int32).toInt) ∧ ((1 : Int32).toInt ≤ 1) := by have := (by decide : ((1 : Int32)).toInt = 1); exact ⟨by (first | omega | sorry), by (first | omega | sorry)⟩
        exact hQ _ _ hI13291 (FR.I (FR.I (FR.refl _ w) (k := 130) (j := (w.1 129 1).toInt.toNat) (v := (vp_nar .byte ((Int32.toInt8 a0).toInt32))) rfl) (k := 129) (j := 1) (v := ((w.1 129 1) + (1 : Int32))) rfl)  o13293.1 o13293.2
      · have o13294 : (0 ≤ (0 : Int32).toInt) ∧ ((0 : Int32).toInt ≤ 1) := by have := (by decide : ((0 : Int32)).toInt = 0); exact ⟨by (first | omega | sorry), by (first | omega | sorry)⟩
        exact hQ _ _ hI (FR.refl _ w)  o13294.1 o13294.2
def l_Mo_end_37 : Pl := []
def l_Mo_end_97 : Pl := [(129, some 1), (130, none), (147, some 1), (148, none)]
def l_Mo_end_193 : Pl := [(201, none), (206, none)]
def l_Mo_end_169 : Pl := [(127, some 26), (127, some 59), (167, none), (181, none), (182, none), (183, none), (184, none), (185, none), (186, none), (187, none), (201, none), (206, none)]
def l_Mo_end_33 : Pl := [(127, some 1), (127, some 4), (127, some 11), (127, some 21), (127, some 22), (127, some 26), (127, some 59), (127, some 85), (127, some 86), (129, some 1), (129, some 2), (129, some 3), (129, some 4), (129, some 5), (129, some 6), (129, some 7), (129, some 8), (129, some 9), (129, some 10), (129, some 11), (129, some 12), (129, some 13), (129, some 21), (129, some 23), (129, some 24), (129, some 30), (129, some 31), (129, some 32), (129, some 33), (129, some 35), (129, some 38), (130, none), (131, none), (132, none), (133, none), (134, none), (135, none), (136, none), (137, none), (138, none), (139, none), (140, none), (141, none), (142, none), (143, none), (144, none), (145, none), (146, none), (147, some 1), (147, some 4), (147, some 5), (147, some 6), (147, some 7), (147, some 11), (147, some 12), (147, some 13), (147, some 20), (148, none), (149, none), (150, none), (151, none), (152, none), (153, none), (154, none), (155, none), (156, none), (157, none), (158, none), (159, none), (160, none), (161, none), (162, none), (163, none), (164, none), (165, none), (166, none), (167, none), (168, none), (169, none), (170, none), (171, none), (172, none), (173, none), (174, none), (178, none), (179, none), (180, none), (181, none), (182, none), (183, none), (184, none), (185, none), (186, none), (187, none), (201, none), (206, none)]
def l_Mo_end : Pl := [(127, some 1), (127, some 4), (127, some 11), (127, some 21), (127, some 22), (127, some 26), (127, some 59), (127, some 85), (127, some 86), (129, some 1), (129, some 2), (129, some 3), (129, some 4), (129, some 5), (129, some 6), (129, some 7), (129, some 8), (129, some 9), (129, some 10), (129, some 11), (129, some 12), (129, some 13), (129, some 21), (129, some 23), (129, some 24), (129, some 30), (129, some 31), (129, some 32), (129, some 33), (129, some 35), (129, some 38), (130, none), (131, none), (132, none), (133, none), (134, none), (135, none), (136, none), (137, none), (138, none), (139, none), (140, none), (141, none), (142, none), (143, none), (144, none), (145, none), (146, none), (147, some 1), (147, some 4), (147, some 5), (147, some 6), (147, some 7), (147, some 11), (147, some 12), (147, some 13), (147, some 20), (148, none), (149, none), (150, none), (151, none), (152, none), (153, none), (154, none), (155, none), (156, none), (157, none), (158, none), (159, none), (160, none), (161, none), (162, none), (163, none), (164, none), (165, none), (166, none), (167, none), (168, none), (169, none), (170, none), (171, none), (172, none), (173, none), (174, none), (178, none), (179, none), (180, none), (181, none), (182, none), (183, none), (184, none), (185, none), (186, none), (187, none), (201, none), (206, none)]
set_option maxRecDepth 20000 in
set_option maxHeartbeats 2000000 in
theorem hq_Mo_end_37 {x37_1 : Int32} {x37_2 : Int32} {E : Int32 → MW → Prop} {Q : Int32 → MW → Prop} (n : Nat) : ∀ (x37_3 : Int32) (x37_4 : Int32) (w : MW), BND w → 0 ≤ x37_3.toInt → x37_3.toInt ≤ 1 → 0 ≤ x37_4.toInt → x37_4.toInt ≤ 4000 → x37_3.toInt = 0 ∨ (0 ≤ x37_2.toInt ∧ x37_2.toInt ≤ 4000) → (4000 - x37_4.toInt).toNat < n → (∀ (e37_3 : Int32) (w' : MW), BND w' → FR l_Mo_end_37 w w' → 0 ≤ e37_3.toInt → e37_3.toInt ≤ 1 → e37_3.toInt = 0 ∨ (0 ≤ x37_2.toInt ∧ x37_2.toInt ≤ 4000) → E e37_3 w') → (∀ (r : Int32) (w' : MW), BND w' → FR l_Mo_end_37 w w' → False → Q r w') → q_Mo_end_37 x37_1 x37_2 E Q n x37_3 x37_4 w := by
  induction n with
  | zero => intros; (first | omega | sorry)
  | succ n ih =>
    intro x37_3 x37_4 w hI  hp0 hp1 hp2 hp3 hp4 hm hE hQ
    rw [q_Mo_end_37.eq_2]
    refine ⟨fun h13295 => ?_, fun h13295 => ?_⟩
    · have o13296 : (0 ≤ x37_3.toInt) ∧ (x37_3.toInt ≤ 1) ∧ (x37_3.toInt = 0 ∨ (0 ≤ x37_2.toInt ∧ x37_2.toInt ≤ 4000)) := by exact ⟨by (first | omega | sorry), by (first | omega | sorry), by (first | omega | sorry)⟩
      exact hE _ _ hI (FR.refl _ w) o13296.1 o13296.2.1 o13296.2.2
    · refine ⟨fun h13297 => ?_, fun h13297 => ?_⟩
      · have o13298 : (0 ≤ x37_3.toInt) ∧ (x37_3.toInt ≤ 1) ∧ (x37_3.toInt = 0 ∨ (0 ≤ x37_2.toInt ∧ x37_2.toInt ≤ 4000)) := by have := (by decide : ((0 : Int32)).toInt = 0); exact ⟨by (first | omega | sorry), by (first | omega | sorry), by (first | omega | sorry)⟩
        exact hE _ _ hI (FR.refl _ w) o13298.1 o13298.2.1 o13298.2.2
      · have o13299 : 0 ≤ x37_4.toInt ∧ x37_4.toInt < 4020 := by have := (by decide : ((0 : Int32)).toInt = 0); (first | omega | sorry)
        refine ⟨o13299, ?_⟩
        refine ⟨fun h13300 => ?_, fun h13300 => ?_⟩
        · have o13301 : (0 ≤ (0 : Int32).toInt) ∧ ((0 : Int32).toInt ≤ 1) ∧ (0 ≤ (x37_4 + (1 : Int32)).toInt) ∧ ((x37_4 + (1 : Int32)).toInt ≤ 4000) ∧ ((0 : Int32).toInt = 0 ∨ (0 ≤ x37_2.toInt ∧ x37_2.toInt ≤ 4000)) := by have := (by decide : ((0 : Int32)).toInt = 0); have := ti_add2 (Eq.refl x37_4.toInt) (by decide : ((1 : Int32)).toInt = 1) (by (first | omega | sorry)) (by (first | omega | sorry)); exact ⟨by (first | omega | sorry), by (first | omega | sorry), by (first | omega | sorry), by (first | omega | sorry), by (first | omega | sorry)⟩
          exact ih _ _ w hI  o13301.1 o13301.2.1 o13301.2.2.1 o13301.2.2.2.1 o13301.2.2.2.2 (by have := (by decide : ((0 : Int32)).toInt = 0); have := ti_add2 (Eq.refl x37_4.toInt) (by decide : ((1 : Int32)).toInt = 1) (by (first | omega | sorry)) (by (first | omega | sorry)); (first | omega | sorry)) (fun e0 w9 hI9 hF9 p0 p1 u0 => hE e0 w9 hI9 ((FR.refl _ w).tr hF9 rfl) p0 p1 (by have := (by decide : ((0 : Int32)).toInt = 0); have := ti_add2 (Eq.refl x37_4.toInt) (by decide : ((1 : Int32)).toInt = 1) (by (first | omega | sorry)) (by (first | omega | sorry)); (first | omega | sorry))) (fun r w9 hI9 hF9 q0 => q0.elim)
        · have o13302 : (0 ≤ (1 : Int32).toInt) ∧ ((1 : Int32).toInt ≤ 1) ∧ (0 ≤ (x37_4 + (1 : Int32)).toInt) ∧ ((x37_4 + (1 : Int32)).toInt ≤ 4000) ∧ ((1 : Int32).toInt = 0 ∨ (0 ≤ x37_2.toInt ∧ x37_2.toInt ≤ 4000)) := by have := (by decide : ((1 : Int32)).toInt = 1); have := ti_add2 (Eq.refl x37_4.toInt) (by decide : ((1 : Int32)).toInt = 1) (by (first | omega | sorry)) (by (first | omega | sorry)); have := (by decide : ((0 : Int32)).toInt = 0); exact ⟨by (first | omega | sorry), by (first | omega | sorry), by (first | omega | sorry), by (first | omega | sorry), by (first | omega | sorry)⟩
          exact ih _ _ w hI  o13302.1 o13302.2.1 o13302.2.2.1 o13302.2.2.2.1 o13302.2.2.2.2 (by have := (by decide : ((1 : Int32)).toInt = 1); have := ti_add2 (Eq.refl x37_4.toInt) (by decide : ((1 : Int32)).toInt = 1) (by (first | omega | sorry)) (by (first | omega | sorry)); have := (by decide : ((0 : Int32)).toInt = 0); (first | omega | sorry)) (fun e0 w9 hI9 hF9 p0 p1 u0 => hE e0 w9 hI9 ((FR.refl _ w).tr hF9 rfl) p0 p1 (by have := (by decide : ((1 : Int32)).toInt = 1); have := ti_add2 (Eq.refl x37_4.toInt) (by decide : ((1 : Int32)).toInt = 1) (by (first | omega | sorry)) (by (first | omega | sorry)); have := (by decide : ((0 : Int32)).toInt = 0); (first | omega | sorry))) (fun r w9 hI9 hF9 q0 => q0.elim)
set_option maxRecDepth 20000 in
set_option maxHeartbeats 2000000 in
theorem hq_Mo_end_97 {x97_1 : Int32} {x97_2 : Int32} {E : MW → Prop} {Q : Int32 → MW → Prop} (n : Nat) : ∀ (x97_4 : Int32) (w : MW), BND w → 0 ≤ x97_2.toInt → x97_2.toInt ≤ 4000 → 0 ≤ x97_4.toInt → x97_4.toInt ≤ 4000 → (4000 - x97_4.toInt).toNat < n → (∀ (w' : MW), BND w' → FR l_Mo_end_97 w w' → E w') → (∀ (r : Int32) (w' : MW), BND w' → FR l_Mo_end_97 w w' → False → Q r w') → q_Mo_end_97 x97_1 x97_2 E Q n x97_4 w := by
  induction n with
  | zero => intros; (first | omega | sorry)
  | succ n ih =>
    intro x97_4 w hI  hp0 hp1 hp2 hp3 hm hE hQ
    rw [q_Mo_end_97.eq_2]
    refine ⟨fun h13303 => ?_, fun h13303 => ?_⟩
    · exact hE _ hI (FR.refl _ w)
    · refine ⟨fun h13304 => ?_, fun h13304 => ?_⟩
      · have o13305 : 0 ≤ x97_4.toInt ∧ x97_4.toInt < 4020 := by (first | omega | sorry)
        refine ⟨o13305, ?_⟩
        have o13306 : ((-128) ≤ (w.1 128 x97_4.toInt.toNat).toInt) ∧ ((w.1 128 x97_4.toInt.toNat).toInt ≤ 127) := by have := bd_128 hI x97_4.toInt.toNat; exact ⟨by (first | omega | sorry), by (first | omega | sorry)⟩
        refine h_Tx_unit hI  o13306.1 o13306.2 (fun r13310 w13307 hI13308 hL13309 p13311 p13312 => ?_)
        have hF13313 : FR l_Mo_end_97 w w13307 := (FR.refl _ w).tr hL13309 rfl
        have o13314 : (0 ≤ x97_2.toInt) ∧ (x97_2.toInt ≤ 4000) ∧ (0 ≤ (x97_4 + (1 : Int32)).toInt) ∧ ((x97_4 + (1 : Int32)).toInt ≤ 4000) := by have := ti_add2 (Eq.refl x97_4.toInt) (by decide : ((1 : Int32)).toInt = 1) (by (first | omega | sorry)) (by (first | omega | sorry)); exact ⟨by (first | omega | sorry), by (first | omega | sorry), by (first | omega | sorry), by (first | omega | sorry)⟩
        exact ih _ w13307 hI13308  o13314.1 o13314.2.1 o13314.2.2.1 o13314.2.2.2 (by have := ti_add2 (Eq.refl x97_4.toInt) (by decide : ((1 : Int32)).toInt = 1) (by (first | omega | sorry)) (by (first | omega | sorry)); (first | omega | sorry)) (fun w9 hI9 hF9 => hE w9 hI9 (hF13313.tr hF9 rfl) ) (fun r w9 hI9 hF9 q0 => q0.elim)
      · have o13315 : 0 ≤ x97_4.toInt ∧ x97_4.toInt < 4020 := by (first | omega | sorry)
        refine ⟨o13315, ?_⟩
        have o13316 : ((-128) ≤ (w.1 128 x97_4.toInt.toNat).toInt) ∧ ((w.1 128 x97_4.toInt.toNat).toInt ≤ 127) := by have := bd_128 hI x97_4.toInt.toNat; exact ⟨by (first | omega | sorry), by (first | omega | sorry)⟩
        refine h_Mr_unit hI  o13316.1 o13316.2 (fun r13320 w13317 hI13318 hL13319 p13321 p13322 => ?_)
        have hF13323 : FR l_Mo_end_97 w w13317 := (FR.refl _ w).tr hL13319 rfl
        have o13324 : (0 ≤ x97_2.toInt) ∧ (x97_2.toInt ≤ 4000) ∧ (0 ≤ (x97_4 + (1 : Int32)).toInt) ∧ ((x97_4 + (1 : Int32)).toInt ≤ 4000) := by have := ti_add2 (Eq.refl x97_4.toInt) (by decide : ((1 : Int32)).toInt = 1) (by (first | omega | sorry)) (by (first | omega | sorry)); exact ⟨by (first | omega | sorry), by (first | omega | sorry), by (first | omega | sorry), by (first | omega | sorry)⟩
        exact ih _ w13317 hI13318  o13324.1 o13324.2.1 o13324.2.2.1 o13324.2.2.2 (by have := ti_add2 (Eq.refl x97_4.toInt) (by decide : ((1 : Int32)).toInt = 1) (by (first | omega | sorry)) (by (first | omega | sorry)); (first | omega | sorry)) (fun w9 hI9 hF9 => hE w9 hI9 (hF13323.tr hF9 rfl) ) (fun r w9 hI9 hF9 q0 => q0.elim)
set_option maxRecDepth 20000 in
set_option maxHeartbeats 2000000 in
theorem hq_Mo_end_193 {x193_4 : Int32} {E : MW → Prop} {Q : Int32 → MW → Prop} (n : Nat) : ∀ (x193_5 : Int32) (w : MW), BND w → 0 ≤ x193_4.toInt → 0 ≤ x193_5.toInt → x193_5.toInt ≤ 40 → (40 - x193_5.toInt).toNat < n → (∀ (w' : MW), BND w' → FR l_Mo_end_193 w w' → E w') → (∀ (r : Int32) (w' : MW), BND w' → FR l_Mo_end_193 w w' → False → Q r w') → q_Mo_end_193 x193_4 E Q n x193_5 w := by
  induction n with
  | zero => intros; (first | omega | sorry)
  | succ n ih =>
    intro x193_5 w hI  hp0 hp1 hp2 hm hE hQ
    rw [q_Mo_end_193.eq_2]
    refine ⟨fun h13325 => ?_, fun h13325 => ?_⟩
    · exact hE _ hI (FR.refl _ w)
    · have o13326 : 0 ≤ x193_5.toInt ∧ x193_5.toInt < 40 := by have := (by decide : ((40 : Int32)).toInt = 40); (first | omega | sorry)
      refine ⟨o13326, ?_⟩
      have o13327 : 0 ≤ x193_5.toInt ∧ x193_5.toInt < 40 := by have := (by decide : ((40 : Int32)).toInt = 40); (first | omega | sorry)
      refine ⟨o13327, ?_⟩
      have hI13328 : BND (sI w 201 x193_5.toInt.toNat (-1)) := wbd_201 hI x193_5.toInt.toNat (by decide) (by decide)
      have o13329 : (0 ≤ x193_4.toInt) ∧ (0 ≤ (x193_5 + (1 : Int32)).toInt) ∧ ((x193_5 + (1 : Int32)).toInt ≤ 40) := by have := ti_add2 (Eq.refl x193_5.toInt) (by decide : ((1 : Int32)).toInt = 1) (by (first | omega | sorry)) (by (first | omega | sorry)); have := (by decide : ((40 : Int32)).toInt = 40); exact ⟨by (first | omega | sorry), by (first | omega | sorry), by (first | omega | sorry)⟩
      exact ih _ (sJ (sI w 201 x193_5.toInt.toNat (-1)) 206 x193_5.toInt.toNat 0) (bnd_J hI13328 (k := 206) (j := x193_5.toInt.toNat) (v := 0))  o13329.1 o13329.2.1 o13329.2.2 (by have := ti_add2 (Eq.refl x193_5.toInt) (by decide : ((1 : Int32)).toInt = 1) (by (first | omega | sorry)) (by (first | omega | sorry)); have := (by decide : ((40 : Int32)).toInt = 40); (first | omega | sorry)) (fun w9 hI9 hF9 => hE w9 hI9 ((FR.J (FR.I (FR.refl _ w) (k := 201) (j := x193_5.toInt.toNat) (v := (-1)) rfl) (k := 206) (j := x193_5.toInt.toNat) (v := 0) rfl).tr hF9 rfl) ) (fun r w9 hI9 hF9 q0 => q0.elim)
set_option maxRecDepth 20000 in
set_option maxHeartbeats 2000000 in
theorem hq_Mo_end_33 {y33_1 : Int32} {y33_2 : Int32} {ys33_0 : Int32} {w : MW} {Q : Int32 → MW → Prop} (hI : BND w) (hp0 : 0 ≤ ys33_0.toInt) (hp1 : ys33_0.toInt ≤ 1) (hp2 : ys33_0.toInt = 0 ∨ (0 ≤ y33_2.toInt ∧ y33_2.toInt ≤ 4000)) (hQ : ∀ (r : Int32) (w' : MW), BND w' → FR l_Mo_end_33 w w' → Q r w') : q_Mo_end_33 y33_1 y33_2 ys33_0 w Q := by
  refine Eq.mpr (q_Mo_end_33.eq_1 _ _ _ _ _) ?_
  have o13330 : (0 ≤ ys33_0.toInt) ∧ (ys33_0.toInt ≤ 1) ∧ (0 ≤ (0 : Int32).toInt) ∧ ((0 : Int32).toInt ≤ 4000) ∧ (ys33_0.toInt = 0 ∨ (0 ≤ y33_2.toInt ∧ y33_2.toInt ≤ 4000)) := by have := ti_lo y33_1; have := ti_hi y33_1; have := ti_lo y33_2; have := ti_hi y33_2; have := (by decide : ((0 : Int32)).toInt = 0); exact ⟨by (first | omega | sorry), by (first | omega | sorry), by (first | omega | sorry), by (first | omega | sorry), by (first | omega | sorry)⟩
  refine hq_Mo_end_37 FU _ _ w hI  o13330.1 o13330.2.1 o13330.2.2.1 o13330.2.2.2.1 o13330.2.2.2.2 (fu_lt (by have := ti_lo y33_1; have := ti_hi y33_1; have := ti_lo y33_2; have := ti_hi y33_2; have := (by decide : ((0 : Int32)).toInt = 0); (first | omega | sorry))) (fun e13334 w13331 hI13332 hL13333 p13335 p13336 p13337 => ?_) (fun r w9 hI9 hF9 q0 => q0.elim)
  have hF13338 : FR l_Mo_end_33 w w13331 := (FR.refl _ w).tr hL13333 rfl
  refine ⟨fun h13339 => ?_, fun h13339 => ?_⟩
  · refine ⟨fun h13340 => ?_, fun h13340 => ?_⟩
    · have hI13341 : BND (sI w13331 127 1 0) := wbd_127_1 hI13332 (by decide) (by decide)
      have o13342 : (0 ≤ y33_2.toInt) ∧ (y33_2.toInt ≤ 4000) ∧ (0 ≤ (0 : Int32).toInt) ∧ ((0 : Int32).toInt ≤ 4000) := by have := ti_lo y33_1; have := ti_hi y33_1; have := ti_lo y33_2; have := ti_hi y33_2; have := (by decide : ((0 : Int32)).toInt = 0); exact ⟨by (first | omega | sorry), by (first | omega | sorry), by (first | omega | sorry), by (first | omega | sorry)⟩
      refine hq_Mo_end_97 FU _ (sI w13331 127 1 0) hI13341  o13342.1 o13342.2.1 o13342.2.2.1 o13342.2.2.2 (fu_lt (by have := ti_lo y33_1; have := ti_hi y33_1; have := ti_lo y33_2; have := ti_hi y33_2; have := (by decide : ((0 : Int32)).toInt = 0); (first | omega | sorry))) (fun w13343 hI13344 hL13345  => ?_) (fun r w9 hI9 hF9 q0 => q0.elim)
      have hF13346 : FR l_Mo_end_33 w w13343 := (FR.I hF13338 (k := 127) (j := 1) (v := 0) rfl).tr hL13345 rfl
      refine ⟨fun h13347 => ?_, fun h13347 => ?_⟩
      · refine h_Tx_read hI13344   (fun r13351 w13348 hI13349 hL13350  => ?_)
        have hF13352 : FR l_Mo_end_33 w w13348 := hF13346.tr hL13350 rfl
        refine Eq.mpr (q_Mo_end_169.eq_1 _ _ _ _) ?_
        refine ⟨fun h13353 => ?_, fun h13353 => ?_⟩
        · refine ⟨fun h13354 => ?_, fun h13354 => ?_⟩
          · exact hQ _ _ hI13349 hF13352
          · exact hQ _ _ hI13349 hF13352
        · refine ⟨fun h13355 => ?_, fun h13355 => ?_⟩
          · refine ⟨fun h13356 => ?_, fun h13356 => ?_⟩
            · exfalso; have := ti_lo y33_2; have := ti_hi y33_2; have := (by decide : ((0 : Int32)).toInt = 0); have := (by decide : ((1 : Int32)).toInt = 1); have := (by decide : ((2 : Int32)).toInt = 2); (first | omega | sorry)
            · exact hQ _ _ hI13349 hF13352
          · have hI13357 : BND (sI w13348 127 59 4) := wbd_127_59 hI13349 (by decide) (by decide)
            refine h_Mo_closeAll hI13357   (fun w13358 hI13359 hL13360  => ?_)
            have hF13362 : FR l_Mo_end_33 w w13358 := (FR.I hF13352 (k := 127) (j := 59) (v := 4) rfl).tr hL13360 rfl
            have o13363 : (0 ≤ r13351.toInt) ∧ (0 ≤ (0 : Int32).toInt) ∧ ((0 : Int32).toInt ≤ 40) := by have := (by decide : ((0 : Int32)).toInt = 0); exact ⟨by (first | omega | sorry), by (first | omega | sorry), by (first | omega | sorry)⟩
            refine hq_Mo_end_193 FU _ w13358 hI13359  o13363.1 o13363.2.1 o13363.2.2 (fu_lt (by have := (by decide : ((0 : Int32)).toInt = 0); (first | omega | sorry))) (fun w13364 hI13365 hL13366  => ?_) (fun r w9 hI9 hF9 q0 => q0.elim)
            have hF13367 : FR l_Mo_end_33 w w13364 := hF13362.tr hL13366 rfl
            refine ⟨fun h13368 => ?_, fun h13368 => ?_⟩
            · exact hQ _ _ hI13365 hF13367
            · exfalso; have := ti_lo y33_2; have := ti_hi y33_2; have := (by decide : ((0 : Int32)).toInt = 0); have := (by decide : ((1 : Int32)).toInt = 1); have := (by decide : ((2 : Int32)).toInt = 2); (first | omega | sorry)
      · refine h_Mr_read hI13344   (fun r13372 w13369 hI13370 hL13371 p13373 p13374 => ?_)
        have hF13375 : FR l_Mo_end_33 w w13369 := hF13346.tr hL13371 rfl
        refine Eq.mpr (q_Mo_end_169.eq_1 _ _ _ _) ?_
        refine ⟨fun h13376 => ?_, fun h13376 => ?_⟩
        · refine ⟨fun h13377 => ?_, fun h13377 => ?_⟩
          · exact hQ _ _ hI13370 hF13375
          · exact hQ _ _ hI13370 hF13375
        · exfalso; have := ti_lo y33_2; have := ti_hi y33_2; have := (by decide : ((0 : Int32)).toInt = 0); have := (by decide : ((1 : Int32)).toInt = 1); have := (by decide : ((2 : Int32)).toInt = 2); (first | omega | sorry)
    · have hI13378 : BND (sI w13331 127 1 0) := wbd_127_1 hI13332 (by decide) (by decide)
      have o13380 : 0 ≤ y33_2.toInt ∧ y33_2.toInt ≤ 4000 := by have := ti_lo y33_2; have := ti_hi y33_2; (first | omega | sorry)
      have hI13379 : BND (sI (sI w13331 127 1 0) 127 22 y33_2) := wbd_127_22 hI13378 o13380.1 o13380.2
      refine h_Mo_readPlant hI13379   (fun r13384 w13381 hI13382 hL13383 p13385 p13386 => ?_)
      have hF13387 : FR l_Mo_end_33 w w13381 := (FR.I (FR.I hF13338 (k := 127) (j := 1) (v := 0) rfl) (k := 127) (j := 22) (v := y33_2) rfl).tr hL13383 rfl
      exact hQ _ _ hI13382 hF13387 
  · have hI13388 : BND (sI w13331 127 1 0) := wbd_127_1 hI13332 (by decide) (by decide)
    exact hQ _ _ hI13388 (FR.I hF13338 (k := 127) (j := 1) (v := 0) rfl) 
set_option maxRecDepth 20000 in
set_option maxHeartbeats 2000000 in
theorem h_Mo_end {w : MW} {a0 : Int32} {b0 : Int32} {Q : Int32 → MW → Prop} (hI : BND w)  (hQ : ∀ (r : Int32) (w' : MW), BND w' → FR l_Mo_end w w' → Q r w') : p_Mo_end w a0 b0 Q := by
  refine Eq.mpr (p_Mo_end.eq_1 _ _ _ _) ?_
  refine ⟨fun h13389 => ?_, fun h13389 => ?_⟩
  · have o13390 : (0 ≤ (0 : Int32).toInt) ∧ ((0 : Int32).toInt ≤ 1) ∧ ((0 : Int32).toInt = 0 ∨ (0 ≤ b0.toInt ∧ b0.toInt ≤ 4000)) := by have := ti_lo b0; have := ti_hi b0; have := (by decide : ((0 : Int32)).toInt = 0); exact ⟨by (first | omega | sorry), by (first | omega | sorry), by (first | omega | sorry)⟩
    exact hq_Mo_end_33 hI  o13390.1 o13390.2.1 o13390.2.2 (fun r w9 hI9 hF9 => hQ r w9 hI9 ((FR.refl _ w).tr hF9 rfl) )
  · refine ⟨fun h13391 => ?_, fun h13391 => ?_⟩
    · have o13392 : (0 ≤ (0 : Int32).toInt) ∧ ((0 : Int32).toInt ≤ 1) ∧ ((0 : Int32).toInt = 0 ∨ (0 ≤ b0.toInt ∧ b0.toInt ≤ 4000)) := by have := ti_lo b0; have := ti_hi b0; have := (by decide : ((0 : Int32)).toInt = 0); have := (by decide : ((2 : Int32)).toInt = 2); exact ⟨by (first | omega | sorry), by (first | omega | sorry), by (first | omega | sorry)⟩
      exact hq_Mo_end_33 hI  o13392.1 o13392.2.1 o13392.2.2 (fun r w9 hI9 hF9 => hQ r w9 hI9 ((FR.refl _ w).tr hF9 rfl) )
    · refine ⟨fun h13393 => ?_, fun h13393 => ?_⟩
      · have o13394 : (0 ≤ (0 : Int32).toInt) ∧ ((0 : Int32).toInt ≤ 1) ∧ ((0 : Int32).toInt = 0 ∨ (0 ≤ b0.toInt ∧ b0.toInt ≤ 4000)) := by have := (by decide : ((0 : Int32)).toInt = 0); have := (by decide : ((2 : Int32)).toInt = 2); exact ⟨by (first | omega | sorry), by (first | omega | sorry), by (first | omega | sorry)⟩
        exact hq_Mo_end_33 hI  o13394.1 o13394.2.1 o13394.2.2 (fun r w9 hI9 hF9 => hQ r w9 hI9 ((FR.refl _ w).tr hF9 rfl) )
      · refine ⟨fun h13395 => ?_, fun h13395 => ?_⟩
        · have o13396 : (0 ≤ (0 : Int32).toInt) ∧ ((0 : Int32).toInt ≤ 1) ∧ ((0 : Int32).toInt = 0 ∨ (0 ≤ b0.toInt ∧ b0.toInt ≤ 4000)) := by have := (by decide : ((0 : Int32)).toInt = 0); have := (by decide : ((2 : Int32)).toInt = 2); have := (by decide : ((4000 : Int32)).toInt = 4000); exact ⟨by (first | omega | sorry), by (first | omega | sorry), by (first | omega | sorry)⟩
          exact hq_Mo_end_33 hI  o13396.1 o13396.2.1 o13396.2.2 (fun r w9 hI9 hF9 => hQ r w9 hI9 ((FR.refl _ w).tr hF9 rfl) )
        · refine ⟨fun h13397 => ?_, fun h13397 => ?_⟩
          · have o13398 : (0 ≤ (0 : Int32).toInt) ∧ ((0 : Int32).toInt ≤ 1) ∧ ((0 : Int32).toInt = 0 ∨ (0 ≤ b0.toInt ∧ b0.toInt ≤ 4000)) := by have := (by decide : ((0 : Int32)).toInt = 0); have := (by decide : ((2 : Int32)).toInt = 2); have := (by decide : ((4000 : Int32)).toInt = 4000); have := bd_127_1 hI; exact ⟨by (first | omega | sorry), by (first | omega | sorry), by (first | omega | sorry)⟩
            exact hq_Mo_end_33 hI  o13398.1 o13398.2.1 o13398.2.2 (fun r w9 hI9 hF9 => hQ r w9 hI9 ((FR.refl _ w).tr hF9 rfl) )
          · have o13399 : (0 ≤ (1 : Int32).toInt) ∧ ((1 : Int32).toInt ≤ 1) ∧ ((1 : Int32).toInt = 0 ∨ (0 ≤ b0.toInt ∧ b0.toInt ≤ 4000)) := by have := (by decide : ((1 : Int32)).toInt = 1); have := (by decide : ((0 : Int32)).toInt = 0); have := (by decide : ((2 : Int32)).toInt = 2); have := (by decide : ((4000 : Int32)).toInt = 4000); have := bd_127_1 hI; exact ⟨by (first | omega | sorry), by (first | omega | sorry), by (first | omega | sorry)⟩
            exact hq_Mo_end_33 hI  o13399.1 o13399.2.1 o13399.2.2 (fun r w9 hI9 hF9 => hQ r w9 hI9 ((FR.refl _ w).tr hF9 rfl) )
def l_Mo_say_2 : Pl := [(127, some 83), (127, some 84)]
def l_Mo_say : Pl := [(127, some 83), (127, some 84)]
set_option maxRecDepth 20000 in
set_option maxHeartbeats 2000000 in
theorem hq_Mo_say_2 {E : MW → Prop} {Q : MW → Prop} (n : Nat) : ∀ (x2_3 : Int64) (w : MW), BND w → 0 ≤ x2_3.toInt → x2_3.toInt ≤ 435778511222 → (x2_3.toInt - 0).toNat < n → (∀ (w' : MW), BND w' → FR l_Mo_say_2 w w' → E w') → (∀ (w' : MW), BND w' → FR l_Mo_say_2 w w' → False → Q w') → q_Mo_say_2 E Q n x2_3 w := by
  induction n with
  | zero => intros; (first | omega | sorry)
  | succ n ih =>
    intro x2_3 w hI  hp0 hp1 hm hE hQ
    rw [q_Mo_say_2.eq_2]
    refine ⟨fun h13400 => ?_, fun h13400 => ?_⟩
    · exact hE _ hI (FR.refl _ w)
    · refine Eq.mpr (p_Mo_letter.eq_1 _ _ _) ?_
      refine ⟨fun h13401 => ?_, fun h13401 => ?_⟩
      · have hI13402 : BND (sI w 127 84 (w.1 127 84)) := wbd_127_84 hI
        have hI13403 : BND (sI (sI w 127 84 (w.1 127 84)) 127 83 ((w.1 127 83) - (1 : Int32))) := wbd_127_83 hI13402
        have o13404 : (0 ≤ ((x2_3.toUInt64 >>> ((8 : Int32).toInt64.toUInt64 &&& Int64.toUInt64 63)).toInt64).toInt) ∧ (((x2_3.toUInt64 >>> ((8 : Int32).toInt64.toUInt64 &&& Int64.toUInt64 63)).toInt64).toInt ≤ 435778511222) := by have := nb_cmp x2_3 (0 : Int64); have := (by decide : ((0 : Int32)).toInt = 0); exact ⟨by (first | omega | sorry), by (first | omega | sorry)⟩
        exact ih _ (sI (sI w 127 84 (w.1 127 84)) 127 83 ((w.1 127 83) - (1 : Int32))) hI13403  o13404.1 o13404.2 (by have := nb_cmp x2_3 (0 : Int64); have := (by decide : ((0 : Int32)).toInt = 0); (first | omega | sorry)) (fun w9 hI9 hF9 => hE w9 hI9 ((FR.I (FR.I (FR.refl _ w) (k := 127) (j := 84) (v := (w.1 127 84)) rfl) (k := 127) (j := 83) (v := ((w.1 127 83) - (1 : Int32))) rfl).tr hF9 rfl) ) (fun w9 hI9 hF9 q0 => q0.elim)
      · have hI13405 : BND (sI w 127 84 (Int64.toInt32 (x2_3 &&& (255 : Int64)))) := wbd_127_84 hI
        have hI13406 : BND (sI (sI w 127 84 (Int64.toInt32 (x2_3 &&& (255 : Int64)))) 127 83 ((w.1 127 83) - (1 : Int32))) := wbd_127_83 hI13405
        have o13407 : (0 ≤ ((x2_3.toUInt64 >>> ((8 : Int32).toInt64.toUInt64 &&& Int64.toUInt64 63)).toInt64).toInt) ∧ (((x2_3.toUInt64 >>> ((8 : Int32).toInt64.toUInt64 &&& Int64.toUInt64 63)).toInt64).toInt ≤ 435778511222) := by have := nb_cmp x2_3 (0 : Int64); have := (by decide : ((0 : Int32)).toInt = 0); exact ⟨by (first | omega | sorry), by (first | omega | sorry)⟩
        exact ih _ (sI (sI w 127 84 (Int64.toInt32 (x2_3 &&& (255 : Int64)))) 127 83 ((w.1 127 83) - (1 : Int32))) hI13406  o13407.1 o13407.2 (by have := nb_cmp x2_3 (0 : Int64); have := (by decide : ((0 : Int32)).toInt = 0); (first | omega | sorry)) (fun w9 hI9 hF9 => hE w9 hI9 ((FR.I (FR.I (FR.refl _ w) (k := 127) (j := 84) (v := (Int64.toInt32 (x2_3 &&& (255 : Int64)))) rfl) (k := 127) (j := 83) (v := ((w.1 127 83) - (1 : Int32))) rfl).tr hF9 rfl) ) (fun w9 hI9 hF9 q0 => q0.elim)
set_option maxRecDepth 20000 in
set_option maxHeartbeats 2000000 in
theorem h_Mo_say {w : MW} {a0 : Int64} {Q : MW → Prop} (hI : BND w) (hp0 : 1701865840 ≤ a0.toInt) (hp1 : a0.toInt ≤ 435778511222) (hQ : ∀ (w' : MW), BND w' → FR l_Mo_say w w' → Q w') : p_Mo_say w a0 Q := by
  refine Eq.mpr (p_Mo_say.eq_1 _ _ _) ?_
  have o13408 : (0 ≤ a0.toInt) ∧ (a0.toInt ≤ 435778511222) := by exact ⟨by (first | omega | sorry), by (first | omega | sorry)⟩
  refine hq_Mo_say_2 FU _ w hI  o13408.1 o13408.2 (fu_lt (by (first | omega | sorry))) (fun w13409 hI13410 hL13411  => ?_) (fun w9 hI9 hF9 q0 => q0.elim)
  have hF13412 : FR l_Mo_say w w13409 := (FR.refl _ w).tr hL13411 rfl
  exact hQ _ hI13410 hF13412 
def l_Mo_sayNumber_19 : Pl := []
def l_Mo_sayNumber_37 : Pl := [(127, some 83), (127, some 84)]
def l_Mo_sayNumber : Pl := [(127, some 83), (127, some 84)]
set_option maxRecDepth 20000 in
set_option maxHeartbeats 2000000 in
theorem hq_Mo_sayNumber_19 {x19_1 : Int32} {E : Int32 → MW → Prop} {Q : MW → Prop} (n : Nat) : ∀ (x19_2 : Int32) (w : MW), BND w → 0 ≤ x19_1.toInt → x19_1.toInt ≤ 100000 → 1 ≤ x19_2.toInt → x19_2.toInt ≤ 1000000 → (1000000 - x19_2.toInt).toNat < n → (∀ (e19_2 : Int32) (w' : MW), BND w' → FR l_Mo_sayNumber_19 w w' → 1 ≤ e19_2.toInt → e19_2.toInt ≤ 1000000 → E e19_2 w') → (∀ (w' : MW), BND w' → FR l_Mo_sayNumber_19 w w' → False → Q w') → q_Mo_sayNumber_19 x19_1 E Q n x19_2 w := by
  induction n with
  | zero => intros; (first | omega | sorry)
  | succ n ih =>
    intro x19_2 w hI  hp0 hp1 hp2 hp3 hm hE hQ
    rw [q_Mo_sayNumber_19.eq_2]
    have o13413 : ¬ x19_2.toInt = 0 := by (first | omega | sorry)
    refine ⟨o13413, ?_⟩
    refine ⟨fun h13414 => ?_, fun h13414 => ?_⟩
    · have o13415 : (1 ≤ x19_2.toInt) ∧ (x19_2.toInt ≤ 1000000) := by have := nb_divb (x := x19_1) (y := x19_2) (by (first | omega | sorry)) (by (first | omega | sorry)); have := nb_div10 (x := x19_1) (y := x19_2) (by (first | omega | sorry)) (by (first | omega | sorry)); have := (by decide : ((10 : Int32)).toInt = 10); exact ⟨by (first | omega | sorry), by (first | omega | sorry)⟩
      exact hE _ _ hI (FR.refl _ w) o13415.1 o13415.2
    · have o13416 : (0 ≤ x19_1.toInt) ∧ (x19_1.toInt ≤ 100000) ∧ (1 ≤ (x19_2 * (10 : Int32)).toInt) ∧ ((x19_2 * (10 : Int32)).toInt ≤ 1000000) := by have := ti_mul2 (Eq.refl x19_2.toInt) (by decide : ((10 : Int32)).toInt = 10) (by (first | omega | sorry)) (by (first | omega | sorry)); have := nb_divb (x := x19_1) (y := x19_2) (by (first | omega | sorry)) (by (first | omega | sorry)); have := nb_div10 (x := x19_1) (y := x19_2) (by (first | omega | sorry)) (by (first | omega | sorry)); have := (by decide : ((10 : Int32)).toInt = 10); exact ⟨by (first | omega | sorry), by (first | omega | sorry), by (first | omega | sorry), by (first | omega | sorry)⟩
      exact ih _ w hI  o13416.1 o13416.2.1 o13416.2.2.1 o13416.2.2.2 (by have := ti_mul2 (Eq.refl x19_2.toInt) (by decide : ((10 : Int32)).toInt = 10) (by (first | omega | sorry)) (by (first | omega | sorry)); have := nb_divb (x := x19_1) (y := x19_2) (by (first | omega | sorry)) (by (first | omega | sorry)); have := nb_div10 (x := x19_1) (y := x19_2) (by (first | omega | sorry)) (by (first | omega | sorry)); have := (by decide : ((10 : Int32)).toInt = 10); (first | omega | sorry)) (fun e0 w9 hI9 hF9 p0 p1 => hE e0 w9 hI9 ((FR.refl _ w).tr hF9 rfl) p0 p1 ) (fun w9 hI9 hF9 q0 => q0.elim)
set_option maxRecDepth 20000 in
set_option maxHeartbeats 2000000 in
theorem hq_Mo_sayNumber_37 {x37_1 : Int32} {E : MW → Prop} {Q : MW → Prop} (n : Nat) : ∀ (x37_3 : Int32) (w : MW), BND w → 0 ≤ x37_1.toInt → x37_1.toInt ≤ 100000 → 0 ≤ x37_3.toInt → x37_3.toInt ≤ 1000000 → (x37_3.toInt - 0).toNat < n → (∀ (w' : MW), BND w' → FR l_Mo_sayNumber_37 w w' → E w') → (∀ (w' : MW), BND w' → FR l_Mo_sayNumber_37 w w' → False → Q w') → q_Mo_sayNumber_37 x37_1 E Q n x37_3 w := by
  induction n with
  | zero => intros; (first | omega | sorry)
  | succ n ih =>
    intro x37_3 w hI  hp0 hp1 hp2 hp3 hm hE hQ
    rw [q_Mo_sayNumber_37.eq_2]
    refine ⟨fun h13417 => ?_, fun h13417 => ?_⟩
    · exact hE _ hI (FR.refl _ w)
    · have o13418 : ¬ x37_3.toInt = 0 := by have := (by decide : ((0 : Int32)).toInt = 0); (first | omega | sorry)
      refine ⟨o13418, ?_⟩
      refine Eq.mpr (p_Mo_letter.eq_1 _ _ _) ?_
      refine ⟨fun h13419 => ?_, fun h13419 => ?_⟩
      · have hI13420 : BND (sI w 127 84 (w.1 127 84)) := wbd_127_84 hI
        have hI13421 : BND (sI (sI w 127 84 (w.1 127 84)) 127 83 ((w.1 127 83) - (1 : Int32))) := wbd_127_83 hI13420
        have o13422 : (0 ≤ x37_1.toInt) ∧ (x37_1.toInt ≤ 100000) ∧ (0 ≤ (x37_3 / (10 : Int32)).toInt) ∧ ((x37_3 / (10 : Int32)).toInt ≤ 1000000) := by have := nb_div (x := x37_3) (by (first | omega | sorry)) (by decide : ((10 : Int32)).toInt = 10) (by decide); have := (by decide : ((0 : Int32)).toInt = 0); exact ⟨by (first | omega | sorry), by (first | omega | sorry), by (first | omega | sorry), by (first | omega | sorry)⟩
        exact ih _ (sI (sI w 127 84 (w.1 127 84)) 127 83 ((w.1 127 83) - (1 : Int32))) hI13421  o13422.1 o13422.2.1 o13422.2.2.1 o13422.2.2.2 (by have := nb_div (x := x37_3) (by (first | omega | sorry)) (by decide : ((10 : Int32)).toInt = 10) (by decide); have := (by decide : ((0 : Int32)).toInt = 0); (first | omega | sorry)) (fun w9 hI9 hF9 => hE w9 hI9 ((FR.I (FR.I (FR.refl _ w) (k := 127) (j := 84) (v := (w.1 127 84)) rfl) (k := 127) (j := 83) (v := ((w.1 127 83) - (1 : Int32))) rfl).tr hF9 rfl) ) (fun w9 hI9 hF9 q0 => q0.elim)
      · have hI13423 : BND (sI w 127 84 ((48 : Int32) + ((x37_1 / x37_3) - (x37_1 / x37_3) / (10 : Int32) * (10 : Int32)))) := wbd_127_84 hI
        have hI13424 : BND (sI (sI w 127 84 ((48 : Int32) + ((x37_1 / x37_3) - (x37_1 / x37_3) / (10 : Int32) * (10 : Int32)))) 127 83 ((w.1 127 83) - (1 : Int32))) := wbd_127_83 hI13423
        have o13425 : (0 ≤ x37_1.toInt) ∧ (x37_1.toInt ≤ 100000) ∧ (0 ≤ (x37_3 / (10 : Int32)).toInt) ∧ ((x37_3 / (10 : Int32)).toInt ≤ 1000000) := by have := nb_div (x := x37_3) (by (first | omega | sorry)) (by decide : ((10 : Int32)).toInt = 10) (by decide); have := (by decide : ((0 : Int32)).toInt = 0); exact ⟨by (first | omega | sorry), by (first | omega | sorry), by (first | omega | sorry), by (first | omega | sorry)⟩
        exact ih _ (sI (sI w 127 84 ((48 : Int32) + ((x37_1 / x37_3) - (x37_1 / x37_3) / (10 : Int32) * (10 : Int32)))) 127 83 ((w.1 127 83) - (1 : Int32))) hI13424  o13425.1 o13425.2.1 o13425.2.2.1 o13425.2.2.2 (by have := nb_div (x := x37_3) (by (first | omega | sorry)) (by decide : ((10 : Int32)).toInt = 10) (by decide); have := (by decide : ((0 : Int32)).toInt = 0); (first | omega | sorry)) (fun w9 hI9 hF9 => hE w9 hI9 ((FR.I (FR.I (FR.refl _ w) (k := 127) (j := 84) (v := ((48 : Int32) + ((x37_1 / x37_3) - (x37_1 / x37_3) / (10 : Int32) * (10 : Int32)))) rfl) (k := 127) (j := 83) (v := ((w.1 127 83) - (1 : Int32))) rfl).tr hF9 rfl) ) (fun w9 hI9 hF9 q0 => q0.elim)
set_option maxRecDepth 20000 in
set_option maxHeartbeats 2000000 in
theorem h_Mo_sayNumber {w : MW} {a0 : Int32} {Q : MW → Prop} (hI : BND w) (hp0 : (-1) ≤ a0.toInt) (hp1 : a0.toInt ≤ 100000) (hQ : ∀ (w' : MW), BND w' → FR l_Mo_sayNumber w w' → Q w') : p_Mo_sayNumber w a0 Q := by
  refine Eq.mpr (p_Mo_sayNumber.eq_1 _ _ _) ?_
  refine Eq.mpr (p_Mo_letter.eq_1 _ _ _) ?_
  refine ⟨fun h13426 => ?_, fun h13426 => ?_⟩
  · refine ⟨fun h13427 => ?_, fun h13427 => ?_⟩
    · have hI13428 : BND (sI w 127 84 (w.1 127 84)) := wbd_127_84 hI
      have hI13429 : BND (sI (sI w 127 84 (w.1 127 84)) 127 83 ((w.1 127 83) - (1 : Int32))) := wbd_127_83 hI13428
      have o13430 : (0 ≤ a0.toInt) ∧ (a0.toInt ≤ 100000) ∧ (1 ≤ (1 : Int32).toInt) ∧ ((1 : Int32).toInt ≤ 1000000) := by have := (by decide : ((1 : Int32)).toInt = 1); have := (by decide : ((0 : Int32)).toInt = 0); exact ⟨by (first | omega | sorry), by (first | omega | sorry), by (first | omega | sorry), by (first | omega | sorry)⟩
      refine hq_Mo_sayNumber_19 FU _ (sI (sI w 127 84 (w.1 127 84)) 127 83 ((w.1 127 83) - (1 : Int32))) hI13429  o13430.1 o13430.2.1 o13430.2.2.1 o13430.2.2.2 (fu_lt (by have := (by decide : ((1 : Int32)).toInt = 1); have := (by decide : ((0 : Int32)).toInt = 0); (first | omega | sorry))) (fun e13434 w13431 hI13432 hL13433 p13435 p13436 => ?_) (fun w9 hI9 hF9 q0 => q0.elim)
      have hF13437 : FR l_Mo_sayNumber w w13431 := (FR.I (FR.I (FR.refl _ w) (k := 127) (j := 84) (v := (w.1 127 84)) rfl) (k := 127) (j := 83) (v := ((w.1 127 83) - (1 : Int32))) rfl).tr hL13433 rfl
      have o13438 : (0 ≤ a0.toInt) ∧ (a0.toInt ≤ 100000) ∧ (0 ≤ e13434.toInt) ∧ (e13434.toInt ≤ 1000000) := by have := (by decide : ((0 : Int32)).toInt = 0); exact ⟨by (first | omega | sorry), by (first | omega | sorry), by (first | omega | sorry), by (first | omega | sorry)⟩
      refine hq_Mo_sayNumber_37 FU _ w13431 hI13432  o13438.1 o13438.2.1 o13438.2.2.1 o13438.2.2.2 (fu_lt (by have := (by decide : ((0 : Int32)).toInt = 0); (first | omega | sorry))) (fun w13439 hI13440 hL13441  => ?_) (fun w9 hI9 hF9 q0 => q0.elim)
      have hF13442 : FR l_Mo_sayNumber w w13439 := hF13437.tr hL13441 rfl
      exact hQ _ hI13440 hF13442 
    · refine Eq.mpr (p_Mo_letter.eq_1 _ _ _) ?_
      refine ⟨fun h13443 => ?_, fun h13443 => ?_⟩
      · have hI13444 : BND (sI w 127 84 (w.1 127 84)) := wbd_127_84 hI
        have hI13445 : BND (sI (sI w 127 84 (w.1 127 84)) 127 83 ((w.1 127 83) - (1 : Int32))) := wbd_127_83 hI13444
        have hI13446 : BND (sI (sI (sI w 127 84 (w.1 127 84)) 127 83 ((w.1 127 83) - (1 : Int32))) 127 84 ((sI (sI w 127 84 (w.1 127 84)) 127 83 ((w.1 127 83) - (1 : Int32))).1 127 84)) := wbd_127_84 hI13445
        have hI13447 : BND (sI (sI (sI (sI w 127 84 (w.1 127 84)) 127 83 ((w.1 127 83) - (1 : Int32))) 127 84 ((sI (sI w 127 84 (w.1 127 84)) 127 83 ((w.1 127 83) - (1 : Int32))).1 127 84)) 127 83 (((sI (sI w 127 84 (w.1 127 84)) 127 83 ((w.1 127 83) - (1 : Int32))).1 127 83) - (1 : Int32))) := wbd_127_83 hI13446
        exact hQ _ hI13447 (FR.I (FR.I (FR.I (FR.I (FR.refl _ w) (k := 127) (j := 84) (v := (w.1 127 84)) rfl) (k := 127) (j := 83) (v := ((w.1 127 83) - (1 : Int32))) rfl) (k := 127) (j := 84) (v := ((sI (sI w 127 84 (w.1 127 84)) 127 83 ((w.1 127 83) - (1 : Int32))).1 127 84)) rfl) (k := 127) (j := 83) (v := (((sI (sI w 127 84 (w.1 127 84)) 127 83 ((w.1 127 83) - (1 : Int32))).1 127 83) - (1 : Int32))) rfl) 
      · have hI13448 : BND (sI w 127 84 (w.1 127 84)) := wbd_127_84 hI
        have hI13449 : BND (sI (sI w 127 84 (w.1 127 84)) 127 83 ((w.1 127 83) - (1 : Int32))) := wbd_127_83 hI13448
        have hI13450 : BND (sI (sI (sI w 127 84 (w.1 127 84)) 127 83 ((w.1 127 83) - (1 : Int32))) 127 84 45) := wbd_127_84 hI13449
        have hI13451 : BND (sI (sI (sI (sI w 127 84 (w.1 127 84)) 127 83 ((w.1 127 83) - (1 : Int32))) 127 84 45) 127 83 (((sI (sI w 127 84 (w.1 127 84)) 127 83 ((w.1 127 83) - (1 : Int32))).1 127 83) - (1 : Int32))) := wbd_127_83 hI13450
        exact hQ _ hI13451 (FR.I (FR.I (FR.I (FR.I (FR.refl _ w) (k := 127) (j := 84) (v := (w.1 127 84)) rfl) (k := 127) (j := 83) (v := ((w.1 127 83) - (1 : Int32))) rfl) (k := 127) (j := 84) (v := 45) rfl) (k := 127) (j := 83) (v := (((sI (sI w 127 84 (w.1 127 84)) 127 83 ((w.1 127 83) - (1 : Int32))).1 127 83) - (1 : Int32))) rfl) 
  · refine ⟨fun h13452 => ?_, fun h13452 => ?_⟩
    · have hI13453 : BND (sI w 127 84 32) := wbd_127_84 hI
      have hI13454 : BND (sI (sI w 127 84 32) 127 83 ((w.1 127 83) - (1 : Int32))) := wbd_127_83 hI13453
      have o13455 : (0 ≤ a0.toInt) ∧ (a0.toInt ≤ 100000) ∧ (1 ≤ (1 : Int32).toInt) ∧ ((1 : Int32).toInt ≤ 1000000) := by have := (by decide : ((1 : Int32)).toInt = 1); have := (by decide : ((0 : Int32)).toInt = 0); exact ⟨by (first | omega | sorry), by (first | omega | sorry), by (first | omega | sorry), by (first | omega | sorry)⟩
      refine hq_Mo_sayNumber_19 FU _ (sI (sI w 127 84 32) 127 83 ((w.1 127 83) - (1 : Int32))) hI13454  o13455.1 o13455.2.1 o13455.2.2.1 o13455.2.2.2 (fu_lt (by have := (by decide : ((1 : Int32)).toInt = 1); have := (by decide : ((0 : Int32)).toInt = 0); (first | omega | sorry))) (fun e13459 w13456 hI13457 hL13458 p13460 p13461 => ?_) (fun w9 hI9 hF9 q0 => q0.elim)
      have hF13462 : FR l_Mo_sayNumber w w13456 := (FR.I (FR.I (FR.refl _ w) (k := 127) (j := 84) (v := 32) rfl) (k := 127) (j := 83) (v := ((w.1 127 83) - (1 : Int32))) rfl).tr hL13458 rfl
      have o13463 : (0 ≤ a0.toInt) ∧ (a0.toInt ≤ 100000) ∧ (0 ≤ e13459.toInt) ∧ (e13459.toInt ≤ 1000000) := by have := (by decide : ((0 : Int32)).toInt = 0); exact ⟨by (first | omega | sorry), by (first | omega | sorry), by (first | omega | sorry), by (first | omega | sorry)⟩
      refine hq_Mo_sayNumber_37 FU _ w13456 hI13457  o13463.1 o13463.2.1 o13463.2.2.1 o13463.2.2.2 (fu_lt (by have := (by decide : ((0 : Int32)).toInt = 0); (first | omega | sorry))) (fun w13464 hI13465 hL13466  => ?_) (fun w9 hI9 hF9 q0 => q0.elim)
      have hF13467 : FR l_Mo_sayNumber w w13464 := hF13462.tr hL13466 rfl
      exact hQ _ hI13465 hF13467 
    · refine Eq.mpr (p_Mo_letter.eq_1 _ _ _) ?_
      refine ⟨fun h13468 => ?_, fun h13468 => ?_⟩
      · have hI13469 : BND (sI w 127 84 32) := wbd_127_84 hI
        have hI13470 : BND (sI (sI w 127 84 32) 127 83 ((w.1 127 83) - (1 : Int32))) := wbd_127_83 hI13469
        have hI13471 : BND (sI (sI (sI w 127 84 32) 127 83 ((w.1 127 83) - (1 : Int32))) 127 84 ((sI (sI w 127 84 32) 127 83 ((w.1 127 83) - (1 : Int32))).1 127 84)) := wbd_127_84 hI13470
        have hI13472 : BND (sI (sI (sI (sI w 127 84 32) 127 83 ((w.1 127 83) - (1 : Int32))) 127 84 ((sI (sI w 127 84 32) 127 83 ((w.1 127 83) - (1 : Int32))).1 127 84)) 127 83 (((sI (sI w 127 84 32) 127 83 ((w.1 127 83) - (1 : Int32))).1 127 83) - (1 : Int32))) := wbd_127_83 hI13471
        exact hQ _ hI13472 (FR.I (FR.I (FR.I (FR.I (FR.refl _ w) (k := 127) (j := 84) (v := 32) rfl) (k := 127) (j := 83) (v := ((w.1 127 83) - (1 : Int32))) rfl) (k := 127) (j := 84) (v := ((sI (sI w 127 84 32) 127 83 ((w.1 127 83) - (1 : Int32))).1 127 84)) rfl) (k := 127) (j := 83) (v := (((sI (sI w 127 84 32) 127 83 ((w.1 127 83) - (1 : Int32))).1 127 83) - (1 : Int32))) rfl) 
      · exfalso; have := (by decide : ((0 : Int32)).toInt = 0); have := ti_sub2 (Eq.refl (w.1 127 83).toInt) (by decide : ((1 : Int32)).toInt = 1) (by (first | omega | sorry)) (by (first | omega | sorry)); have : ((sI (sI w 127 84 32) 127 83 ((w.1 127 83) - (1 : Int32))).1 127 83).toInt = ((w.1 127 83) - (1 : Int32)).toInt := rfl; (first | omega | sorry)
def l_Mo_write_59 : Pl := [(127, some 83), (127, some 84)]
def l_Mo_write_12 : Pl := [(127, some 83), (127, some 84)]
def l_Mo_write_116 : Pl := [(127, some 83), (127, some 84)]
def l_Mo_write : Pl := [(127, some 83), (127, some 84)]
set_option maxRecDepth 20000 in
set_option maxHeartbeats 2000000 in
theorem hq_Mo_write_12 {x12_1 : Int32} {E : MW → Prop} {Q : Int32 → MW → Prop} (n : Nat) : ∀ (x12_2 : Int32) (w : MW), BND w → 0 ≤ x12_2.toInt → x12_2.toInt ≤ 20 → (20 - x12_2.toInt).toNat < n → (∀ (w' : MW), BND w' → FR l_Mo_write_12 w w' → E w') → (∀ (r : Int32) (w' : MW), BND w' → FR l_Mo_write_12 w w' → False → Q r w') → q_Mo_write_12 x12_1 E Q n x12_2 w := by
  induction n with
  | zero => intros; (first | omega | sorry)
  | succ n ih =>
    intro x12_2 w hI  hp0 hp1 hm hE hQ
    rw [q_Mo_write_12.eq_2]
    refine ⟨fun h13473 => ?_, fun h13473 => ?_⟩
    · exact hE _ hI (FR.refl _ w)
    · refine ⟨fun h13474 => ?_, fun h13474 => ?_⟩
      · exact hE _ hI (FR.refl _ w)
      · have o13475 : 0 ≤ x12_2.toInt ∧ x12_2.toInt < 20 := by have := bd_127_4 hI; (first | omega | sorry)
        refine ⟨o13475, ?_⟩
        refine ⟨fun h13476 => ?_, fun h13476 => ?_⟩
        · have o13477 : 0 ≤ x12_2.toInt ∧ x12_2.toInt < 20 := by have := bd_127_4 hI; (first | omega | sorry)
          refine ⟨o13477, ?_⟩
          refine ⟨fun h13478 => ?_, fun h13478 => ?_⟩
          · refine Eq.mpr (q_Mo_write_59.eq_1 _ _ _ _ _ _ _) ?_
            have o13479 : (1701865840 ≤ (435778511222 : Int64).toInt) ∧ ((435778511222 : Int64).toInt ≤ 435778511222) := by have := (by decide : ((435778511222 : Int64)).toInt = 435778511222); exact ⟨by (first | omega | sorry), by (first | omega | sorry)⟩
            refine h_Mo_say hI  o13479.1 o13479.2 (fun w13480 hI13481 hL13482  => ?_)
            have hF13484 : FR l_Mo_write_12 w w13480 := (FR.refl _ w).tr hL13482 rfl
            have o13485 : 0 ≤ x12_2.toInt ∧ x12_2.toInt < 20 := by have := bd_127_4 hI; (first | omega | sorry)
            refine ⟨o13485, ?_⟩
            refine ⟨fun h13486 => ?_, fun h13486 => ?_⟩
            · refine Eq.mpr (p_Mo_letter.eq_1 _ _ _) ?_
              refine ⟨fun h13487 => ?_, fun h13487 => ?_⟩
              · have hI13488 : BND (sI w13480 127 84 (w13480.1 127 84)) := wbd_127_84 hI13481
                have hI13489 : BND (sI (sI w13480 127 84 (w13480.1 127 84)) 127 83 ((w13480.1 127 83) - (1 : Int32))) := wbd_127_83 hI13488
                have o13490 : (0 ≤ (x12_2 + (1 : Int32)).toInt) ∧ ((x12_2 + (1 : Int32)).toInt ≤ 20) := by have := ti_add2 (Eq.refl x12_2.toInt) (by decide : ((1 : Int32)).toInt = 1) (by (first | omega | sorry)) (by (first | omega | sorry)); have := bd_127_4 hI; exact ⟨by (first | omega | sorry), by (first | omega | sorry)⟩
                exact ih _ (sI (sI w13480 127 84 (w13480.1 127 84)) 127 83 ((w13480.1 127 83) - (1 : Int32))) hI13489  o13490.1 o13490.2 (by have := ti_add2 (Eq.refl x12_2.toInt) (by decide : ((1 : Int32)).toInt = 1) (by (first | omega | sorry)) (by (first | omega | sorry)); have := bd_127_4 hI; (first | omega | sorry)) (fun w9 hI9 hF9 => hE w9 hI9 ((FR.I (FR.I hF13484 (k := 127) (j := 84) (v := (w13480.1 127 84)) rfl) (k := 127) (j := 83) (v := ((w13480.1 127 83) - (1 : Int32))) rfl).tr hF9 rfl) ) (fun r w9 hI9 hF9 q0 => q0.elim)
              · have hI13491 : BND (sI w13480 127 84 10) := wbd_127_84 hI13481
                have hI13492 : BND (sI (sI w13480 127 84 10) 127 83 ((w13480.1 127 83) - (1 : Int32))) := wbd_127_83 hI13491
                have o13493 : (0 ≤ (x12_2 + (1 : Int32)).toInt) ∧ ((x12_2 + (1 : Int32)).toInt ≤ 20) := by have := ti_add2 (Eq.refl x12_2.toInt) (by decide : ((1 : Int32)).toInt = 1) (by (first | omega | sorry)) (by (first | omega | sorry)); have := bd_127_4 hI; exact ⟨by (first | omega | sorry), by (first | omega | sorry)⟩
                exact ih _ (sI (sI w13480 127 84 10) 127 83 ((w13480.1 127 83) - (1 : Int32))) hI13492  o13493.1 o13493.2 (by have := ti_add2 (Eq.refl x12_2.toInt) (by decide : ((1 : Int32)).toInt = 1) (by (first | omega | sorry)) (by (first | omega | sorry)); have := bd_127_4 hI; (first | omega | sorry)) (fun w9 hI9 hF9 => hE w9 hI9 ((FR.I (FR.I hF13484 (k := 127) (j := 84) (v := 10) rfl) (k := 127) (j := 83) (v := ((w13480.1 127 83) - (1 : Int32))) rfl).tr hF9 rfl) ) (fun r w9 hI9 hF9 q0 => q0.elim)
            · have o13494 : 0 ≤ x12_2.toInt ∧ x12_2.toInt < 20 := by have := bd_127_4 hI; (first | omega | sorry)
              refine ⟨o13494, ?_⟩
              refine ⟨fun h13495 => ?_, fun h13495 => ?_⟩
              · have o13496 : 0 ≤ x12_2.toInt ∧ x12_2.toInt < 20 := by have := bd_127_4 hI; (first | omega | sorry)
                refine ⟨o13496, ?_⟩
                have o13497 : ((-1) ≤ ((w13480.1 163 x12_2.toInt.toNat) - (2 : Int32)).toInt) ∧ (((w13480.1 163 x12_2.toInt.toNat) - (2 : Int32)).toInt ≤ 100000) := by have := bd_163 hI13481 x12_2.toInt.toNat; have := bd_163 hI x12_2.toInt.toNat; have := (congrArg Int32.toInt (hL13482 163 x12_2.toInt.toNat rfl).1); have := ti_sub2 (Eq.refl (w13480.1 163 x12_2.toInt.toNat).toInt) (by decide : ((2 : Int32)).toInt = 2) (by (first | omega | sorry)) (by (first | omega | sorry)); have := (by decide : ((0 : Int32)).toInt = 0); have := (by decide : ((1 : Int32)).toInt = 1); exact ⟨by (first | omega | sorry), by (first | omega | sorry)⟩
                refine h_Mo_sayNumber hI13481  o13497.1 o13497.2 (fun w13498 hI13499 hL13500  => ?_)
                have hF13502 : FR l_Mo_write_12 w w13498 := hF13484.tr hL13500 rfl
                refine Eq.mpr (p_Mo_letter.eq_1 _ _ _) ?_
                refine ⟨fun h13503 => ?_, fun h13503 => ?_⟩
                · have hI13504 : BND (sI w13498 127 84 (w13498.1 127 84)) := wbd_127_84 hI13499
                  have hI13505 : BND (sI (sI w13498 127 84 (w13498.1 127 84)) 127 83 ((w13498.1 127 83) - (1 : Int32))) := wbd_127_83 hI13504
                  have o13506 : (0 ≤ (x12_2 + (1 : Int32)).toInt) ∧ ((x12_2 + (1 : Int32)).toInt ≤ 20) := by have := ti_add2 (Eq.refl x12_2.toInt) (by decide : ((1 : Int32)).toInt = 1) (by (first | omega | sorry)) (by (first | omega | sorry)); have := bd_127_4 hI; exact ⟨by (first | omega | sorry), by (first | omega | sorry)⟩
                  exact ih _ (sI (sI w13498 127 84 (w13498.1 127 84)) 127 83 ((w13498.1 127 83) - (1 : Int32))) hI13505  o13506.1 o13506.2 (by have := ti_add2 (Eq.refl x12_2.toInt) (by decide : ((1 : Int32)).toInt = 1) (by (first | omega | sorry)) (by (first | omega | sorry)); have := bd_127_4 hI; (first | omega | sorry)) (fun w9 hI9 hF9 => hE w9 hI9 ((FR.I (FR.I hF13502 (k := 127) (j := 84) (v := (w13498.1 127 84)) rfl) (k := 127) (j := 83) (v := ((w13498.1 127 83) - (1 : Int32))) rfl).tr hF9 rfl) ) (fun r w9 hI9 hF9 q0 => q0.elim)
                · have hI13507 : BND (sI w13498 127 84 10) := wbd_127_84 hI13499
                  have hI13508 : BND (sI (sI w13498 127 84 10) 127 83 ((w13498.1 127 83) - (1 : Int32))) := wbd_127_83 hI13507
                  have o13509 : (0 ≤ (x12_2 + (1 : Int32)).toInt) ∧ ((x12_2 + (1 : Int32)).toInt ≤ 20) := by have := ti_add2 (Eq.refl x12_2.toInt) (by decide : ((1 : Int32)).toInt = 1) (by (first | omega | sorry)) (by (first | omega | sorry)); have := bd_127_4 hI; exact ⟨by (first | omega | sorry), by (first | omega | sorry)⟩
                  exact ih _ (sI (sI w13498 127 84 10) 127 83 ((w13498.1 127 83) - (1 : Int32))) hI13508  o13509.1 o13509.2 (by have := ti_add2 (Eq.refl x12_2.toInt) (by decide : ((1 : Int32)).toInt = 1) (by (first | omega | sorry)) (by (first | omega | sorry)); have := bd_127_4 hI; (first | omega | sorry)) (fun w9 hI9 hF9 => hE w9 hI9 ((FR.I (FR.I hF13502 (k := 127) (j := 84) (v := 10) rfl) (k := 127) (j := 83) (v := ((w13498.1 127 83) - (1 : Int32))) rfl).tr hF9 rfl) ) (fun r w9 hI9 hF9 q0 => q0.elim)
              · have o13510 : 0 ≤ x12_2.toInt ∧ x12_2.toInt < 20 := by have := bd_127_4 hI; (first | omega | sorry)
                refine ⟨o13510, ?_⟩
                have o13511 : ((-1) ≤ (w13480.1 164 x12_2.toInt.toNat).toInt) ∧ ((w13480.1 164 x12_2.toInt.toNat).toInt ≤ 100000) := by have := bd_164 hI13481 x12_2.toInt.toNat; have := bd_164 hI x12_2.toInt.toNat; have := (congrArg Int32.toInt (hL13482 164 x12_2.toInt.toNat rfl).1); exact ⟨by (first | omega | sorry), by (first | omega | sorry)⟩
                refine h_Mo_sayNumber hI13481  o13511.1 o13511.2 (fun w13512 hI13513 hL13514  => ?_)
                have hF13516 : FR l_Mo_write_12 w w13512 := hF13484.tr hL13514 rfl
                refine Eq.mpr (p_Mo_letter.eq_1 _ _ _) ?_
                refine ⟨fun h13517 => ?_, fun h13517 => ?_⟩
                · have hI13518 : BND (sI w13512 127 84 (w13512.1 127 84)) := wbd_127_84 hI13513
                  have hI13519 : BND (sI (sI w13512 127 84 (w13512.1 127 84)) 127 83 ((w13512.1 127 83) - (1 : Int32))) := wbd_127_83 hI13518
                  have o13520 : (0 ≤ (x12_2 + (1 : Int32)).toInt) ∧ ((x12_2 + (1 : Int32)).toInt ≤ 20) := by have := ti_add2 (Eq.refl x12_2.toInt) (by decide : ((1 : Int32)).toInt = 1) (by (first | omega | sorry)) (by (first | omega | sorry)); have := bd_127_4 hI; exact ⟨by (first | omega | sorry), by (first | omega | sorry)⟩
                  exact ih _ (sI (sI w13512 127 84 (w13512.1 127 84)) 127 83 ((w13512.1 127 83) - (1 : Int32))) hI13519  o13520.1 o13520.2 (by have := ti_add2 (Eq.refl x12_2.toInt) (by decide : ((1 : Int32)).toInt = 1) (by (first | omega | sorry)) (by (first | omega | sorry)); have := bd_127_4 hI; (first | omega | sorry)) (fun w9 hI9 hF9 => hE w9 hI9 ((FR.I (FR.I hF13516 (k := 127) (j := 84) (v := (w13512.1 127 84)) rfl) (k := 127) (j := 83) (v := ((w13512.1 127 83) - (1 : Int32))) rfl).tr hF9 rfl) ) (fun r w9 hI9 hF9 q0 => q0.elim)
                · have hI13521 : BND (sI w13512 127 84 10) := wbd_127_84 hI13513
                  have hI13522 : BND (sI (sI w13512 127 84 10) 127 83 ((w13512.1 127 83) - (1 : Int32))) := wbd_127_83 hI13521
                  have o13523 : (0 ≤ (x12_2 + (1 : Int32)).toInt) ∧ ((x12_2 + (1 : Int32)).toInt ≤ 20) := by have := ti_add2 (Eq.refl x12_2.toInt) (by decide : ((1 : Int32)).toInt = 1) (by (first | omega | sorry)) (by (first | omega | sorry)); have := bd_127_4 hI; exact ⟨by (first | omega | sorry), by (first | omega | sorry)⟩
                  exact ih _ (sI (sI w13512 127 84 10) 127 83 ((w13512.1 127 83) - (1 : Int32))) hI13522  o13523.1 o13523.2 (by have := ti_add2 (Eq.refl x12_2.toInt) (by decide : ((1 : Int32)).toInt = 1) (by (first | omega | sorry)) (by (first | omega | sorry)); have := bd_127_4 hI; (first | omega | sorry)) (fun w9 hI9 hF9 => hE w9 hI9 ((FR.I (FR.I hF13516 (k := 127) (j := 84) (v := 10) rfl) (k := 127) (j := 83) (v := ((w13512.1 127 83) - (1 : Int32))) rfl).tr hF9 rfl) ) (fun r w9 hI9 hF9 q0 => q0.elim)
          · refine Eq.mpr (q_Mo_write_59.eq_1 _ _ _ _ _ _ _) ?_
            have o13524 : (1701865840 ≤ (1886221680 : Int64).toInt) ∧ ((1886221680 : Int64).toInt ≤ 435778511222) := by have := (by decide : ((1886221680 : Int64)).toInt = 1886221680); exact ⟨by (first | omega | sorry), by (first | omega | sorry)⟩
            refine h_Mo_say hI  o13524.1 o13524.2 (fun w13525 hI13526 hL13527  => ?_)
            have hF13529 : FR l_Mo_write_12 w w13525 := (FR.refl _ w).tr hL13527 rfl
            have o13530 : 0 ≤ x12_2.toInt ∧ x12_2.toInt < 20 := by have := bd_127_4 hI; (first | omega | sorry)
            refine ⟨o13530, ?_⟩
            refine ⟨fun h13531 => ?_, fun h13531 => ?_⟩
            · refine Eq.mpr (p_Mo_letter.eq_1 _ _ _) ?_
              refine ⟨fun h13532 => ?_, fun h13532 => ?_⟩
              · have hI13533 : BND (sI w13525 127 84 (w13525.1 127 84)) := wbd_127_84 hI13526
                have hI13534 : BND (sI (sI w13525 127 84 (w13525.1 127 84)) 127 83 ((w13525.1 127 83) - (1 : Int32))) := wbd_127_83 hI13533
                have o13535 : (0 ≤ (x12_2 + (1 : Int32)).toInt) ∧ ((x12_2 + (1 : Int32)).toInt ≤ 20) := by have := ti_add2 (Eq.refl x12_2.toInt) (by decide : ((1 : Int32)).toInt = 1) (by (first | omega | sorry)) (by (first | omega | sorry)); have := bd_127_4 hI; exact ⟨by (first | omega | sorry), by (first | omega | sorry)⟩
                exact ih _ (sI (sI w13525 127 84 (w13525.1 127 84)) 127 83 ((w13525.1 127 83) - (1 : Int32))) hI13534  o13535.1 o13535.2 (by have := ti_add2 (Eq.refl x12_2.toInt) (by decide : ((1 : Int32)).toInt = 1) (by (first | omega | sorry)) (by (first | omega | sorry)); have := bd_127_4 hI; (first | omega | sorry)) (fun w9 hI9 hF9 => hE w9 hI9 ((FR.I (FR.I hF13529 (k := 127) (j := 84) (v := (w13525.1 127 84)) rfl) (k := 127) (j := 83) (v := ((w13525.1 127 83) - (1 : Int32))) rfl).tr hF9 rfl) ) (fun r w9 hI9 hF9 q0 => q0.elim)
              · have hI13536 : BND (sI w13525 127 84 10) := wbd_127_84 hI13526
                have hI13537 : BND (sI (sI w13525 127 84 10) 127 83 ((w13525.1 127 83) - (1 : Int32))) := wbd_127_83 hI13536
                have o13538 : (0 ≤ (x12_2 + (1 : Int32)).toInt) ∧ ((x12_2 + (1 : Int32)).toInt ≤ 20) := by have := ti_add2 (Eq.refl x12_2.toInt) (by decide : ((1 : Int32)).toInt = 1) (by (first | omega | sorry)) (by (first | omega | sorry)); have := bd_127_4 hI; exact ⟨by (first | omega | sorry), by (first | omega | sorry)⟩
                exact ih _ (sI (sI w13525 127 84 10) 127 83 ((w13525.1 127 83) - (1 : Int32))) hI13537  o13538.1 o13538.2 (by have := ti_add2 (Eq.refl x12_2.toInt) (by decide : ((1 : Int32)).toInt = 1) (by (first | omega | sorry)) (by (first | omega | sorry)); have := bd_127_4 hI; (first | omega | sorry)) (fun w9 hI9 hF9 => hE w9 hI9 ((FR.I (FR.I hF13529 (k := 127) (j := 84) (v := 10) rfl) (k := 127) (j := 83) (v := ((w13525.1 127 83) - (1 : Int32))) rfl).tr hF9 rfl) ) (fun r w9 hI9 hF9 q0 => q0.elim)
            · have o13539 : 0 ≤ x12_2.toInt ∧ x12_2.toInt < 20 := by have := bd_127_4 hI; (first | omega | sorry)
              refine ⟨o13539, ?_⟩
              refine ⟨fun h13540 => ?_, fun h13540 => ?_⟩
              · have o13541 : 0 ≤ x12_2.toInt ∧ x12_2.toInt < 20 := by have := bd_127_4 hI; (first | omega | sorry)
                refine ⟨o13541, ?_⟩
                have o13542 : ((-1) ≤ ((w13525.1 163 x12_2.toInt.toNat) - (2 : Int32)).toInt) ∧ (((w13525.1 163 x12_2.toInt.toNat) - (2 : Int32)).toInt ≤ 100000) := by have := bd_163 hI13526 x12_2.toInt.toNat; have := bd_163 hI x12_2.toInt.toNat; have := (congrArg Int32.toInt (hL13527 163 x12_2.toInt.toNat rfl).1); have := ti_sub2 (Eq.refl (w13525.1 163 x12_2.toInt.toNat).toInt) (by decide : ((2 : Int32)).toInt = 2) (by (first | omega | sorry)) (by (first | omega | sorry)); have := (by decide : ((0 : Int32)).toInt = 0); have := (by decide : ((1 : Int32)).toInt = 1); exact ⟨by (first | omega | sorry), by (first | omega | sorry)⟩
                refine h_Mo_sayNumber hI13526  o13542.1 o13542.2 (fun w13543 hI13544 hL13545  => ?_)
                have hF13547 : FR l_Mo_write_12 w w13543 := hF13529.tr hL13545 rfl
                refine Eq.mpr (p_Mo_letter.eq_1 _ _ _) ?_
                refine ⟨fun h13548 => ?_, fun h13548 => ?_⟩
                · have hI13549 : BND (sI w13543 127 84 (w13543.1 127 84)) := wbd_127_84 hI13544
                  have hI13550 : BND (sI (sI w13543 127 84 (w13543.1 127 84)) 127 83 ((w13543.1 127 83) - (1 : Int32))) := wbd_127_83 hI13549
                  have o13551 : (0 ≤ (x12_2 + (1 : Int32)).toInt) ∧ ((x12_2 + (1 : Int32)).toInt ≤ 20) := by have := ti_add2 (Eq.refl x12_2.toInt) (by decide : ((1 : Int32)).toInt = 1) (by (first | omega | sorry)) (by (first | omega | sorry)); have := bd_127_4 hI; exact ⟨by (first | omega | sorry), by (first | omega | sorry)⟩
                  exact ih _ (sI (sI w13543 127 84 (w13543.1 127 84)) 127 83 ((w13543.1 127 83) - (1 : Int32))) hI13550  o13551.1 o13551.2 (by have := ti_add2 (Eq.refl x12_2.toInt) (by decide : ((1 : Int32)).toInt = 1) (by (first | omega | sorry)) (by (first | omega | sorry)); have := bd_127_4 hI; (first | omega | sorry)) (fun w9 hI9 hF9 => hE w9 hI9 ((FR.I (FR.I hF13547 (k := 127) (j := 84) (v := (w13543.1 127 84)) rfl) (k := 127) (j := 83) (v := ((w13543.1 127 83) - (1 : Int32))) rfl).tr hF9 rfl) ) (fun r w9 hI9 hF9 q0 => q0.elim)
                · have hI13552 : BND (sI w13543 127 84 10) := wbd_127_84 hI13544
                  have hI13553 : BND (sI (sI w13543 127 84 10) 127 83 ((w13543.1 127 83) - (1 : Int32))) := wbd_127_83 hI13552
                  have o13554 : (0 ≤ (x12_2 + (1 : Int32)).toInt) ∧ ((x12_2 + (1 : Int32)).toInt ≤ 20) := by have := ti_add2 (Eq.refl x12_2.toInt) (by decide : ((1 : Int32)).toInt = 1) (by (first | omega | sorry)) (by (first | omega | sorry)); have := bd_127_4 hI; exact ⟨by (first | omega | sorry), by (first | omega | sorry)⟩
                  exact ih _ (sI (sI w13543 127 84 10) 127 83 ((w13543.1 127 83) - (1 : Int32))) hI13553  o13554.1 o13554.2 (by have := ti_add2 (Eq.refl x12_2.toInt) (by decide : ((1 : Int32)).toInt = 1) (by (first | omega | sorry)) (by (first | omega | sorry)); have := bd_127_4 hI; (first | omega | sorry)) (fun w9 hI9 hF9 => hE w9 hI9 ((FR.I (FR.I hF13547 (k := 127) (j := 84) (v := 10) rfl) (k := 127) (j := 83) (v := ((w13543.1 127 83) - (1 : Int32))) rfl).tr hF9 rfl) ) (fun r w9 hI9 hF9 q0 => q0.elim)
              · have o13555 : 0 ≤ x12_2.toInt ∧ x12_2.toInt < 20 := by have := bd_127_4 hI; (first | omega | sorry)
                refine ⟨o13555, ?_⟩
                have o13556 : ((-1) ≤ (w13525.1 164 x12_2.toInt.toNat).toInt) ∧ ((w13525.1 164 x12_2.toInt.toNat).toInt ≤ 100000) := by have := bd_164 hI13526 x12_2.toInt.toNat; have := bd_164 hI x12_2.toInt.toNat; have := (congrArg Int32.toInt (hL13527 164 x12_2.toInt.toNat rfl).1); exact ⟨by (first | omega | sorry), by (first | omega | sorry)⟩
                refine h_Mo_sayNumber hI13526  o13556.1 o13556.2 (fun w13557 hI13558 hL13559  => ?_)
                have hF13561 : FR l_Mo_write_12 w w13557 := hF13529.tr hL13559 rfl
                refine Eq.mpr (p_Mo_letter.eq_1 _ _ _) ?_
                refine ⟨fun h13562 => ?_, fun h13562 => ?_⟩
                · have hI13563 : BND (sI w13557 127 84 (w13557.1 127 84)) := wbd_127_84 hI13558
                  have hI13564 : BND (sI (sI w13557 127 84 (w13557.1 127 84)) 127 83 ((w13557.1 127 83) - (1 : Int32))) := wbd_127_83 hI13563
                  have o13565 : (0 ≤ (x12_2 + (1 : Int32)).toInt) ∧ ((x12_2 + (1 : Int32)).toInt ≤ 20) := by have := ti_add2 (Eq.refl x12_2.toInt) (by decide : ((1 : Int32)).toInt = 1) (by (first | omega | sorry)) (by (first | omega | sorry)); have := bd_127_4 hI; exact ⟨by (first | omega | sorry), by (first | omega | sorry)⟩
                  exact ih _ (sI (sI w13557 127 84 (w13557.1 127 84)) 127 83 ((w13557.1 127 83) - (1 : Int32))) hI13564  o13565.1 o13565.2 (by have := ti_add2 (Eq.refl x12_2.toInt) (by decide : ((1 : Int32)).toInt = 1) (by (first | omega | sorry)) (by (first | omega | sorry)); have := bd_127_4 hI; (first | omega | sorry)) (fun w9 hI9 hF9 => hE w9 hI9 ((FR.I (FR.I hF13561 (k := 127) (j := 84) (v := (w13557.1 127 84)) rfl) (k := 127) (j := 83) (v := ((w13557.1 127 83) - (1 : Int32))) rfl).tr hF9 rfl) ) (fun r w9 hI9 hF9 q0 => q0.elim)
                · have hI13566 : BND (sI w13557 127 84 10) := wbd_127_84 hI13558
                  have hI13567 : BND (sI (sI w13557 127 84 10) 127 83 ((w13557.1 127 83) - (1 : Int32))) := wbd_127_83 hI13566
                  have o13568 : (0 ≤ (x12_2 + (1 : Int32)).toInt) ∧ ((x12_2 + (1 : Int32)).toInt ≤ 20) := by have := ti_add2 (Eq.refl x12_2.toInt) (by decide : ((1 : Int32)).toInt = 1) (by (first | omega | sorry)) (by (first | omega | sorry)); have := bd_127_4 hI; exact ⟨by (first | omega | sorry), by (first | omega | sorry)⟩
                  exact ih _ (sI (sI w13557 127 84 10) 127 83 ((w13557.1 127 83) - (1 : Int32))) hI13567  o13568.1 o13568.2 (by have := ti_add2 (Eq.refl x12_2.toInt) (by decide : ((1 : Int32)).toInt = 1) (by (first | omega | sorry)) (by (first | omega | sorry)); have := bd_127_4 hI; (first | omega | sorry)) (fun w9 hI9 hF9 => hE w9 hI9 ((FR.I (FR.I hF13561 (k := 127) (j := 84) (v := 10) rfl) (k := 127) (j := 83) (v := ((w13557.1 127 83) - (1 : Int32))) rfl).tr hF9 rfl) ) (fun r w9 hI9 hF9 q0 => q0.elim)
        · refine Eq.mpr (q_Mo_write_59.eq_1 _ _ _ _ _ _ _) ?_
          have o13569 : (1701865840 ≤ (1802396020 : Int64).toInt) ∧ ((1802396020 : Int64).toInt ≤ 435778511222) := by have := (by decide : ((1802396020 : Int64)).toInt = 1802396020); exact ⟨by (first | omega | sorry), by (first | omega | sorry)⟩
          refine h_Mo_say hI  o13569.1 o13569.2 (fun w13570 hI13571 hL13572  => ?_)
          have hF13574 : FR l_Mo_write_12 w w13570 := (FR.refl _ w).tr hL13572 rfl
          have o13575 : 0 ≤ x12_2.toInt ∧ x12_2.toInt < 20 := by have := bd_127_4 hI; (first | omega | sorry)
          refine ⟨o13575, ?_⟩
          refine ⟨fun h13576 => ?_, fun h13576 => ?_⟩
          · refine Eq.mpr (p_Mo_letter.eq_1 _ _ _) ?_
            refine ⟨fun h13577 => ?_, fun h13577 => ?_⟩
            · have hI13578 : BND (sI w13570 127 84 (w13570.1 127 84)) := wbd_127_84 hI13571
              have hI13579 : BND (sI (sI w13570 127 84 (w13570.1 127 84)) 127 83 ((w13570.1 127 83) - (1 : Int32))) := wbd_127_83 hI13578
              have o13580 : (0 ≤ (x12_2 + (1 : Int32)).toInt) ∧ ((x12_2 + (1 : Int32)).toInt ≤ 20) := by have := ti_add2 (Eq.refl x12_2.toInt) (by decide : ((1 : Int32)).toInt = 1) (by (first | omega | sorry)) (by (first | omega | sorry)); have := bd_127_4 hI; exact ⟨by (first | omega | sorry), by (first | omega | sorry)⟩
              exact ih _ (sI (sI w13570 127 84 (w13570.1 127 84)) 127 83 ((w13570.1 127 83) - (1 : Int32))) hI13579  o13580.1 o13580.2 (by have := ti_add2 (Eq.refl x12_2.toInt) (by decide : ((1 : Int32)).toInt = 1) (by (first | omega | sorry)) (by (first | omega | sorry)); have := bd_127_4 hI; (first | omega | sorry)) (fun w9 hI9 hF9 => hE w9 hI9 ((FR.I (FR.I hF13574 (k := 127) (j := 84) (v := (w13570.1 127 84)) rfl) (k := 127) (j := 83) (v := ((w13570.1 127 83) - (1 : Int32))) rfl).tr hF9 rfl) ) (fun r w9 hI9 hF9 q0 => q0.elim)
            · have hI13581 : BND (sI w13570 127 84 10) := wbd_127_84 hI13571
              have hI13582 : BND (sI (sI w13570 127 84 10) 127 83 ((w13570.1 127 83) - (1 : Int32))) := wbd_127_83 hI13581
              have o13583 : (0 ≤ (x12_2 + (1 : Int32)).toInt) ∧ ((x12_2 + (1 : Int32)).toInt ≤ 20) := by have := ti_add2 (Eq.refl x12_2.toInt) (by decide : ((1 : Int32)).toInt = 1) (by (first | omega | sorry)) (by (first | omega | sorry)); have := bd_127_4 hI; exact ⟨by (first | omega | sorry), by (first | omega | sorry)⟩
              exact ih _ (sI (sI w13570 127 84 10) 127 83 ((w13570.1 127 83) - (1 : Int32))) hI13582  o13583.1 o13583.2 (by have := ti_add2 (Eq.refl x12_2.toInt) (by decide : ((1 : Int32)).toInt = 1) (by (first | omega | sorry)) (by (first | omega | sorry)); have := bd_127_4 hI; (first | omega | sorry)) (fun w9 hI9 hF9 => hE w9 hI9 ((FR.I (FR.I hF13574 (k := 127) (j := 84) (v := 10) rfl) (k := 127) (j := 83) (v := ((w13570.1 127 83) - (1 : Int32))) rfl).tr hF9 rfl) ) (fun r w9 hI9 hF9 q0 => q0.elim)
          · have o13584 : 0 ≤ x12_2.toInt ∧ x12_2.toInt < 20 := by have := bd_127_4 hI; (first | omega | sorry)
            refine ⟨o13584, ?_⟩
            refine ⟨fun h13585 => ?_, fun h13585 => ?_⟩
            · have o13586 : 0 ≤ x12_2.toInt ∧ x12_2.toInt < 20 := by have := bd_127_4 hI; (first | omega | sorry)
              refine ⟨o13586, ?_⟩
              have o13587 : ((-1) ≤ ((w13570.1 163 x12_2.toInt.toNat) - (2 : Int32)).toInt) ∧ (((w13570.1 163 x12_2.toInt.toNat) - (2 : Int32)).toInt ≤ 100000) := by have := bd_163 hI13571 x12_2.toInt.toNat; have := bd_163 hI x12_2.toInt.toNat; have := (congrArg Int32.toInt (hL13572 163 x12_2.toInt.toNat rfl).1); have := ti_sub2 (Eq.refl (w13570.1 163 x12_2.toInt.toNat).toInt) (by decide : ((2 : Int32)).toInt = 2) (by (first | omega | sorry)) (by (first | omega | sorry)); have := (by decide : ((0 : Int32)).toInt = 0); have := (by decide : ((1 : Int32)).toInt = 1); exact ⟨by (first | omega | sorry), by (first | omega | sorry)⟩
              refine h_Mo_sayNumber hI13571  o13587.1 o13587.2 (fun w13588 hI13589 hL13590  => ?_)
              have hF13592 : FR l_Mo_write_12 w w13588 := hF13574.tr hL13590 rfl
              refine Eq.mpr (p_Mo_letter.eq_1 _ _ _) ?_
              refine ⟨fun h13593 => ?_, fun h13593 => ?_⟩
              · have hI13594 : BND (sI w13588 127 84 (w13588.1 127 84)) := wbd_127_84 hI13589
                have hI13595 : BND (sI (sI w13588 127 84 (w13588.1 127 84)) 127 83 ((w13588.1 127 83) - (1 : Int32))) := wbd_127_83 hI13594
                have o13596 : (0 ≤ (x12_2 + (1 : Int32)).toInt) ∧ ((x12_2 + (1 : Int32)).toInt ≤ 20) := by have := ti_add2 (Eq.refl x12_2.toInt) (by decide : ((1 : Int32)).toInt = 1) (by (first | omega | sorry)) (by (first | omega | sorry)); have := bd_127_4 hI; exact ⟨by (first | omega | sorry), by (first | omega | sorry)⟩
                exact ih _ (sI (sI w13588 127 84 (w13588.1 127 84)) 127 83 ((w13588.1 127 83) - (1 : Int32))) hI13595  o13596.1 o13596.2 (by have := ti_add2 (Eq.refl x12_2.toInt) (by decide : ((1 : Int32)).toInt = 1) (by (first | omega | sorry)) (by (first | omega | sorry)); have := bd_127_4 hI; (first | omega | sorry)) (fun w9 hI9 hF9 => hE w9 hI9 ((FR.I (FR.I hF13592 (k := 127) (j := 84) (v := (w13588.1 127 84)) rfl) (k := 127) (j := 83) (v := ((w13588.1 127 83) - (1 : Int32))) rfl).tr hF9 rfl) ) (fun r w9 hI9 hF9 q0 => q0.elim)
              · have hI13597 : BND (sI w13588 127 84 10) := wbd_127_84 hI13589
                have hI13598 : BND (sI (sI w13588 127 84 10) 127 83 ((w13588.1 127 83) - (1 : Int32))) := wbd_127_83 hI13597
                have o13599 : (0 ≤ (x12_2 + (1 : Int32)).toInt) ∧ ((x12_2 + (1 : Int32)).toInt ≤ 20) := by have := ti_add2 (Eq.refl x12_2.toInt) (by decide : ((1 : Int32)).toInt = 1) (by (first | omega | sorry)) (by (first | omega | sorry)); have := bd_127_4 hI; exact ⟨by (first | omega | sorry), by (first | omega | sorry)⟩
                exact ih _ (sI (sI w13588 127 84 10) 127 83 ((w13588.1 127 83) - (1 : Int32))) hI13598  o13599.1 o13599.2 (by have := ti_add2 (Eq.refl x12_2.toInt) (by decide : ((1 : Int32)).toInt = 1) (by (first | omega | sorry)) (by (first | omega | sorry)); have := bd_127_4 hI; (first | omega | sorry)) (fun w9 hI9 hF9 => hE w9 hI9 ((FR.I (FR.I hF13592 (k := 127) (j := 84) (v := 10) rfl) (k := 127) (j := 83) (v := ((w13588.1 127 83) - (1 : Int32))) rfl).tr hF9 rfl) ) (fun r w9 hI9 hF9 q0 => q0.elim)
            · have o13600 : 0 ≤ x12_2.toInt ∧ x12_2.toInt < 20 := by have := bd_127_4 hI; (first | omega | sorry)
              refine ⟨o13600, ?_⟩
              have o13601 : ((-1) ≤ (w13570.1 164 x12_2.toInt.toNat).toInt) ∧ ((w13570.1 164 x12_2.toInt.toNat).toInt ≤ 100000) := by have := bd_164 hI13571 x12_2.toInt.toNat; have := bd_164 hI x12_2.toInt.toNat; have := (congrArg Int32.toInt (hL13572 164 x12_2.toInt.toNat rfl).1); exact ⟨by (first | omega | sorry), by (first | omega | sorry)⟩
              refine h_Mo_sayNumber hI13571  o13601.1 o13601.2 (fun w13602 hI13603 hL13604  => ?_)
              have hF13606 : FR l_Mo_write_12 w w13602 := hF13574.tr hL13604 rfl
              refine Eq.mpr (p_Mo_letter.eq_1 _ _ _) ?_
              refine ⟨fun h13607 => ?_, fun h13607 => ?_⟩
              · have hI13608 : BND (sI w13602 127 84 (w13602.1 127 84)) := wbd_127_84 hI13603
                have hI13609 : BND (sI (sI w13602 127 84 (w13602.1 127 84)) 127 83 ((w13602.1 127 83) - (1 : Int32))) := wbd_127_83 hI13608
                have o13610 : (0 ≤ (x12_2 + (1 : Int32)).toInt) ∧ ((x12_2 + (1 : Int32)).toInt ≤ 20) := by have := ti_add2 (Eq.refl x12_2.toInt) (by decide : ((1 : Int32)).toInt = 1) (by (first | omega | sorry)) (by (first | omega | sorry)); have := bd_127_4 hI; exact ⟨by (first | omega | sorry), by (first | omega | sorry)⟩
                exact ih _ (sI (sI w13602 127 84 (w13602.1 127 84)) 127 83 ((w13602.1 127 83) - (1 : Int32))) hI13609  o13610.1 o13610.2 (by have := ti_add2 (Eq.refl x12_2.toInt) (by decide : ((1 : Int32)).toInt = 1) (by (first | omega | sorry)) (by (first | omega | sorry)); have := bd_127_4 hI; (first | omega | sorry)) (fun w9 hI9 hF9 => hE w9 hI9 ((FR.I (FR.I hF13606 (k := 127) (j := 84) (v := (w13602.1 127 84)) rfl) (k := 127) (j := 83) (v := ((w13602.1 127 83) - (1 : Int32))) rfl).tr hF9 rfl) ) (fun r w9 hI9 hF9 q0 => q0.elim)
              · have hI13611 : BND (sI w13602 127 84 10) := wbd_127_84 hI13603
                have hI13612 : BND (sI (sI w13602 127 84 10) 127 83 ((w13602.1 127 83) - (1 : Int32))) := wbd_127_83 hI13611
                have o13613 : (0 ≤ (x12_2 + (1 : Int32)).toInt) ∧ ((x12_2 + (1 : Int32)).toInt ≤ 20) := by have := ti_add2 (Eq.refl x12_2.toInt) (by decide : ((1 : Int32)).toInt = 1) (by (first | omega | sorry)) (by (first | omega | sorry)); have := bd_127_4 hI; exact ⟨by (first | omega | sorry), by (first | omega | sorry)⟩
                exact ih _ (sI (sI w13602 127 84 10) 127 83 ((w13602.1 127 83) - (1 : Int32))) hI13612  o13613.1 o13613.2 (by have := ti_add2 (Eq.refl x12_2.toInt) (by decide : ((1 : Int32)).toInt = 1) (by (first | omega | sorry)) (by (first | omega | sorry)); have := bd_127_4 hI; (first | omega | sorry)) (fun w9 hI9 hF9 => hE w9 hI9 ((FR.I (FR.I hF13606 (k := 127) (j := 84) (v := 10) rfl) (k := 127) (j := 83) (v := ((w13602.1 127 83) - (1 : Int32))) rfl).tr hF9 rfl) ) (fun r w9 hI9 hF9 q0 => q0.elim)
set_option maxRecDepth 20000 in
set_option maxHeartbeats 2000000 in
theorem hq_Mo_write_116 {x116_1 : Int32} {E : MW → Prop} {Q : Int32 → MW → Prop} (n : Nat) : ∀ (x116_2 : Int32) (w : MW), BND w → 0 ≤ x116_2.toInt → x116_2.toInt ≤ 24 → (24 - x116_2.toInt).toNat < n → (∀ (w' : MW), BND w' → FR l_Mo_write_116 w w' → E w') → (∀ (r : Int32) (w' : MW), BND w' → FR l_Mo_write_116 w w' → False → Q r w') → q_Mo_write_116 x116_1 E Q n x116_2 w := by
  induction n with
  | zero => intros; (first | omega | sorry)
  | succ n ih =>
    intro x116_2 w hI  hp0 hp1 hm hE hQ
    rw [q_Mo_write_116.eq_2]
    refine ⟨fun h13614 => ?_, fun h13614 => ?_⟩
    · exact hE _ hI (FR.refl _ w)
    · refine ⟨fun h13615 => ?_, fun h13615 => ?_⟩
      · exact hE _ hI (FR.refl _ w)
      · have o13616 : (1701865840 ≤ (1701865840 : Int64).toInt) ∧ ((1701865840 : Int64).toInt ≤ 435778511222) := by have := (by decide : ((1701865840 : Int64)).toInt = 1701865840); exact ⟨by (first | omega | sorry), by (first | omega | sorry)⟩
        refine h_Mo_say hI  o13616.1 o13616.2 (fun w13617 hI13618 hL13619  => ?_)
        have hF13621 : FR l_Mo_write_116 w w13617 := (FR.refl _ w).tr hL13619 rfl
        have o13622 : 0 ≤ ((2 : Int32) * x116_2).toInt ∧ ((2 : Int32) * x116_2).toInt < 48 := by have := ti_mul2 (by decide : ((2 : Int32)).toInt = 2) (Eq.refl x116_2.toInt) (by (first | omega | sorry)) (by (first | omega | sorry)); have := bd_127_11 hI; (first | omega | sorry)
        refine ⟨o13622, ?_⟩
        have o13623 : ((-1) ≤ (w13617.1 170 (((2 : Int32) * x116_2).toInt.toNat)).toInt) ∧ ((w13617.1 170 (((2 : Int32) * x116_2).toInt.toNat)).toInt ≤ 100000) := by have := bd_170 hI13618 (((2 : Int32) * x116_2).toInt.toNat); have := bd_170 hI (((2 : Int32) * x116_2).toInt.toNat); have := (congrArg Int32.toInt (hL13619 170 (((2 : Int32) * x116_2).toInt.toNat) rfl).1); exact ⟨by (first | omega | sorry), by (first | omega | sorry)⟩
        refine h_Mo_sayNumber hI13618  o13623.1 o13623.2 (fun w13624 hI13625 hL13626  => ?_)
        have hF13628 : FR l_Mo_write_116 w w13624 := hF13621.tr hL13626 rfl
        have o13629 : 0 ≤ (((2 : Int32) * x116_2) + (1 : Int32)).toInt ∧ (((2 : Int32) * x116_2) + (1 : Int32)).toInt < 48 := by have := ti_mul2 (by decide : ((2 : Int32)).toInt = 2) (Eq.refl x116_2.toInt) (by (first | omega | sorry)) (by (first | omega | sorry)); have := ti_add2 (Eq.refl ((2 : Int32) * x116_2).toInt) (by decide : ((1 : Int32)).toInt = 1) (by (first | omega | sorry)) (by (first | omega | sorry)); have := bd_127_11 hI; (first | omega | sorry)
        refine ⟨o13629, ?_⟩
        have o13630 : ((-1) ≤ (w13624.1 170 ((((2 : Int32) * x116_2) + (1 : Int32)).toInt.toNat)).toInt) ∧ ((w13624.1 170 ((((2 : Int32) * x116_2) + (1 : Int32)).toInt.toNat)).toInt ≤ 100000) := by have := bd_170 hI13625 ((((2 : Int32) * x116_2) + (1 : Int32)).toInt.toNat); have := bd_170 hI13618 ((((2 : Int32) * x116_2) + (1 : Int32)).toInt.toNat); have := bd_170 hI ((((2 : Int32) * x116_2) + (1 : Int32)).toInt.toNat); have := (congrArg Int32.toInt (hL13619 170 ((((2 : Int32) * x116_2) + (1 : Int32)).toInt.toNat) rfl).1); have := (congrArg Int32.toInt (hL13626 170 ((((2 : Int32) * x116_2) + (1 : Int32)).toInt.toNat) rfl).1); exact ⟨by (first | omega | sorry), by (first | omega | sorry)⟩
        refine h_Mo_sayNumber hI13625  o13630.1 o13630.2 (fun w13631 hI13632 hL13633  => ?_)
        have hF13635 : FR l_Mo_write_116 w w13631 := hF13628.tr hL13633 rfl
        have o13636 : 0 ≤ x116_2.toInt ∧ x116_2.toInt < 24 := by have := bd_127_11 hI; (first | omega | sorry)
        refine ⟨o13636, ?_⟩
        have o13637 : ((-1) ≤ (w13631.1 169 x116_2.toInt.toNat).toInt) ∧ ((w13631.1 169 x116_2.toInt.toNat).toInt ≤ 100000) := by have := bd_169 hI13632 x116_2.toInt.toNat; have := bd_169 hI13625 x116_2.toInt.toNat; have := bd_169 hI13618 x116_2.toInt.toNat; have := bd_169 hI x116_2.toInt.toNat; have := (congrArg Int32.toInt (hL13619 169 x116_2.toInt.toNat rfl).1); have := (congrArg Int32.toInt (hL13626 169 x116_2.toInt.toNat rfl).1); have := (congrArg Int32.toInt (hL13633 169 x116_2.toInt.toNat rfl).1); exact ⟨by (first | omega | sorry), by (first | omega | sorry)⟩
        refine h_Mo_sayNumber hI13632  o13637.1 o13637.2 (fun w13638 hI13639 hL13640  => ?_)
        have hF13642 : FR l_Mo_write_116 w w13638 := hF13635.tr hL13640 rfl
        refine Eq.mpr (p_Mo_letter.eq_1 _ _ _) ?_
        refine ⟨fun h13643 => ?_, fun h13643 => ?_⟩
        · have hI13644 : BND (sI w13638 127 84 (w13638.1 127 84)) := wbd_127_84 hI13639
          have hI13645 : BND (sI (sI w13638 127 84 (w13638.1 127 84)) 127 83 ((w13638.1 127 83) - (1 : Int32))) := wbd_127_83 hI13644
          have o13646 : (0 ≤ (x116_2 + (1 : Int32)).toInt) ∧ ((x116_2 + (1 : Int32)).toInt ≤ 24) := by have := ti_add2 (Eq.refl x116_2.toInt) (by decide : ((1 : Int32)).toInt = 1) (by (first | omega | sorry)) (by (first | omega | sorry)); have := bd_127_11 hI; exact ⟨by (first | omega | sorry), by (first | omega | sorry)⟩
          exact ih _ (sI (sI w13638 127 84 (w13638.1 127 84)) 127 83 ((w13638.1 127 83) - (1 : Int32))) hI13645  o13646.1 o13646.2 (by have := ti_add2 (Eq.refl x116_2.toInt) (by decide : ((1 : Int32)).toInt = 1) (by (first | omega | sorry)) (by (first | omega | sorry)); have := bd_127_11 hI; (first | omega | sorry)) (fun w9 hI9 hF9 => hE w9 hI9 ((FR.I (FR.I hF13642 (k := 127) (j := 84) (v := (w13638.1 127 84)) rfl) (k := 127) (j := 83) (v := ((w13638.1 127 83) - (1 : Int32))) rfl).tr hF9 rfl) ) (fun r w9 hI9 hF9 q0 => q0.elim)
        · have hI13647 : BND (sI w13638 127 84 10) := wbd_127_84 hI13639
          have hI13648 : BND (sI (sI w13638 127 84 10) 127 83 ((w13638.1 127 83) - (1 : Int32))) := wbd_127_83 hI13647
          have o13649 : (0 ≤ (x116_2 + (1 : Int32)).toInt) ∧ ((x116_2 + (1 : Int32)).toInt ≤ 24) := by have := ti_add2 (Eq.refl x116_2.toInt) (by decide : ((1 : Int32)).toInt = 1) (by (first | omega | sorry)) (by (first | omega | sorry)); have := bd_127_11 hI; exact ⟨by (first | omega | sorry), by (first | omega | sorry)⟩
          exact ih _ (sI (sI w13638 127 84 10) 127 83 ((w13638.1 127 83) - (1 : Int32))) hI13648  o13649.1 o13649.2 (by have := ti_add2 (Eq.refl x116_2.toInt) (by decide : ((1 : Int32)).toInt = 1) (by (first | omega | sorry)) (by (first | omega | sorry)); have := bd_127_11 hI; (first | omega | sorry)) (fun w9 hI9 hF9 => hE w9 hI9 ((FR.I (FR.I hF13642 (k := 127) (j := 84) (v := 10) rfl) (k := 127) (j := 83) (v := ((w13638.1 127 83) - (1 : Int32))) rfl).tr hF9 rfl) ) (fun r w9 hI9 hF9 q0 => q0.elim)
set_option maxRecDepth 20000 in
set_option maxHeartbeats 2000000 in
theorem h_Mo_write {w : MW} {a0 : Int32} {Q : Int32 → MW → Prop} (hI : BND w)  (hQ : ∀ (r : Int32) (w' : MW), BND w' → FR l_Mo_write w w' → Q r w') : p_Mo_write w a0 Q := by
  refine Eq.mpr (p_Mo_write.eq_1 _ _ _) ?_
  have hI13650 : BND (sI w 127 83 a0) := wbd_127_83 hI
  have hI13651 : BND (sI (sI w 127 83 a0) 127 84 (-1)) := wbd_127_84 hI13650
  have o13652 : (0 ≤ (0 : Int32).toInt) ∧ ((0 : Int32).toInt ≤ 20) := by have := ti_lo a0; have := ti_hi a0; have := (by decide : ((0 : Int32)).toInt = 0); exact ⟨by (first | omega | sorry), by (first | omega | sorry)⟩
  refine hq_Mo_write_12 FU _ (sI (sI w 127 83 a0) 127 84 (-1)) hI13651  o13652.1 o13652.2 (fu_lt (by have := ti_lo a0; have := ti_hi a0; have := (by decide : ((0 : Int32)).toInt = 0); (first | omega | sorry))) (fun w13653 hI13654 hL13655  => ?_) (fun r w9 hI9 hF9 q0 => q0.elim)
  have hF13656 : FR l_Mo_write w w13653 := (FR.I (FR.I (FR.refl _ w) (k := 127) (j := 83) (v := a0) rfl) (k := 127) (j := 84) (v := (-1)) rfl).tr hL13655 rfl
  have o13657 : (0 ≤ (0 : Int32).toInt) ∧ ((0 : Int32).toInt ≤ 24) := by have := ti_lo a0; have := ti_hi a0; have := (by decide : ((0 : Int32)).toInt = 0); exact ⟨by (first | omega | sorry), by (first | omega | sorry)⟩
  refine hq_Mo_write_116 FU _ w13653 hI13654  o13657.1 o13657.2 (fu_lt (by have := ti_lo a0; have := ti_hi a0; have := (by decide : ((0 : Int32)).toInt = 0); (first | omega | sorry))) (fun w13658 hI13659 hL13660  => ?_) (fun r w9 hI9 hF9 q0 => q0.elim)
  have hF13661 : FR l_Mo_write w w13658 := hF13656.tr hL13660 rfl
  exact hQ _ _ hI13659 hF13661 
def l_Mo_passes_122 : Pl := []
def l_Mo_passes_166 : Pl := []
def l_Mo_passes_45 : Pl := []
def l_Mo_passes_22 : Pl := []
def l_Mo_passes : Pl := []
set_option maxRecDepth 20000 in
set_option maxHeartbeats 2000000 in
theorem hq_Mo_passes_45 {y45_0 : Int32} {y45_1 : Int32} {y45_2 : Int32} {y45_4 : Int32} {y45_5 : Int32} {ys45_0 : Int32} {w : MW} {Q : Int32 → MW → Prop} (hI : BND w) (hp0 : 0 ≤ y45_0.toInt) (hp1 : y45_0.toInt ≤ 7) (hp2 : 0 ≤ y45_1.toInt) (hp3 : y45_1.toInt ≤ 9) (hp4 : 0 ≤ ys45_0.toInt) (hp5 : ys45_0.toInt ≤ 1) (hQ : ∀ (r : Int32) (w' : MW), BND w' → FR l_Mo_passes_45 w w' → 0 ≤ r.toInt → r.toInt ≤ 1 → Q r w') : q_Mo_passes_45 y45_0 y45_1 y45_2 y45_4 y45_5 ys45_0 w Q := by
  refine Eq.mpr (q_Mo_passes_45.eq_1 _ _ _ _ _ _ _ _) ?_
  refine ⟨fun h13672 => ?_, fun h13672 => ?_⟩
  · refine ⟨fun h13673 => ?_, fun h13673 => ?_⟩
    · have o13674 : (0 ≤ (0 : Int32).toInt) ∧ ((0 : Int32).toInt ≤ 1) := by have := (by decide : ((0 : Int32)).toInt = 0); exact ⟨by (first | omega | sorry), by (first | omega | sorry)⟩
      exact hQ _ _ hI (FR.refl _ w)  o13674.1 o13674.2
    · have o13675 : (0 ≤ (1 : Int32).toInt) ∧ ((1 : Int32).toInt ≤ 1) := by have := (by decide : ((1 : Int32)).toInt = 1); exact ⟨by (first | omega | sorry), by (first | omega | sorry)⟩
      exact hQ _ _ hI (FR.refl _ w)  o13675.1 o13675.2
  · refine ⟨fun h13676 => ?_, fun h13676 => ?_⟩
    · refine ⟨fun h13677 => ?_, fun h13677 => ?_⟩
      · refine ⟨fun h13678 => ?_, fun h13678 => ?_⟩
        · have o13679 : (0 ≤ (0 : Int32).toInt) ∧ ((0 : Int32).toInt ≤ 1) := by have := (by decide : ((0 : Int32)).toInt = 0); exact ⟨by (first | omega | sorry), by (first | omega | sorry)⟩
          exact hQ _ _ hI (FR.refl _ w)  o13679.1 o13679.2
        · refine ⟨fun h13680 => ?_, fun h13680 => ?_⟩
          · have o13681 : (0 ≤ (0 : Int32).toInt) ∧ ((0 : Int32).toInt ≤ 1) := by have := (by decide : ((0 : Int32)).toInt = 0); exact ⟨by (first | omega | sorry), by (first | omega | sorry)⟩
            exact hQ _ _ hI (FR.refl _ w)  o13681.1 o13681.2
          · have o13682 : (0 ≤ (1 : Int32).toInt) ∧ ((1 : Int32).toInt ≤ 1) := by have := (by decide : ((1 : Int32)).toInt = 1); exact ⟨by (first | omega | sorry), by (first | omega | sorry)⟩
            exact hQ _ _ hI (FR.refl _ w)  o13682.1 o13682.2
      · refine ⟨fun h13683 => ?_, fun h13683 => ?_⟩
        · refine Eq.mpr (q_Mo_passes_122.eq_1 _ _ _ _ _) ?_
          refine ⟨fun h13684 => ?_, fun h13684 => ?_⟩
          · refine ⟨fun h13685 => ?_, fun h13685 => ?_⟩
            · have o13686 : (0 ≤ (0 : Int32).toInt) ∧ ((0 : Int32).toInt ≤ 1) := by have := (by decide : ((0 : Int32)).toInt = 0); exact ⟨by (first | omega | sorry), by (first | omega | sorry)⟩
              exact hQ _ _ hI (FR.refl _ w)  o13686.1 o13686.2
            · refine ⟨fun h13687 => ?_, fun h13687 => ?_⟩
              · have o13688 : (0 ≤ (0 : Int32).toInt) ∧ ((0 : Int32).toInt ≤ 1) := by have := (by decide : ((0 : Int32)).toInt = 0); exact ⟨by (first | omega | sorry), by (first | omega | sorry)⟩
                exact hQ _ _ hI (FR.refl _ w)  o13688.1 o13688.2
              · exfalso; have := (by decide : ((0 : Int32)).toInt = 0); have := (by decide : ((1 : Int32)).toInt = 1); have := (by decide : ((3 : Int32)).toInt = 3); (first | omega | sorry)
          · refine ⟨fun h13689 => ?_, fun h13689 => ?_⟩
            · have o13690 : (0 ≤ (1 : Int32).toInt) ∧ ((1 : Int32).toInt ≤ 1) := by have := (by decide : ((1 : Int32)).toInt = 1); exact ⟨by (first | omega | sorry), by (first | omega | sorry)⟩
              exact hQ _ _ hI (FR.refl _ w)  o13690.1 o13690.2
            · refine ⟨fun h13691 => ?_, fun h13691 => ?_⟩
              · have o13692 : (0 ≤ (0 : Int32).toInt) ∧ ((0 : Int32).toInt ≤ 1) := by have := (by decide : ((0 : Int32)).toInt = 0); exact ⟨by (first | omega | sorry), by (first | omega | sorry)⟩
                exact hQ _ _ hI (FR.refl _ w)  o13692.1 o13692.2
              · exfalso; have := (by decide : ((0 : Int32)).toInt = 0); have := (by decide : ((1 : Int32)).toInt = 1); have := ti_lo y45_5; have := ti_hi y45_5; have := (by decide : ((2 : Int32)).toInt = 2); have := (by decide : ((3 : Int32)).toInt = 3); (first | omega | sorry)
        · refine ⟨fun h13693 => ?_, fun h13693 => ?_⟩
          · have o13694 : (0 ≤ (1 : Int32).toInt) ∧ ((1 : Int32).toInt ≤ 1) := by have := (by decide : ((1 : Int32)).toInt = 1); exact ⟨by (first | omega | sorry), by (first | omega | sorry)⟩
            exact hQ _ _ hI (FR.refl _ w)  o13694.1 o13694.2
          · refine Eq.mpr (q_Mo_passes_122.eq_1 _ _ _ _ _) ?_
            refine ⟨fun h13695 => ?_, fun h13695 => ?_⟩
            · refine ⟨fun h13696 => ?_, fun h13696 => ?_⟩
              · have o13697 : (0 ≤ (0 : Int32).toInt) ∧ ((0 : Int32).toInt ≤ 1) := by have := (by decide : ((0 : Int32)).toInt = 0); exact ⟨by (first | omega | sorry), by (first | omega | sorry)⟩
                exact hQ _ _ hI (FR.refl _ w)  o13697.1 o13697.2
              · exfalso; have := (by decide : ((0 : Int32)).toInt = 0); have := (by decide : ((1 : Int32)).toInt = 1); have := ti_lo y45_5; have := ti_hi y45_5; have := (by decide : ((3 : Int32)).toInt = 3); (first | omega | sorry)
            · exfalso; have := (by decide : ((0 : Int32)).toInt = 0); have := (by decide : ((1 : Int32)).toInt = 1); have := ti_lo y45_5; have := ti_hi y45_5; (first | omega | sorry)
    · refine ⟨fun h13698 => ?_, fun h13698 => ?_⟩
      · refine ⟨fun h13699 => ?_, fun h13699 => ?_⟩
        · have o13700 : (0 ≤ (1 : Int32).toInt) ∧ ((1 : Int32).toInt ≤ 1) := by have := (by decide : ((1 : Int32)).toInt = 1); exact ⟨by (first | omega | sorry), by (first | omega | sorry)⟩
          exact hQ _ _ hI (FR.refl _ w)  o13700.1 o13700.2
        · refine ⟨fun h13701 => ?_, fun h13701 => ?_⟩
          · refine Eq.mpr (q_Mo_passes_166.eq_1 _ _ _ _ _) ?_
            refine ⟨fun h13702 => ?_, fun h13702 => ?_⟩
            · refine ⟨fun h13703 => ?_, fun h13703 => ?_⟩
              · have o13704 : (0 ≤ (0 : Int32).toInt) ∧ ((0 : Int32).toInt ≤ 1) := by have := (by decide : ((0 : Int32)).toInt = 0); exact ⟨by (first | omega | sorry), by (first | omega | sorry)⟩
                exact hQ _ _ hI (FR.refl _ w)  o13704.1 o13704.2
              · refine ⟨fun h13705 => ?_, fun h13705 => ?_⟩
                · have o13706 : (0 ≤ (0 : Int32).toInt) ∧ ((0 : Int32).toInt ≤ 1) := by have := (by decide : ((0 : Int32)).toInt = 0); exact ⟨by (first | omega | sorry), by (first | omega | sorry)⟩
                  exact hQ _ _ hI (FR.refl _ w)  o13706.1 o13706.2
                · have o13707 : (0 ≤ (1 : Int32).toInt) ∧ ((1 : Int32).toInt ≤ 1) := by have := (by decide : ((1 : Int32)).toInt = 1); exact ⟨by (first | omega | sorry), by (first | omega | sorry)⟩
                  exact hQ _ _ hI (FR.refl _ w)  o13707.1 o13707.2
            · refine ⟨fun h13708 => ?_, fun h13708 => ?_⟩
              · refine ⟨fun h13709 => ?_, fun h13709 => ?_⟩
                · have o13710 : (0 ≤ (0 : Int32).toInt) ∧ ((0 : Int32).toInt ≤ 1) := by have := (by decide : ((0 : Int32)).toInt = 0); exact ⟨by (first | omega | sorry), by (first | omega | sorry)⟩
                  exact hQ _ _ hI (FR.refl _ w)  o13710.1 o13710.2
                · exfalso; have := (by decide : ((0 : Int32)).toInt = 0); have := (by decide : ((1 : Int32)).toInt = 1); have := (by decide : ((2 : Int32)).toInt = 2); have := (by decide : ((4 : Int32)).toInt = 4); have := ti_lo y45_4; have := ti_hi y45_4; have := (by decide : ((3 : Int32)).toInt = 3); (first | omega | sorry)
              · refine ⟨fun h13711 => ?_, fun h13711 => ?_⟩
                · have o13712 : (0 ≤ (1 : Int32).toInt) ∧ ((1 : Int32).toInt ≤ 1) := by have := (by decide : ((1 : Int32)).toInt = 1); exact ⟨by (first | omega | sorry), by (first | omega | sorry)⟩
                  exact hQ _ _ hI (FR.refl _ w)  o13712.1 o13712.2
                · refine ⟨fun h13713 => ?_, fun h13713 => ?_⟩
                  · have o13714 : (0 ≤ (0 : Int32).toInt) ∧ ((0 : Int32).toInt ≤ 1) := by have := (by decide : ((0 : Int32)).toInt = 0); exact ⟨by (first | omega | sorry), by (first | omega | sorry)⟩
                    exact hQ _ _ hI (FR.refl _ w)  o13714.1 o13714.2
                  · exfalso; have := (by decide : ((0 : Int32)).toInt = 0); have := (by decide : ((1 : Int32)).toInt = 1); have := (by decide : ((2 : Int32)).toInt = 2); have := (by decide : ((4 : Int32)).toInt = 4); have := ti_lo y45_5; have := ti_hi y45_5; have := (by decide : ((3 : Int32)).toInt = 3); (first | omega | sorry)
          · refine ⟨fun h13715 => ?_, fun h13715 => ?_⟩
            · have o13716 : (0 ≤ (1 : Int32).toInt) ∧ ((1 : Int32).toInt ≤ 1) := by have := (by decide : ((1 : Int32)).toInt = 1); exact ⟨by (first | omega | sorry), by (first | omega | sorry)⟩
              exact hQ _ _ hI (FR.refl _ w)  o13716.1 o13716.2
            · refine Eq.mpr (q_Mo_passes_166.eq_1 _ _ _ _ _) ?_
              refine ⟨fun h13717 => ?_, fun h13717 => ?_⟩
              · refine ⟨fun h13718 => ?_, fun h13718 => ?_⟩
                · have o13719 : (0 ≤ (0 : Int32).toInt) ∧ ((0 : Int32).toInt ≤ 1) := by have := (by decide : ((0 : Int32)).toInt = 0); exact ⟨by (first | omega | sorry), by (first | omega | sorry)⟩
                  exact hQ _ _ hI (FR.refl _ w)  o13719.1 o13719.2
                · exfalso; have := (by decide : ((0 : Int32)).toInt = 0); have := (by decide : ((1 : Int32)).toInt = 1); have := (by decide : ((2 : Int32)).toInt = 2); have := (by decide : ((4 : Int32)).toInt = 4); have := ti_lo y45_5; have := ti_hi y45_5; have := (by decide : ((3 : Int32)).toInt = 3); (first | omega | sorry)
              · exfalso; have := (by decide : ((0 : Int32)).toInt = 0); have := (by decide : ((1 : Int32)).toInt = 1); have := (by decide : ((2 : Int32)).toInt = 2); have := (by decide : ((4 : Int32)).toInt = 4); have := ti_lo y45_5; have := ti_hi y45_5; (first | omega | sorry)
      · refine ⟨fun h13720 => ?_, fun h13720 => ?_⟩
        · refine ⟨fun h13721 => ?_, fun h13721 => ?_⟩
          · have o13722 : (0 ≤ (0 : Int32).toInt) ∧ ((0 : Int32).toInt ≤ 1) := by have := (by decide : ((0 : Int32)).toInt = 0); exact ⟨by (first | omega | sorry), by (first | omega | sorry)⟩
            exact hQ _ _ hI (FR.refl _ w)  o13722.1 o13722.2
          · have o13723 : (0 ≤ (1 : Int32).toInt) ∧ ((1 : Int32).toInt ≤ 1) := by have := (by decide : ((1 : Int32)).toInt = 1); exact ⟨by (first | omega | sorry), by (first | omega | sorry)⟩
            exact hQ _ _ hI (FR.refl _ w)  o13723.1 o13723.2
        · refine ⟨fun h13724 => ?_, fun h13724 => ?_⟩
          · refine ⟨fun h13725 => ?_, fun h13725 => ?_⟩
            · refine ⟨fun h13726 => ?_, fun h13726 => ?_⟩
              · have o13727 : (0 ≤ (0 : Int32).toInt) ∧ ((0 : Int32).toInt ≤ 1) := by have := (by decide : ((0 : Int32)).toInt = 0); exact ⟨by (first | omega | sorry), by (first | omega | sorry)⟩
                exact hQ _ _ hI (FR.refl _ w)  o13727.1 o13727.2
              · have o13728 : (0 ≤ (1 : Int32).toInt) ∧ ((1 : Int32).toInt ≤ 1) := by have := (by decide : ((1 : Int32)).toInt = 1); exact ⟨by (first | omega | sorry), by (first | omega | sorry)⟩
                exact hQ _ _ hI (FR.refl _ w)  o13728.1 o13728.2
            · refine ⟨fun h13729 => ?_, fun h13729 => ?_⟩
              · have o13730 : (0 ≤ (1 : Int32).toInt) ∧ ((1 : Int32).toInt ≤ 1) := by have := (by decide : ((1 : Int32)).toInt = 1); exact ⟨by (first | omega | sorry), by (first | omega | sorry)⟩
                exact hQ _ _ hI (FR.refl _ w)  o13730.1 o13730.2
              · refine ⟨fun h13731 => ?_, fun h13731 => ?_⟩
                · have o13732 : (0 ≤ (0 : Int32).toInt) ∧ ((0 : Int32).toInt ≤ 1) := by have := (by decide : ((0 : Int32)).toInt = 0); exact ⟨by (first | omega | sorry), by (first | omega | sorry)⟩
                  exact hQ _ _ hI (FR.refl _ w)  o13732.1 o13732.2
                · exfalso; have := (by decide : ((0 : Int32)).toInt = 0); have := (by decide : ((1 : Int32)).toInt = 1); have := (by decide : ((2 : Int32)).toInt = 2); have := (by decide : ((3 : Int32)).toInt = 3); have := (by decide : ((4 : Int32)).toInt = 4); (first | omega | sorry)
          · refine ⟨fun h13733 => ?_, fun h13733 => ?_⟩
            · have o13734 : (0 ≤ (0 : Int32).toInt) ∧ ((0 : Int32).toInt ≤ 1) := by have := (by decide : ((0 : Int32)).toInt = 0); exact ⟨by (first | omega | sorry), by (first | omega | sorry)⟩
              exact hQ _ _ hI (FR.refl _ w)  o13734.1 o13734.2
            · refine ⟨fun h13735 => ?_, fun h13735 => ?_⟩
              · refine ⟨fun h13736 => ?_, fun h13736 => ?_⟩
                · have o13737 : (0 ≤ (0 : Int32).toInt) ∧ ((0 : Int32).toInt ≤ 1) := by have := (by decide : ((0 : Int32)).toInt = 0); exact ⟨by (first | omega | sorry), by (first | omega | sorry)⟩
                  exact hQ _ _ hI (FR.refl _ w)  o13737.1 o13737.2
                · have o13738 : (0 ≤ (1 : Int32).toInt) ∧ ((1 : Int32).toInt ≤ 1) := by have := (by decide : ((1 : Int32)).toInt = 1); exact ⟨by (first | omega | sorry), by (first | omega | sorry)⟩
                  exact hQ _ _ hI (FR.refl _ w)  o13738.1 o13738.2
              · refine ⟨fun h13739 => ?_, fun h13739 => ?_⟩
                · refine ⟨fun h13740 => ?_, fun h13740 => ?_⟩
                  · have o13741 : (0 ≤ (0 : Int32).toInt) ∧ ((0 : Int32).toInt ≤ 1) := by have := (by decide : ((0 : Int32)).toInt = 0); exact ⟨by (first | omega | sorry), by (first | omega | sorry)⟩
                    exact hQ _ _ hI (FR.refl _ w)  o13741.1 o13741.2
                  · refine ⟨fun h13742 => ?_, fun h13742 => ?_⟩
                    · have o13743 : (0 ≤ (0 : Int32).toInt) ∧ ((0 : Int32).toInt ≤ 1) := by have := (by decide : ((0 : Int32)).toInt = 0); exact ⟨by (first | omega | sorry), by (first | omega | sorry)⟩
                      exact hQ _ _ hI (FR.refl _ w)  o13743.1 o13743.2
                    · have o13744 : (0 ≤ (1 : Int32).toInt) ∧ ((1 : Int32).toInt ≤ 1) := by have := (by decide : ((1 : Int32)).toInt = 1); exact ⟨by (first | omega | sorry), by (first | omega | sorry)⟩
                      exact hQ _ _ hI (FR.refl _ w)  o13744.1 o13744.2
                · exfalso; have := (by decide : ((0 : Int32)).toInt = 0); have := (by decide : ((1 : Int32)).toInt = 1); have := (by decide : ((2 : Int32)).toInt = 2); have := (by decide : ((3 : Int32)).toInt = 3); have := (by decide : ((4 : Int32)).toInt = 4); have := (by decide : ((5 : Int32)).toInt = 5); have := (by decide : ((6 : Int32)).toInt = 6); have := (by decide : ((7 : Int32)).toInt = 7); (first | omega | sorry)
set_option maxRecDepth 20000 in
set_option maxHeartbeats 2000000 in
theorem h_Mo_passes {w : MW} {a0 : Int32} {b0 : Int32} {c0 : Int32} {e0 : Int32} {Q : Int32 → MW → Prop} (hI : BND w) (hp0 : 0 ≤ a0.toInt) (hp1 : a0.toInt ≤ 7) (hp2 : 0 ≤ b0.toInt) (hp3 : b0.toInt ≤ 9) (hQ : ∀ (r : Int32) (w' : MW), BND w' → FR l_Mo_passes w w' → 0 ≤ r.toInt → r.toInt ≤ 1 → Q r w') : p_Mo_passes w a0 b0 c0 e0 Q := by
  refine Eq.mpr (p_Mo_passes.eq_1 _ _ _ _ _ _) ?_
  refine ⟨fun h13745 => ?_, fun h13745 => ?_⟩
  · refine Eq.mpr (q_Mo_passes_22.eq_1 _ _ _ _ _ _ _) ?_
    refine ⟨fun h13746 => ?_, fun h13746 => ?_⟩
    · have o13747 : (0 ≤ a0.toInt) ∧ (a0.toInt ≤ 7) ∧ (0 ≤ b0.toInt) ∧ (b0.toInt ≤ 9) ∧ (0 ≤ (0 : Int32).toInt) ∧ ((0 : Int32).toInt ≤ 1) := by have := ti_lo c0; have := ti_hi c0; have := ti_lo e0; have := ti_hi e0; have := (by decide : ((0 : Int32)).toInt = 0); have := True.intro; exact ⟨by (first | omega | sorry), by (first | omega | sorry), by (first | omega | sorry), by (first | omega | sorry), by (first | omega | sorry), by (first | omega | sorry)⟩
      exact hq_Mo_passes_45 hI  o13747.1 o13747.2.1 o13747.2.2.1 o13747.2.2.2.1 o13747.2.2.2.2.1 o13747.2.2.2.2.2 (fun r w9 hI9 hF9 q0 q1 => hQ r w9 hI9 ((FR.refl _ w).tr hF9 rfl) (by have := ti_lo c0; have := ti_hi c0; have := ti_lo e0; have := ti_hi e0; have := (by decide : ((0 : Int32)).toInt = 0); have := True.intro; (first | omega | sorry)) (by have := ti_lo c0; have := ti_hi c0; have := ti_lo e0; have := ti_hi e0; have := (by decide : ((0 : Int32)).toInt = 0); have := True.intro; (first | omega | sorry)))
    · refine ⟨fun h13748 => ?_, fun h13748 => ?_⟩
      · have o13749 : (0 ≤ a0.toInt) ∧ (a0.toInt ≤ 7) ∧ (0 ≤ b0.toInt) ∧ (b0.toInt ≤ 9) ∧ (0 ≤ (0 : Int32).toInt) ∧ ((0 : Int32).toInt ≤ 1) := by have := ti_lo c0; have := ti_hi c0; have := ti_lo e0; have := ti_hi e0; have := (by decide : ((0 : Int32)).toInt = 0); have := True.intro; exact ⟨by (first | omega | sorry), by (first | omega | sorry), by (first | omega | sorry), by (first | omega | sorry), by (first | omega | sorry), by (first | omega | sorry)⟩
        exact hq_Mo_passes_45 hI  o13749.1 o13749.2.1 o13749.2.2.1 o13749.2.2.2.1 o13749.2.2.2.2.1 o13749.2.2.2.2.2 (fun r w9 hI9 hF9 q0 q1 => hQ r w9 hI9 ((FR.refl _ w).tr hF9 rfl) (by have := ti_lo c0; have := ti_hi c0; have := ti_lo e0; have := ti_hi e0; have := (by decide : ((0 : Int32)).toInt = 0); have := True.intro; (first | omega | sorry)) (by have := ti_lo c0; have := ti_hi c0; have := ti_lo e0; have := ti_hi e0; have := (by decide : ((0 : Int32)).toInt = 0); have := True.intro; (first | omega | sorry)))
      · have o13750 : (0 ≤ a0.toInt) ∧ (a0.toInt ≤ 7) ∧ (0 ≤ b0.toInt) ∧ (b0.toInt ≤ 9) ∧ (0 ≤ (1 : Int32).toInt) ∧ ((1 : Int32).toInt ≤ 1) := by have := ti_lo c0; have := ti_hi c0; have := ti_lo e0; have := ti_hi e0; have := (by decide : ((1 : Int32)).toInt = 1); have := True.intro; have := (by decide : ((0 : Int32)).toInt = 0); exact ⟨by (first | omega | sorry), by (first | omega | sorry), by (first | omega | sorry), by (first | omega | sorry), by (first | omega | sorry), by (first | omega | sorry)⟩
        exact hq_Mo_passes_45 hI  o13750.1 o13750.2.1 o13750.2.2.1 o13750.2.2.2.1 o13750.2.2.2.2.1 o13750.2.2.2.2.2 (fun r w9 hI9 hF9 q0 q1 => hQ r w9 hI9 ((FR.refl _ w).tr hF9 rfl) (by have := ti_lo c0; have := ti_hi c0; have := ti_lo e0; have := ti_hi e0; have := (by decide : ((1 : Int32)).toInt = 1); have := True.intro; have := (by decide : ((0 : Int32)).toInt = 0); (first | omega | sorry)) (by have := ti_lo c0; have := ti_hi c0; have := ti_lo e0; have := ti_hi e0; have := (by decide : ((1 : Int32)).toInt = 1); have := True.intro; have := (by decide : ((0 : Int32)).toInt = 0); (first | omega | sorry)))
  · refine Eq.mpr (q_Mo_passes_22.eq_1 _ _ _ _ _ _ _) ?_
    refine ⟨fun h13751 => ?_, fun h13751 => ?_⟩
    · have o13752 : (0 ≤ a0.toInt) ∧ (a0.toInt ≤ 7) ∧ (0 ≤ b0.toInt) ∧ (b0.toInt ≤ 9) ∧ (0 ≤ (0 : Int32).toInt) ∧ ((0 : Int32).toInt ≤ 1) := by have := (by decide : ((0 : Int32)).toInt = 0); have := ti_add2 (Eq.refl c0.toInt) (by decide : ((1 : Int32)).toInt = 1) (by (first | omega | sorry)) (by (first | omega | sorry)); exact ⟨by (first | omega | sorry), by (first | omega | sorry), by (first | omega | sorry), by (first | omega | sorry), by (first | omega | sorry), by (first | omega | sorry)⟩
      exact hq_Mo_passes_45 hI  o13752.1 o13752.2.1 o13752.2.2.1 o13752.2.2.2.1 o13752.2.2.2.2.1 o13752.2.2.2.2.2 (fun r w9 hI9 hF9 q0 q1 => hQ r w9 hI9 ((FR.refl _ w).tr hF9 rfl) (by have := (by decide : ((0 : Int32)).toInt = 0); have := ti_add2 (Eq.refl c0.toInt) (by decide : ((1 : Int32)).toInt = 1) (by (first | omega | sorry)) (by (first | omega | sorry)); (first | omega | sorry)) (by have := (by decide : ((0 : Int32)).toInt = 0); have := ti_add2 (Eq.refl c0.toInt) (by decide : ((1 : Int32)).toInt = 1) (by (first | omega | sorry)) (by (first | omega | sorry)); (first | omega | sorry)))
    · refine ⟨fun h13753 => ?_, fun h13753 => ?_⟩
      · have o13754 : (0 ≤ a0.toInt) ∧ (a0.toInt ≤ 7) ∧ (0 ≤ b0.toInt) ∧ (b0.toInt ≤ 9) ∧ (0 ≤ (0 : Int32).toInt) ∧ ((0 : Int32).toInt ≤ 1) := by have := (by decide : ((0 : Int32)).toInt = 0); have := ti_add2 (Eq.refl c0.toInt) (by decide : ((1 : Int32)).toInt = 1) (by (first | omega | sorry)) (by (first | omega | sorry)); exact ⟨by (first | omega | sorry), by (first | omega | sorry), by (first | omega | sorry), by (first | omega | sorry), by (first | omega | sorry), by (first | omega | sorry)⟩
        exact hq_Mo_passes_45 hI  o13754.1 o13754.2.1 o13754.2.2.1 o13754.2.2.2.1 o13754.2.2.2.2.1 o13754.2.2.2.2.2 (fun r w9 hI9 hF9 q0 q1 => hQ r w9 hI9 ((FR.refl _ w).tr hF9 rfl) (by have := (by decide : ((0 : Int32)).toInt = 0); have := ti_add2 (Eq.refl c0.toInt) (by decide : ((1 : Int32)).toInt = 1) (by (first | omega | sorry)) (by (first | omega | sorry)); (first | omega | sorry)) (by have := (by decide : ((0 : Int32)).toInt = 0); have := ti_add2 (Eq.refl c0.toInt) (by decide : ((1 : Int32)).toInt = 1) (by (first | omega | sorry)) (by (first | omega | sorry)); (first | omega | sorry)))
      · have o13755 : (0 ≤ a0.toInt) ∧ (a0.toInt ≤ 7) ∧ (0 ≤ b0.toInt) ∧ (b0.toInt ≤ 9) ∧ (0 ≤ (1 : Int32).toInt) ∧ ((1 : Int32).toInt ≤ 1) := by have := (by decide : ((1 : Int32)).toInt = 1); have := ti_add2 (Eq.refl c0.toInt) (by decide : ((1 : Int32)).toInt = 1) (by (first | omega | sorry)) (by (first | omega | sorry)); have := (by decide : ((0 : Int32)).toInt = 0); exact ⟨by (first | omega | sorry), by (first | omega | sorry), by (first | omega | sorry), by (first | omega | sorry), by (first | omega | sorry), by (first | omega | sorry)⟩
        exact hq_Mo_passes_45 hI  o13755.1 o13755.2.1 o13755.2.2.1 o13755.2.2.2.1 o13755.2.2.2.2.1 o13755.2.2.2.2.2 (fun r w9 hI9 hF9 q0 q1 => hQ r w9 hI9 ((FR.refl _ w).tr hF9 rfl) (by have := (by decide : ((1 : Int32)).toInt = 1); have := ti_add2 (Eq.refl c0.toInt) (by decide : ((1 : Int32)).toInt = 1) (by (first | omega | sorry)) (by (first | omega | sorry)); have := (by decide : ((0 : Int32)).toInt = 0); (first | omega | sorry)) (by have := (by decide : ((1 : Int32)).toInt = 1); have := ti_add2 (Eq.refl c0.toInt) (by decide : ((1 : Int32)).toInt = 1) (by (first | omega | sorry)) (by (first | omega | sorry)); have := (by decide : ((0 : Int32)).toInt = 0); (first | omega | sorry)))
def l_Mo_join_2 : Pl := [(195, none)]
def l_Mo_join_197 : Pl := [(195, none)]
def l_Mo_join_96 : Pl := [(195, none)]
def l_Mo_join_30 : Pl := [(195, none)]
def l_Mo_join : Pl := [(195, none)]
set_option maxRecDepth 20000 in
set_option maxHeartbeats 2000000 in
theorem hq_Mo_join_2 {E : MW → Prop} {Q : MW → Prop} (n : Nat) : ∀ (x2_1 : Int32) (w : MW), BND w → 0 ≤ x2_1.toInt → x2_1.toInt ≤ 44 → (44 - x2_1.toInt).toNat < n → (∀ (w' : MW), BND w' → FR l_Mo_join_2 w w' → E w') → (∀ (w' : MW), BND w' → FR l_Mo_join_2 w w' → False → Q w') → q_Mo_join_2 E Q n x2_1 w := by
  induction n with
  | zero => intros; (first | omega | sorry)
  | succ n ih =>
    intro x2_1 w hI  hp0 hp1 hm hE hQ
    rw [q_Mo_join_2.eq_2]
    refine ⟨fun h13756 => ?_, fun h13756 => ?_⟩
    · exact hE _ hI (FR.refl _ w)
    · have o13757 : 0 ≤ x2_1.toInt ∧ x2_1.toInt < 44 := by have := bd_127_4 hI; have := bd_127_11 hI; have := ti_add2 (Eq.refl (w.1 127 4).toInt) (Eq.refl (w.1 127 11).toInt) (by (first | omega | sorry)) (by (first | omega | sorry)); (first | omega | sorry)
      refine ⟨o13757, ?_⟩
      have o13758 : (0 ≤ (x2_1 + (1 : Int32)).toInt) ∧ ((x2_1 + (1 : Int32)).toInt ≤ 44) := by have := ti_add2 (Eq.refl x2_1.toInt) (by decide : ((1 : Int32)).toInt = 1) (by (first | omega | sorry)) (by (first | omega | sorry)); have := bd_127_4 hI; have := bd_127_11 hI; have := ti_add2 (Eq.refl (w.1 127 4).toInt) (Eq.refl (w.1 127 11).toInt) (by (first | omega | sorry)) (by (first | omega | sorry)); exact ⟨by (first | omega | sorry), by (first | omega | sorry)⟩
      exact ih _ (sJ w 195 x2_1.toInt.toNat 0) (bnd_J hI (k := 195) (j := x2_1.toInt.toNat) (v := 0))  o13758.1 o13758.2 (by have := ti_add2 (Eq.refl x2_1.toInt) (by decide : ((1 : Int32)).toInt = 1) (by (first | omega | sorry)) (by (first | omega | sorry)); have := bd_127_4 hI; have := bd_127_11 hI; have := ti_add2 (Eq.refl (w.1 127 4).toInt) (Eq.refl (w.1 127 11).toInt) (by (first | omega | sorry)) (by (first | omega | sorry)); (first | omega | sorry)) (fun w9 hI9 hF9 => hE w9 hI9 ((FR.J (FR.refl _ w) (k := 195) (j := x2_1.toInt.toNat) (v := 0) rfl).tr hF9 rfl) ) (fun w9 hI9 hF9 q0 => q0.elim)
set_option maxRecDepth 20000 in
set_option maxHeartbeats 2000000 in
theorem hq_Mo_join_96 {x96_1 : Int32} {x96_2 : Int32} {x96_3 : Int32} {E : MW → Prop} {Q : MW → Prop} (n : Nat) : ∀ (x96_4 : Int32) (w : MW), BND w → 0 ≤ x96_1.toInt → x96_1.toInt ≤ 47 → (-1) ≤ x96_2.toInt → x96_2.toInt ≤ 19 → 0 ≤ x96_3.toInt → x96_3.toInt ≤ 43 → 0 ≤ x96_4.toInt → x96_4.toInt ≤ 48 → (48 - x96_4.toInt).toNat < n → (∀ (w' : MW), BND w' → FR l_Mo_join_96 w w' → E w') → (∀ (w' : MW), BND w' → FR l_Mo_join_96 w w' → False → Q w') → q_Mo_join_96 x96_1 x96_2 x96_3 E Q n x96_4 w := by
  induction n with
  | zero => intros; (first | omega | sorry)
  | succ n ih =>
    intro x96_4 w hI  hp0 hp1 hp2 hp3 hp4 hp5 hp6 hp7 hm hE hQ
    rw [q_Mo_join_96.eq_2]
    refine ⟨fun h13759 => ?_, fun h13759 => ?_⟩
    · exact hE _ hI (FR.refl _ w)
    · refine ⟨fun h13760 => ?_, fun h13760 => ?_⟩
      · exact hE _ hI (FR.refl _ w)
      · have o13761 : 0 ≤ x96_2.toInt ∧ x96_2.toInt < 20 := by have := (by decide : ((0 : Int32)).toInt = 0); (first | omega | sorry)
        refine ⟨o13761, ?_⟩
        refine ⟨fun h13762 => ?_, fun h13762 => ?_⟩
        · exact hE _ hI (FR.refl _ w)
        · have o13763 : 0 ≤ x96_4.toInt ∧ x96_4.toInt < 48 := by have := bd_127_11 hI; have := ti_mul2 (by decide : ((2 : Int32)).toInt = 2) (Eq.refl (w.1 127 11).toInt) (by (first | omega | sorry)) (by (first | omega | sorry)); (first | omega | sorry)
          refine ⟨o13763, ?_⟩
          refine ⟨fun h13764 => ?_, fun h13764 => ?_⟩
          · refine Eq.mpr (q_Mo_join_197.eq_1 _ _ _ _ _ _ _ _ _) ?_
            refine ⟨fun _ => ?_, fun h => absurd (by decide) h⟩
            have o13765 : (0 ≤ x96_1.toInt) ∧ (x96_1.toInt ≤ 47) ∧ ((-1) ≤ x96_2.toInt) ∧ (x96_2.toInt ≤ 19) ∧ (0 ≤ x96_3.toInt) ∧ (x96_3.toInt ≤ 43) ∧ (0 ≤ (x96_4 + (1 : Int32)).toInt) ∧ ((x96_4 + (1 : Int32)).toInt ≤ 48) := by have := ti_add2 (Eq.refl x96_4.toInt) (by decide : ((1 : Int32)).toInt = 1) (by (first | omega | sorry)) (by (first | omega | sorry)); have := bd_127_11 hI; have := ti_mul2 (by decide : ((2 : Int32)).toInt = 2) (Eq.refl (w.1 127 11).toInt) (by (first | omega | sorry)) (by (first | omega | sorry)); exact ⟨by (first | omega | sorry), by (first | omega | sorry), by (first | omega | sorry), by (first | omega | sorry), by (first | omega | sorry), by (first | omega | sorry), by (first | omega | sorry), by (first | omega | sorry)⟩
            exact ih _ w hI  o13765.1 o13765.2.1 o13765.2.2.1 o13765.2.2.2.1 o13765.2.2.2.2.1 o13765.2.2.2.2.2.1 o13765.2.2.2.2.2.2.1 o13765.2.2.2.2.2.2.2 (by have := ti_add2 (Eq.refl x96_4.toInt) (by decide : ((1 : Int32)).toInt = 1) (by (first | omega | sorry)) (by (first | omega | sorry)); have := bd_127_11 hI; have := ti_mul2 (by decide : ((2 : Int32)).toInt = 2) (Eq.refl (w.1 127 11).toInt) (by (first | omega | sorry)) (by (first | omega | sorry)); (first | omega | sorry)) (fun w9 hI9 hF9 => hE w9 hI9 ((FR.refl _ w).tr hF9 rfl) ) (fun w9 hI9 hF9 q0 => q0.elim)
          · refine ⟨fun h13766 => ?_, fun h13766 => ?_⟩
            · refine Eq.mpr (q_Mo_join_197.eq_1 _ _ _ _ _ _ _ _ _) ?_
              refine ⟨fun _ => ?_, fun h => absurd (by decide) h⟩
              have o13767 : (0 ≤ x96_1.toInt) ∧ (x96_1.toInt ≤ 47) ∧ ((-1) ≤ x96_2.toInt) ∧ (x96_2.toInt ≤ 19) ∧ (0 ≤ x96_3.toInt) ∧ (x96_3.toInt ≤ 43) ∧ (0 ≤ (x96_4 + (1 : Int32)).toInt) ∧ ((x96_4 + (1 : Int32)).toInt ≤ 48) := by have := ti_add2 (Eq.refl x96_4.toInt) (by decide : ((1 : Int32)).toInt = 1) (by (first | omega | sorry)) (by (first | omega | sorry)); have := bd_127_11 hI; have := ti_mul2 (by decide : ((2 : Int32)).toInt = 2) (Eq.refl (w.1 127 11).toInt) (by (first | omega | sorry)) (by (first | omega | sorry)); exact ⟨by (first | omega | sorry), by (first | omega | sorry), by (first | omega | sorry), by (first | omega | sorry), by (first | omega | sorry), by (first | omega | sorry), by (first | omega | sorry), by (first | omega | sorry)⟩
              exact ih _ w hI  o13767.1 o13767.2.1 o13767.2.2.1 o13767.2.2.2.1 o13767.2.2.2.2.1 o13767.2.2.2.2.2.1 o13767.2.2.2.2.2.2.1 o13767.2.2.2.2.2.2.2 (by have := ti_add2 (Eq.refl x96_4.toInt) (by decide : ((1 : Int32)).toInt = 1) (by (first | omega | sorry)) (by (first | omega | sorry)); have := bd_127_11 hI; have := ti_mul2 (by decide : ((2 : Int32)).toInt = 2) (Eq.refl (w.1 127 11).toInt) (by (first | omega | sorry)) (by (first | omega | sorry)); (first | omega | sorry)) (fun w9 hI9 hF9 => hE w9 hI9 ((FR.refl _ w).tr hF9 rfl) ) (fun w9 hI9 hF9 q0 => q0.elim)
            · have o13768 : 0 ≤ x96_2.toInt ∧ x96_2.toInt < 20 := by have := (by decide : ((0 : Int32)).toInt = 0); have := bd_170 hI x96_4.toInt.toNat; (first | omega | sorry)
              refine ⟨o13768, ?_⟩
              refine ⟨fun h13769 => ?_, fun h13769 => ?_⟩
              · have o13770 : 0 ≤ x96_2.toInt ∧ x96_2.toInt < 20 := by have := (by decide : ((0 : Int32)).toInt = 0); have := bd_170 hI x96_4.toInt.toNat; (first | omega | sorry)
                refine ⟨o13770, ?_⟩
                have o13771 : 0 ≤ x96_2.toInt ∧ x96_2.toInt < 20 := by have := (by decide : ((0 : Int32)).toInt = 0); have := bd_170 hI x96_4.toInt.toNat; (first | omega | sorry)
                refine ⟨o13771, ?_⟩
                have o13772 : 0 ≤ x96_1.toInt ∧ x96_1.toInt < 48 := by have := bd_127_11 hI; have := ti_mul2 (by decide : ((2 : Int32)).toInt = 2) (Eq.refl (w.1 127 11).toInt) (by (first | omega | sorry)) (by (first | omega | sorry)); (first | omega | sorry)
                refine ⟨o13772, ?_⟩
                have o13773 : 0 ≤ x96_4.toInt ∧ x96_4.toInt < 48 := by have := bd_127_11 hI; have := ti_mul2 (by decide : ((2 : Int32)).toInt = 2) (Eq.refl (w.1 127 11).toInt) (by (first | omega | sorry)) (by (first | omega | sorry)); (first | omega | sorry)
                refine ⟨o13773, ?_⟩
                have o13774 : (0 ≤ ((w.1 163 x96_2.toInt.toNat) - (2 : Int32)).toInt) ∧ (((w.1 163 x96_2.toInt.toNat) - (2 : Int32)).toInt ≤ 7) ∧ (0 ≤ (w.1 167 x96_2.toInt.toNat).toInt) ∧ ((w.1 167 x96_2.toInt.toNat).toInt ≤ 9) := by have := bd_163 hI x96_2.toInt.toNat; have := ti_sub2 (Eq.refl (w.1 163 x96_2.toInt.toNat).toInt) (by decide : ((2 : Int32)).toInt = 2) (by (first | omega | sorry)) (by (first | omega | sorry)); have := bd_167 hI x96_2.toInt.toNat; have := (by decide : ((0 : Int32)).toInt = 0); have := (by decide : ((1 : Int32)).toInt = 1); exact ⟨by (first | omega | sorry), by (first | omega | sorry), by (first | omega | sorry), by (first | omega | sorry)⟩
                refine h_Mo_passes hI  o13774.1 o13774.2.1 o13774.2.2.1 o13774.2.2.2 (fun r13778 w13775 hI13776 hL13777 p13779 p13780 => ?_)
                have hF13781 : FR l_Mo_join_96 w w13775 := (FR.refl _ w).tr hL13777 rfl
                refine ⟨fun h13782 => ?_, fun h13782 => ?_⟩
                · refine Eq.mpr (q_Mo_join_197.eq_1 _ _ _ _ _ _ _ _ _) ?_
                  refine ⟨fun _ => ?_, fun h => absurd (by decide) h⟩
                  have o13783 : (0 ≤ x96_1.toInt) ∧ (x96_1.toInt ≤ 47) ∧ ((-1) ≤ x96_2.toInt) ∧ (x96_2.toInt ≤ 19) ∧ (0 ≤ x96_3.toInt) ∧ (x96_3.toInt ≤ 43) ∧ (0 ≤ (x96_4 + (1 : Int32)).toInt) ∧ ((x96_4 + (1 : Int32)).toInt ≤ 48) := by have := ti_add2 (Eq.refl x96_4.toInt) (by decide : ((1 : Int32)).toInt = 1) (by (first | omega | sorry)) (by (first | omega | sorry)); have := bd_127_11 hI; have := ti_mul2 (by decide : ((2 : Int32)).toInt = 2) (Eq.refl (w.1 127 11).toInt) (by (first | omega | sorry)) (by (first | omega | sorry)); exact ⟨by (first | omega | sorry), by (first | omega | sorry), by (first | omega | sorry), by (first | omega | sorry), by (first | omega | sorry), by (first | omega | sorry), by (first | omega | sorry), by (first | omega | sorry)⟩
                  exact ih _ w13775 hI13776  o13783.1 o13783.2.1 o13783.2.2.1 o13783.2.2.2.1 o13783.2.2.2.2.1 o13783.2.2.2.2.2.1 o13783.2.2.2.2.2.2.1 o13783.2.2.2.2.2.2.2 (by have := ti_add2 (Eq.refl x96_4.toInt) (by decide : ((1 : Int32)).toInt = 1) (by (first | omega | sorry)) (by (first | omega | sorry)); have := bd_127_11 hI; have := ti_mul2 (by decide : ((2 : Int32)).toInt = 2) (Eq.refl (w.1 127 11).toInt) (by (first | omega | sorry)) (by (first | omega | sorry)); (first | omega | sorry)) (fun w9 hI9 hF9 => hE w9 hI9 (hF13781.tr hF9 rfl) ) (fun w9 hI9 hF9 q0 => q0.elim)
                · refine Eq.mpr (q_Mo_join_197.eq_1 _ _ _ _ _ _ _ _ _) ?_
                  refine ⟨fun h => absurd h (by decide), fun _ => ?_⟩
                  have o13784 : 0 ≤ x96_3.toInt ∧ x96_3.toInt < 44 := by (first | omega | sorry)
                  refine ⟨o13784, ?_⟩
                  have o13785 : 0 ≤ x96_3.toInt ∧ x96_3.toInt < 44 := by (first | omega | sorry)
                  refine ⟨o13785, ?_⟩
                  have o13786 : (0 ≤ x96_1.toInt) ∧ (x96_1.toInt ≤ 47) ∧ ((-1) ≤ x96_2.toInt) ∧ (x96_2.toInt ≤ 19) ∧ (0 ≤ x96_3.toInt) ∧ (x96_3.toInt ≤ 43) ∧ (0 ≤ (x96_4 + (1 : Int32)).toInt) ∧ ((x96_4 + (1 : Int32)).toInt ≤ 48) := by have := ti_add2 (Eq.refl x96_4.toInt) (by decide : ((1 : Int32)).toInt = 1) (by (first | omega | sorry)) (by (first | omega | sorry)); have := bd_127_11 hI; have := ti_mul2 (by decide : ((2 : Int32)).toInt = 2) (Eq.refl (w.1 127 11).toInt) (by (first | omega | sorry)) (by (first | omega | sorry)); exact ⟨by (first | omega | sorry), by (first | omega | sorry), by (first | omega | sorry), by (first | omega | sorry), by (first | omega | sorry), by (first | omega | sorry), by (first | omega | sorry), by (first | omega | sorry)⟩
                  exact ih _ (sJ w13775 195 x96_3.toInt.toNat ((w13775.2.1 195 x96_3.toInt.toNat) ||| ((1 : Int64) <<< (((w13775.1 127 4) + (x96_4 / (2 : Int32))).toInt64 &&& 63)))) (bnd_J hI13776 (k := 195) (j := x96_3.toInt.toNat) (v := ((w13775.2.1 195 x96_3.toInt.toNat) ||| ((1 : Int64) <<< (((w13775.1 127 4) + (x96_4 / (2 : Int32))).toInt64 &&& 63)))))  o13786.1 o13786.2.1 o13786.2.2.1 o13786.2.2.2.1 o13786.2.2.2.2.1 o13786.2.2.2.2.2.1 o13786.2.2.2.2.2.2.1 o13786.2.2.2.2.2.2.2 (by have := ti_add2 (Eq.refl x96_4.toInt) (by decide : ((1 : Int32)).toInt = 1) (by (first | omega | sorry)) (by (first | omega | sorry)); have := bd_127_11 hI; have := ti_mul2 (by decide : ((2 : Int32)).toInt = 2) (Eq.refl (w.1 127 11).toInt) (by (first | omega | sorry)) (by (first | omega | sorry)); (first | omega | sorry)) (fun w9 hI9 hF9 => hE w9 hI9 ((FR.J hF13781 (k := 195) (j := x96_3.toInt.toNat) (v := ((w13775.2.1 195 x96_3.toInt.toNat) ||| ((1 : Int64) <<< (((w13775.1 127 4) + (x96_4 / (2 : Int32))).toInt64 &&& 63)))) rfl).tr hF9 rfl) ) (fun w9 hI9 hF9 q0 => q0.elim)
              · have o13787 : 0 ≤ x96_1.toInt ∧ x96_1.toInt < 48 := by have := bd_127_11 hI; have := ti_mul2 (by decide : ((2 : Int32)).toInt = 2) (Eq.refl (w.1 127 11).toInt) (by (first | omega | sorry)) (by (first | omega | sorry)); (first | omega | sorry)
                refine ⟨o13787, ?_⟩
                refine ⟨fun h13788 => ?_, fun h13788 => ?_⟩
                · refine Eq.mpr (q_Mo_join_197.eq_1 _ _ _ _ _ _ _ _ _) ?_
                  refine ⟨fun _ => ?_, fun h => absurd (by decide) h⟩
                  have o13789 : (0 ≤ x96_1.toInt) ∧ (x96_1.toInt ≤ 47) ∧ ((-1) ≤ x96_2.toInt) ∧ (x96_2.toInt ≤ 19) ∧ (0 ≤ x96_3.toInt) ∧ (x96_3.toInt ≤ 43) ∧ (0 ≤ (x96_4 + (1 : Int32)).toInt) ∧ ((x96_4 + (1 : Int32)).toInt ≤ 48) := by have := ti_add2 (Eq.refl x96_4.toInt) (by decide : ((1 : Int32)).toInt = 1) (by (first | omega | sorry)) (by (first | omega | sorry)); have := bd_127_11 hI; have := ti_mul2 (by decide : ((2 : Int32)).toInt = 2) (Eq.refl (w.1 127 11).toInt) (by (first | omega | sorry)) (by (first | omega | sorry)); exact ⟨by (first | omega | sorry), by (first | omega | sorry), by (first | omega | sorry), by (first | omega | sorry), by (first | omega | sorry), by (first | omega | sorry), by (first | omega | sorry), by (first | omega | sorry)⟩
                  exact ih _ w hI  o13789.1 o13789.2.1 o13789.2.2.1 o13789.2.2.2.1 o13789.2.2.2.2.1 o13789.2.2.2.2.2.1 o13789.2.2.2.2.2.2.1 o13789.2.2.2.2.2.2.2 (by have := ti_add2 (Eq.refl x96_4.toInt) (by decide : ((1 : Int32)).toInt = 1) (by (first | omega | sorry)) (by (first | omega | sorry)); have := bd_127_11 hI; have := ti_mul2 (by decide : ((2 : Int32)).toInt = 2) (Eq.refl (w.1 127 11).toInt) (by (first | omega | sorry)) (by (first | omega | sorry)); (first | omega | sorry)) (fun w9 hI9 hF9 => hE w9 hI9 ((FR.refl _ w).tr hF9 rfl) ) (fun w9 hI9 hF9 q0 => q0.elim)
                · refine Eq.mpr (q_Mo_join_197.eq_1 _ _ _ _ _ _ _ _ _) ?_
                  refine ⟨fun h => absurd h (by decide), fun _ => ?_⟩
                  have o13790 : 0 ≤ x96_3.toInt ∧ x96_3.toInt < 44 := by (first | omega | sorry)
                  refine ⟨o13790, ?_⟩
                  have o13791 : 0 ≤ x96_3.toInt ∧ x96_3.toInt < 44 := by (first | omega | sorry)
                  refine ⟨o13791, ?_⟩
                  have o13792 : (0 ≤ x96_1.toInt) ∧ (x96_1.toInt ≤ 47) ∧ ((-1) ≤ x96_2.toInt) ∧ (x96_2.toInt ≤ 19) ∧ (0 ≤ x96_3.toInt) ∧ (x96_3.toInt ≤ 43) ∧ (0 ≤ (x96_4 + (1 : Int32)).toInt) ∧ ((x96_4 + (1 : Int32)).toInt ≤ 48) := by have := ti_add2 (Eq.refl x96_4.toInt) (by decide : ((1 : Int32)).toInt = 1) (by (first | omega | sorry)) (by (first | omega | sorry)); have := bd_127_11 hI; have := ti_mul2 (by decide : ((2 : Int32)).toInt = 2) (Eq.refl (w.1 127 11).toInt) (by (first | omega | sorry)) (by (first | omega | sorry)); exact ⟨by (first | omega | sorry), by (first | omega | sorry), by (first | omega | sorry), by (first | omega | sorry), by (first | omega | sorry), by (first | omega | sorry), by (first | omega | sorry), by (first | omega | sorry)⟩
                  exact ih _ (sJ w 195 x96_3.toInt.toNat ((w.2.1 195 x96_3.toInt.toNat) ||| ((1 : Int64) <<< (((w.1 127 4) + (x96_4 / (2 : Int32))).toInt64 &&& 63)))) (bnd_J hI (k := 195) (j := x96_3.toInt.toNat) (v := ((w.2.1 195 x96_3.toInt.toNat) ||| ((1 : Int64) <<< (((w.1 127 4) + (x96_4 / (2 : Int32))).toInt64 &&& 63)))))  o13792.1 o13792.2.1 o13792.2.2.1 o13792.2.2.2.1 o13792.2.2.2.2.1 o13792.2.2.2.2.2.1 o13792.2.2.2.2.2.2.1 o13792.2.2.2.2.2.2.2 (by have := ti_add2 (Eq.refl x96_4.toInt) (by decide : ((1 : Int32)).toInt = 1) (by (first | omega | sorry)) (by (first | omega | sorry)); have := bd_127_11 hI; have := ti_mul2 (by decide : ((2 : Int32)).toInt = 2) (Eq.refl (w.1 127 11).toInt) (by (first | omega | sorry)) (by (first | omega | sorry)); (first | omega | sorry)) (fun w9 hI9 hF9 => hE w9 hI9 ((FR.J (FR.refl _ w) (k := 195) (j := x96_3.toInt.toNat) (v := ((w.2.1 195 x96_3.toInt.toNat) ||| ((1 : Int64) <<< (((w.1 127 4) + (x96_4 / (2 : Int32))).toInt64 &&& 63)))) rfl).tr hF9 rfl) ) (fun w9 hI9 hF9 q0 => q0.elim)
set_option maxRecDepth 20000 in
set_option maxHeartbeats 2000000 in
theorem hq_Mo_join_30 {E : MW → Prop} {Q : MW → Prop} (n : Nat) : ∀ (x30_1 : Int32) (w : MW), BND w → 0 ≤ x30_1.toInt → x30_1.toInt ≤ 48 → (48 - x30_1.toInt).toNat < n → (∀ (w' : MW), BND w' → FR l_Mo_join_30 w w' → E w') → (∀ (w' : MW), BND w' → FR l_Mo_join_30 w w' → False → Q w') → q_Mo_join_30 E Q n x30_1 w := by
  induction n with
  | zero => intros; (first | omega | sorry)
  | succ n ih =>
    intro x30_1 w hI  hp0 hp1 hm hE hQ
    rw [q_Mo_join_30.eq_2]
    refine ⟨fun h13793 => ?_, fun h13793 => ?_⟩
    · exact hE _ hI (FR.refl _ w)
    · have o13794 : 0 ≤ x30_1.toInt ∧ x30_1.toInt < 48 := by have := bd_127_11 hI; have := ti_mul2 (by decide : ((2 : Int32)).toInt = 2) (Eq.refl (w.1 127 11).toInt) (by (first | omega | sorry)) (by (first | omega | sorry)); (first | omega | sorry)
      refine ⟨o13794, ?_⟩
      refine ⟨fun h13795 => ?_, fun h13795 => ?_⟩
      · have o13796 : (0 ≤ x30_1.toInt) ∧ (x30_1.toInt ≤ 47) ∧ ((-1) ≤ (w.1 170 x30_1.toInt.toNat).toInt) ∧ ((w.1 170 x30_1.toInt.toNat).toInt ≤ 19) ∧ (0 ≤ ((w.1 127 4) + (x30_1 / (2 : Int32))).toInt) ∧ (((w.1 127 4) + (x30_1 / (2 : Int32))).toInt ≤ 43) ∧ (0 ≤ (0 : Int32).toInt) ∧ ((0 : Int32).toInt ≤ 48) := by have := bd_170 hI x30_1.toInt.toNat; have := bd_127_4 hI; have := nb_div (x := x30_1) (by (first | omega | sorry)) (by decide : ((2 : Int32)).toInt = 2) (by decide); have := ti_add2 (Eq.refl (w.1 127 4).toInt) (Eq.refl (x30_1 / (2 : Int32)).toInt) (by (first | omega | sorry)) (by (first | omega | sorry)); have := (by decide : ((0 : Int32)).toInt = 0); have := bd_127_11 hI; have := ti_mul2 (by decide : ((2 : Int32)).toInt = 2) (Eq.refl (w.1 127 11).toInt) (by (first | omega | sorry)) (by (first | omega | sorry)); exact ⟨by (first | omega | sorry), by (first | omega | sorry), by (first | omega | sorry), by (first | omega | sorry), by (first | omega | sorry), by (first | omega | sorry), by (first | omega | sorry), by (first | omega | sorry)⟩
        refine hq_Mo_join_96 FU _ w hI  o13796.1 o13796.2.1 o13796.2.2.1 o13796.2.2.2.1 o13796.2.2.2.2.1 o13796.2.2.2.2.2.1 o13796.2.2.2.2.2.2.1 o13796.2.2.2.2.2.2.2 (fu_lt (by have := bd_170 hI x30_1.toInt.toNat; have := bd_127_4 hI; have := nb_div (x := x30_1) (by (first | omega | sorry)) (by decide : ((2 : Int32)).toInt = 2) (by decide); have := ti_add2 (Eq.refl (w.1 127 4).toInt) (Eq.refl (x30_1 / (2 : Int32)).toInt) (by (first | omega | sorry)) (by (first | omega | sorry)); have := (by decide : ((0 : Int32)).toInt = 0); have := bd_127_11 hI; have := ti_mul2 (by decide : ((2 : Int32)).toInt = 2) (Eq.refl (w.1 127 11).toInt) (by (first | omega | sorry)) (by (first | omega | sorry)); (first | omega | sorry))) (fun w13797 hI13798 hL13799  => ?_) (fun w9 hI9 hF9 q0 => q0.elim)
        have hF13800 : FR l_Mo_join_30 w w13797 := (FR.refl _ w).tr hL13799 rfl
        have o13801 : (0 ≤ (x30_1 + (1 : Int32)).toInt) ∧ ((x30_1 + (1 : Int32)).toInt ≤ 48) := by have := ti_add2 (Eq.refl x30_1.toInt) (by decide : ((1 : Int32)).toInt = 1) (by (first | omega | sorry)) (by (first | omega | sorry)); have := bd_127_11 hI; have := ti_mul2 (by decide : ((2 : Int32)).toInt = 2) (Eq.refl (w.1 127 11).toInt) (by (first | omega | sorry)) (by (first | omega | sorry)); exact ⟨by (first | omega | sorry), by (first | omega | sorry)⟩
        exact ih _ w13797 hI13798  o13801.1 o13801.2 (by have := ti_add2 (Eq.refl x30_1.toInt) (by decide : ((1 : Int32)).toInt = 1) (by (first | omega | sorry)) (by (first | omega | sorry)); have := bd_127_11 hI; have := ti_mul2 (by decide : ((2 : Int32)).toInt = 2) (Eq.refl (w.1 127 11).toInt) (by (first | omega | sorry)) (by (first | omega | sorry)); (first | omega | sorry)) (fun w9 hI9 hF9 => hE w9 hI9 (hF13800.tr hF9 rfl) ) (fun w9 hI9 hF9 q0 => q0.elim)
      · have o13802 : 0 ≤ (w.1 170 x30_1.toInt.toNat).toInt ∧ (w.1 170 x30_1.toInt.toNat).toInt < 20 := by have := bd_170 hI x30_1.toInt.toNat; have := (by decide : ((0 : Int32)).toInt = 0); (first | omega | sorry)
        refine ⟨o13802, ?_⟩
        refine ⟨fun h13803 => ?_, fun h13803 => ?_⟩
        · have o13804 : (0 ≤ x30_1.toInt) ∧ (x30_1.toInt ≤ 47) ∧ ((-1) ≤ (w.1 170 x30_1.toInt.toNat).toInt) ∧ ((w.1 170 x30_1.toInt.toNat).toInt ≤ 19) ∧ (0 ≤ ((w.1 127 4) + (x30_1 / (2 : Int32))).toInt) ∧ (((w.1 127 4) + (x30_1 / (2 : Int32))).toInt ≤ 43) ∧ (0 ≤ (0 : Int32).toInt) ∧ ((0 : Int32).toInt ≤ 48) := by have := bd_170 hI x30_1.toInt.toNat; have := bd_127_4 hI; have := nb_div (x := x30_1) (by (first | omega | sorry)) (by decide : ((2 : Int32)).toInt = 2) (by decide); have := ti_add2 (Eq.refl (w.1 127 4).toInt) (Eq.refl (x30_1 / (2 : Int32)).toInt) (by (first | omega | sorry)) (by (first | omega | sorry)); have := (by decide : ((0 : Int32)).toInt = 0); have := bd_127_11 hI; have := ti_mul2 (by decide : ((2 : Int32)).toInt = 2) (Eq.refl (w.1 127 11).toInt) (by (first | omega | sorry)) (by (first | omega | sorry)); exact ⟨by (first | omega | sorry), by (first | omega | sorry), by (first | omega | sorry), by (first | omega | sorry), by (first | omega | sorry), by (first | omega | sorry), by (first | omega | sorry), by (first | omega | sorry)⟩
          refine hq_Mo_join_96 FU _ w hI  o13804.1 o13804.2.1 o13804.2.2.1 o13804.2.2.2.1 o13804.2.2.2.2.1 o13804.2.2.2.2.2.1 o13804.2.2.2.2.2.2.1 o13804.2.2.2.2.2.2.2 (fu_lt (by have := bd_170 hI x30_1.toInt.toNat; have := bd_127_4 hI; have := nb_div (x := x30_1) (by (first | omega | sorry)) (by decide : ((2 : Int32)).toInt = 2) (by decide); have := ti_add2 (Eq.refl (w.1 127 4).toInt) (Eq.refl (x30_1 / (2 : Int32)).toInt) (by (first | omega | sorry)) (by (first | omega | sorry)); have := (by decide : ((0 : Int32)).toInt = 0); have := bd_127_11 hI; have := ti_mul2 (by decide : ((2 : Int32)).toInt = 2) (Eq.refl (w.1 127 11).toInt) (by (first | omega | sorry)) (by (first | omega | sorry)); (first | omega | sorry))) (fun w13805 hI13806 hL13807  => ?_) (fun w9 hI9 hF9 q0 => q0.elim)
          have hF13808 : FR l_Mo_join_30 w w13805 := (FR.refl _ w).tr hL13807 rfl
          have o13809 : (0 ≤ (x30_1 + (1 : Int32)).toInt) ∧ ((x30_1 + (1 : Int32)).toInt ≤ 48) := by have := ti_add2 (Eq.refl x30_1.toInt) (by decide : ((1 : Int32)).toInt = 1) (by (first | omega | sorry)) (by (first | omega | sorry)); have := bd_127_11 hI; have := ti_mul2 (by decide : ((2 : Int32)).toInt = 2) (Eq.refl (w.1 127 11).toInt) (by (first | omega | sorry)) (by (first | omega | sorry)); exact ⟨by (first | omega | sorry), by (first | omega | sorry)⟩
          exact ih _ w13805 hI13806  o13809.1 o13809.2 (by have := ti_add2 (Eq.refl x30_1.toInt) (by decide : ((1 : Int32)).toInt = 1) (by (first | omega | sorry)) (by (first | omega | sorry)); have := bd_127_11 hI; have := ti_mul2 (by decide : ((2 : Int32)).toInt = 2) (Eq.refl (w.1 127 11).toInt) (by (first | omega | sorry)) (by (first | omega | sorry)); (first | omega | sorry)) (fun w9 hI9 hF9 => hE w9 hI9 (hF13808.tr hF9 rfl) ) (fun w9 hI9 hF9 q0 => q0.elim)
        · have o13810 : 0 ≤ ((w.1 127 4) + (x30_1 / (2 : Int32))).toInt ∧ ((w.1 127 4) + (x30_1 / (2 : Int32))).toInt < 44 := by have := bd_127_4 hI; have := nb_div (x := x30_1) (by (first | omega | sorry)) (by decide : ((2 : Int32)).toInt = 2) (by decide); have := ti_add2 (Eq.refl (w.1 127 4).toInt) (Eq.refl (x30_1 / (2 : Int32)).toInt) (by (first | omega | sorry)) (by (first | omega | sorry)); have := bd_127_11 hI; have := ti_mul2 (by decide : ((2 : Int32)).toInt = 2) (Eq.refl (w.1 127 11).toInt) (by (first | omega | sorry)) (by (first | omega | sorry)); (first | omega | sorry)
          refine ⟨o13810, ?_⟩
          have o13811 : 0 ≤ ((w.1 127 4) + (x30_1 / (2 : Int32))).toInt ∧ ((w.1 127 4) + (x30_1 / (2 : Int32))).toInt < 44 := by have := bd_127_4 hI; have := nb_div (x := x30_1) (by (first | omega | sorry)) (by decide : ((2 : Int32)).toInt = 2) (by decide); have := ti_add2 (Eq.refl (w.1 127 4).toInt) (Eq.refl (x30_1 / (2 : Int32)).toInt) (by (first | omega | sorry)) (by (first | omega | sorry)); have := bd_127_11 hI; have := ti_mul2 (by decide : ((2 : Int32)).toInt = 2) (Eq.refl (w.1 127 11).toInt) (by (first | omega | sorry)) (by (first | omega | sorry)); (first | omega | sorry)
          refine ⟨o13811, ?_⟩
          have o13812 : 0 ≤ (w.1 170 x30_1.toInt.toNat).toInt ∧ (w.1 170 x30_1.toInt.toNat).toInt < 44 := by have := bd_170 hI x30_1.toInt.toNat; have := (by decide : ((0 : Int32)).toInt = 0); (first | omega | sorry)
          refine ⟨o13812, ?_⟩
          have o13813 : 0 ≤ (w.1 170 x30_1.toInt.toNat).toInt ∧ (w.1 170 x30_1.toInt.toNat).toInt < 44 := by have := bd_170 hI x30_1.toInt.toNat; have := (by decide : ((0 : Int32)).toInt = 0); (first | omega | sorry)
          refine ⟨o13813, ?_⟩
          have o13814 : (0 ≤ x30_1.toInt) ∧ (x30_1.toInt ≤ 47) ∧ ((-1) ≤ (w.1 170 x30_1.toInt.toNat).toInt) ∧ ((w.1 170 x30_1.toInt.toNat).toInt ≤ 19) ∧ (0 ≤ ((w.1 127 4) + (x30_1 / (2 : Int32))).toInt) ∧ (((w.1 127 4) + (x30_1 / (2 : Int32))).toInt ≤ 43) ∧ (0 ≤ (0 : Int32).toInt) ∧ ((0 : Int32).toInt ≤ 48) := by have := bd_170 hI x30_1.toInt.toNat; have := bd_127_4 hI; have := nb_div (x := x30_1) (by (first | omega | sorry)) (by decide : ((2 : Int32)).toInt = 2) (by decide); have := ti_add2 (Eq.refl (w.1 127 4).toInt) (Eq.refl (x30_1 / (2 : Int32)).toInt) (by (first | omega | sorry)) (by (first | omega | sorry)); have := (by decide : ((0 : Int32)).toInt = 0); have := bd_127_11 hI; have := ti_mul2 (by decide : ((2 : Int32)).toInt = 2) (Eq.refl (w.1 127 11).toInt) (by (first | omega | sorry)) (by (first | omega | sorry)); exact ⟨by (first | omega | sorry), by (first | omega | sorry), by (first | omega | sorry), by (first | omega | sorry), by (first | omega | sorry), by (first | omega | sorry), by (first | omega | sorry), by (first | omega | sorry)⟩
          refine hq_Mo_join_96 FU _ (sJ (sJ w 195 (((w.1 127 4) + (x30_1 / (2 : Int32))).toInt.toNat) ((w.2.1 195 (((w.1 127 4) + (x30_1 / (2 : Int32))).toInt.toNat)) ||| ((1 : Int64) <<< ((w.1 170 x30_1.toInt.toNat).toInt64 &&& 63)))) 195 ((w.1 170 x30_1.toInt.toNat).toInt.toNat) (((sJ w 195 (((w.1 127 4) + (x30_1 / (2 : Int32))).toInt.toNat) ((w.2.1 195 (((w.1 127 4) + (x30_1 / (2 : Int32))).toInt.toNat)) ||| ((1 : Int64) <<< ((w.1 170 x30_1.toInt.toNat).toInt64 &&& 63)))).2.1 195 ((w.1 170 x30_1.toInt.toNat).toInt.toNat)) ||| ((1 : Int64) <<< (((w.1 127 4) + (x30_1 / (2 : Int32))).toInt64 &&& 63)))) (bnd_J (bnd_J hI (k := 195) (j := ((w.1 127 4) + (x30_1 / (2 : Int32))).toInt.toNat) (v := ((w.2.1 195 (((w.1 127 4) + (x30_1 / (2 : Int32))).toInt.toNat)) ||| ((1 : Int64) <<< ((w.1 170 x30_1.toInt.toNat).toInt64 &&& 63))))) (k := 195) (j := (w.1 170 x30_1.toInt.toNat).toInt.toNat) (v := (((sJ w 195 (((w.1 127 4) + (x30_1 / (2 : Int32))).toInt.toNat) ((w.2.1 195 (((w.1 127 4) + (x30_1 / (2 : Int32))).toInt.toNat)) ||| ((1 : Int64) <<< ((w.1 170 x30_1.toInt.toNat).toInt64 &&& 63)))).2.1 195 ((w.1 170 x30_1.toInt.toNat).toInt.toNat)) ||| ((1 : Int64) <<< (((w.1 127 4) + (x30_1 / (2 : Int32))).toInt64 &&& 63)))))  o13814.1 o13814.2.1 o13814.2.2.1 o13814.2.2.2.1 o13814.2.2.2.2.1 o13814.2.2.2.2.2.1 o13814.2.2.2.2.2.2.1 o13814.2.2.2.2.2.2.2 (fu_lt (by have := bd_170 hI x30_1.toInt.toNat; have := bd_127_4 hI; have := nb_div (x := x30_1) (by (first | omega | sorry)) (by decide : ((2 : Int32)).toInt = 2) (by decide); have := ti_add2 (Eq.refl (w.1 127 4).toInt) (Eq.refl (x30_1 / (2 : Int32)).toInt) (by (first | omega | sorry)) (by (first | omega | sorry)); have := (by decide : ((0 : Int32)).toInt = 0); have := bd_127_11 hI; have := ti_mul2 (by decide : ((2 : Int32)).toInt = 2) (Eq.refl (w.1 127 11).toInt) (by (first | omega | sorry)) (by (first | omega | sorry)); (first | omega | sorry))) (fun w13815 hI13816 hL13817  => ?_) (fun w9 hI9 hF9 q0 => q0.elim)
          have hF13818 : FR l_Mo_join_30 w w13815 := (FR.J (FR.J (FR.refl _ w) (k := 195) (j := ((w.1 127 4) + (x30_1 / (2 : Int32))).toInt.toNat) (v := ((w.2.1 195 (((w.1 127 4) + (x30_1 / (2 : Int32))).toInt.toNat)) ||| ((1 : Int64) <<< ((w.1 170 x30_1.toInt.toNat).toInt64 &&& 63)))) rfl) (k := 195) (j := (w.1 170 x30_1.toInt.toNat).toInt.toNat) (v := (((sJ w 195 (((w.1 127 4) + (x30_1 / (2 : Int32))).toInt.toNat) ((w.2.1 195 (((w.1 127 4) + (x30_1 / (2 : Int32))).toInt.toNat)) ||| ((1 : Int64) <<< ((w.1 170 x30_1.toInt.toNat).toInt64 &&& 63)))).2.1 195 ((w.1 170 x30_1.toInt.toNat).toInt.toNat)) ||| ((1 : Int64) <<< (((w.1 127 4) + (x30_1 / (2 : Int32))).toInt64 &&& 63)))) rfl).tr hL13817 rfl
          have o13819 : (0 ≤ (x30_1 + (1 : Int32)).toInt) ∧ ((x30_1 + (1 : Int32)).toInt ≤ 48) := by have := ti_add2 (Eq.refl x30_1.toInt) (by decide : ((1 : Int32)).toInt = 1) (by (first | omega | sorry)) (by (first | omega | sorry)); have := bd_127_11 hI; have := ti_mul2 (by decide : ((2 : Int32)).toInt = 2) (Eq.refl (w.1 127 11).toInt) (by (first | omega | sorry)) (by (first | omega | sorry)); exact ⟨by (first | omega | sorry), by (first | omega | sorry)⟩
          exact ih _ w13815 hI13816  o13819.1 o13819.2 (by have := ti_add2 (Eq.refl x30_1.toInt) (by decide : ((1 : Int32)).toInt = 1) (by (first | omega | sorry)) (by (first | omega | sorry)); have := bd_127_11 hI; have := ti_mul2 (by decide : ((2 : Int32)).toInt = 2) (Eq.refl (w.1 127 11).toInt) (by (first | omega | sorry)) (by (first | omega | sorry)); (first | omega | sorry)) (fun w9 hI9 hF9 => hE w9 hI9 (hF13818.tr hF9 rfl) ) (fun w9 hI9 hF9 q0 => q0.elim)
set_option maxRecDepth 20000 in
set_option maxHeartbeats 2000000 in
theorem h_Mo_join {w : MW} {Q : MW → Prop} (hI : BND w)  (hQ : ∀ (w' : MW), BND w' → FR l_Mo_join w w' → Q w') : p_Mo_join w Q := by
  refine Eq.mpr (p_Mo_join.eq_1 _ _) ?_
  have o13820 : (0 ≤ (0 : Int32).toInt) ∧ ((0 : Int32).toInt ≤ 44) := by have := (by decide : ((0 : Int32)).toInt = 0); exact ⟨by (first | omega | sorry), by (first | omega | sorry)⟩
  refine hq_Mo_join_2 FU _ w hI  o13820.1 o13820.2 (fu_lt (by have := (by decide : ((0 : Int32)).toInt = 0); (first | omega | sorry))) (fun w13821 hI13822 hL13823  => ?_) (fun w9 hI9 hF9 q0 => q0.elim)
  have hF13824 : FR l_Mo_join w w13821 := (FR.refl _ w).tr hL13823 rfl
  have o13825 : (0 ≤ (0 : Int32).toInt) ∧ ((0 : Int32).toInt ≤ 48) := by have := (by decide : ((0 : Int32)).toInt = 0); exact ⟨by (first | omega | sorry), by (first | omega | sorry)⟩
  refine hq_Mo_join_30 FU _ w13821 hI13822  o13825.1 o13825.2 (fu_lt (by have := (by decide : ((0 : Int32)).toInt = 0); (first | omega | sorry))) (fun w13826 hI13827 hL13828  => ?_) (fun w9 hI9 hF9 q0 => q0.elim)
  have hF13829 : FR l_Mo_join w w13826 := hF13824.tr hL13828 rfl
  exact hQ _ hI13827 hF13829 
def l_Mo_liquidIn_49 : Pl := []
def l_Mo_liquidIn : Pl := []
set_option maxRecDepth 20000 in
set_option maxHeartbeats 2000000 in
theorem hq_Mo_liquidIn_49 {x49_2 : Int32} {E : Int32 → MW → Prop} {Q : Int32 → MW → Prop} (n : Nat) : ∀ (x49_3 : Int32) (x49_4 : Int32) (w : MW), BND w → 0 ≤ x49_2.toInt → x49_2.toInt ≤ 23 → 0 ≤ x49_3.toInt → x49_3.toInt ≤ 15 → 0 ≤ x49_4.toInt → x49_4.toInt ≤ 200 → (200 - x49_4.toInt).toNat < n → (∀ (e49_3 : Int32) (w' : MW), BND w' → FR l_Mo_liquidIn_49 w w' → 0 ≤ e49_3.toInt → e49_3.toInt ≤ 15 → E e49_3 w') → (∀ (r : Int32) (w' : MW), BND w' → FR l_Mo_liquidIn_49 w w' → False → Q r w') → q_Mo_liquidIn_49 x49_2 E Q n x49_3 x49_4 w := by
  induction n with
  | zero => intros; (first | omega | sorry)
  | succ n ih =>
    intro x49_3 x49_4 w hI  hp0 hp1 hp2 hp3 hp4 hp5 hm hE hQ
    rw [q_Mo_liquidIn_49.eq_2]
    have o13830 : 0 ≤ x49_2.toInt ∧ x49_2.toInt < 24 := by (first | omega | sorry)
    refine ⟨o13830, ?_⟩
    refine ⟨fun h13831 => ?_, fun h13831 => ?_⟩
    · have o13832 : (0 ≤ x49_3.toInt) ∧ (x49_3.toInt ≤ 15) := by exact ⟨by (first | omega | sorry), by (first | omega | sorry)⟩
      exact hE _ _ hI (FR.refl _ w) o13832.1 o13832.2
    · have o13833 : 0 ≤ (((200 : Int32) * x49_2) + x49_4).toInt ∧ (((200 : Int32) * x49_2) + x49_4).toInt < 4800 := by have := ti_mul2 (by decide : ((200 : Int32)).toInt = 200) (Eq.refl x49_2.toInt) (by (first | omega | sorry)) (by (first | omega | sorry)); have := ti_add2 (Eq.refl ((200 : Int32) * x49_2).toInt) (Eq.refl x49_4.toInt) (by (first | omega | sorry)) (by (first | omega | sorry)); have := bd_169 hI x49_2.toInt.toNat; (first | omega | sorry)
      refine ⟨o13833, ?_⟩
      refine ⟨fun h13834 => ?_, fun h13834 => ?_⟩
      · have o13835 : (0 ≤ x49_2.toInt) ∧ (x49_2.toInt ≤ 23) ∧ (0 ≤ x49_3.toInt) ∧ (x49_3.toInt ≤ 15) ∧ (0 ≤ (x49_4 + (1 : Int32)).toInt) ∧ ((x49_4 + (1 : Int32)).toInt ≤ 200) := by have := ti_add2 (Eq.refl x49_4.toInt) (by decide : ((1 : Int32)).toInt = 1) (by (first | omega | sorry)) (by (first | omega | sorry)); have := bd_169 hI x49_2.toInt.toNat; exact ⟨by (first | omega | sorry), by (first | omega | sorry), by (first | omega | sorry), by (first | omega | sorry), by (first | omega | sorry), by (first | omega | sorry)⟩
        exact ih _ _ w hI  o13835.1 o13835.2.1 o13835.2.2.1 o13835.2.2.2.1 o13835.2.2.2.2.1 o13835.2.2.2.2.2 (by have := ti_add2 (Eq.refl x49_4.toInt) (by decide : ((1 : Int32)).toInt = 1) (by (first | omega | sorry)) (by (first | omega | sorry)); have := bd_169 hI x49_2.toInt.toNat; (first | omega | sorry)) (fun e0 w9 hI9 hF9 p0 p1 => hE e0 w9 hI9 ((FR.refl _ w).tr hF9 rfl) p0 p1 ) (fun r w9 hI9 hF9 q0 => q0.elim)
      · refine ⟨fun h13836 => ?_, fun h13836 => ?_⟩
        · refine ⟨fun h13837 => ?_, fun h13837 => ?_⟩
          · have o13838 : (0 ≤ x49_2.toInt) ∧ (x49_2.toInt ≤ 23) ∧ (0 ≤ (15 : Int32).toInt) ∧ ((15 : Int32).toInt ≤ 15) ∧ (0 ≤ (x49_4 + (1 : Int32)).toInt) ∧ ((x49_4 + (1 : Int32)).toInt ≤ 200) := by have := (by decide : ((15 : Int32)).toInt = 15); have := ti_add2 (Eq.refl x49_4.toInt) (by decide : ((1 : Int32)).toInt = 1) (by (first | omega | sorry)) (by (first | omega | sorry)); have := bd_169 hI x49_2.toInt.toNat; exact ⟨by (first | omega | sorry), by (first | omega | sorry), by (first | omega | sorry), by (first | omega | sorry), by (first | omega | sorry), by (first | omega | sorry)⟩
            exact ih _ _ w hI  o13838.1 o13838.2.1 o13838.2.2.1 o13838.2.2.2.1 o13838.2.2.2.2.1 o13838.2.2.2.2.2 (by have := (by decide : ((15 : Int32)).toInt = 15); have := ti_add2 (Eq.refl x49_4.toInt) (by decide : ((1 : Int32)).toInt = 1) (by (first | omega | sorry)) (by (first | omega | sorry)); have := bd_169 hI x49_2.toInt.toNat; (first | omega | sorry)) (fun e0 w9 hI9 hF9 p0 p1 => hE e0 w9 hI9 ((FR.refl _ w).tr hF9 rfl) p0 p1 ) (fun r w9 hI9 hF9 q0 => q0.elim)
          · have o13839 : (0 ≤ x49_2.toInt) ∧ (x49_2.toInt ≤ 23) ∧ (0 ≤ (w.1 172 ((((200 : Int32) * x49_2) + x49_4).toInt.toNat)).toInt) ∧ ((w.1 172 ((((200 : Int32) * x49_2) + x49_4).toInt.toNat)).toInt ≤ 15) ∧ (0 ≤ (x49_4 + (1 : Int32)).toInt) ∧ ((x49_4 + (1 : Int32)).toInt ≤ 200) := by have := bd_172 hI ((((200 : Int32) * x49_2) + x49_4).toInt.toNat); have := ti_add2 (Eq.refl x49_4.toInt) (by decide : ((1 : Int32)).toInt = 1) (by (first | omega | sorry)) (by (first | omega | sorry)); have := bd_169 hI x49_2.toInt.toNat; have := (by decide : ((0 : Int32)).toInt = 0); exact ⟨by (first | omega | sorry), by (first | omega | sorry), by (first | omega | sorry), by (first | omega | sorry), by (first | omega | sorry), by (first | omega | sorry)⟩
            exact ih _ _ w hI  o13839.1 o13839.2.1 o13839.2.2.1 o13839.2.2.2.1 o13839.2.2.2.2.1 o13839.2.2.2.2.2 (by have := bd_172 hI ((((200 : Int32) * x49_2) + x49_4).toInt.toNat); have := ti_add2 (Eq.refl x49_4.toInt) (by decide : ((1 : Int32)).toInt = 1) (by (first | omega | sorry)) (by (first | omega | sorry)); have := bd_169 hI x49_2.toInt.toNat; have := (by decide : ((0 : Int32)).toInt = 0); (first | omega | sorry)) (fun e0 w9 hI9 hF9 p0 p1 => hE e0 w9 hI9 ((FR.refl _ w).tr hF9 rfl) p0 p1 ) (fun r w9 hI9 hF9 q0 => q0.elim)
        · have o13840 : (0 ≤ x49_2.toInt) ∧ (x49_2.toInt ≤ 23) ∧ (0 ≤ x49_3.toInt) ∧ (x49_3.toInt ≤ 15) ∧ (0 ≤ (x49_4 + (1 : Int32)).toInt) ∧ ((x49_4 + (1 : Int32)).toInt ≤ 200) := by have := ti_add2 (Eq.refl x49_4.toInt) (by decide : ((1 : Int32)).toInt = 1) (by (first | omega | sorry)) (by (first | omega | sorry)); have := bd_169 hI x49_2.toInt.toNat; have := bd_172 hI ((((200 : Int32) * x49_2) + x49_4).toInt.toNat); have := (by decide : ((0 : Int32)).toInt = 0); exact ⟨by (first | omega | sorry), by (first | omega | sorry), by (first | omega | sorry), by (first | omega | sorry), by (first | omega | sorry), by (first | omega | sorry)⟩
          exact ih _ _ w hI  o13840.1 o13840.2.1 o13840.2.2.1 o13840.2.2.2.1 o13840.2.2.2.2.1 o13840.2.2.2.2.2 (by have := ti_add2 (Eq.refl x49_4.toInt) (by decide : ((1 : Int32)).toInt = 1) (by (first | omega | sorry)) (by (first | omega | sorry)); have := bd_169 hI x49_2.toInt.toNat; have := bd_172 hI ((((200 : Int32) * x49_2) + x49_4).toInt.toNat); have := (by decide : ((0 : Int32)).toInt = 0); (first | omega | sorry)) (fun e0 w9 hI9 hF9 p0 p1 => hE e0 w9 hI9 ((FR.refl _ w).tr hF9 rfl) p0 p1 ) (fun r w9 hI9 hF9 q0 => q0.elim)
set_option maxRecDepth 20000 in
set_option maxHeartbeats 2000000 in
theorem h_Mo_liquidIn {w : MW} {a0 : Int32} {Q : Int32 → MW → Prop} (hI : BND w) (hp0 : 0 ≤ a0.toInt) (hp1 : a0.toInt ≤ 43) (hp2 : a0.toInt < (w.1 127 4).toInt + (w.1 127 11).toInt) (hQ : ∀ (r : Int32) (w' : MW), BND w' → FR l_Mo_liquidIn w w' → 0 ≤ r.toInt → r.toInt ≤ 15 → Q r w') : p_Mo_liquidIn w a0 Q := by
  refine Eq.mpr (p_Mo_liquidIn.eq_1 _ _ _) ?_
  refine ⟨fun h13841 => ?_, fun h13841 => ?_⟩
  · have o13842 : (0 ≤ (a0 - (w.1 127 4)).toInt) ∧ ((a0 - (w.1 127 4)).toInt ≤ 23) ∧ (0 ≤ (0 : Int32).toInt) ∧ ((0 : Int32).toInt ≤ 15) ∧ (0 ≤ (0 : Int32).toInt) ∧ ((0 : Int32).toInt ≤ 200) := by have := bd_127_4 hI; have := ti_sub2 (Eq.refl a0.toInt) (Eq.refl (w.1 127 4).toInt) (by (first | omega | sorry)) (by (first | omega | sorry)); have := (by decide : ((0 : Int32)).toInt = 0); have := bd_127_11 hI; exact ⟨by (first | omega | sorry), by (first | omega | sorry), by (first | omega | sorry), by (first | omega | sorry), by (first | omega | sorry), by (first | omega | sorry)⟩
    refine hq_Mo_liquidIn_49 FU _ _ w hI  o13842.1 o13842.2.1 o13842.2.2.1 o13842.2.2.2.1 o13842.2.2.2.2.1 o13842.2.2.2.2.2 (fu_lt (by have := bd_127_4 hI; have := ti_sub2 (Eq.refl a0.toInt) (Eq.refl (w.1 127 4).toInt) (by (first | omega | sorry)) (by (first | omega | sorry)); have := (by decide : ((0 : Int32)).toInt = 0); have := bd_127_11 hI; (first | omega | sorry))) (fun e13846 w13843 hI13844 hL13845 p13847 p13848 => ?_) (fun r w9 hI9 hF9 q0 => q0.elim)
    have hF13849 : FR l_Mo_liquidIn w w13843 := (FR.refl _ w).tr hL13845 rfl
    have o13850 : (0 ≤ e13846.toInt) ∧ (e13846.toInt ≤ 15) := by exact ⟨by (first | omega | sorry), by (first | omega | sorry)⟩
    exact hQ _ _ hI13844 hF13849  o13850.1 o13850.2
  · have o13851 : 0 ≤ a0.toInt ∧ a0.toInt < 20 := by have := bd_127_4 hI; have := bd_127_11 hI; (first | omega | sorry)
    refine ⟨o13851, ?_⟩
    refine ⟨fun h13852 => ?_, fun h13852 => ?_⟩
    · have o13853 : (0 ≤ (0 : Int32).toInt) ∧ ((0 : Int32).toInt ≤ 15) := by have := (by decide : ((0 : Int32)).toInt = 0); exact ⟨by (first | omega | sorry), by (first | omega | sorry)⟩
      exact hQ _ _ hI (FR.refl _ w)  o13853.1 o13853.2
    · have o13854 : 0 ≤ a0.toInt ∧ a0.toInt < 20 := by have := bd_127_4 hI; have := bd_127_11 hI; (first | omega | sorry)
      refine ⟨o13854, ?_⟩
      refine ⟨fun h13855 => ?_, fun h13855 => ?_⟩
      · have o13856 : (0 ≤ (0 : Int32).toInt) ∧ ((0 : Int32).toInt ≤ 15) := by have := (by decide : ((0 : Int32)).toInt = 0); exact ⟨by (first | omega | sorry), by (first | omega | sorry)⟩
        exact hQ _ _ hI (FR.refl _ w)  o13856.1 o13856.2
      · have o13857 : 0 ≤ a0.toInt ∧ a0.toInt < 20 := by have := bd_127_4 hI; have := bd_127_11 hI; (first | omega | sorry)
        refine ⟨o13857, ?_⟩
        have o13858 : (0 ≤ (w.1 166 a0.toInt.toNat).toInt) ∧ ((w.1 166 a0.toInt.toNat).toInt ≤ 15) := by have := bd_166 hI a0.toInt.toNat; exact ⟨by (first | omega | sorry), by (first | omega | sorry)⟩
        exact hQ _ _ hI (FR.refl _ w)  o13858.1 o13858.2
def l_Mo_look_2 : Pl := [(194, none)]
def l_Mo_look_60 : Pl := [(194, none)]
def l_Mo_look_34 : Pl := [(194, none)]
def l_Mo_look : Pl := [(194, none)]
set_option maxRecDepth 20000 in
set_option maxHeartbeats 2000000 in
theorem hq_Mo_look_2 {E : MW → Prop} {Q : MW → Prop} (n : Nat) : ∀ (x2_1 : Int32) (w : MW), BND w → 0 ≤ x2_1.toInt → x2_1.toInt ≤ 44 → (44 - x2_1.toInt).toNat < n → (∀ (w' : MW), BND w' → FR l_Mo_look_2 w w' → E w') → (∀ (w' : MW), BND w' → FR l_Mo_look_2 w w' → False → Q w') → q_Mo_look_2 E Q n x2_1 w := by
  induction n with
  | zero => intros; (first | omega | sorry)
  | succ n ih =>
    intro x2_1 w hI  hp0 hp1 hm hE hQ
    rw [q_Mo_look_2.eq_2]
    refine ⟨fun h13859 => ?_, fun h13859 => ?_⟩
    · exact hE _ hI (FR.refl _ w)
    · have o13860 : (0 ≤ x2_1.toInt) ∧ (x2_1.toInt ≤ 43) ∧ (x2_1.toInt < (w.1 127 4).toInt + (w.1 127 11).toInt) := by have := bd_127_4 hI; have := bd_127_11 hI; have := ti_add2 (Eq.refl (w.1 127 4).toInt) (Eq.refl (w.1 127 11).toInt) (by (first | omega | sorry)) (by (first | omega | sorry)); exact ⟨by (first | omega | sorry), by (first | omega | sorry), by (first | omega | sorry)⟩
      refine h_Mo_liquidIn hI  o13860.1 o13860.2.1 o13860.2.2 (fun r13864 w13861 hI13862 hL13863 p13865 p13866 => ?_)
      have hF13867 : FR l_Mo_look_2 w w13861 := (FR.refl _ w).tr hL13863 rfl
      have o13868 : 0 ≤ x2_1.toInt ∧ x2_1.toInt < 44 := by have := bd_127_4 hI; have := bd_127_11 hI; have := ti_add2 (Eq.refl (w.1 127 4).toInt) (Eq.refl (w.1 127 11).toInt) (by (first | omega | sorry)) (by (first | omega | sorry)); (first | omega | sorry)
      refine ⟨o13868, ?_⟩
      have o13870 : 0 ≤ r13864.toInt ∧ r13864.toInt ≤ 15 := by (first | omega | sorry)
      have hI13869 : BND (sI w13861 194 x2_1.toInt.toNat r13864) := wbd_194 hI13862 x2_1.toInt.toNat o13870.1 o13870.2
      have o13871 : (0 ≤ (x2_1 + (1 : Int32)).toInt) ∧ ((x2_1 + (1 : Int32)).toInt ≤ 44) := by have := ti_add2 (Eq.refl x2_1.toInt) (by decide : ((1 : Int32)).toInt = 1) (by (first | omega | sorry)) (by (first | omega | sorry)); have := bd_127_4 hI; have := bd_127_11 hI; have := ti_add2 (Eq.refl (w.1 127 4).toInt) (Eq.refl (w.1 127 11).toInt) (by (first | omega | sorry)) (by (first | omega | sorry)); exact ⟨by (first | omega | sorry), by (first | omega | sorry)⟩
      exact ih _ (sI w13861 194 x2_1.toInt.toNat r13864) hI13869  o13871.1 o13871.2 (by have := ti_add2 (Eq.refl x2_1.toInt) (by decide : ((1 : Int32)).toInt = 1) (by (first | omega | sorry)) (by (first | omega | sorry)); have := bd_127_4 hI; have := bd_127_11 hI; have := ti_add2 (Eq.refl (w.1 127 4).toInt) (Eq.refl (w.1 127 11).toInt) (by (first | omega | sorry)) (by (first | omega | sorry)); (first | omega | sorry)) (fun w9 hI9 hF9 => hE w9 hI9 ((FR.I hF13867 (k := 194) (j := x2_1.toInt.toNat) (v := r13864) rfl).tr hF9 rfl) ) (fun w9 hI9 hF9 q0 => q0.elim)
set_option maxRecDepth 20000 in
set_option maxHeartbeats 2000000 in
theorem hq_Mo_look_60 {x60_1 : Int32} {E : MW → Prop} {Q : MW → Prop} (n : Nat) : ∀ (x60_2 : Int32) (w : MW), BND w → 0 ≤ x60_1.toInt → x60_1.toInt ≤ 23 → 0 ≤ x60_2.toInt → x60_2.toInt ≤ 24 → (24 - x60_2.toInt).toNat < n → (∀ (w' : MW), BND w' → FR l_Mo_look_60 w w' → E w') → (∀ (w' : MW), BND w' → FR l_Mo_look_60 w w' → False → Q w') → q_Mo_look_60 x60_1 E Q n x60_2 w := by
  induction n with
  | zero => intros; (first | omega | sorry)
  | succ n ih =>
    intro x60_2 w hI  hp0 hp1 hp2 hp3 hm hE hQ
    rw [q_Mo_look_60.eq_2]
    have o13872 : 0 ≤ x60_1.toInt ∧ x60_1.toInt < 24 := by (first | omega | sorry)
    refine ⟨o13872, ?_⟩
    refine ⟨fun h13873 => ?_, fun h13873 => ?_⟩
    · exact hE _ hI (FR.refl _ w)
    · have o13874 : 0 ≤ (((24 : Int32) * x60_1) + x60_2).toInt ∧ (((24 : Int32) * x60_1) + x60_2).toInt < 576 := by have := ti_mul2 (by decide : ((24 : Int32)).toInt = 24) (Eq.refl x60_1.toInt) (by (first | omega | sorry)) (by (first | omega | sorry)); have := ti_add2 (Eq.refl ((24 : Int32) * x60_1).toInt) (Eq.refl x60_2.toInt) (by (first | omega | sorry)) (by (first | omega | sorry)); have := bd_185 hI x60_1.toInt.toNat; (first | omega | sorry)
      refine ⟨o13874, ?_⟩
      have o13875 : 0 ≤ x60_1.toInt ∧ x60_1.toInt < 24 := by (first | omega | sorry)
      refine ⟨o13875, ?_⟩
      refine Eq.mpr (p_Mo_carry.eq_1 _ _ _ _) ?_
      have o13876 : 0 ≤ ((w.1 127 4) + ((w.1 186 ((((24 : Int32) * x60_1) + x60_2).toInt.toNat)) / (2 : Int32))).toInt ∧ ((w.1 127 4) + ((w.1 186 ((((24 : Int32) * x60_1) + x60_2).toInt.toNat)) / (2 : Int32))).toInt < 44 := by have := bd_127_4 hI; have := bd_186 hI ((((24 : Int32) * x60_1) + x60_2).toInt.toNat); have := nb_div (x := (w.1 186 ((((24 : Int32) * x60_1) + x60_2).toInt.toNat))) (by (first | omega | sorry)) (by decide : ((2 : Int32)).toInt = 2) (by decide); have := ti_add2 (Eq.refl (w.1 127 4).toInt) (Eq.refl ((w.1 186 ((((24 : Int32) * x60_1) + x60_2).toInt.toNat)) / (2 : Int32)).toInt) (by (first | omega | sorry)) (by (first | omega | sorry)); (first | omega | sorry)
      refine ⟨o13876, ?_⟩
      refine ⟨fun h13877 => ?_, fun h13877 => ?_⟩
      · have o13878 : 0 ≤ ((w.1 127 4) + ((w.1 186 ((((24 : Int32) * x60_1) + x60_2).toInt.toNat)) / (2 : Int32))).toInt ∧ ((w.1 127 4) + ((w.1 186 ((((24 : Int32) * x60_1) + x60_2).toInt.toNat)) / (2 : Int32))).toInt < 44 := by have := bd_127_4 hI; have := bd_186 hI ((((24 : Int32) * x60_1) + x60_2).toInt.toNat); have := nb_div (x := (w.1 186 ((((24 : Int32) * x60_1) + x60_2).toInt.toNat))) (by (first | omega | sorry)) (by decide : ((2 : Int32)).toInt = 2) (by decide); have := ti_add2 (Eq.refl (w.1 127 4).toInt) (Eq.refl ((w.1 186 ((((24 : Int32) * x60_1) + x60_2).toInt.toNat)) / (2 : Int32)).toInt) (by (first | omega | sorry)) (by (first | omega | sorry)); (first | omega | sorry)
        refine ⟨o13878, ?_⟩
        have o13879 : 0 ≤ ((w.1 127 4) + ((w.1 186 ((((24 : Int32) * x60_1) + x60_2).toInt.toNat)) / (2 : Int32))).toInt ∧ ((w.1 127 4) + ((w.1 186 ((((24 : Int32) * x60_1) + x60_2).toInt.toNat)) / (2 : Int32))).toInt < 44 := by have := bd_127_4 hI; have := bd_186 hI ((((24 : Int32) * x60_1) + x60_2).toInt.toNat); have := nb_div (x := (w.1 186 ((((24 : Int32) * x60_1) + x60_2).toInt.toNat))) (by (first | omega | sorry)) (by decide : ((2 : Int32)).toInt = 2) (by decide); have := ti_add2 (Eq.refl (w.1 127 4).toInt) (Eq.refl ((w.1 186 ((((24 : Int32) * x60_1) + x60_2).toInt.toNat)) / (2 : Int32)).toInt) (by (first | omega | sorry)) (by (first | omega | sorry)); (first | omega | sorry)
        refine ⟨o13879, ?_⟩
        have o13881 : 0 ≤ (w.1 194 (((w.1 127 4) + ((w.1 186 ((((24 : Int32) * x60_1) + x60_2).toInt.toNat)) / (2 : Int32))).toInt.toNat)).toInt ∧ (w.1 194 (((w.1 127 4) + ((w.1 186 ((((24 : Int32) * x60_1) + x60_2).toInt.toNat)) / (2 : Int32))).toInt.toNat)).toInt ≤ 15 := by have := bd_194 hI (((w.1 127 4) + ((w.1 186 ((((24 : Int32) * x60_1) + x60_2).toInt.toNat)) / (2 : Int32))).toInt.toNat); have := (by decide : ((0 : Int32)).toInt = 0); (first | omega | sorry)
        have hI13880 : BND (sI w 194 (((w.1 127 4) + ((w.1 186 ((((24 : Int32) * x60_1) + x60_2).toInt.toNat)) / (2 : Int32))).toInt.toNat) (w.1 194 (((w.1 127 4) + ((w.1 186 ((((24 : Int32) * x60_1) + x60_2).toInt.toNat)) / (2 : Int32))).toInt.toNat))) := wbd_194 hI (((w.1 127 4) + ((w.1 186 ((((24 : Int32) * x60_1) + x60_2).toInt.toNat)) / (2 : Int32))).toInt.toNat) o13881.1 o13881.2
        have o13882 : (0 ≤ x60_1.toInt) ∧ (x60_1.toInt ≤ 23) ∧ (0 ≤ (x60_2 + (1 : Int32)).toInt) ∧ ((x60_2 + (1 : Int32)).toInt ≤ 24) := by have := ti_add2 (Eq.refl x60_2.toInt) (by decide : ((1 : Int32)).toInt = 1) (by (first | omega | sorry)) (by (first | omega | sorry)); have := bd_185 hI x60_1.toInt.toNat; exact ⟨by (first | omega | sorry), by (first | omega | sorry), by (first | omega | sorry), by (first | omega | sorry)⟩
        exact ih _ (sI w 194 (((w.1 127 4) + ((w.1 186 ((((24 : Int32) * x60_1) + x60_2).toInt.toNat)) / (2 : Int32))).toInt.toNat) (w.1 194 (((w.1 127 4) + ((w.1 186 ((((24 : Int32) * x60_1) + x60_2).toInt.toNat)) / (2 : Int32))).toInt.toNat))) hI13880  o13882.1 o13882.2.1 o13882.2.2.1 o13882.2.2.2 (by have := ti_add2 (Eq.refl x60_2.toInt) (by decide : ((1 : Int32)).toInt = 1) (by (first | omega | sorry)) (by (first | omega | sorry)); have := bd_185 hI x60_1.toInt.toNat; (first | omega | sorry)) (fun w9 hI9 hF9 => hE w9 hI9 ((FR.I (FR.refl _ w) (k := 194) (j := ((w.1 127 4) + ((w.1 186 ((((24 : Int32) * x60_1) + x60_2).toInt.toNat)) / (2 : Int32))).toInt.toNat) (v := (w.1 194 (((w.1 127 4) + ((w.1 186 ((((24 : Int32) * x60_1) + x60_2).toInt.toNat)) / (2 : Int32))).toInt.toNat))) rfl).tr hF9 rfl) ) (fun w9 hI9 hF9 q0 => q0.elim)
      · have o13883 : 0 ≤ ((w.1 127 4) + ((w.1 186 ((((24 : Int32) * x60_1) + x60_2).toInt.toNat)) / (2 : Int32))).toInt ∧ ((w.1 127 4) + ((w.1 186 ((((24 : Int32) * x60_1) + x60_2).toInt.toNat)) / (2 : Int32))).toInt < 44 := by have := bd_127_4 hI; have := bd_186 hI ((((24 : Int32) * x60_1) + x60_2).toInt.toNat); have := nb_div (x := (w.1 186 ((((24 : Int32) * x60_1) + x60_2).toInt.toNat))) (by (first | omega | sorry)) (by decide : ((2 : Int32)).toInt = 2) (by decide); have := ti_add2 (Eq.refl (w.1 127 4).toInt) (Eq.refl ((w.1 186 ((((24 : Int32) * x60_1) + x60_2).toInt.toNat)) / (2 : Int32)).toInt) (by (first | omega | sorry)) (by (first | omega | sorry)); (first | omega | sorry)
        refine ⟨o13883, ?_⟩
        have o13885 : 0 ≤ (w.1 183 x60_1.toInt.toNat).toInt ∧ (w.1 183 x60_1.toInt.toNat).toInt ≤ 15 := by have := bd_183 hI x60_1.toInt.toNat; (first | omega | sorry)
        have hI13884 : BND (sI w 194 (((w.1 127 4) + ((w.1 186 ((((24 : Int32) * x60_1) + x60_2).toInt.toNat)) / (2 : Int32))).toInt.toNat) (w.1 183 x60_1.toInt.toNat)) := wbd_194 hI (((w.1 127 4) + ((w.1 186 ((((24 : Int32) * x60_1) + x60_2).toInt.toNat)) / (2 : Int32))).toInt.toNat) o13885.1 o13885.2
        have o13886 : (0 ≤ x60_1.toInt) ∧ (x60_1.toInt ≤ 23) ∧ (0 ≤ (x60_2 + (1 : Int32)).toInt) ∧ ((x60_2 + (1 : Int32)).toInt ≤ 24) := by have := ti_add2 (Eq.refl x60_2.toInt) (by decide : ((1 : Int32)).toInt = 1) (by (first | omega | sorry)) (by (first | omega | sorry)); have := bd_185 hI x60_1.toInt.toNat; exact ⟨by (first | omega | sorry), by (first | omega | sorry), by (first | omega | sorry), by (first | omega | sorry)⟩
        exact ih _ (sI w 194 (((w.1 127 4) + ((w.1 186 ((((24 : Int32) * x60_1) + x60_2).toInt.toNat)) / (2 : Int32))).toInt.toNat) (w.1 183 x60_1.toInt.toNat)) hI13884  o13886.1 o13886.2.1 o13886.2.2.1 o13886.2.2.2 (by have := ti_add2 (Eq.refl x60_2.toInt) (by decide : ((1 : Int32)).toInt = 1) (by (first | omega | sorry)) (by (first | omega | sorry)); have := bd_185 hI x60_1.toInt.toNat; (first | omega | sorry)) (fun w9 hI9 hF9 => hE w9 hI9 ((FR.I (FR.refl _ w) (k := 194) (j := ((w.1 127 4) + ((w.1 186 ((((24 : Int32) * x60_1) + x60_2).toInt.toNat)) / (2 : Int32))).toInt.toNat) (v := (w.1 183 x60_1.toInt.toNat)) rfl).tr hF9 rfl) ) (fun w9 hI9 hF9 q0 => q0.elim)
set_option maxRecDepth 20000 in
set_option maxHeartbeats 2000000 in
theorem hq_Mo_look_34 {E : MW → Prop} {Q : MW → Prop} (n : Nat) : ∀ (x34_1 : Int32) (w : MW), BND w → 0 ≤ x34_1.toInt → x34_1.toInt ≤ 24 → (24 - x34_1.toInt).toNat < n → (∀ (w' : MW), BND w' → FR l_Mo_look_34 w w' → E w') → (∀ (w' : MW), BND w' → FR l_Mo_look_34 w w' → False → Q w') → q_Mo_look_34 E Q n x34_1 w := by
  induction n with
  | zero => intros; (first | omega | sorry)
  | succ n ih =>
    intro x34_1 w hI  hp0 hp1 hm hE hQ
    rw [q_Mo_look_34.eq_2]
    refine ⟨fun h13887 => ?_, fun h13887 => ?_⟩
    · exact hE _ hI (FR.refl _ w)
    · have o13888 : 0 ≤ x34_1.toInt ∧ x34_1.toInt < 24 := by have := bd_127_26 hI; (first | omega | sorry)
      refine ⟨o13888, ?_⟩
      have o13889 : 0 ≤ x34_1.toInt ∧ x34_1.toInt < 24 := by have := bd_127_26 hI; (first | omega | sorry)
      refine ⟨o13889, ?_⟩
      refine Eq.mpr (p_Mo_carry.eq_1 _ _ _ _) ?_
      have o13890 : 0 ≤ (w.1 182 x34_1.toInt.toNat).toInt ∧ (w.1 182 x34_1.toInt.toNat).toInt < 44 := by have := bd_182 hI x34_1.toInt.toNat; (first | omega | sorry)
      refine ⟨o13890, ?_⟩
      refine ⟨fun h13891 => ?_, fun h13891 => ?_⟩
      · have o13892 : 0 ≤ (w.1 182 x34_1.toInt.toNat).toInt ∧ (w.1 182 x34_1.toInt.toNat).toInt < 44 := by have := bd_182 hI x34_1.toInt.toNat; (first | omega | sorry)
        refine ⟨o13892, ?_⟩
        have o13893 : 0 ≤ (w.1 182 x34_1.toInt.toNat).toInt ∧ (w.1 182 x34_1.toInt.toNat).toInt < 44 := by have := bd_182 hI x34_1.toInt.toNat; (first | omega | sorry)
        refine ⟨o13893, ?_⟩
        have o13895 : 0 ≤ (w.1 194 ((w.1 182 x34_1.toInt.toNat).toInt.toNat)).toInt ∧ (w.1 194 ((w.1 182 x34_1.toInt.toNat).toInt.toNat)).toInt ≤ 15 := by have := bd_194 hI ((w.1 182 x34_1.toInt.toNat).toInt.toNat); have := (by decide : ((0 : Int32)).toInt = 0); (first | omega | sorry)
        have hI13894 : BND (sI w 194 ((w.1 182 x34_1.toInt.toNat).toInt.toNat) (w.1 194 ((w.1 182 x34_1.toInt.toNat).toInt.toNat))) := wbd_194 hI ((w.1 182 x34_1.toInt.toNat).toInt.toNat) o13895.1 o13895.2
        have o13896 : (0 ≤ x34_1.toInt) ∧ (x34_1.toInt ≤ 23) ∧ (0 ≤ (0 : Int32).toInt) ∧ ((0 : Int32).toInt ≤ 24) := by have := (by decide : ((0 : Int32)).toInt = 0); have := bd_127_26 hI; exact ⟨by (first | omega | sorry), by (first | omega | sorry), by (first | omega | sorry), by (first | omega | sorry)⟩
        refine hq_Mo_look_60 FU _ (sI w 194 ((w.1 182 x34_1.toInt.toNat).toInt.toNat) (w.1 194 ((w.1 182 x34_1.toInt.toNat).toInt.toNat))) hI13894  o13896.1 o13896.2.1 o13896.2.2.1 o13896.2.2.2 (fu_lt (by have := (by decide : ((0 : Int32)).toInt = 0); have := bd_127_26 hI; (first | omega | sorry))) (fun w13897 hI13898 hL13899  => ?_) (fun w9 hI9 hF9 q0 => q0.elim)
        have hF13900 : FR l_Mo_look_34 w w13897 := (FR.I (FR.refl _ w) (k := 194) (j := (w.1 182 x34_1.toInt.toNat).toInt.toNat) (v := (w.1 194 ((w.1 182 x34_1.toInt.toNat).toInt.toNat))) rfl).tr hL13899 rfl
        have o13901 : (0 ≤ (x34_1 + (1 : Int32)).toInt) ∧ ((x34_1 + (1 : Int32)).toInt ≤ 24) := by have := ti_add2 (Eq.refl x34_1.toInt) (by decide : ((1 : Int32)).toInt = 1) (by (first | omega | sorry)) (by (first | omega | sorry)); have := bd_127_26 hI; exact ⟨by (first | omega | sorry), by (first | omega | sorry)⟩
        exact ih _ w13897 hI13898  o13901.1 o13901.2 (by have := ti_add2 (Eq.refl x34_1.toInt) (by decide : ((1 : Int32)).toInt = 1) (by (first | omega | sorry)) (by (first | omega | sorry)); have := bd_127_26 hI; (first | omega | sorry)) (fun w9 hI9 hF9 => hE w9 hI9 (hF13900.tr hF9 rfl) ) (fun w9 hI9 hF9 q0 => q0.elim)
      · have o13902 : 0 ≤ (w.1 182 x34_1.toInt.toNat).toInt ∧ (w.1 182 x34_1.toInt.toNat).toInt < 44 := by have := bd_182 hI x34_1.toInt.toNat; (first | omega | sorry)
        refine ⟨o13902, ?_⟩
        have o13904 : 0 ≤ (w.1 183 x34_1.toInt.toNat).toInt ∧ (w.1 183 x34_1.toInt.toNat).toInt ≤ 15 := by have := bd_183 hI x34_1.toInt.toNat; (first | omega | sorry)
        have hI13903 : BND (sI w 194 ((w.1 182 x34_1.toInt.toNat).toInt.toNat) (w.1 183 x34_1.toInt.toNat)) := wbd_194 hI ((w.1 182 x34_1.toInt.toNat).toInt.toNat) o13904.1 o13904.2
        have o13905 : (0 ≤ x34_1.toInt) ∧ (x34_1.toInt ≤ 23) ∧ (0 ≤ (0 : Int32).toInt) ∧ ((0 : Int32).toInt ≤ 24) := by have := (by decide : ((0 : Int32)).toInt = 0); have := bd_127_26 hI; exact ⟨by (first | omega | sorry), by (first | omega | sorry), by (first | omega | sorry), by (first | omega | sorry)⟩
        refine hq_Mo_look_60 FU _ (sI w 194 ((w.1 182 x34_1.toInt.toNat).toInt.toNat) (w.1 183 x34_1.toInt.toNat)) hI13903  o13905.1 o13905.2.1 o13905.2.2.1 o13905.2.2.2 (fu_lt (by have := (by decide : ((0 : Int32)).toInt = 0); have := bd_127_26 hI; (first | omega | sorry))) (fun w13906 hI13907 hL13908  => ?_) (fun w9 hI9 hF9 q0 => q0.elim)
        have hF13909 : FR l_Mo_look_34 w w13906 := (FR.I (FR.refl _ w) (k := 194) (j := (w.1 182 x34_1.toInt.toNat).toInt.toNat) (v := (w.1 183 x34_1.toInt.toNat)) rfl).tr hL13908 rfl
        have o13910 : (0 ≤ (x34_1 + (1 : Int32)).toInt) ∧ ((x34_1 + (1 : Int32)).toInt ≤ 24) := by have := ti_add2 (Eq.refl x34_1.toInt) (by decide : ((1 : Int32)).toInt = 1) (by (first | omega | sorry)) (by (first | omega | sorry)); have := bd_127_26 hI; exact ⟨by (first | omega | sorry), by (first | omega | sorry)⟩
        exact ih _ w13906 hI13907  o13910.1 o13910.2 (by have := ti_add2 (Eq.refl x34_1.toInt) (by decide : ((1 : Int32)).toInt = 1) (by (first | omega | sorry)) (by (first | omega | sorry)); have := bd_127_26 hI; (first | omega | sorry)) (fun w9 hI9 hF9 => hE w9 hI9 (hF13909.tr hF9 rfl) ) (fun w9 hI9 hF9 q0 => q0.elim)
set_option maxRecDepth 20000 in
set_option maxHeartbeats 2000000 in
theorem h_Mo_look {w : MW} {Q : MW → Prop} (hI : BND w)  (hQ : ∀ (w' : MW), BND w' → FR l_Mo_look w w' → Q w') : p_Mo_look w Q := by
  refine Eq.mpr (p_Mo_look.eq_1 _ _) ?_
  have o13911 : (0 ≤ (0 : Int32).toInt) ∧ ((0 : Int32).toInt ≤ 44) := by have := (by decide : ((0 : Int32)).toInt = 0); exact ⟨by (first | omega | sorry), by (first | omega | sorry)⟩
  refine hq_Mo_look_2 FU _ w hI  o13911.1 o13911.2 (fu_lt (by have := (by decide : ((0 : Int32)).toInt = 0); (first | omega | sorry))) (fun w13912 hI13913 hL13914  => ?_) (fun w9 hI9 hF9 q0 => q0.elim)
  have hF13915 : FR l_Mo_look w w13912 := (FR.refl _ w).tr hL13914 rfl
  have o13916 : (0 ≤ (0 : Int32).toInt) ∧ ((0 : Int32).toInt ≤ 24) := by have := (by decide : ((0 : Int32)).toInt = 0); exact ⟨by (first | omega | sorry), by (first | omega | sorry)⟩
  refine hq_Mo_look_34 FU _ w13912 hI13913  o13916.1 o13916.2 (fu_lt (by have := (by decide : ((0 : Int32)).toInt = 0); (first | omega | sorry))) (fun w13917 hI13918 hL13919  => ?_) (fun w9 hI9 hF9 q0 => q0.elim)
  have hF13920 : FR l_Mo_look w w13917 := hF13915.tr hL13919 rfl
  exact hQ _ hI13918 hF13920 
def l_Mo_holdsLiquid : Pl := []
set_option maxRecDepth 20000 in
set_option maxHeartbeats 2000000 in
theorem h_Mo_holdsLiquid {w : MW} {a0 : Int32} {Q : Int32 → MW → Prop} (hI : BND w)  (hQ : ∀ (r : Int32) (w' : MW), BND w' → FR l_Mo_holdsLiquid w w' → 0 ≤ r.toInt → r.toInt ≤ 1 → r.toInt = 0 ∨ (0 ≤ a0.toInt ∧ a0.toInt < (w.1 127 4).toInt + (w.1 127 11).toInt) → Q r w') : p_Mo_holdsLiquid w a0 Q := by
  refine Eq.mpr (p_Mo_holdsLiquid.eq_1 _ _ _) ?_
  refine Eq.mpr (p_Mo_isTank.eq_1 _ _ _) ?_
  refine Eq.mpr (p_Mo_isThing.eq_1 _ _ _) ?_
  refine ⟨fun h13921 => ?_, fun h13921 => ?_⟩
  · refine ⟨fun _ => ?_, fun h => absurd (by decide) h⟩
    refine ⟨fun h => absurd h (by decide), fun _ => ?_⟩
    refine Eq.mpr (p_Mo_isPipe.eq_1 _ _ _) ?_
    refine ⟨fun h13922 => ?_, fun h13922 => ?_⟩
    · refine ⟨fun _ => ?_, fun h => absurd (by decide) h⟩
      have o13923 : (0 ≤ (0 : Int32).toInt) ∧ ((0 : Int32).toInt ≤ 1) ∧ ((0 : Int32).toInt = 0 ∨ (0 ≤ a0.toInt ∧ a0.toInt < (w.1 127 4).toInt + (w.1 127 11).toInt)) := by have := (by decide : ((0 : Int32)).toInt = 0); have := bd_127_4 hI; have := bd_127_11 hI; exact ⟨by (first | omega | sorry), by (first | omega | sorry), by (first | omega | sorry)⟩
      exact hQ _ _ hI (FR.refl _ w)  o13923.1 o13923.2.1 o13923.2.2
    · exfalso; have := (by decide : ((0 : Int32)).toInt = 0); have := bd_127_4 hI; (first | omega | sorry)
  · refine ⟨fun h13924 => ?_, fun h13924 => ?_⟩
    · refine ⟨fun _ => ?_, fun h => absurd (by decide) h⟩
      refine ⟨fun h => absurd h (by decide), fun _ => ?_⟩
      refine Eq.mpr (p_Mo_isPipe.eq_1 _ _ _) ?_
      refine ⟨fun h13925 => ?_, fun h13925 => ?_⟩
      · refine ⟨fun _ => ?_, fun h => absurd (by decide) h⟩
        have o13926 : (0 ≤ (0 : Int32).toInt) ∧ ((0 : Int32).toInt ≤ 1) ∧ ((0 : Int32).toInt = 0 ∨ (0 ≤ a0.toInt ∧ a0.toInt < (w.1 127 4).toInt + (w.1 127 11).toInt)) := by have := (by decide : ((0 : Int32)).toInt = 0); have := bd_127_4 hI; have := bd_127_11 hI; exact ⟨by (first | omega | sorry), by (first | omega | sorry), by (first | omega | sorry)⟩
        exact hQ _ _ hI (FR.refl _ w)  o13926.1 o13926.2.1 o13926.2.2
      · refine ⟨fun h13927 => ?_, fun h13927 => ?_⟩
        · refine ⟨fun _ => ?_, fun h => absurd (by decide) h⟩
          have o13928 : (0 ≤ (0 : Int32).toInt) ∧ ((0 : Int32).toInt ≤ 1) ∧ ((0 : Int32).toInt = 0 ∨ (0 ≤ a0.toInt ∧ a0.toInt < (w.1 127 4).toInt + (w.1 127 11).toInt)) := by have := (by decide : ((0 : Int32)).toInt = 0); have := bd_127_4 hI; have := bd_127_11 hI; have := ti_add2 (Eq.refl (w.1 127 4).toInt) (Eq.refl (w.1 127 11).toInt) (by (first | omega | sorry)) (by (first | omega | sorry)); exact ⟨by (first | omega | sorry), by (first | omega | sorry), by (first | omega | sorry)⟩
          exact hQ _ _ hI (FR.refl _ w)  o13928.1 o13928.2.1 o13928.2.2
        · refine ⟨fun h => absurd h (by decide), fun _ => ?_⟩
          have o13929 : (0 ≤ (1 : Int32).toInt) ∧ ((1 : Int32).toInt ≤ 1) ∧ ((1 : Int32).toInt = 0 ∨ (0 ≤ a0.toInt ∧ a0.toInt < (w.1 127 4).toInt + (w.1 127 11).toInt)) := by have := (by decide : ((1 : Int32)).toInt = 1); have := bd_127_4 hI; have := bd_127_11 hI; have := ti_add2 (Eq.refl (w.1 127 4).toInt) (Eq.refl (w.1 127 11).toInt) (by (first | omega | sorry)) (by (first | omega | sorry)); have := (by decide : ((0 : Int32)).toInt = 0); exact ⟨by (first | omega | sorry), by (first | omega | sorry), by (first | omega | sorry)⟩
          exact hQ _ _ hI (FR.refl _ w)  o13929.1 o13929.2.1 o13929.2.2
    · refine ⟨fun h => absurd h (by decide), fun _ => ?_⟩
      have o13930 : 0 ≤ a0.toInt ∧ a0.toInt < 20 := by have := (by decide : ((0 : Int32)).toInt = 0); have := bd_127_4 hI; (first | omega | sorry)
      refine ⟨o13930, ?_⟩
      refine ⟨fun h13931 => ?_, fun h13931 => ?_⟩
      · refine ⟨fun h => absurd h (by decide), fun _ => ?_⟩
        refine Eq.mpr (p_Mo_isPipe.eq_1 _ _ _) ?_
        refine ⟨fun h13932 => ?_, fun h13932 => ?_⟩
        · refine ⟨fun _ => ?_, fun h => absurd (by decide) h⟩
          have o13933 : (0 ≤ (0 : Int32).toInt) ∧ ((0 : Int32).toInt ≤ 1) ∧ ((0 : Int32).toInt = 0 ∨ (0 ≤ a0.toInt ∧ a0.toInt < (w.1 127 4).toInt + (w.1 127 11).toInt)) := by have := (by decide : ((0 : Int32)).toInt = 0); have := bd_127_4 hI; have := bd_127_11 hI; exact ⟨by (first | omega | sorry), by (first | omega | sorry), by (first | omega | sorry)⟩
          exact hQ _ _ hI (FR.refl _ w)  o13933.1 o13933.2.1 o13933.2.2
        · refine ⟨fun h13934 => ?_, fun h13934 => ?_⟩
          · refine ⟨fun _ => ?_, fun h => absurd (by decide) h⟩
            have o13935 : (0 ≤ (0 : Int32).toInt) ∧ ((0 : Int32).toInt ≤ 1) ∧ ((0 : Int32).toInt = 0 ∨ (0 ≤ a0.toInt ∧ a0.toInt < (w.1 127 4).toInt + (w.1 127 11).toInt)) := by have := (by decide : ((0 : Int32)).toInt = 0); have := bd_127_4 hI; have := bd_127_11 hI; have := ti_add2 (Eq.refl (w.1 127 4).toInt) (Eq.refl (w.1 127 11).toInt) (by (first | omega | sorry)) (by (first | omega | sorry)); exact ⟨by (first | omega | sorry), by (first | omega | sorry), by (first | omega | sorry)⟩
            exact hQ _ _ hI (FR.refl _ w)  o13935.1 o13935.2.1 o13935.2.2
          · refine ⟨fun h => absurd h (by decide), fun _ => ?_⟩
            have o13936 : (0 ≤ (1 : Int32).toInt) ∧ ((1 : Int32).toInt ≤ 1) ∧ ((1 : Int32).toInt = 0 ∨ (0 ≤ a0.toInt ∧ a0.toInt < (w.1 127 4).toInt + (w.1 127 11).toInt)) := by have := (by decide : ((1 : Int32)).toInt = 1); have := bd_127_4 hI; have := bd_127_11 hI; have := ti_add2 (Eq.refl (w.1 127 4).toInt) (Eq.refl (w.1 127 11).toInt) (by (first | omega | sorry)) (by (first | omega | sorry)); have := (by decide : ((0 : Int32)).toInt = 0); exact ⟨by (first | omega | sorry), by (first | omega | sorry), by (first | omega | sorry)⟩
            exact hQ _ _ hI (FR.refl _ w)  o13936.1 o13936.2.1 o13936.2.2
      · refine ⟨fun _ => ?_, fun h => absurd (by decide) h⟩
        have o13937 : (0 ≤ (1 : Int32).toInt) ∧ ((1 : Int32).toInt ≤ 1) ∧ ((1 : Int32).toInt = 0 ∨ (0 ≤ a0.toInt ∧ a0.toInt < (w.1 127 4).toInt + (w.1 127 11).toInt)) := by have := (by decide : ((1 : Int32)).toInt = 1); have := bd_127_4 hI; have := bd_127_11 hI; have := (by decide : ((0 : Int32)).toInt = 0); exact ⟨by (first | omega | sorry), by (first | omega | sorry), by (first | omega | sorry)⟩
        exact hQ _ _ hI (FR.refl _ w)  o13937.1 o13937.2.1 o13937.2.2
def l_Mo_level_57 : Pl := []
def l_Mo_level_23 : Pl := []
def l_Mo_level : Pl := []
set_option maxRecDepth 20000 in
set_option maxHeartbeats 2000000 in
theorem hq_Mo_level_23 {x23_1 : Int32} {E : MW → Prop} {Q : Int32 → MW → Prop} (n : Nat) : ∀ (x23_2 : Int32) (x23_3 : Int32) (w : MW), BND w → 0 ≤ x23_1.toInt → x23_1.toInt ≤ 43 → (-1) ≤ x23_2.toInt → 0 ≤ x23_3.toInt → x23_3.toInt ≤ 5 → (x23_3.toInt - 0).toNat < n → (∀ (w' : MW), BND w' → FR l_Mo_level_23 w w' → E w') → (∀ (r : Int32) (w' : MW), BND w' → FR l_Mo_level_23 w w' → 1 ≤ r.toInt → r.toInt ≤ 5 → Q r w') → q_Mo_level_23 x23_1 E Q n x23_2 x23_3 w := by
  induction n with
  | zero => intros; (first | omega | sorry)
  | succ n ih =>
    intro x23_2 x23_3 w hI  hp0 hp1 hp2 hp3 hp4 hm hE hQ
    rw [q_Mo_level_23.eq_2]
    refine ⟨fun h13938 => ?_, fun h13938 => ?_⟩
    · exact hE _ hI (FR.refl _ w)
    · have o13939 : 0 ≤ (((6 : Int32) * x23_1) + x23_3).toInt ∧ (((6 : Int32) * x23_1) + x23_3).toInt < 264 := by have := ti_mul2 (by decide : ((6 : Int32)).toInt = 6) (Eq.refl x23_1.toInt) (by (first | omega | sorry)) (by (first | omega | sorry)); have := ti_add2 (Eq.refl ((6 : Int32) * x23_1).toInt) (Eq.refl x23_3.toInt) (by (first | omega | sorry)) (by (first | omega | sorry)); have := (by decide : ((0 : Int32)).toInt = 0); (first | omega | sorry)
      refine ⟨o13939, ?_⟩
      refine ⟨fun h13940 => ?_, fun h13940 => ?_⟩
      · refine Eq.mpr (q_Mo_level_57.eq_1 _ _ _ _ _ _ _) ?_
        refine ⟨fun h13941 => ?_, fun h13941 => ?_⟩
        · have o13942 : (0 ≤ x23_1.toInt) ∧ (x23_1.toInt ≤ 43) ∧ ((-1) ≤ x23_2.toInt) ∧ (0 ≤ (x23_3 + ((-1) : Int32)).toInt) ∧ ((x23_3 + ((-1) : Int32)).toInt ≤ 5) := by have := ti_add2 (Eq.refl x23_3.toInt) (by decide : (((-1) : Int32)).toInt = (-1)) (by (first | omega | sorry)) (by (first | omega | sorry)); have := (by decide : ((0 : Int32)).toInt = 0); exact ⟨by (first | omega | sorry), by (first | omega | sorry), by (first | omega | sorry), by (first | omega | sorry), by (first | omega | sorry)⟩
          exact ih _ _ w hI  o13942.1 o13942.2.1 o13942.2.2.1 o13942.2.2.2.1 o13942.2.2.2.2 (by have := ti_add2 (Eq.refl x23_3.toInt) (by decide : (((-1) : Int32)).toInt = (-1)) (by (first | omega | sorry)) (by (first | omega | sorry)); have := (by decide : ((0 : Int32)).toInt = 0); (first | omega | sorry)) (fun w9 hI9 hF9 => hE w9 hI9 ((FR.refl _ w).tr hF9 rfl) ) (fun r w9 hI9 hF9 q0 q1 => hQ r w9 hI9 ((FR.refl _ w).tr hF9 rfl) (by have := ti_add2 (Eq.refl x23_3.toInt) (by decide : (((-1) : Int32)).toInt = (-1)) (by (first | omega | sorry)) (by (first | omega | sorry)); have := (by decide : ((0 : Int32)).toInt = 0); (first | omega | sorry)) (by have := ti_add2 (Eq.refl x23_3.toInt) (by decide : (((-1) : Int32)).toInt = (-1)) (by (first | omega | sorry)) (by (first | omega | sorry)); have := (by decide : ((0 : Int32)).toInt = 0); (first | omega | sorry)))
        · have o13943 : 0 ≤ x23_3.toInt ∧ x23_3.toInt < 6 := by have := (by decide : ((0 : Int32)).toInt = 0); (first | omega | sorry)
          refine ⟨o13943, ?_⟩
          refine ⟨fun h13944 => ?_, fun h13944 => ?_⟩
          · have o13945 : (0 ≤ x23_1.toInt) ∧ (x23_1.toInt ≤ 43) ∧ ((-1) ≤ x23_2.toInt) ∧ (0 ≤ (x23_3 + ((-1) : Int32)).toInt) ∧ ((x23_3 + ((-1) : Int32)).toInt ≤ 5) := by have := ti_add2 (Eq.refl x23_3.toInt) (by decide : (((-1) : Int32)).toInt = (-1)) (by (first | omega | sorry)) (by (first | omega | sorry)); have := (by decide : ((0 : Int32)).toInt = 0); have := True.intro; have := bd_177 hI x23_3.toInt.toNat; exact ⟨by (first | omega | sorry), by (first | omega | sorry), by (first | omega | sorry), by (first | omega | sorry), by (first | omega | sorry)⟩
            exact ih _ _ w hI  o13945.1 o13945.2.1 o13945.2.2.1 o13945.2.2.2.1 o13945.2.2.2.2 (by have := ti_add2 (Eq.refl x23_3.toInt) (by decide : (((-1) : Int32)).toInt = (-1)) (by (first | omega | sorry)) (by (first | omega | sorry)); have := (by decide : ((0 : Int32)).toInt = 0); have := True.intro; have := bd_177 hI x23_3.toInt.toNat; (first | omega | sorry)) (fun w9 hI9 hF9 => hE w9 hI9 ((FR.refl _ w).tr hF9 rfl) ) (fun r w9 hI9 hF9 q0 q1 => hQ r w9 hI9 ((FR.refl _ w).tr hF9 rfl) (by have := ti_add2 (Eq.refl x23_3.toInt) (by decide : (((-1) : Int32)).toInt = (-1)) (by (first | omega | sorry)) (by (first | omega | sorry)); have := (by decide : ((0 : Int32)).toInt = 0); have := True.intro; have := bd_177 hI x23_3.toInt.toNat; (first | omega | sorry)) (by have := ti_add2 (Eq.refl x23_3.toInt) (by decide : (((-1) : Int32)).toInt = (-1)) (by (first | omega | sorry)) (by (first | omega | sorry)); have := (by decide : ((0 : Int32)).toInt = 0); have := True.intro; have := bd_177 hI x23_3.toInt.toNat; (first | omega | sorry)))
          · have o13946 : (1 ≤ x23_3.toInt) ∧ (x23_3.toInt ≤ 5) := by have := (by decide : ((0 : Int32)).toInt = 0); exact ⟨by (first | omega | sorry), by (first | omega | sorry)⟩
            exact hQ _ _ hI (FR.refl _ w)  o13946.1 o13946.2
      · have o13947 : 0 ≤ (((6 : Int32) * x23_1) + x23_3).toInt ∧ (((6 : Int32) * x23_1) + x23_3).toInt < 264 := by have := ti_mul2 (by decide : ((6 : Int32)).toInt = 6) (Eq.refl x23_1.toInt) (by (first | omega | sorry)) (by (first | omega | sorry)); have := ti_add2 (Eq.refl ((6 : Int32) * x23_1).toInt) (Eq.refl x23_3.toInt) (by (first | omega | sorry)) (by (first | omega | sorry)); have := (by decide : ((0 : Int32)).toInt = 0); (first | omega | sorry)
        refine ⟨o13947, ?_⟩
        refine Eq.mpr (q_Mo_level_57.eq_1 _ _ _ _ _ _ _) ?_
        refine ⟨fun h13948 => ?_, fun h13948 => ?_⟩
        · exfalso; have := (by decide : ((0 : Int32)).toInt = 0); (first | omega | sorry)
        · have o13949 : 0 ≤ x23_3.toInt ∧ x23_3.toInt < 6 := by have := (by decide : ((0 : Int32)).toInt = 0); (first | omega | sorry)
          refine ⟨o13949, ?_⟩
          refine ⟨fun h13950 => ?_, fun h13950 => ?_⟩
          · have o13951 : (0 ≤ x23_1.toInt) ∧ (x23_1.toInt ≤ 43) ∧ ((-1) ≤ (w.1 174 ((((6 : Int32) * x23_1) + x23_3).toInt.toNat)).toInt) ∧ (0 ≤ (x23_3 + ((-1) : Int32)).toInt) ∧ ((x23_3 + ((-1) : Int32)).toInt ≤ 5) := by have := ti_add2 (Eq.refl x23_3.toInt) (by decide : (((-1) : Int32)).toInt = (-1)) (by (first | omega | sorry)) (by (first | omega | sorry)); have := (by decide : ((0 : Int32)).toInt = 0); have := True.intro; have := bd_177 hI x23_3.toInt.toNat; exact ⟨by (first | omega | sorry), by (first | omega | sorry), by (first | omega | sorry), by (first | omega | sorry), by (first | omega | sorry)⟩
            exact ih _ _ w hI  o13951.1 o13951.2.1 o13951.2.2.1 o13951.2.2.2.1 o13951.2.2.2.2 (by have := ti_add2 (Eq.refl x23_3.toInt) (by decide : (((-1) : Int32)).toInt = (-1)) (by (first | omega | sorry)) (by (first | omega | sorry)); have := (by decide : ((0 : Int32)).toInt = 0); have := True.intro; have := bd_177 hI x23_3.toInt.toNat; (first | omega | sorry)) (fun w9 hI9 hF9 => hE w9 hI9 ((FR.refl _ w).tr hF9 rfl) ) (fun r w9 hI9 hF9 q0 q1 => hQ r w9 hI9 ((FR.refl _ w).tr hF9 rfl) (by have := ti_add2 (Eq.refl x23_3.toInt) (by decide : (((-1) : Int32)).toInt = (-1)) (by (first | omega | sorry)) (by (first | omega | sorry)); have := (by decide : ((0 : Int32)).toInt = 0); have := True.intro; have := bd_177 hI x23_3.toInt.toNat; (first | omega | sorry)) (by have := ti_add2 (Eq.refl x23_3.toInt) (by decide : (((-1) : Int32)).toInt = (-1)) (by (first | omega | sorry)) (by (first | omega | sorry)); have := (by decide : ((0 : Int32)).toInt = 0); have := True.intro; have := bd_177 hI x23_3.toInt.toNat; (first | omega | sorry)))
          · have o13952 : (1 ≤ x23_3.toInt) ∧ (x23_3.toInt ≤ 5) := by have := (by decide : ((0 : Int32)).toInt = 0); exact ⟨by (first | omega | sorry), by (first | omega | sorry)⟩
            exact hQ _ _ hI (FR.refl _ w)  o13952.1 o13952.2
set_option maxRecDepth 20000 in
set_option maxHeartbeats 2000000 in
theorem h_Mo_level {w : MW} {a0 : Int32} {Q : Int32 → MW → Prop} (hI : BND w) (hp0 : 0 ≤ a0.toInt) (hp1 : a0.toInt ≤ 43) (hp2 : a0.toInt < (w.1 127 4).toInt + (w.1 127 11).toInt) (hQ : ∀ (r : Int32) (w' : MW), BND w' → FR l_Mo_level w w' → 0 ≤ r.toInt → r.toInt ≤ 5 → Q r w') : p_Mo_level w a0 Q := by
  refine Eq.mpr (p_Mo_level.eq_1 _ _ _) ?_
  have o13953 : (0 ≤ a0.toInt) ∧ (a0.toInt ≤ 43) ∧ (a0.toInt < (w.1 127 4).toInt + (w.1 127 11).toInt) := by have := bd_127_4 hI; have := bd_127_11 hI; exact ⟨by (first | omega | sorry), by (first | omega | sorry), by (first | omega | sorry)⟩
  refine h_Mo_liquidIn hI  o13953.1 o13953.2.1 o13953.2.2 (fun r13957 w13954 hI13955 hL13956 p13958 p13959 => ?_)
  have hF13960 : FR l_Mo_level w w13954 := (FR.refl _ w).tr hL13956 rfl
  refine ⟨fun h13961 => ?_, fun h13961 => ?_⟩
  · have o13962 : (0 ≤ (0 : Int32).toInt) ∧ ((0 : Int32).toInt ≤ 5) := by have := (by decide : ((0 : Int32)).toInt = 0); exact ⟨by (first | omega | sorry), by (first | omega | sorry)⟩
    exact hQ _ _ hI13955 hF13960  o13962.1 o13962.2
  · have o13963 : 0 ≤ a0.toInt ∧ a0.toInt < 44 := by have := bd_127_4 hI; have := bd_127_11 hI; (first | omega | sorry)
    refine ⟨o13963, ?_⟩
    refine ⟨fun h13964 => ?_, fun h13964 => ?_⟩
    · have o13965 : (0 ≤ a0.toInt) ∧ (a0.toInt ≤ 43) ∧ ((-1) ≤ ((-1) : Int32).toInt) ∧ (0 ≤ (5 : Int32).toInt) ∧ ((5 : Int32).toInt ≤ 5) := by have := (by decide : (((-1) : Int32)).toInt = (-1)); have := (by decide : ((5 : Int32)).toInt = 5); have := bd_127_4 hI; have := bd_127_11 hI; exact ⟨by (first | omega | sorry), by (first | omega | sorry), by (first | omega | sorry), by (first | omega | sorry), by (first | omega | sorry)⟩
      refine hq_Mo_level_23 FU _ _ w13954 hI13955  o13965.1 o13965.2.1 o13965.2.2.1 o13965.2.2.2.1 o13965.2.2.2.2 (fu_lt (by have := (by decide : (((-1) : Int32)).toInt = (-1)); have := (by decide : ((5 : Int32)).toInt = 5); have := bd_127_4 hI; have := bd_127_11 hI; (first | omega | sorry))) (fun w13966 hI13967 hL13968  => ?_) (fun r w9 hI9 hF9 q0 q1 => hQ r w9 hI9 ((hF13960).tr hF9 rfl) (by have := (by decide : (((-1) : Int32)).toInt = (-1)); have := (by decide : ((5 : Int32)).toInt = 5); have := bd_127_4 hI; have := bd_127_11 hI; (first | omega | sorry)) (by have := (by decide : (((-1) : Int32)).toInt = (-1)); have := (by decide : ((5 : Int32)).toInt = 5); have := bd_127_4 hI; have := bd_127_11 hI; (first | omega | sorry)))
      have hF13969 : FR l_Mo_level w w13966 := hF13960.tr hL13968 rfl
      have o13970 : (0 ≤ (0 : Int32).toInt) ∧ ((0 : Int32).toInt ≤ 5) := by have := (by decide : ((0 : Int32)).toInt = 0); exact ⟨by (first | omega | sorry), by (first | omega | sorry)⟩
      exact hQ _ _ hI13967 hF13969  o13970.1 o13970.2
    · have o13971 : (0 ≤ (0 : Int32).toInt) ∧ ((0 : Int32).toInt ≤ 5) := by have := (by decide : ((0 : Int32)).toInt = 0); exact ⟨by (first | omega | sorry), by (first | omega | sorry)⟩
      exact hQ _ _ hI13955 hF13960  o13971.1 o13971.2
def l_Mo_litresIn_19 : Pl := []
def l_Mo_litresIn : Pl := []
set_option maxRecDepth 20000 in
set_option maxHeartbeats 2000000 in
theorem hq_Mo_litresIn_19 {x19_1 : Int32} {E : Int32 → MW → Prop} {Q : Int32 → MW → Prop} (n : Nat) : ∀ (x19_2 : Int32) (x19_3 : Int32) (w : MW), BND w → 0 ≤ x19_1.toInt → x19_1.toInt ≤ 43 → 0 ≤ x19_3.toInt → x19_3.toInt ≤ 200 → (w.1 127 4).toInt ≤ x19_1.toInt → x19_1.toInt < (w.1 127 4).toInt + (w.1 127 11).toInt → (200 - x19_3.toInt).toNat < n → (∀ (e19_2 : Int32) (w' : MW), BND w' → FR l_Mo_litresIn_19 w w' → E e19_2 w') → (∀ (r : Int32) (w' : MW), BND w' → FR l_Mo_litresIn_19 w w' → False → Q r w') → q_Mo_litresIn_19 x19_1 E Q n x19_2 x19_3 w := by
  induction n with
  | zero => intros; (first | omega | sorry)
  | succ n ih =>
    intro x19_2 x19_3 w hI  hp0 hp1 hp2 hp3 hp4 hp5 hm hE hQ
    rw [q_Mo_litresIn_19.eq_2]
    have o13972 : 0 ≤ (x19_1 - (w.1 127 4)).toInt ∧ (x19_1 - (w.1 127 4)).toInt < 24 := by have := bd_127_4 hI; have := ti_sub2 (Eq.refl x19_1.toInt) (Eq.refl (w.1 127 4).toInt) (by (first | omega | sorry)) (by (first | omega | sorry)); have := bd_127_11 hI; (first | omega | sorry)
    refine ⟨o13972, ?_⟩
    refine ⟨fun h13973 => ?_, fun h13973 => ?_⟩
    · exact hE _ _ hI (FR.refl _ w)
    · have o13974 : 0 ≤ (((200 : Int32) * (x19_1 - (w.1 127 4))) + x19_3).toInt ∧ (((200 : Int32) * (x19_1 - (w.1 127 4))) + x19_3).toInt < 4800 := by have := bd_127_4 hI; have := ti_sub2 (Eq.refl x19_1.toInt) (Eq.refl (w.1 127 4).toInt) (by (first | omega | sorry)) (by (first | omega | sorry)); have := ti_mul2 (by decide : ((200 : Int32)).toInt = 200) (Eq.refl (x19_1 - (w.1 127 4)).toInt) (by (first | omega | sorry)) (by (first | omega | sorry)); have := ti_add2 (Eq.refl ((200 : Int32) * (x19_1 - (w.1 127 4))).toInt) (Eq.refl x19_3.toInt) (by (first | omega | sorry)) (by (first | omega | sorry)); have := bd_127_11 hI; have := bd_169 hI ((x19_1 - (w.1 127 4)).toInt.toNat); (first | omega | sorry)
      refine ⟨o13974, ?_⟩
      refine ⟨fun h13975 => ?_, fun h13975 => ?_⟩
      · have o13976 : (0 ≤ x19_1.toInt) ∧ (x19_1.toInt ≤ 43) ∧ (0 ≤ (x19_3 + (1 : Int32)).toInt) ∧ ((x19_3 + (1 : Int32)).toInt ≤ 200) ∧ ((w.1 127 4).toInt ≤ x19_1.toInt) ∧ (x19_1.toInt < (w.1 127 4).toInt + (w.1 127 11).toInt) := by have := ti_lo x19_2; have := ti_hi x19_2; have := True.intro; have := ti_add2 (Eq.refl x19_3.toInt) (by decide : ((1 : Int32)).toInt = 1) (by (first | omega | sorry)) (by (first | omega | sorry)); have := bd_127_4 hI; have := bd_127_11 hI; have := bd_169 hI ((x19_1 - (w.1 127 4)).toInt.toNat); exact ⟨by (first | omega | sorry), by (first | omega | sorry), by (first | omega | sorry), by (first | omega | sorry), by (first | omega | sorry), by (first | omega | sorry)⟩
        exact ih _ _ w hI  o13976.1 o13976.2.1 o13976.2.2.1 o13976.2.2.2.1 o13976.2.2.2.2.1 o13976.2.2.2.2.2 (by have := ti_lo x19_2; have := ti_hi x19_2; have := True.intro; have := ti_add2 (Eq.refl x19_3.toInt) (by decide : ((1 : Int32)).toInt = 1) (by (first | omega | sorry)) (by (first | omega | sorry)); have := bd_169 hI ((x19_1 - (w.1 127 4)).toInt.toNat); (first | omega | sorry)) (fun e0 w9 hI9 hF9 => hE e0 w9 hI9 ((FR.refl _ w).tr hF9 rfl) ) (fun r w9 hI9 hF9 q0 => q0.elim)
      · have o13977 : (0 ≤ x19_1.toInt) ∧ (x19_1.toInt ≤ 43) ∧ (0 ≤ (x19_3 + (1 : Int32)).toInt) ∧ ((x19_3 + (1 : Int32)).toInt ≤ 200) ∧ ((w.1 127 4).toInt ≤ x19_1.toInt) ∧ (x19_1.toInt < (w.1 127 4).toInt + (w.1 127 11).toInt) := by have := ti_lo x19_2; have := ti_hi x19_2; have := ti_add2 (Eq.refl x19_2.toInt) (by decide : ((0 : Int32)).toInt = 0) (by (first | omega | sorry)) (by (first | omega | sorry)); have := ti_add2 (Eq.refl x19_3.toInt) (by decide : ((1 : Int32)).toInt = 1) (by (first | omega | sorry)) (by (first | omega | sorry)); have := bd_127_4 hI; have := bd_127_11 hI; have := bd_169 hI ((x19_1 - (w.1 127 4)).toInt.toNat); exact ⟨by (first | omega | sorry), by (first | omega | sorry), by (first | omega | sorry), by (first | omega | sorry), by (first | omega | sorry), by (first | omega | sorry)⟩
        exact ih _ _ w hI  o13977.1 o13977.2.1 o13977.2.2.1 o13977.2.2.2.1 o13977.2.2.2.2.1 o13977.2.2.2.2.2 (by have := ti_lo x19_2; have := ti_hi x19_2; have := ti_add2 (Eq.refl x19_2.toInt) (by decide : ((0 : Int32)).toInt = 0) (by (first | omega | sorry)) (by (first | omega | sorry)); have := ti_add2 (Eq.refl x19_3.toInt) (by decide : ((1 : Int32)).toInt = 1) (by (first | omega | sorry)) (by (first | omega | sorry)); have := bd_169 hI ((x19_1 - (w.1 127 4)).toInt.toNat); (first | omega | sorry)) (fun e0 w9 hI9 hF9 => hE e0 w9 hI9 ((FR.refl _ w).tr hF9 rfl) ) (fun r w9 hI9 hF9 q0 => q0.elim)
set_option maxRecDepth 20000 in
set_option maxHeartbeats 2000000 in
theorem h_Mo_litresIn {w : MW} {a0 : Int32} {Q : Int32 → MW → Prop} (hI : BND w) (hp0 : 0 ≤ a0.toInt) (hp1 : a0.toInt ≤ 43) (hp2 : a0.toInt < (w.1 127 4).toInt + (w.1 127 11).toInt) (hQ : ∀ (r : Int32) (w' : MW), BND w' → FR l_Mo_litresIn w w' → Q r w') : p_Mo_litresIn w a0 Q := by
  refine Eq.mpr (p_Mo_litresIn.eq_1 _ _ _) ?_
  refine ⟨fun h13978 => ?_, fun h13978 => ?_⟩
  · have o13979 : (0 ≤ a0.toInt) ∧ (a0.toInt ≤ 43) ∧ (0 ≤ (0 : Int32).toInt) ∧ ((0 : Int32).toInt ≤ 200) ∧ ((w.1 127 4).toInt ≤ a0.toInt) ∧ (a0.toInt < (w.1 127 4).toInt + (w.1 127 11).toInt) := by have := (by decide : ((0 : Int32)).toInt = 0); have := bd_127_4 hI; have := bd_127_11 hI; exact ⟨by (first | omega | sorry), by (first | omega | sorry), by (first | omega | sorry), by (first | omega | sorry), by (first | omega | sorry), by (first | omega | sorry)⟩
    refine hq_Mo_litresIn_19 FU _ _ w hI  o13979.1 o13979.2.1 o13979.2.2.1 o13979.2.2.2.1 o13979.2.2.2.2.1 o13979.2.2.2.2.2 (fu_lt (by have := (by decide : ((0 : Int32)).toInt = 0); have := bd_127_4 hI; have := bd_127_11 hI; (first | omega | sorry))) (fun e13983 w13980 hI13981 hL13982  => ?_) (fun r w9 hI9 hF9 q0 => q0.elim)
    have hF13984 : FR l_Mo_litresIn w w13980 := (FR.refl _ w).tr hL13982 rfl
    exact hQ _ _ hI13981 hF13984 
  · have o13985 : 0 ≤ a0.toInt ∧ a0.toInt < 20 := by have := bd_127_4 hI; have := bd_127_11 hI; (first | omega | sorry)
    refine ⟨o13985, ?_⟩
    exact hQ _ _ hI (FR.refl _ w) 
def l_Mo_space : Pl := []
set_option maxRecDepth 20000 in
set_option maxHeartbeats 2000000 in
theorem h_Mo_space {w : MW} {a0 : Int32} {b0 : Int32} {Q : Int32 → MW → Prop} (hI : BND w)  (hQ : ∀ (r : Int32) (w' : MW), BND w' → FR l_Mo_space w w' → Q r w') : p_Mo_space w a0 b0 Q := by
  refine Eq.mpr (p_Mo_space.eq_1 _ _ _ _) ?_
  refine ⟨fun h13986 => ?_, fun h13986 => ?_⟩
  · refine h_Mo_holdsLiquid hI   (fun r13990 w13987 hI13988 hL13989 p13991 p13992 p13993 => ?_)
    have hF13994 : FR l_Mo_space w w13987 := (FR.refl _ w).tr hL13989 rfl
    refine ⟨fun h13995 => ?_, fun h13995 => ?_⟩
    · exact hQ _ _ hI13988 hF13994
    · refine ⟨fun h13996 => ?_, fun h13996 => ?_⟩
      · exact hQ _ _ hI13988 hF13994
      · refine ⟨fun h13997 => ?_, fun h13997 => ?_⟩
        · refine ⟨fun h13998 => ?_, fun h13998 => ?_⟩
          · refine ⟨fun h13999 => ?_, fun h13999 => ?_⟩
            · refine ⟨fun h14000 => ?_, fun h14000 => ?_⟩
              · have o14001 : (0 ≤ a0.toInt) ∧ (a0.toInt ≤ 43) ∧ (a0.toInt < (w13987.1 127 4).toInt + (w13987.1 127 11).toInt) := by have := ti_lo a0; have := ti_hi a0; have := bd_127_4 hI13988; have := bd_127_4 hI; have := (congrArg Int32.toInt (hL13989 127 4 rfl).1); have := bd_127_11 hI13988; have := bd_127_11 hI; have := (congrArg Int32.toInt (hL13989 127 11 rfl).1); have := (by decide : ((0 : Int32)).toInt = 0); exact ⟨by (first | omega | sorry), by (first | omega | sorry), by (first | omega | sorry)⟩
                refine h_Mo_level hI13988  o14001.1 o14001.2.1 o14001.2.2 (fun r14005 w14002 hI14003 hL14004 p14006 p14007 => ?_)
                have hF14008 : FR l_Mo_space w w14002 := hF13994.tr hL14004 rfl
                exact hQ _ _ hI14003 hF14008 
              · have o14009 : 0 ≤ a0.toInt ∧ a0.toInt < 44 := by have := ti_lo a0; have := ti_hi a0; have := bd_127_4 hI; have := bd_127_11 hI; have := (by decide : ((0 : Int32)).toInt = 0); (first | omega | sorry)
                refine ⟨o14009, ?_⟩
                exact hQ _ _ hI13988 hF13994 
            · have o14010 : (0 ≤ a0.toInt) ∧ (a0.toInt ≤ 43) ∧ (a0.toInt < (w13987.1 127 4).toInt + (w13987.1 127 11).toInt) := by have := ti_lo a0; have := ti_hi a0; have := bd_127_4 hI13988; have := bd_127_4 hI; have := (congrArg Int32.toInt (hL13989 127 4 rfl).1); have := bd_127_11 hI13988; have := bd_127_11 hI; have := (congrArg Int32.toInt (hL13989 127 11 rfl).1); have := (by decide : ((0 : Int32)).toInt = 0); exact ⟨by (first | omega | sorry), by (first | omega | sorry), by (first | omega | sorry)⟩
              refine h_Mo_litresIn hI13988  o14010.1 o14010.2.1 o14010.2.2 (fun r14014 w14011 hI14012 hL14013  => ?_)
              have hF14015 : FR l_Mo_space w w14011 := hF13994.tr hL14013 rfl
              exact hQ _ _ hI14012 hF14015 
          · have o14016 : (0 ≤ a0.toInt) ∧ (a0.toInt ≤ 43) ∧ (a0.toInt < (w13987.1 127 4).toInt + (w13987.1 127 11).toInt) := by have := ti_lo a0; have := ti_hi a0; have := bd_127_4 hI13988; have := bd_127_4 hI; have := (congrArg Int32.toInt (hL13989 127 4 rfl).1); have := bd_127_11 hI13988; have := bd_127_11 hI; have := (congrArg Int32.toInt (hL13989 127 11 rfl).1); have := (by decide : ((0 : Int32)).toInt = 0); exact ⟨by (first | omega | sorry), by (first | omega | sorry), by (first | omega | sorry)⟩
            refine h_Mo_liquidIn hI13988  o14016.1 o14016.2.1 o14016.2.2 (fun r14020 w14017 hI14018 hL14019 p14021 p14022 => ?_)
            have hF14023 : FR l_Mo_space w w14017 := hF13994.tr hL14019 rfl
            exact hQ _ _ hI14018 hF14023 
        · exact hQ _ _ hI13988 hF13994
  · refine Eq.mpr (p_Mo_isValve.eq_1 _ _ _) ?_
    refine Eq.mpr (p_Mo_isThing.eq_1 _ _ _) ?_
    refine ⟨fun h14024 => ?_, fun h14024 => ?_⟩
    · refine ⟨fun _ => ?_, fun h => absurd (by decide) h⟩
      refine ⟨fun _ => ?_, fun h => absurd (by decide) h⟩
      exact hQ _ _ hI (FR.refl _ w) 
    · refine ⟨fun h14025 => ?_, fun h14025 => ?_⟩
      · refine ⟨fun _ => ?_, fun h => absurd (by decide) h⟩
        refine ⟨fun _ => ?_, fun h => absurd (by decide) h⟩
        exact hQ _ _ hI (FR.refl _ w) 
      · refine ⟨fun h => absurd h (by decide), fun _ => ?_⟩
        have o14026 : 0 ≤ a0.toInt ∧ a0.toInt < 20 := by have := (by decide : ((0 : Int32)).toInt = 0); have := bd_127_4 hI; (first | omega | sorry)
        refine ⟨o14026, ?_⟩
        refine ⟨fun h14027 => ?_, fun h14027 => ?_⟩
        · refine ⟨fun _ => ?_, fun h => absurd (by decide) h⟩
          exact hQ _ _ hI (FR.refl _ w) 
        · refine ⟨fun h => absurd h (by decide), fun _ => ?_⟩
          have o14028 : 0 ≤ a0.toInt ∧ a0.toInt < 20 := by have := (by decide : ((0 : Int32)).toInt = 0); have := bd_127_4 hI; (first | omega | sorry)
          refine ⟨o14028, ?_⟩
          exact hQ _ _ hI (FR.refl _ w) 
def l_Mo_mayCome_69 : Pl := []
def l_Mo_mayCome : Pl := []
set_option maxRecDepth 20000 in
set_option maxHeartbeats 2000000 in
theorem h_Mo_mayCome {w : MW} {a0 : Int32} {b0 : Int32} {Q : Int32 → MW → Prop} (hI : BND w) (hp0 : 0 ≤ a0.toInt) (hp1 : a0.toInt ≤ 15) (hp2 : 0 ≤ b0.toInt) (hp3 : b0.toInt ≤ 43) (hp4 : b0.toInt < (w.1 127 4).toInt + (w.1 127 11).toInt) (hQ : ∀ (r : Int32) (w' : MW), BND w' → FR l_Mo_mayCome w w' → 0 ≤ r.toInt → r.toInt ≤ 1 → Q r w') : p_Mo_mayCome w a0 b0 Q := by
  refine Eq.mpr (p_Mo_mayCome.eq_1 _ _ _ _) ?_
  have o14029 : (0 ≤ b0.toInt) ∧ (b0.toInt ≤ 43) ∧ (b0.toInt < (w.1 127 4).toInt + (w.1 127 11).toInt) := by have := bd_127_4 hI; have := bd_127_11 hI; exact ⟨by (first | omega | sorry), by (first | omega | sorry), by (first | omega | sorry)⟩
  refine h_Mo_liquidIn hI  o14029.1 o14029.2.1 o14029.2.2 (fun r14033 w14030 hI14031 hL14032 p14034 p14035 => ?_)
  have hF14036 : FR l_Mo_mayCome w w14030 := (FR.refl _ w).tr hL14032 rfl
  refine ⟨fun h14037 => ?_, fun h14037 => ?_⟩
  · have o14038 : 0 ≤ b0.toInt ∧ b0.toInt < 44 := by have := bd_127_4 hI; have := bd_127_11 hI; (first | omega | sorry)
    refine ⟨o14038, ?_⟩
    refine ⟨fun h14039 => ?_, fun h14039 => ?_⟩
    · have o14040 : 0 ≤ b0.toInt ∧ b0.toInt < 44 := by have := bd_127_4 hI; have := bd_127_11 hI; (first | omega | sorry)
      refine ⟨o14040, ?_⟩
      refine ⟨fun h14041 => ?_, fun h14041 => ?_⟩
      · refine Eq.mpr (q_Mo_mayCome_69.eq_1 _ _ _ _) ?_
        refine ⟨fun h => absurd h (by decide), fun _ => ?_⟩
        have o14042 : (0 ≤ b0.toInt) ∧ (b0.toInt ≤ 43) ∧ (b0.toInt < (w14030.1 127 4).toInt + (w14030.1 127 11).toInt) := by have := bd_127_4 hI14031; have := bd_127_4 hI; have := (congrArg Int32.toInt (hL14032 127 4 rfl).1); have := bd_127_11 hI14031; have := bd_127_11 hI; have := (congrArg Int32.toInt (hL14032 127 11 rfl).1); exact ⟨by (first | omega | sorry), by (first | omega | sorry), by (first | omega | sorry)⟩
        refine h_Mo_level hI14031  o14042.1 o14042.2.1 o14042.2.2 (fun r14046 w14043 hI14044 hL14045 p14047 p14048 => ?_)
        have hF14049 : FR l_Mo_mayCome w w14043 := hF14036.tr hL14045 rfl
        refine ⟨fun h14050 => ?_, fun h14050 => ?_⟩
        · replace h14050 : r14046.toInt < 5 := h14050
          have o14051 : (0 ≤ (0 : Int32).toInt) ∧ ((0 : Int32).toInt ≤ 1) := by have := (by decide : ((0 : Int32)).toInt = 0); exact ⟨by (first | omega | sorry), by (first | omega | sorry)⟩
          exact hQ _ _ hI14044 hF14049  o14051.1 o14051.2
        · replace h14050 : ¬ (r14046.toInt < 5) := h14050
          have o14052 : (0 ≤ (1 : Int32).toInt) ∧ ((1 : Int32).toInt ≤ 1) := by have := (by decide : ((1 : Int32)).toInt = 1); exact ⟨by (first | omega | sorry), by (first | omega | sorry)⟩
          exact hQ _ _ hI14044 hF14049  o14052.1 o14052.2
      · refine ⟨fun h14053 => ?_, fun h14053 => ?_⟩
        · have o14054 : 0 ≤ b0.toInt ∧ b0.toInt < 44 := by have := bd_127_4 hI; have := bd_127_11 hI; (first | omega | sorry)
          refine ⟨o14054, ?_⟩
          have o14055 : 0 ≤ (((16 : Int32) * (w14030.1 173 b0.toInt.toNat)) + a0).toInt ∧ (((16 : Int32) * (w14030.1 173 b0.toInt.toNat)) + a0).toInt < 256 := by have := bd_173 hI14031 b0.toInt.toNat; have := bd_173 hI b0.toInt.toNat; have := (congrArg Int32.toInt (hL14032 173 b0.toInt.toNat rfl).1); have := ti_mul2 (by decide : ((16 : Int32)).toInt = 16) (Eq.refl (w14030.1 173 b0.toInt.toNat).toInt) (by (first | omega | sorry)) (by (first | omega | sorry)); have := ti_add2 (Eq.refl ((16 : Int32) * (w14030.1 173 b0.toInt.toNat)).toInt) (Eq.refl a0.toInt) (by (first | omega | sorry)) (by (first | omega | sorry)); have := (by decide : ((0 : Int32)).toInt = 0); have := (by decide : ((15 : Int32)).toInt = 15); (first | omega | sorry)
          refine ⟨o14055, ?_⟩
          refine Eq.mpr (q_Mo_mayCome_69.eq_1 _ _ _ _) ?_
          refine ⟨fun h14056 => ?_, fun h14056 => ?_⟩
          · have o14057 : (0 ≤ (1 : Int32).toInt) ∧ ((1 : Int32).toInt ≤ 1) := by have := (by decide : ((1 : Int32)).toInt = 1); exact ⟨by (first | omega | sorry), by (first | omega | sorry)⟩
            exact hQ _ _ hI14031 hF14036  o14057.1 o14057.2
          · have o14058 : (0 ≤ b0.toInt) ∧ (b0.toInt ≤ 43) ∧ (b0.toInt < (w14030.1 127 4).toInt + (w14030.1 127 11).toInt) := by have := bd_127_4 hI14031; have := bd_127_4 hI; have := (congrArg Int32.toInt (hL14032 127 4 rfl).1); have := bd_127_11 hI14031; have := bd_127_11 hI; have := (congrArg Int32.toInt (hL14032 127 11 rfl).1); exact ⟨by (first | omega | sorry), by (first | omega | sorry), by (first | omega | sorry)⟩
            refine h_Mo_level hI14031  o14058.1 o14058.2.1 o14058.2.2 (fun r14062 w14059 hI14060 hL14061 p14063 p14064 => ?_)
            have hF14065 : FR l_Mo_mayCome w w14059 := hF14036.tr hL14061 rfl
            refine ⟨fun h14066 => ?_, fun h14066 => ?_⟩
            · have o14067 : (0 ≤ (0 : Int32).toInt) ∧ ((0 : Int32).toInt ≤ 1) := by have := (by decide : ((0 : Int32)).toInt = 0); exact ⟨by (first | omega | sorry), by (first | omega | sorry)⟩
              exact hQ _ _ hI14060 hF14065  o14067.1 o14067.2
            · have o14068 : (0 ≤ (1 : Int32).toInt) ∧ ((1 : Int32).toInt ≤ 1) := by have := (by decide : ((1 : Int32)).toInt = 1); exact ⟨by (first | omega | sorry), by (first | omega | sorry)⟩
              exact hQ _ _ hI14060 hF14065  o14068.1 o14068.2
        · refine Eq.mpr (q_Mo_mayCome_69.eq_1 _ _ _ _) ?_
          refine ⟨fun h => absurd h (by decide), fun _ => ?_⟩
          have o14069 : (0 ≤ b0.toInt) ∧ (b0.toInt ≤ 43) ∧ (b0.toInt < (w14030.1 127 4).toInt + (w14030.1 127 11).toInt) := by have := bd_127_4 hI14031; have := bd_127_4 hI; have := (congrArg Int32.toInt (hL14032 127 4 rfl).1); have := bd_127_11 hI14031; have := bd_127_11 hI; have := (congrArg Int32.toInt (hL14032 127 11 rfl).1); exact ⟨by (first | omega | sorry), by (first | omega | sorry), by (first | omega | sorry)⟩
          refine h_Mo_level hI14031  o14069.1 o14069.2.1 o14069.2.2 (fun r14073 w14070 hI14071 hL14072 p14074 p14075 => ?_)
          have hF14076 : FR l_Mo_mayCome w w14070 := hF14036.tr hL14072 rfl
          refine ⟨fun h14077 => ?_, fun h14077 => ?_⟩
          · replace h14077 : r14073.toInt < 5 := h14077
            have o14078 : (0 ≤ (0 : Int32).toInt) ∧ ((0 : Int32).toInt ≤ 1) := by have := (by decide : ((0 : Int32)).toInt = 0); exact ⟨by (first | omega | sorry), by (first | omega | sorry)⟩
            exact hQ _ _ hI14071 hF14076  o14078.1 o14078.2
          · replace h14077 : ¬ (r14073.toInt < 5) := h14077
            have o14079 : (0 ≤ (1 : Int32).toInt) ∧ ((1 : Int32).toInt ≤ 1) := by have := (by decide : ((1 : Int32)).toInt = 1); exact ⟨by (first | omega | sorry), by (first | omega | sorry)⟩
            exact hQ _ _ hI14071 hF14076  o14079.1 o14079.2
    · have o14080 : (0 ≤ (1 : Int32).toInt) ∧ ((1 : Int32).toInt ≤ 1) := by have := (by decide : ((1 : Int32)).toInt = 1); exact ⟨by (first | omega | sorry), by (first | omega | sorry)⟩
      exact hQ _ _ hI14031 hF14036  o14080.1 o14080.2
  · refine ⟨fun h14081 => ?_, fun h14081 => ?_⟩
    · have o14082 : (0 ≤ (0 : Int32).toInt) ∧ ((0 : Int32).toInt ≤ 1) := by have := (by decide : ((0 : Int32)).toInt = 0); exact ⟨by (first | omega | sorry), by (first | omega | sorry)⟩
      exact hQ _ _ hI14031 hF14036  o14082.1 o14082.2
    · have o14083 : (0 ≤ (1 : Int32).toInt) ∧ ((1 : Int32).toInt ≤ 1) := by have := (by decide : ((1 : Int32)).toInt = 1); exact ⟨by (first | omega | sorry), by (first | omega | sorry)⟩
      exact hQ _ _ hI14031 hF14036  o14083.1 o14083.2
def l_Mo_may_46 : Pl := [(175, none)]
def l_Mo_may : Pl := [(175, none)]
set_option maxRecDepth 20000 in
set_option maxHeartbeats 2000000 in
theorem h_Mo_may {w : MW} {a0 : Int32} {b0 : Int32} {Q : Int32 → MW → Prop} (hI : BND w)  (hQ : ∀ (r : Int32) (w' : MW), BND w' → FR l_Mo_may w w' → 0 ≤ r.toInt → r.toInt ≤ 1 → Q r w') : p_Mo_may w a0 b0 Q := by
  refine Eq.mpr (p_Mo_may.eq_1 _ _ _ _) ?_
  refine ⟨fun h14084 => ?_, fun h14084 => ?_⟩
  · refine Eq.mpr (q_Mo_may_46.eq_1 _ _ _ _ _) ?_
    refine ⟨fun _ => ?_, fun h => absurd (by decide) h⟩
    refine ⟨by decide, ?_⟩
    have o14085 : (0 ≤ (0 : Int32).toInt) ∧ ((0 : Int32).toInt ≤ 1) := by have := (by decide : ((0 : Int32)).toInt = 0); exact ⟨by (first | omega | sorry), by (first | omega | sorry)⟩
    exact hQ _ _ hI (FR.refl _ w)  o14085.1 o14085.2
  · refine ⟨fun h14086 => ?_, fun h14086 => ?_⟩
    · refine Eq.mpr (q_Mo_may_46.eq_1 _ _ _ _ _) ?_
      refine ⟨fun _ => ?_, fun h => absurd (by decide) h⟩
      refine ⟨by decide, ?_⟩
      have o14087 : (0 ≤ (0 : Int32).toInt) ∧ ((0 : Int32).toInt ≤ 1) := by have := (by decide : ((0 : Int32)).toInt = 0); exact ⟨by (first | omega | sorry), by (first | omega | sorry)⟩
      exact hQ _ _ hI (FR.refl _ w)  o14087.1 o14087.2
    · refine ⟨fun h14088 => ?_, fun h14088 => ?_⟩
      · refine Eq.mpr (q_Mo_may_46.eq_1 _ _ _ _ _) ?_
        refine ⟨fun _ => ?_, fun h => absurd (by decide) h⟩
        refine ⟨by decide, ?_⟩
        have o14089 : (0 ≤ (0 : Int32).toInt) ∧ ((0 : Int32).toInt ≤ 1) := by have := (by decide : ((0 : Int32)).toInt = 0); exact ⟨by (first | omega | sorry), by (first | omega | sorry)⟩
        exact hQ _ _ hI (FR.refl _ w)  o14089.1 o14089.2
      · refine ⟨fun h14090 => ?_, fun h14090 => ?_⟩
        · refine Eq.mpr (q_Mo_may_46.eq_1 _ _ _ _ _) ?_
          refine ⟨fun _ => ?_, fun h => absurd (by decide) h⟩
          refine ⟨by decide, ?_⟩
          have o14091 : (0 ≤ (0 : Int32).toInt) ∧ ((0 : Int32).toInt ≤ 1) := by have := (by decide : ((0 : Int32)).toInt = 0); exact ⟨by (first | omega | sorry), by (first | omega | sorry)⟩
          exact hQ _ _ hI (FR.refl _ w)  o14091.1 o14091.2
        · refine ⟨fun h14092 => ?_, fun h14092 => ?_⟩
          · refine Eq.mpr (q_Mo_may_46.eq_1 _ _ _ _ _) ?_
            refine ⟨fun _ => ?_, fun h => absurd (by decide) h⟩
            refine ⟨by decide, ?_⟩
            have o14093 : (0 ≤ (0 : Int32).toInt) ∧ ((0 : Int32).toInt ≤ 1) := by have := (by decide : ((0 : Int32)).toInt = 0); exact ⟨by (first | omega | sorry), by (first | omega | sorry)⟩
            exact hQ _ _ hI (FR.refl _ w)  o14093.1 o14093.2
          · have o14094 : 0 ≤ (((16 : Int32) * a0) + b0).toInt ∧ (((16 : Int32) * a0) + b0).toInt < 256 := by have := ti_mul2 (by decide : ((16 : Int32)).toInt = 16) (Eq.refl a0.toInt) (by (first | omega | sorry)) (by (first | omega | sorry)); have := ti_add2 (Eq.refl ((16 : Int32) * a0).toInt) (Eq.refl b0.toInt) (by (first | omega | sorry)) (by (first | omega | sorry)); have := (by decide : ((1 : Int32)).toInt = 1); have := (by decide : ((14 : Int32)).toInt = 14); (first | omega | sorry)
            refine ⟨o14094, ?_⟩
            refine ⟨fun h14095 => ?_, fun h14095 => ?_⟩
            · refine Eq.mpr (q_Mo_may_46.eq_1 _ _ _ _ _) ?_
              refine ⟨fun _ => ?_, fun h => absurd (by decide) h⟩
              refine ⟨by decide, ?_⟩
              have o14096 : (0 ≤ (0 : Int32).toInt) ∧ ((0 : Int32).toInt ≤ 1) := by have := (by decide : ((0 : Int32)).toInt = 0); exact ⟨by (first | omega | sorry), by (first | omega | sorry)⟩
              exact hQ _ _ hI (FR.refl _ w)  o14096.1 o14096.2
            · refine Eq.mpr (q_Mo_may_46.eq_1 _ _ _ _ _) ?_
              refine ⟨fun h => absurd h (by decide), fun _ => ?_⟩
              have o14097 : 0 ≤ (((16 : Int32) * a0) + b0).toInt ∧ (((16 : Int32) * a0) + b0).toInt < 256 := by have := ti_mul2 (by decide : ((16 : Int32)).toInt = 16) (Eq.refl a0.toInt) (by (first | omega | sorry)) (by (first | omega | sorry)); have := ti_add2 (Eq.refl ((16 : Int32) * a0).toInt) (Eq.refl b0.toInt) (by (first | omega | sorry)) (by (first | omega | sorry)); have := (by decide : ((1 : Int32)).toInt = 1); have := (by decide : ((14 : Int32)).toInt = 14); (first | omega | sorry)
              refine ⟨o14097, ?_⟩
              have o14098 : 0 ≤ (((16 : Int32) * b0) + a0).toInt ∧ (((16 : Int32) * b0) + a0).toInt < 256 := by have := ti_mul2 (by decide : ((16 : Int32)).toInt = 16) (Eq.refl b0.toInt) (by (first | omega | sorry)) (by (first | omega | sorry)); have := ti_add2 (Eq.refl ((16 : Int32) * b0).toInt) (Eq.refl a0.toInt) (by (first | omega | sorry)) (by (first | omega | sorry)); have := (by decide : ((1 : Int32)).toInt = 1); have := (by decide : ((14 : Int32)).toInt = 14); (first | omega | sorry)
              refine ⟨o14098, ?_⟩
              refine ⟨by decide, ?_⟩
              have o14100 : 0 ≤ (vp_nar .boolean (1 : Int32)).toInt ∧ (vp_nar .boolean (1 : Int32)).toInt ≤ 1 := by have := nb_bool1; (first | omega | sorry)
              have hI14099 : BND (sI w 175 ((((16 : Int32) * a0) + b0).toInt.toNat) (vp_nar .boolean (1 : Int32))) := wbd_175 hI ((((16 : Int32) * a0) + b0).toInt.toNat) o14100.1 o14100.2
              have o14102 : 0 ≤ (vp_nar .boolean (1 : Int32)).toInt ∧ (vp_nar .boolean (1 : Int32)).toInt ≤ 1 := by have := nb_bool1; (first | omega | sorry)
              have hI14101 : BND (sI (sI w 175 ((((16 : Int32) * a0) + b0).toInt.toNat) (vp_nar .boolean (1 : Int32))) 175 ((((16 : Int32) * b0) + a0).toInt.toNat) (vp_nar .boolean (1 : Int32))) := wbd_175 hI14099 ((((16 : Int32) * b0) + a0).toInt.toNat) o14102.1 o14102.2
              have o14103 : (0 ≤ (1 : Int32).toInt) ∧ ((1 : Int32).toInt ≤ 1) := by have := (by decide : ((1 : Int32)).toInt = 1); exact ⟨by (first | omega | sorry), by (first | omega | sorry)⟩
              exact hQ _ _ hI14101 (FR.I (FR.I (FR.refl _ w) (k := 175) (j := (((16 : Int32) * a0) + b0).toInt.toNat) (v := (vp_nar .boolean (1 : Int32))) rfl) (k := 175) (j := (((16 : Int32) * b0) + a0).toInt.toNat) (v := (vp_nar .boolean (1 : Int32))) rfl)  o14103.1 o14103.2
def l_Mo_need : Pl := [(176, none)]
set_option maxRecDepth 20000 in
set_option maxHeartbeats 2000000 in
theorem h_Mo_need {w : MW} {a0 : Int32} {b0 : Int32} {c0 : Int32} {Q : Int32 → MW → Prop} (hI : BND w)  (hQ : ∀ (r : Int32) (w' : MW), BND w' → FR l_Mo_need w w' → 0 ≤ r.toInt → r.toInt ≤ 1 → Q r w') : p_Mo_need w a0 b0 c0 Q := by
  refine Eq.mpr (p_Mo_need.eq_1 _ _ _ _ _) ?_
  refine ⟨fun h14104 => ?_, fun h14104 => ?_⟩
  · have o14105 : (0 ≤ (0 : Int32).toInt) ∧ ((0 : Int32).toInt ≤ 1) := by have := (by decide : ((0 : Int32)).toInt = 0); exact ⟨by (first | omega | sorry), by (first | omega | sorry)⟩
    exact hQ _ _ hI (FR.refl _ w)  o14105.1 o14105.2
  · refine ⟨fun h14106 => ?_, fun h14106 => ?_⟩
    · have o14107 : (0 ≤ (0 : Int32).toInt) ∧ ((0 : Int32).toInt ≤ 1) := by have := (by decide : ((0 : Int32)).toInt = 0); exact ⟨by (first | omega | sorry), by (first | omega | sorry)⟩
      exact hQ _ _ hI (FR.refl _ w)  o14107.1 o14107.2
    · refine ⟨fun h14108 => ?_, fun h14108 => ?_⟩
      · have o14109 : (0 ≤ (0 : Int32).toInt) ∧ ((0 : Int32).toInt ≤ 1) := by have := (by decide : ((0 : Int32)).toInt = 0); exact ⟨by (first | omega | sorry), by (first | omega | sorry)⟩
        exact hQ _ _ hI (FR.refl _ w)  o14109.1 o14109.2
      · refine ⟨fun h14110 => ?_, fun h14110 => ?_⟩
        · have o14111 : (0 ≤ (0 : Int32).toInt) ∧ ((0 : Int32).toInt ≤ 1) := by have := (by decide : ((0 : Int32)).toInt = 0); exact ⟨by (first | omega | sorry), by (first | omega | sorry)⟩
          exact hQ _ _ hI (FR.refl _ w)  o14111.1 o14111.2
        · refine ⟨fun h14112 => ?_, fun h14112 => ?_⟩
          · have o14113 : (0 ≤ (0 : Int32).toInt) ∧ ((0 : Int32).toInt ≤ 1) := by have := (by decide : ((0 : Int32)).toInt = 0); exact ⟨by (first | omega | sorry), by (first | omega | sorry)⟩
            exact hQ _ _ hI (FR.refl _ w)  o14113.1 o14113.2
          · refine ⟨fun h14114 => ?_, fun h14114 => ?_⟩
            · have o14115 : 0 ≤ (((16 : Int32) * a0) + b0).toInt ∧ (((16 : Int32) * a0) + b0).toInt < 256 := by have := ti_mul2 (by decide : ((16 : Int32)).toInt = 16) (Eq.refl a0.toInt) (by (first | omega | sorry)) (by (first | omega | sorry)); have := ti_add2 (Eq.refl ((16 : Int32) * a0).toInt) (Eq.refl b0.toInt) (by (first | omega | sorry)) (by (first | omega | sorry)); have := (by decide : ((1 : Int32)).toInt = 1); have := (by decide : ((14 : Int32)).toInt = 14); (first | omega | sorry)
              refine ⟨o14115, ?_⟩
              have o14117 : 0 ≤ c0.toInt ∧ c0.toInt ≤ 5 := by have := (by decide : ((0 : Int32)).toInt = 0); have := (by decide : ((5 : Int32)).toInt = 5); (first | omega | sorry)
              have hI14116 : BND (sI w 176 ((((16 : Int32) * a0) + b0).toInt.toNat) c0) := wbd_176 hI ((((16 : Int32) * a0) + b0).toInt.toNat) o14117.1 o14117.2
              have o14118 : (0 ≤ (1 : Int32).toInt) ∧ ((1 : Int32).toInt ≤ 1) := by have := (by decide : ((1 : Int32)).toInt = 1); exact ⟨by (first | omega | sorry), by (first | omega | sorry)⟩
              exact hQ _ _ hI14116 (FR.I (FR.refl _ w) (k := 176) (j := (((16 : Int32) * a0) + b0).toInt.toNat) (v := c0) rfl)  o14118.1 o14118.2
            · have o14119 : (0 ≤ (0 : Int32).toInt) ∧ ((0 : Int32).toInt ≤ 1) := by have := (by decide : ((0 : Int32)).toInt = 0); exact ⟨by (first | omega | sorry), by (first | omega | sorry)⟩
              exact hQ _ _ hI (FR.refl _ w)  o14119.1 o14119.2
def l_Mo_lasts : Pl := [(177, none)]
set_option maxRecDepth 20000 in
set_option maxHeartbeats 2000000 in
theorem h_Mo_lasts {w : MW} {a0 : Int32} {b0 : Int32} {Q : Int32 → MW → Prop} (hI : BND w)  (hQ : ∀ (r : Int32) (w' : MW), BND w' → FR l_Mo_lasts w w' → 0 ≤ r.toInt → r.toInt ≤ 1 → Q r w') : p_Mo_lasts w a0 b0 Q := by
  refine Eq.mpr (p_Mo_lasts.eq_1 _ _ _ _) ?_
  refine ⟨fun h14120 => ?_, fun h14120 => ?_⟩
  · have o14121 : (0 ≤ (0 : Int32).toInt) ∧ ((0 : Int32).toInt ≤ 1) := by have := (by decide : ((0 : Int32)).toInt = 0); exact ⟨by (first | omega | sorry), by (first | omega | sorry)⟩
    exact hQ _ _ hI (FR.refl _ w)  o14121.1 o14121.2
  · refine ⟨fun h14122 => ?_, fun h14122 => ?_⟩
    · have o14123 : (0 ≤ (0 : Int32).toInt) ∧ ((0 : Int32).toInt ≤ 1) := by have := (by decide : ((0 : Int32)).toInt = 0); exact ⟨by (first | omega | sorry), by (first | omega | sorry)⟩
      exact hQ _ _ hI (FR.refl _ w)  o14123.1 o14123.2
    · refine ⟨fun h14124 => ?_, fun h14124 => ?_⟩
      · have o14125 : (0 ≤ (0 : Int32).toInt) ∧ ((0 : Int32).toInt ≤ 1) := by have := (by decide : ((0 : Int32)).toInt = 0); exact ⟨by (first | omega | sorry), by (first | omega | sorry)⟩
        exact hQ _ _ hI (FR.refl _ w)  o14125.1 o14125.2
      · refine ⟨fun h14126 => ?_, fun h14126 => ?_⟩
        · have o14127 : 0 ≤ a0.toInt ∧ a0.toInt < 6 := by have := (by decide : ((1 : Int32)).toInt = 1); have := (by decide : ((5 : Int32)).toInt = 5); (first | omega | sorry)
          refine ⟨o14127, ?_⟩
          have o14129 : 0 ≤ b0.toInt ∧ b0.toInt ≤ 1000000 := by have := (by decide : ((0 : Int32)).toInt = 0); have := (by decide : ((1000000 : Int32)).toInt = 1000000); (first | omega | sorry)
          have hI14128 : BND (sI w 177 a0.toInt.toNat b0) := wbd_177 hI a0.toInt.toNat o14129.1 o14129.2
          have o14130 : (0 ≤ (1 : Int32).toInt) ∧ ((1 : Int32).toInt ≤ 1) := by have := (by decide : ((1 : Int32)).toInt = 1); exact ⟨by (first | omega | sorry), by (first | omega | sorry)⟩
          exact hQ _ _ hI14128 (FR.I (FR.refl _ w) (k := 177) (j := a0.toInt.toNat) (v := b0) rfl)  o14130.1 o14130.2
        · have o14131 : (0 ≤ (0 : Int32).toInt) ∧ ((0 : Int32).toInt ≤ 1) := by have := (by decide : ((0 : Int32)).toInt = 0); exact ⟨by (first | omega | sorry), by (first | omega | sorry)⟩
          exact hQ _ _ hI (FR.refl _ w)  o14131.1 o14131.2
def l_Mo_bind_72 : Pl := [(197, none), (198, none), (199, none), (200, none)]
def l_Mo_bind_53 : Pl := [(197, none), (198, none), (199, none), (200, none)]
def l_Mo_bind_36 : Pl := [(197, none), (198, none), (199, none), (200, none)]
def l_Mo_bind : Pl := [(197, none), (198, none), (199, none), (200, none)]
set_option maxRecDepth 20000 in
set_option maxHeartbeats 2000000 in
theorem h_Mo_bind {w : MW} {a0 : Int32} {b0 : Int32} {c0 : Int32} {e0 : Int32} {f0 : Int32} {Q : Int32 → MW → Prop} (hI : BND w)  (hQ : ∀ (r : Int32) (w' : MW), BND w' → FR l_Mo_bind w w' → 0 ≤ r.toInt → r.toInt ≤ 1 → Q r w') : p_Mo_bind w a0 b0 c0 e0 f0 Q := by
  refine Eq.mpr (p_Mo_bind.eq_1 _ _ _ _ _ _ _) ?_
  refine ⟨fun h14132 => ?_, fun h14132 => ?_⟩
  · have o14133 : (0 ≤ (0 : Int32).toInt) ∧ ((0 : Int32).toInt ≤ 1) := by have := (by decide : ((0 : Int32)).toInt = 0); exact ⟨by (first | omega | sorry), by (first | omega | sorry)⟩
    exact hQ _ _ hI (FR.refl _ w)  o14133.1 o14133.2
  · refine ⟨fun h14134 => ?_, fun h14134 => ?_⟩
    · have o14135 : (0 ≤ (0 : Int32).toInt) ∧ ((0 : Int32).toInt ≤ 1) := by have := (by decide : ((0 : Int32)).toInt = 0); exact ⟨by (first | omega | sorry), by (first | omega | sorry)⟩
      exact hQ _ _ hI (FR.refl _ w)  o14135.1 o14135.2
    · refine ⟨fun h14136 => ?_, fun h14136 => ?_⟩
      · have o14137 : (0 ≤ (0 : Int32).toInt) ∧ ((0 : Int32).toInt ≤ 1) := by have := (by decide : ((0 : Int32)).toInt = 0); exact ⟨by (first | omega | sorry), by (first | omega | sorry)⟩
        exact hQ _ _ hI (FR.refl _ w)  o14137.1 o14137.2
      · refine ⟨fun h14138 => ?_, fun h14138 => ?_⟩
        · have o14139 : (0 ≤ (0 : Int32).toInt) ∧ ((0 : Int32).toInt ≤ 1) := by have := (by decide : ((0 : Int32)).toInt = 0); exact ⟨by (first | omega | sorry), by (first | omega | sorry)⟩
          exact hQ _ _ hI (FR.refl _ w)  o14139.1 o14139.2
        · refine ⟨fun h14140 => ?_, fun h14140 => ?_⟩
          · refine Eq.mpr (q_Mo_bind_36.eq_1 _ _ _ _ _ _ _) ?_
            refine ⟨fun h14141 => ?_, fun h14141 => ?_⟩
            · refine Eq.mpr (q_Mo_bind_53.eq_1 _ _ _ _ _ _ _) ?_
              refine ⟨fun h14142 => ?_, fun h14142 => ?_⟩
              · refine Eq.mpr (q_Mo_bind_72.eq_1 _ _ _ _ _ _ _) ?_
                have o14143 : 0 ≤ a0.toInt ∧ a0.toInt < 32 := by have := (by decide : ((0 : Int32)).toInt = 0); have := (by decide : ((31 : Int32)).toInt = 31); (first | omega | sorry)
                refine ⟨o14143, ?_⟩
                have o14144 : 0 ≤ a0.toInt ∧ a0.toInt < 32 := by have := (by decide : ((0 : Int32)).toInt = 0); have := (by decide : ((31 : Int32)).toInt = 31); (first | omega | sorry)
                refine ⟨o14144, ?_⟩
                have o14145 : 0 ≤ a0.toInt ∧ a0.toInt < 32 := by have := (by decide : ((0 : Int32)).toInt = 0); have := (by decide : ((31 : Int32)).toInt = 31); (first | omega | sorry)
                refine ⟨o14145, ?_⟩
                have o14146 : 0 ≤ a0.toInt ∧ a0.toInt < 32 := by have := (by decide : ((0 : Int32)).toInt = 0); have := (by decide : ((31 : Int32)).toInt = 31); (first | omega | sorry)
                refine ⟨o14146, ?_⟩
                have o14148 : (-1) ≤ b0.toInt ∧ b0.toInt ≤ 4 := by have := (by decide : ((0 : Int32)).toInt = 0); have := (by decide : ((4 : Int32)).toInt = 4); have := (by decide : ((2 : Int32)).toInt = 2); have := (by decide : ((3 : Int32)).toInt = 3); (first | omega | sorry)
                have hI14147 : BND (sI w 197 a0.toInt.toNat b0) := wbd_197 hI a0.toInt.toNat o14148.1 o14148.2
                have hI14149 : BND (sI (sI w 197 a0.toInt.toNat b0) 198 a0.toInt.toNat c0) := wbd_198 hI14147 a0.toInt.toNat
                have hI14150 : BND (sI (sI (sI w 197 a0.toInt.toNat b0) 198 a0.toInt.toNat c0) 199 a0.toInt.toNat e0) := wbd_199 hI14149 a0.toInt.toNat
                have hI14151 : BND (sI (sI (sI (sI w 197 a0.toInt.toNat b0) 198 a0.toInt.toNat c0) 199 a0.toInt.toNat e0) 200 a0.toInt.toNat f0) := wbd_200 hI14150 a0.toInt.toNat
                have o14152 : (0 ≤ (1 : Int32).toInt) ∧ ((1 : Int32).toInt ≤ 1) := by have := (by decide : ((1 : Int32)).toInt = 1); exact ⟨by (first | omega | sorry), by (first | omega | sorry)⟩
                exact hQ _ _ hI14151 (FR.I (FR.I (FR.I (FR.I (FR.refl _ w) (k := 197) (j := a0.toInt.toNat) (v := b0) rfl) (k := 198) (j := a0.toInt.toNat) (v := c0) rfl) (k := 199) (j := a0.toInt.toNat) (v := e0) rfl) (k := 200) (j := a0.toInt.toNat) (v := f0) rfl)  o14152.1 o14152.2
              · refine ⟨fun h14153 => ?_, fun h14153 => ?_⟩
                · have o14154 : (0 ≤ (0 : Int32).toInt) ∧ ((0 : Int32).toInt ≤ 1) := by have := (by decide : ((0 : Int32)).toInt = 0); exact ⟨by (first | omega | sorry), by (first | omega | sorry)⟩
                  exact hQ _ _ hI (FR.refl _ w)  o14154.1 o14154.2
                · refine ⟨fun h14155 => ?_, fun h14155 => ?_⟩
                  · refine Eq.mpr (q_Mo_bind_72.eq_1 _ _ _ _ _ _ _) ?_
                    have o14156 : 0 ≤ a0.toInt ∧ a0.toInt < 32 := by have := (by decide : ((0 : Int32)).toInt = 0); have := (by decide : ((31 : Int32)).toInt = 31); (first | omega | sorry)
                    refine ⟨o14156, ?_⟩
                    have o14157 : 0 ≤ a0.toInt ∧ a0.toInt < 32 := by have := (by decide : ((0 : Int32)).toInt = 0); have := (by decide : ((31 : Int32)).toInt = 31); (first | omega | sorry)
                    refine ⟨o14157, ?_⟩
                    have o14158 : 0 ≤ a0.toInt ∧ a0.toInt < 32 := by have := (by decide : ((0 : Int32)).toInt = 0); have := (by decide : ((31 : Int32)).toInt = 31); (first | omega | sorry)
                    refine ⟨o14158, ?_⟩
                    have o14159 : 0 ≤ a0.toInt ∧ a0.toInt < 32 := by have := (by decide : ((0 : Int32)).toInt = 0); have := (by decide : ((31 : Int32)).toInt = 31); (first | omega | sorry)
                    refine ⟨o14159, ?_⟩
                    have o14161 : (-1) ≤ b0.toInt ∧ b0.toInt ≤ 4 := by have := (by decide : ((0 : Int32)).toInt = 0); have := (by decide : ((4 : Int32)).toInt = 4); have := (by decide : ((2 : Int32)).toInt = 2); have := (by decide : ((3 : Int32)).toInt = 3); (first | omega | sorry)
                    have hI14160 : BND (sI w 197 a0.toInt.toNat b0) := wbd_197 hI a0.toInt.toNat o14161.1 o14161.2
                    have hI14162 : BND (sI (sI w 197 a0.toInt.toNat b0) 198 a0.toInt.toNat c0) := wbd_198 hI14160 a0.toInt.toNat
                    have hI14163 : BND (sI (sI (sI w 197 a0.toInt.toNat b0) 198 a0.toInt.toNat c0) 199 a0.toInt.toNat e0) := wbd_199 hI14162 a0.toInt.toNat
                    have hI14164 : BND (sI (sI (sI (sI w 197 a0.toInt.toNat b0) 198 a0.toInt.toNat c0) 199 a0.toInt.toNat e0) 200 a0.toInt.toNat f0) := wbd_200 hI14163 a0.toInt.toNat
                    have o14165 : (0 ≤ (1 : Int32).toInt) ∧ ((1 : Int32).toInt ≤ 1) := by have := (by decide : ((1 : Int32)).toInt = 1); exact ⟨by (first | omega | sorry), by (first | omega | sorry)⟩
                    exact hQ _ _ hI14164 (FR.I (FR.I (FR.I (FR.I (FR.refl _ w) (k := 197) (j := a0.toInt.toNat) (v := b0) rfl) (k := 198) (j := a0.toInt.toNat) (v := c0) rfl) (k := 199) (j := a0.toInt.toNat) (v := e0) rfl) (k := 200) (j := a0.toInt.toNat) (v := f0) rfl)  o14165.1 o14165.2
                  · have o14166 : (0 ≤ (0 : Int32).toInt) ∧ ((0 : Int32).toInt ≤ 1) := by have := (by decide : ((0 : Int32)).toInt = 0); exact ⟨by (first | omega | sorry), by (first | omega | sorry)⟩
                    exact hQ _ _ hI (FR.refl _ w)  o14166.1 o14166.2
            · refine ⟨fun h14167 => ?_, fun h14167 => ?_⟩
              · have o14168 : (0 ≤ (0 : Int32).toInt) ∧ ((0 : Int32).toInt ≤ 1) := by have := (by decide : ((0 : Int32)).toInt = 0); exact ⟨by (first | omega | sorry), by (first | omega | sorry)⟩
                exact hQ _ _ hI (FR.refl _ w)  o14168.1 o14168.2
              · refine ⟨fun h14169 => ?_, fun h14169 => ?_⟩
                · have o14170 : (0 ≤ (0 : Int32).toInt) ∧ ((0 : Int32).toInt ≤ 1) := by have := (by decide : ((0 : Int32)).toInt = 0); exact ⟨by (first | omega | sorry), by (first | omega | sorry)⟩
                  exact hQ _ _ hI (FR.refl _ w)  o14170.1 o14170.2
                · refine Eq.mpr (q_Mo_bind_53.eq_1 _ _ _ _ _ _ _) ?_
                  refine ⟨fun h14171 => ?_, fun h14171 => ?_⟩
                  · refine Eq.mpr (q_Mo_bind_72.eq_1 _ _ _ _ _ _ _) ?_
                    have o14172 : 0 ≤ a0.toInt ∧ a0.toInt < 32 := by have := (by decide : ((0 : Int32)).toInt = 0); have := (by decide : ((31 : Int32)).toInt = 31); (first | omega | sorry)
                    refine ⟨o14172, ?_⟩
                    have o14173 : 0 ≤ a0.toInt ∧ a0.toInt < 32 := by have := (by decide : ((0 : Int32)).toInt = 0); have := (by decide : ((31 : Int32)).toInt = 31); (first | omega | sorry)
                    refine ⟨o14173, ?_⟩
                    have o14174 : 0 ≤ a0.toInt ∧ a0.toInt < 32 := by have := (by decide : ((0 : Int32)).toInt = 0); have := (by decide : ((31 : Int32)).toInt = 31); (first | omega | sorry)
                    refine ⟨o14174, ?_⟩
                    have o14175 : 0 ≤ a0.toInt ∧ a0.toInt < 32 := by have := (by decide : ((0 : Int32)).toInt = 0); have := (by decide : ((31 : Int32)).toInt = 31); (first | omega | sorry)
                    refine ⟨o14175, ?_⟩
                    have o14177 : (-1) ≤ b0.toInt ∧ b0.toInt ≤ 4 := by have := (by decide : ((0 : Int32)).toInt = 0); have := (by decide : ((4 : Int32)).toInt = 4); have := (by decide : ((2 : Int32)).toInt = 2); have := (by decide : ((3 : Int32)).toInt = 3); (first | omega | sorry)
                    have hI14176 : BND (sI w 197 a0.toInt.toNat b0) := wbd_197 hI a0.toInt.toNat o14177.1 o14177.2
                    have hI14178 : BND (sI (sI w 197 a0.toInt.toNat b0) 198 a0.toInt.toNat c0) := wbd_198 hI14176 a0.toInt.toNat
                    have hI14179 : BND (sI (sI (sI w 197 a0.toInt.toNat b0) 198 a0.toInt.toNat c0) 199 a0.toInt.toNat e0) := wbd_199 hI14178 a0.toInt.toNat
                    have hI14180 : BND (sI (sI (sI (sI w 197 a0.toInt.toNat b0) 198 a0.toInt.toNat c0) 199 a0.toInt.toNat e0) 200 a0.toInt.toNat f0) := wbd_200 hI14179 a0.toInt.toNat
                    have o14181 : (0 ≤ (1 : Int32).toInt) ∧ ((1 : Int32).toInt ≤ 1) := by have := (by decide : ((1 : Int32)).toInt = 1); exact ⟨by (first | omega | sorry), by (first | omega | sorry)⟩
                    exact hQ _ _ hI14180 (FR.I (FR.I (FR.I (FR.I (FR.refl _ w) (k := 197) (j := a0.toInt.toNat) (v := b0) rfl) (k := 198) (j := a0.toInt.toNat) (v := c0) rfl) (k := 199) (j := a0.toInt.toNat) (v := e0) rfl) (k := 200) (j := a0.toInt.toNat) (v := f0) rfl)  o14181.1 o14181.2
                  · exfalso; have := (by decide : ((0 : Int32)).toInt = 0); have := (by decide : ((31 : Int32)).toInt = 31); have := (by decide : ((4 : Int32)).toInt = 4); have := (by decide : ((2 : Int32)).toInt = 2); have := (by decide : ((9 : Int32)).toInt = 9); have := (by decide : ((3 : Int32)).toInt = 3); (first | omega | sorry)
          · refine ⟨fun h14182 => ?_, fun h14182 => ?_⟩
            · have o14183 : (0 ≤ (0 : Int32).toInt) ∧ ((0 : Int32).toInt ≤ 1) := by have := (by decide : ((0 : Int32)).toInt = 0); exact ⟨by (first | omega | sorry), by (first | omega | sorry)⟩
              exact hQ _ _ hI (FR.refl _ w)  o14183.1 o14183.2
            · refine ⟨fun h14184 => ?_, fun h14184 => ?_⟩
              · have o14185 : (0 ≤ (0 : Int32).toInt) ∧ ((0 : Int32).toInt ≤ 1) := by have := (by decide : ((0 : Int32)).toInt = 0); exact ⟨by (first | omega | sorry), by (first | omega | sorry)⟩
                exact hQ _ _ hI (FR.refl _ w)  o14185.1 o14185.2
              · refine Eq.mpr (q_Mo_bind_36.eq_1 _ _ _ _ _ _ _) ?_
                refine ⟨fun h14186 => ?_, fun h14186 => ?_⟩
                · refine Eq.mpr (q_Mo_bind_53.eq_1 _ _ _ _ _ _ _) ?_
                  refine ⟨fun h14187 => ?_, fun h14187 => ?_⟩
                  · refine Eq.mpr (q_Mo_bind_72.eq_1 _ _ _ _ _ _ _) ?_
                    have o14188 : 0 ≤ a0.toInt ∧ a0.toInt < 32 := by have := (by decide : ((0 : Int32)).toInt = 0); have := (by decide : ((31 : Int32)).toInt = 31); (first | omega | sorry)
                    refine ⟨o14188, ?_⟩
                    have o14189 : 0 ≤ a0.toInt ∧ a0.toInt < 32 := by have := (by decide : ((0 : Int32)).toInt = 0); have := (by decide : ((31 : Int32)).toInt = 31); (first | omega | sorry)
                    refine ⟨o14189, ?_⟩
                    have o14190 : 0 ≤ a0.toInt ∧ a0.toInt < 32 := by have := (by decide : ((0 : Int32)).toInt = 0); have := (by decide : ((31 : Int32)).toInt = 31); (first | omega | sorry)
                    refine ⟨o14190, ?_⟩
                    have o14191 : 0 ≤ a0.toInt ∧ a0.toInt < 32 := by have := (by decide : ((0 : Int32)).toInt = 0); have := (by decide : ((31 : Int32)).toInt = 31); (first | omega | sorry)
                    refine ⟨o14191, ?_⟩
                    have o14193 : (-1) ≤ b0.toInt ∧ b0.toInt ≤ 4 := by have := (by decide : ((0 : Int32)).toInt = 0); have := (by decide : ((4 : Int32)).toInt = 4); have := (by decide : ((2 : Int32)).toInt = 2); have := (by decide : ((3 : Int32)).toInt = 3); (first | omega | sorry)
                    have hI14192 : BND (sI w 197 a0.toInt.toNat b0) := wbd_197 hI a0.toInt.toNat o14193.1 o14193.2
                    have hI14194 : BND (sI (sI w 197 a0.toInt.toNat b0) 198 a0.toInt.toNat c0) := wbd_198 hI14192 a0.toInt.toNat
                    have hI14195 : BND (sI (sI (sI w 197 a0.toInt.toNat b0) 198 a0.toInt.toNat c0) 199 a0.toInt.toNat e0) := wbd_199 hI14194 a0.toInt.toNat
                    have hI14196 : BND (sI (sI (sI (sI w 197 a0.toInt.toNat b0) 198 a0.toInt.toNat c0) 199 a0.toInt.toNat e0) 200 a0.toInt.toNat f0) := wbd_200 hI14195 a0.toInt.toNat
                    have o14197 : (0 ≤ (1 : Int32).toInt) ∧ ((1 : Int32).toInt ≤ 1) := by have := (by decide : ((1 : Int32)).toInt = 1); exact ⟨by (first | omega | sorry), by (first | omega | sorry)⟩
                    exact hQ _ _ hI14196 (FR.I (FR.I (FR.I (FR.I (FR.refl _ w) (k := 197) (j := a0.toInt.toNat) (v := b0) rfl) (k := 198) (j := a0.toInt.toNat) (v := c0) rfl) (k := 199) (j := a0.toInt.toNat) (v := e0) rfl) (k := 200) (j := a0.toInt.toNat) (v := f0) rfl)  o14197.1 o14197.2
                  · exfalso; have := (by decide : ((0 : Int32)).toInt = 0); have := (by decide : ((31 : Int32)).toInt = 31); have := (by decide : ((4 : Int32)).toInt = 4); have := (by decide : ((1 : Int32)).toInt = 1); have := (by decide : ((100 : Int32)).toInt = 100); have := (by decide : ((2 : Int32)).toInt = 2); have := (by decide : ((3 : Int32)).toInt = 3); (first | omega | sorry)
                · exfalso; have := (by decide : ((0 : Int32)).toInt = 0); have := (by decide : ((31 : Int32)).toInt = 31); have := (by decide : ((4 : Int32)).toInt = 4); have := (by decide : ((1 : Int32)).toInt = 1); have := (by decide : ((100 : Int32)).toInt = 100); have := (by decide : ((2 : Int32)).toInt = 2); (first | omega | sorry)
def l_Mo_isOnWay_34 : Pl := []
def l_Mo_isOnWay_2 : Pl := []
def l_Mo_isOnWay : Pl := []
set_option maxRecDepth 20000 in
set_option maxHeartbeats 2000000 in
theorem hq_Mo_isOnWay_34 {x34_1 : Int32} {x34_2 : Int32} {E : MW → Prop} {Q : Int32 → MW → Prop} (n : Nat) : ∀ (x34_3 : Int32) (w : MW), BND w → 0 ≤ x34_1.toInt → x34_1.toInt ≤ 43 → 0 ≤ x34_2.toInt → x34_2.toInt ≤ 23 → 0 ≤ x34_3.toInt → x34_3.toInt ≤ 24 → (24 - x34_3.toInt).toNat < n → (∀ (w' : MW), BND w' → FR l_Mo_isOnWay_34 w w' → E w') → (∀ (r : Int32) (w' : MW), BND w' → FR l_Mo_isOnWay_34 w w' → 1 ≤ r.toInt → r.toInt ≤ 1 → Q r w') → q_Mo_isOnWay_34 x34_1 x34_2 E Q n x34_3 w := by
  induction n with
  | zero => intros; (first | omega | sorry)
  | succ n ih =>
    intro x34_3 w hI  hp0 hp1 hp2 hp3 hp4 hp5 hm hE hQ
    rw [q_Mo_isOnWay_34.eq_2]
    have o14198 : 0 ≤ x34_2.toInt ∧ x34_2.toInt < 24 := by (first | omega | sorry)
    refine ⟨o14198, ?_⟩
    refine ⟨fun h14199 => ?_, fun h14199 => ?_⟩
    · exact hE _ hI (FR.refl _ w)
    · have o14200 : 0 ≤ (((24 : Int32) * x34_2) + x34_3).toInt ∧ (((24 : Int32) * x34_2) + x34_3).toInt < 576 := by have := ti_mul2 (by decide : ((24 : Int32)).toInt = 24) (Eq.refl x34_2.toInt) (by (first | omega | sorry)) (by (first | omega | sorry)); have := ti_add2 (Eq.refl ((24 : Int32) * x34_2).toInt) (Eq.refl x34_3.toInt) (by (first | omega | sorry)) (by (first | omega | sorry)); have := bd_185 hI x34_2.toInt.toNat; (first | omega | sorry)
      refine ⟨o14200, ?_⟩
      refine ⟨fun h14201 => ?_, fun h14201 => ?_⟩
      · have o14202 : (0 ≤ x34_1.toInt) ∧ (x34_1.toInt ≤ 43) ∧ (0 ≤ x34_2.toInt) ∧ (x34_2.toInt ≤ 23) ∧ (0 ≤ (x34_3 + (1 : Int32)).toInt) ∧ ((x34_3 + (1 : Int32)).toInt ≤ 24) := by have := ti_add2 (Eq.refl x34_3.toInt) (by decide : ((1 : Int32)).toInt = 1) (by (first | omega | sorry)) (by (first | omega | sorry)); have := bd_185 hI x34_2.toInt.toNat; exact ⟨by (first | omega | sorry), by (first | omega | sorry), by (first | omega | sorry), by (first | omega | sorry), by (first | omega | sorry), by (first | omega | sorry)⟩
        exact ih _ w hI  o14202.1 o14202.2.1 o14202.2.2.1 o14202.2.2.2.1 o14202.2.2.2.2.1 o14202.2.2.2.2.2 (by have := ti_add2 (Eq.refl x34_3.toInt) (by decide : ((1 : Int32)).toInt = 1) (by (first | omega | sorry)) (by (first | omega | sorry)); have := bd_185 hI x34_2.toInt.toNat; (first | omega | sorry)) (fun w9 hI9 hF9 => hE w9 hI9 ((FR.refl _ w).tr hF9 rfl) ) (fun r w9 hI9 hF9 q0 q1 => hQ r w9 hI9 ((FR.refl _ w).tr hF9 rfl) (by have := ti_add2 (Eq.refl x34_3.toInt) (by decide : ((1 : Int32)).toInt = 1) (by (first | omega | sorry)) (by (first | omega | sorry)); have := bd_185 hI x34_2.toInt.toNat; (first | omega | sorry)) (by have := ti_add2 (Eq.refl x34_3.toInt) (by decide : ((1 : Int32)).toInt = 1) (by (first | omega | sorry)) (by (first | omega | sorry)); have := bd_185 hI x34_2.toInt.toNat; (first | omega | sorry)))
      · have o14203 : (1 ≤ (1 : Int32).toInt) ∧ ((1 : Int32).toInt ≤ 1) := by have := (by decide : ((1 : Int32)).toInt = 1); exact ⟨by (first | omega | sorry), by (first | omega | sorry)⟩
        exact hQ _ _ hI (FR.refl _ w)  o14203.1 o14203.2
set_option maxRecDepth 20000 in
set_option maxHeartbeats 2000000 in
theorem hq_Mo_isOnWay_2 {x2_1 : Int32} {E : MW → Prop} {Q : Int32 → MW → Prop} (n : Nat) : ∀ (x2_2 : Int32) (w : MW), BND w → 0 ≤ x2_1.toInt → x2_1.toInt ≤ 43 → 0 ≤ x2_2.toInt → x2_2.toInt ≤ 24 → (24 - x2_2.toInt).toNat < n → (∀ (w' : MW), BND w' → FR l_Mo_isOnWay_2 w w' → E w') → (∀ (r : Int32) (w' : MW), BND w' → FR l_Mo_isOnWay_2 w w' → 1 ≤ r.toInt → r.toInt ≤ 1 → Q r w') → q_Mo_isOnWay_2 x2_1 E Q n x2_2 w := by
  induction n with
  | zero => intros; (first | omega | sorry)
  | succ n ih =>
    intro x2_2 w hI  hp0 hp1 hp2 hp3 hm hE hQ
    rw [q_Mo_isOnWay_2.eq_2]
    refine ⟨fun h14204 => ?_, fun h14204 => ?_⟩
    · exact hE _ hI (FR.refl _ w)
    · have o14205 : 0 ≤ x2_2.toInt ∧ x2_2.toInt < 24 := by have := bd_127_26 hI; (first | omega | sorry)
      refine ⟨o14205, ?_⟩
      refine ⟨fun h14206 => ?_, fun h14206 => ?_⟩
      · have o14207 : (1 ≤ (1 : Int32).toInt) ∧ ((1 : Int32).toInt ≤ 1) := by have := (by decide : ((1 : Int32)).toInt = 1); exact ⟨by (first | omega | sorry), by (first | omega | sorry)⟩
        exact hQ _ _ hI (FR.refl _ w)  o14207.1 o14207.2
      · have o14208 : 0 ≤ x2_2.toInt ∧ x2_2.toInt < 24 := by have := bd_127_26 hI; (first | omega | sorry)
        refine ⟨o14208, ?_⟩
        refine ⟨fun h14209 => ?_, fun h14209 => ?_⟩
        · have o14210 : (0 ≤ x2_1.toInt) ∧ (x2_1.toInt ≤ 43) ∧ (0 ≤ x2_2.toInt) ∧ (x2_2.toInt ≤ 23) ∧ (0 ≤ (0 : Int32).toInt) ∧ ((0 : Int32).toInt ≤ 24) := by have := (by decide : ((0 : Int32)).toInt = 0); have := bd_127_26 hI; have := bd_181 hI x2_2.toInt.toNat; have := bd_182 hI x2_2.toInt.toNat; exact ⟨by (first | omega | sorry), by (first | omega | sorry), by (first | omega | sorry), by (first | omega | sorry), by (first | omega | sorry), by (first | omega | sorry)⟩
          refine hq_Mo_isOnWay_34 FU _ w hI  o14210.1 o14210.2.1 o14210.2.2.1 o14210.2.2.2.1 o14210.2.2.2.2.1 o14210.2.2.2.2.2 (fu_lt (by have := (by decide : ((0 : Int32)).toInt = 0); have := bd_127_26 hI; have := bd_181 hI x2_2.toInt.toNat; have := bd_182 hI x2_2.toInt.toNat; (first | omega | sorry))) (fun w14211 hI14212 hL14213  => ?_) (fun r w9 hI9 hF9 q0 q1 => hQ r w9 hI9 (((FR.refl _ w)).tr hF9 rfl) (by have := (by decide : ((0 : Int32)).toInt = 0); have := bd_127_26 hI; have := bd_181 hI x2_2.toInt.toNat; have := bd_182 hI x2_2.toInt.toNat; (first | omega | sorry)) (by have := (by decide : ((0 : Int32)).toInt = 0); have := bd_127_26 hI; have := bd_181 hI x2_2.toInt.toNat; have := bd_182 hI x2_2.toInt.toNat; (first | omega | sorry)))
          have hF14214 : FR l_Mo_isOnWay_2 w w14211 := (FR.refl _ w).tr hL14213 rfl
          have o14215 : (0 ≤ x2_1.toInt) ∧ (x2_1.toInt ≤ 43) ∧ (0 ≤ (x2_2 + (1 : Int32)).toInt) ∧ ((x2_2 + (1 : Int32)).toInt ≤ 24) := by have := ti_add2 (Eq.refl x2_2.toInt) (by decide : ((1 : Int32)).toInt = 1) (by (first | omega | sorry)) (by (first | omega | sorry)); have := bd_127_26 hI; exact ⟨by (first | omega | sorry), by (first | omega | sorry), by (first | omega | sorry), by (first | omega | sorry)⟩
          exact ih _ w14211 hI14212  o14215.1 o14215.2.1 o14215.2.2.1 o14215.2.2.2 (by have := ti_add2 (Eq.refl x2_2.toInt) (by decide : ((1 : Int32)).toInt = 1) (by (first | omega | sorry)) (by (first | omega | sorry)); have := bd_127_26 hI; (first | omega | sorry)) (fun w9 hI9 hF9 => hE w9 hI9 (hF14214.tr hF9 rfl) ) (fun r w9 hI9 hF9 q0 q1 => hQ r w9 hI9 (hF14214.tr hF9 rfl) (by have := ti_add2 (Eq.refl x2_2.toInt) (by decide : ((1 : Int32)).toInt = 1) (by (first | omega | sorry)) (by (first | omega | sorry)); have := bd_127_26 hI; (first | omega | sorry)) (by have := ti_add2 (Eq.refl x2_2.toInt) (by decide : ((1 : Int32)).toInt = 1) (by (first | omega | sorry)) (by (first | omega | sorry)); have := bd_127_26 hI; (first | omega | sorry)))
        · have o14216 : (1 ≤ (1 : Int32).toInt) ∧ ((1 : Int32).toInt ≤ 1) := by have := (by decide : ((1 : Int32)).toInt = 1); exact ⟨by (first | omega | sorry), by (first | omega | sorry)⟩
          exact hQ _ _ hI (FR.refl _ w)  o14216.1 o14216.2
set_option maxRecDepth 20000 in
set_option maxHeartbeats 2000000 in
theorem h_Mo_isOnWay {w : MW} {a0 : Int32} {Q : Int32 → MW → Prop} (hI : BND w) (hp0 : 0 ≤ a0.toInt) (hp1 : a0.toInt ≤ 43) (hQ : ∀ (r : Int32) (w' : MW), BND w' → FR l_Mo_isOnWay w w' → 0 ≤ r.toInt → r.toInt ≤ 1 → Q r w') : p_Mo_isOnWay w a0 Q := by
  refine Eq.mpr (p_Mo_isOnWay.eq_1 _ _ _) ?_
  have o14217 : (0 ≤ a0.toInt) ∧ (a0.toInt ≤ 43) ∧ (0 ≤ (0 : Int32).toInt) ∧ ((0 : Int32).toInt ≤ 24) := by have := (by decide : ((0 : Int32)).toInt = 0); exact ⟨by (first | omega | sorry), by (first | omega | sorry), by (first | omega | sorry), by (first | omega | sorry)⟩
  refine hq_Mo_isOnWay_2 FU _ w hI  o14217.1 o14217.2.1 o14217.2.2.1 o14217.2.2.2 (fu_lt (by have := (by decide : ((0 : Int32)).toInt = 0); (first | omega | sorry))) (fun w14218 hI14219 hL14220  => ?_) (fun r w9 hI9 hF9 q0 q1 => hQ r w9 hI9 (((FR.refl _ w)).tr hF9 rfl) (by have := (by decide : ((0 : Int32)).toInt = 0); (first | omega | sorry)) (by have := (by decide : ((0 : Int32)).toInt = 0); (first | omega | sorry)))
  have hF14221 : FR l_Mo_isOnWay w w14218 := (FR.refl _ w).tr hL14220 rfl
  have o14222 : (0 ≤ (0 : Int32).toInt) ∧ ((0 : Int32).toInt ≤ 1) := by have := (by decide : ((0 : Int32)).toInt = 0); exact ⟨by (first | omega | sorry), by (first | omega | sorry)⟩
  exact hQ _ _ hI14219 hF14221  o14222.1 o14222.2
def l_Mo_least_2 : Pl := []
def l_Mo_least : Pl := []
set_option maxRecDepth 20000 in
set_option maxHeartbeats 2000000 in
theorem hq_Mo_least_2 {x2_0 : Int32} {x2_1 : Int32} {x2_2 : Int32} {E : MW → Prop} {Q : Int32 → MW → Prop} (n : Nat) : ∀ (x2_3 : Int32) (w : MW), BND w → 0 ≤ x2_0.toInt → x2_0.toInt ≤ 7 → 0 ≤ x2_3.toInt → x2_3.toInt ≤ 10 → (10 - x2_3.toInt).toNat < n → (∀ (w' : MW), BND w' → FR l_Mo_least_2 w w' → E w') → (∀ (r : Int32) (w' : MW), BND w' → FR l_Mo_least_2 w w' → 0 ≤ r.toInt → r.toInt ≤ 9 → Q r w') → q_Mo_least_2 x2_0 x2_1 x2_2 E Q n x2_3 w := by
  induction n with
  | zero => intros; (first | omega | sorry)
  | succ n ih =>
    intro x2_3 w hI  hp0 hp1 hp2 hp3 hm hE hQ
    rw [q_Mo_least_2.eq_2]
    refine ⟨fun h14223 => ?_, fun h14223 => ?_⟩
    · exact hE _ hI (FR.refl _ w)
    · have o14224 : (0 ≤ x2_0.toInt) ∧ (x2_0.toInt ≤ 7) ∧ (0 ≤ x2_3.toInt) ∧ (x2_3.toInt ≤ 9) := by have := ti_lo x2_1; have := ti_hi x2_1; have := ti_lo x2_2; have := ti_hi x2_2; have := (by decide : ((10 : Int32)).toInt = 10); exact ⟨by (first | omega | sorry), by (first | omega | sorry), by (first | omega | sorry), by (first | omega | sorry)⟩
      refine h_Mo_passes hI  o14224.1 o14224.2.1 o14224.2.2.1 o14224.2.2.2 (fun r14228 w14225 hI14226 hL14227 p14229 p14230 => ?_)
      have hF14231 : FR l_Mo_least_2 w w14225 := (FR.refl _ w).tr hL14227 rfl
      refine ⟨fun h14232 => ?_, fun h14232 => ?_⟩
      · have o14233 : (0 ≤ x2_0.toInt) ∧ (x2_0.toInt ≤ 7) ∧ (0 ≤ (x2_3 + (1 : Int32)).toInt) ∧ ((x2_3 + (1 : Int32)).toInt ≤ 10) := by have := ti_add2 (Eq.refl x2_3.toInt) (by decide : ((1 : Int32)).toInt = 1) (by (first | omega | sorry)) (by (first | omega | sorry)); have := (by decide : ((10 : Int32)).toInt = 10); exact ⟨by (first | omega | sorry), by (first | omega | sorry), by (first | omega | sorry), by (first | omega | sorry)⟩
        exact ih _ w14225 hI14226  o14233.1 o14233.2.1 o14233.2.2.1 o14233.2.2.2 (by have := ti_add2 (Eq.refl x2_3.toInt) (by decide : ((1 : Int32)).toInt = 1) (by (first | omega | sorry)) (by (first | omega | sorry)); have := (by decide : ((10 : Int32)).toInt = 10); (first | omega | sorry)) (fun w9 hI9 hF9 => hE w9 hI9 (hF14231.tr hF9 rfl) ) (fun r w9 hI9 hF9 q0 q1 => hQ r w9 hI9 (hF14231.tr hF9 rfl) (by have := ti_add2 (Eq.refl x2_3.toInt) (by decide : ((1 : Int32)).toInt = 1) (by (first | omega | sorry)) (by (first | omega | sorry)); have := (by decide : ((10 : Int32)).toInt = 10); (first | omega | sorry)) (by have := ti_add2 (Eq.refl x2_3.toInt) (by decide : ((1 : Int32)).toInt = 1) (by (first | omega | sorry)) (by (first | omega | sorry)); have := (by decide : ((10 : Int32)).toInt = 10); (first | omega | sorry)))
      · have o14234 : (0 ≤ x2_3.toInt) ∧ (x2_3.toInt ≤ 9) := by have := (by decide : ((10 : Int32)).toInt = 10); exact ⟨by (first | omega | sorry), by (first | omega | sorry)⟩
        exact hQ _ _ hI14226 hF14231  o14234.1 o14234.2
set_option maxRecDepth 20000 in
set_option maxHeartbeats 2000000 in
theorem h_Mo_least {w : MW} {a0 : Int32} {b0 : Int32} {c0 : Int32} {Q : Int32 → MW → Prop} (hI : BND w) (hp0 : 0 ≤ a0.toInt) (hp1 : a0.toInt ≤ 7) (hQ : ∀ (r : Int32) (w' : MW), BND w' → FR l_Mo_least w w' → (-1) ≤ r.toInt → r.toInt ≤ 9 → Q r w') : p_Mo_least w a0 b0 c0 Q := by
  refine Eq.mpr (p_Mo_least.eq_1 _ _ _ _ _) ?_
  have o14235 : (0 ≤ a0.toInt) ∧ (a0.toInt ≤ 7) ∧ (0 ≤ (0 : Int32).toInt) ∧ ((0 : Int32).toInt ≤ 10) := by have := ti_lo b0; have := ti_hi b0; have := ti_lo c0; have := ti_hi c0; have := (by decide : ((0 : Int32)).toInt = 0); exact ⟨by (first | omega | sorry), by (first | omega | sorry), by (first | omega | sorry), by (first | omega | sorry)⟩
  refine hq_Mo_least_2 FU _ w hI  o14235.1 o14235.2.1 o14235.2.2.1 o14235.2.2.2 (fu_lt (by have := ti_lo b0; have := ti_hi b0; have := ti_lo c0; have := ti_hi c0; have := (by decide : ((0 : Int32)).toInt = 0); (first | omega | sorry))) (fun w14236 hI14237 hL14238  => ?_) (fun r w9 hI9 hF9 q0 q1 => hQ r w9 hI9 (((FR.refl _ w)).tr hF9 rfl) (by have := ti_lo b0; have := ti_hi b0; have := ti_lo c0; have := ti_hi c0; have := (by decide : ((0 : Int32)).toInt = 0); (first | omega | sorry)) (by have := ti_lo b0; have := ti_hi b0; have := ti_lo c0; have := ti_hi c0; have := (by decide : ((0 : Int32)).toInt = 0); (first | omega | sorry)))
  have hF14239 : FR l_Mo_least w w14236 := (FR.refl _ w).tr hL14238 rfl
  have o14240 : ((-1) ≤ ((-1) : Int32).toInt) ∧ (((-1) : Int32).toInt ≤ 9) := by have := (by decide : (((-1) : Int32)).toInt = (-1)); exact ⟨by (first | omega | sorry), by (first | omega | sorry)⟩
  exact hQ _ _ hI14237 hF14239  o14240.1 o14240.2
def l_Mo_needOf : Pl := []
set_option maxRecDepth 20000 in
set_option maxHeartbeats 2000000 in
theorem h_Mo_needOf {w : MW} {a0 : Int32} {b0 : Int32} {Q : Int32 → MW → Prop} (hI : BND w) (hp0 : 0 ≤ a0.toInt) (hp1 : a0.toInt ≤ 47) (hp2 : 0 ≤ b0.toInt) (hp3 : b0.toInt ≤ 47) (hQ : ∀ (r : Int32) (w' : MW), BND w' → FR l_Mo_needOf w w' → (-1) ≤ r.toInt → r.toInt ≤ 9 → Q r w') : p_Mo_needOf w a0 b0 Q := by
  refine Eq.mpr (p_Mo_needOf.eq_1 _ _ _ _) ?_
  have o14241 : 0 ≤ a0.toInt ∧ a0.toInt < 48 := by (first | omega | sorry)
  refine ⟨o14241, ?_⟩
  refine ⟨fun h14242 => ?_, fun h14242 => ?_⟩
  · have o14243 : ((-1) ≤ ((-1) : Int32).toInt) ∧ (((-1) : Int32).toInt ≤ 9) := by have := (by decide : (((-1) : Int32)).toInt = (-1)); exact ⟨by (first | omega | sorry), by (first | omega | sorry)⟩
    exact hQ _ _ hI (FR.refl _ w)  o14243.1 o14243.2
  · have o14244 : 0 ≤ b0.toInt ∧ b0.toInt < 48 := by (first | omega | sorry)
    refine ⟨o14244, ?_⟩
    refine ⟨fun h14245 => ?_, fun h14245 => ?_⟩
    · have o14246 : ((-1) ≤ ((-1) : Int32).toInt) ∧ (((-1) : Int32).toInt ≤ 9) := by have := (by decide : (((-1) : Int32)).toInt = (-1)); exact ⟨by (first | omega | sorry), by (first | omega | sorry)⟩
      exact hQ _ _ hI (FR.refl _ w)  o14246.1 o14246.2
    · refine ⟨fun h14247 => ?_, fun h14247 => ?_⟩
      · have o14248 : ((-1) ≤ ((-1) : Int32).toInt) ∧ (((-1) : Int32).toInt ≤ 9) := by have := (by decide : (((-1) : Int32)).toInt = (-1)); exact ⟨by (first | omega | sorry), by (first | omega | sorry)⟩
        exact hQ _ _ hI (FR.refl _ w)  o14248.1 o14248.2
      · have o14249 : 0 ≤ (w.1 170 a0.toInt.toNat).toInt ∧ (w.1 170 a0.toInt.toNat).toInt < 20 := by have := bd_170 hI a0.toInt.toNat; have := (by decide : ((0 : Int32)).toInt = 0); have := bd_170 hI b0.toInt.toNat; (first | omega | sorry)
        refine ⟨o14249, ?_⟩
        refine ⟨fun h14250 => ?_, fun h14250 => ?_⟩
        · have o14251 : ((-1) ≤ ((-1) : Int32).toInt) ∧ (((-1) : Int32).toInt ≤ 9) := by have := (by decide : (((-1) : Int32)).toInt = (-1)); exact ⟨by (first | omega | sorry), by (first | omega | sorry)⟩
          exact hQ _ _ hI (FR.refl _ w)  o14251.1 o14251.2
        · refine ⟨fun h14252 => ?_, fun h14252 => ?_⟩
          · have o14253 : 0 ≤ (w.1 170 a0.toInt.toNat).toInt ∧ (w.1 170 a0.toInt.toNat).toInt < 20 := by have := bd_170 hI a0.toInt.toNat; have := (by decide : ((0 : Int32)).toInt = 0); have := bd_170 hI b0.toInt.toNat; (first | omega | sorry)
            refine ⟨o14253, ?_⟩
            refine ⟨fun h14254 => ?_, fun h14254 => ?_⟩
            · have o14255 : 0 ≤ (w.1 170 a0.toInt.toNat).toInt ∧ (w.1 170 a0.toInt.toNat).toInt < 20 := by have := bd_170 hI a0.toInt.toNat; have := (by decide : ((0 : Int32)).toInt = 0); have := bd_170 hI b0.toInt.toNat; (first | omega | sorry)
              refine ⟨o14255, ?_⟩
              have o14256 : 0 ≤ a0.toInt ∧ a0.toInt < 48 := by have := nb_cmp (((w.2.1 127 40) >>> ((b0 / (2 : Int32)).toInt64 &&& 63)) &&& (1 : Int64)) (0 : Int64); have := (by decide : ((0 : Int32)).toInt = 0); (first | omega | sorry)
              refine ⟨o14256, ?_⟩
              have o14257 : 0 ≤ b0.toInt ∧ b0.toInt < 48 := by have := nb_cmp (((w.2.1 127 40) >>> ((b0 / (2 : Int32)).toInt64 &&& 63)) &&& (1 : Int64)) (0 : Int64); have := (by decide : ((0 : Int32)).toInt = 0); (first | omega | sorry)
              refine ⟨o14257, ?_⟩
              have o14258 : (0 ≤ ((w.1 163 ((w.1 170 a0.toInt.toNat).toInt.toNat)) - (2 : Int32)).toInt) ∧ (((w.1 163 ((w.1 170 a0.toInt.toNat).toInt.toNat)) - (2 : Int32)).toInt ≤ 7) := by have := bd_163 hI ((w.1 170 a0.toInt.toNat).toInt.toNat); have := ti_sub2 (Eq.refl (w.1 163 ((w.1 170 a0.toInt.toNat).toInt.toNat)).toInt) (by decide : ((2 : Int32)).toInt = 2) (by (first | omega | sorry)) (by (first | omega | sorry)); have := (by decide : ((0 : Int32)).toInt = 0); have := (by decide : ((1 : Int32)).toInt = 1); exact ⟨by (first | omega | sorry), by (first | omega | sorry)⟩
              refine h_Mo_least hI  o14258.1 o14258.2 (fun r14262 w14259 hI14260 hL14261 p14263 p14264 => ?_)
              have hF14265 : FR l_Mo_needOf w w14259 := (FR.refl _ w).tr hL14261 rfl
              have o14266 : (0 ≤ (w.1 170 a0.toInt.toNat).toInt) ∧ ((w.1 170 a0.toInt.toNat).toInt ≤ 19) := by have := bd_170 hI a0.toInt.toNat; have := (by decide : ((0 : Int32)).toInt = 0); have := bd_170 hI b0.toInt.toNat; exact ⟨by (first | omega | sorry), by (first | omega | sorry)⟩
              refine h_Mo_held hI14260  o14266.1 o14266.2 (fun r14270 w14267 hI14268 hL14269 p14271 p14272 => ?_)
              have hF14273 : FR l_Mo_needOf w w14267 := hF14265.tr hL14269 rfl
              refine ⟨fun h14274 => ?_, fun h14274 => ?_⟩
              · have o14275 : ((-1) ≤ r14262.toInt) ∧ (r14262.toInt ≤ 9) := by exact ⟨by (first | omega | sorry), by (first | omega | sorry)⟩
                exact hQ _ _ hI14268 hF14273  o14275.1 o14275.2
              · have o14276 : (0 ≤ (w.1 170 a0.toInt.toNat).toInt) ∧ ((w.1 170 a0.toInt.toNat).toInt ≤ 19) := by have := bd_170 hI a0.toInt.toNat; have := (by decide : ((0 : Int32)).toInt = 0); have := bd_170 hI b0.toInt.toNat; exact ⟨by (first | omega | sorry), by (first | omega | sorry)⟩
                refine h_Mo_held hI14268  o14276.1 o14276.2 (fun r14280 w14277 hI14278 hL14279 p14281 p14282 => ?_)
                have hF14283 : FR l_Mo_needOf w w14277 := hF14273.tr hL14279 rfl
                refine ⟨fun h14284 => ?_, fun h14284 => ?_⟩
                · have o14285 : ((-1) ≤ ((-1) : Int32).toInt) ∧ (((-1) : Int32).toInt ≤ 9) := by have := (by decide : (((-1) : Int32)).toInt = (-1)); exact ⟨by (first | omega | sorry), by (first | omega | sorry)⟩
                  exact hQ _ _ hI14278 hF14283  o14285.1 o14285.2
                · have o14286 : ((-1) ≤ r14262.toInt) ∧ (r14262.toInt ≤ 9) := by exact ⟨by (first | omega | sorry), by (first | omega | sorry)⟩
                  exact hQ _ _ hI14278 hF14283  o14286.1 o14286.2
            · have o14287 : 0 ≤ a0.toInt ∧ a0.toInt < 48 := by have := nb_cmp (((w.2.1 127 40) >>> ((b0 / (2 : Int32)).toInt64 &&& 63)) &&& (1 : Int64)) (0 : Int64); have := (by decide : ((0 : Int32)).toInt = 0); (first | omega | sorry)
              refine ⟨o14287, ?_⟩
              refine ⟨fun h14288 => ?_, fun h14288 => ?_⟩
              · have o14289 : ((-1) ≤ ((-1) : Int32).toInt) ∧ (((-1) : Int32).toInt ≤ 9) := by have := (by decide : (((-1) : Int32)).toInt = (-1)); exact ⟨by (first | omega | sorry), by (first | omega | sorry)⟩
                exact hQ _ _ hI (FR.refl _ w)  o14289.1 o14289.2
              · have o14290 : (0 ≤ (w.1 170 a0.toInt.toNat).toInt) ∧ ((w.1 170 a0.toInt.toNat).toInt ≤ 19) := by have := bd_170 hI a0.toInt.toNat; have := (by decide : ((0 : Int32)).toInt = 0); have := bd_170 hI b0.toInt.toNat; exact ⟨by (first | omega | sorry), by (first | omega | sorry)⟩
                refine h_Mo_held hI  o14290.1 o14290.2 (fun r14294 w14291 hI14292 hL14293 p14295 p14296 => ?_)
                have hF14297 : FR l_Mo_needOf w w14291 := (FR.refl _ w).tr hL14293 rfl
                refine ⟨fun h14298 => ?_, fun h14298 => ?_⟩
                · have o14299 : ((-1) ≤ ((-1) : Int32).toInt) ∧ (((-1) : Int32).toInt ≤ 9) := by have := (by decide : (((-1) : Int32)).toInt = (-1)); exact ⟨by (first | omega | sorry), by (first | omega | sorry)⟩
                  exact hQ _ _ hI14292 hF14297  o14299.1 o14299.2
                · have o14300 : ((-1) ≤ (0 : Int32).toInt) ∧ ((0 : Int32).toInt ≤ 9) := by have := (by decide : ((0 : Int32)).toInt = 0); exact ⟨by (first | omega | sorry), by (first | omega | sorry)⟩
                  exact hQ _ _ hI14292 hF14297  o14300.1 o14300.2
          · have o14301 : ((-1) ≤ ((-1) : Int32).toInt) ∧ (((-1) : Int32).toInt ≤ 9) := by have := (by decide : (((-1) : Int32)).toInt = (-1)); exact ⟨by (first | omega | sorry), by (first | omega | sorry)⟩
            exact hQ _ _ hI (FR.refl _ w)  o14301.1 o14301.2
def l_Mo_openWay_2 : Pl := []
def l_Mo_openWay : Pl := []
set_option maxRecDepth 20000 in
set_option maxHeartbeats 2000000 in
theorem hq_Mo_openWay_2 {x2_1 : Int32} {x2_2 : Int32} {E : MW → Prop} {Q : Int32 → MW → Prop} (n : Nat) : ∀ (x2_3 : Int32) (w : MW), BND w → 0 ≤ x2_3.toInt → x2_3.toInt ≤ 24 → (24 - x2_3.toInt).toNat < n → (∀ (w' : MW), BND w' → FR l_Mo_openWay_2 w w' → E w') → (∀ (r : Int32) (w' : MW), BND w' → FR l_Mo_openWay_2 w w' → 0 ≤ r.toInt → r.toInt ≤ 23 → Q r w') → q_Mo_openWay_2 x2_1 x2_2 E Q n x2_3 w := by
  induction n with
  | zero => intros; (first | omega | sorry)
  | succ n ih =>
    intro x2_3 w hI  hp0 hp1 hm hE hQ
    rw [q_Mo_openWay_2.eq_2]
    refine ⟨fun h14383 => ?_, fun h14383 => ?_⟩
    · exact hE _ hI (FR.refl _ w)
    · have o14384 : 0 ≤ x2_3.toInt ∧ x2_3.toInt < 24 := by have := bd_127_26 hI; (first | omega | sorry)
      refine ⟨o14384, ?_⟩
      refine ⟨fun h14385 => ?_, fun h14385 => ?_⟩
      · have o14386 : (0 ≤ (x2_3 + (1 : Int32)).toInt) ∧ ((x2_3 + (1 : Int32)).toInt ≤ 24) := by have := ti_add2 (Eq.refl x2_3.toInt) (by decide : ((1 : Int32)).toInt = 1) (by (first | omega | sorry)) (by (first | omega | sorry)); have := bd_127_26 hI; exact ⟨by (first | omega | sorry), by (first | omega | sorry)⟩
        exact ih _ w hI  o14386.1 o14386.2 (by have := ti_add2 (Eq.refl x2_3.toInt) (by decide : ((1 : Int32)).toInt = 1) (by (first | omega | sorry)) (by (first | omega | sorry)); have := bd_127_26 hI; (first | omega | sorry)) (fun w9 hI9 hF9 => hE w9 hI9 ((FR.refl _ w).tr hF9 rfl) ) (fun r w9 hI9 hF9 q0 q1 => hQ r w9 hI9 ((FR.refl _ w).tr hF9 rfl) (by have := ti_add2 (Eq.refl x2_3.toInt) (by decide : ((1 : Int32)).toInt = 1) (by (first | omega | sorry)) (by (first | omega | sorry)); have := bd_127_26 hI; (first | omega | sorry)) (by have := ti_add2 (Eq.refl x2_3.toInt) (by decide : ((1 : Int32)).toInt = 1) (by (first | omega | sorry)) (by (first | omega | sorry)); have := bd_127_26 hI; (first | omega | sorry)))
      · have o14387 : 0 ≤ x2_3.toInt ∧ x2_3.toInt < 24 := by have := bd_127_26 hI; (first | omega | sorry)
        refine ⟨o14387, ?_⟩
        refine ⟨fun h14388 => ?_, fun h14388 => ?_⟩
        · have o14389 : (0 ≤ (x2_3 + (1 : Int32)).toInt) ∧ ((x2_3 + (1 : Int32)).toInt ≤ 24) := by have := ti_add2 (Eq.refl x2_3.toInt) (by decide : ((1 : Int32)).toInt = 1) (by (first | omega | sorry)) (by (first | omega | sorry)); have := bd_127_26 hI; exact ⟨by (first | omega | sorry), by (first | omega | sorry)⟩
          exact ih _ w hI  o14389.1 o14389.2 (by have := ti_add2 (Eq.refl x2_3.toInt) (by decide : ((1 : Int32)).toInt = 1) (by (first | omega | sorry)) (by (first | omega | sorry)); have := bd_127_26 hI; (first | omega | sorry)) (fun w9 hI9 hF9 => hE w9 hI9 ((FR.refl _ w).tr hF9 rfl) ) (fun r w9 hI9 hF9 q0 q1 => hQ r w9 hI9 ((FR.refl _ w).tr hF9 rfl) (by have := ti_add2 (Eq.refl x2_3.toInt) (by decide : ((1 : Int32)).toInt = 1) (by (first | omega | sorry)) (by (first | omega | sorry)); have := bd_127_26 hI; (first | omega | sorry)) (by have := ti_add2 (Eq.refl x2_3.toInt) (by decide : ((1 : Int32)).toInt = 1) (by (first | omega | sorry)) (by (first | omega | sorry)); have := bd_127_26 hI; (first | omega | sorry)))
        · have o14390 : (0 ≤ x2_3.toInt) ∧ (x2_3.toInt ≤ 23) := by have := bd_127_26 hI; exact ⟨by (first | omega | sorry), by (first | omega | sorry)⟩
          exact hQ _ _ hI (FR.refl _ w)  o14390.1 o14390.2
set_option maxRecDepth 20000 in
set_option maxHeartbeats 2000000 in
theorem h_Mo_openWay {w : MW} {a0 : Int32} {b0 : Int32} {Q : Int32 → MW → Prop} (hI : BND w)  (hQ : ∀ (r : Int32) (w' : MW), BND w' → FR l_Mo_openWay w w' → (-1) ≤ r.toInt → r.toInt ≤ 23 → Q r w') : p_Mo_openWay w a0 b0 Q := by
  refine Eq.mpr (p_Mo_openWay.eq_1 _ _ _ _) ?_
  have o14391 : (0 ≤ (0 : Int32).toInt) ∧ ((0 : Int32).toInt ≤ 24) := by have := ti_lo a0; have := ti_hi a0; have := ti_lo b0; have := ti_hi b0; have := (by decide : ((0 : Int32)).toInt = 0); exact ⟨by (first | omega | sorry), by (first | omega | sorry)⟩
  refine hq_Mo_openWay_2 FU _ w hI  o14391.1 o14391.2 (fu_lt (by have := ti_lo a0; have := ti_hi a0; have := ti_lo b0; have := ti_hi b0; have := (by decide : ((0 : Int32)).toInt = 0); (first | omega | sorry))) (fun w14392 hI14393 hL14394  => ?_) (fun r w9 hI9 hF9 q0 q1 => hQ r w9 hI9 (((FR.refl _ w)).tr hF9 rfl) (by have := ti_lo a0; have := ti_hi a0; have := ti_lo b0; have := ti_hi b0; have := (by decide : ((0 : Int32)).toInt = 0); (first | omega | sorry)) (by have := ti_lo a0; have := ti_hi a0; have := ti_lo b0; have := ti_hi b0; have := (by decide : ((0 : Int32)).toInt = 0); (first | omega | sorry)))
  have hF14395 : FR l_Mo_openWay w w14392 := (FR.refl _ w).tr hL14394 rfl
  have o14396 : ((-1) ≤ ((-1) : Int32).toInt) ∧ (((-1) : Int32).toInt ≤ 23) := by have := (by decide : (((-1) : Int32)).toInt = (-1)); exact ⟨by (first | omega | sorry), by (first | omega | sorry)⟩
  exact hQ _ _ hI14393 hF14395  o14396.1 o14396.2
def l_Mr_hasAct_16 : Pl := []
def l_Mr_hasAct : Pl := []
set_option maxRecDepth 20000 in
set_option maxHeartbeats 2000000 in
theorem hq_Mr_hasAct_16 {x16_2 : Int32} {x16_3 : Int32} {E : Int32 → MW → Prop} {Q : Int32 → MW → Prop} (n : Nat) : ∀ (x16_4 : Int32) (x16_5 : Int32) (w : MW), BND w → 0 ≤ x16_2.toInt → x16_2.toInt ≤ 31 → 0 ≤ x16_3.toInt → x16_3.toInt ≤ 79 → 0 ≤ x16_4.toInt → x16_4.toInt ≤ 1 → 0 ≤ x16_5.toInt → x16_5.toInt ≤ 8 → (8 - x16_5.toInt).toNat < n → (∀ (e16_4 : Int32) (w' : MW), BND w' → FR l_Mr_hasAct_16 w w' → 0 ≤ e16_4.toInt → e16_4.toInt ≤ 1 → E e16_4 w') → (∀ (r : Int32) (w' : MW), BND w' → FR l_Mr_hasAct_16 w w' → False → Q r w') → q_Mr_hasAct_16 x16_2 x16_3 E Q n x16_4 x16_5 w := by
  induction n with
  | zero => intros; (first | omega | sorry)
  | succ n ih =>
    intro x16_4 x16_5 w hI  hp0 hp1 hp2 hp3 hp4 hp5 hp6 hp7 hm hE hQ
    rw [q_Mr_hasAct_16.eq_2]
    have o14397 : 0 ≤ x16_3.toInt ∧ x16_3.toInt < 80 := by (first | omega | sorry)
    refine ⟨o14397, ?_⟩
    refine ⟨fun h14398 => ?_, fun h14398 => ?_⟩
    · have o14399 : (0 ≤ x16_4.toInt) ∧ (x16_4.toInt ≤ 1) := by exact ⟨by (first | omega | sorry), by (first | omega | sorry)⟩
      exact hE _ _ hI (FR.refl _ w) o14399.1 o14399.2
    · refine ⟨fun h14400 => ?_, fun h14400 => ?_⟩
      · have o14401 : (0 ≤ x16_2.toInt) ∧ (x16_2.toInt ≤ 31) ∧ (0 ≤ x16_3.toInt) ∧ (x16_3.toInt ≤ 79) ∧ (0 ≤ (1 : Int32).toInt) ∧ ((1 : Int32).toInt ≤ 1) ∧ (0 ≤ (x16_5 + (1 : Int32)).toInt) ∧ ((x16_5 + (1 : Int32)).toInt ≤ 8) := by have := (by decide : ((1 : Int32)).toInt = 1); have := ti_add2 (Eq.refl x16_5.toInt) (by decide : ((1 : Int32)).toInt = 1) (by (first | omega | sorry)) (by (first | omega | sorry)); have := bd_155 hI x16_3.toInt.toNat; exact ⟨by (first | omega | sorry), by (first | omega | sorry), by (first | omega | sorry), by (first | omega | sorry), by (first | omega | sorry), by (first | omega | sorry), by (first | omega | sorry), by (first | omega | sorry)⟩
        exact ih _ _ w hI  o14401.1 o14401.2.1 o14401.2.2.1 o14401.2.2.2.1 o14401.2.2.2.2.1 o14401.2.2.2.2.2.1 o14401.2.2.2.2.2.2.1 o14401.2.2.2.2.2.2.2 (by have := (by decide : ((1 : Int32)).toInt = 1); have := ti_add2 (Eq.refl x16_5.toInt) (by decide : ((1 : Int32)).toInt = 1) (by (first | omega | sorry)) (by (first | omega | sorry)); have := bd_155 hI x16_3.toInt.toNat; (first | omega | sorry)) (fun e0 w9 hI9 hF9 p0 p1 => hE e0 w9 hI9 ((FR.refl _ w).tr hF9 rfl) p0 p1 ) (fun r w9 hI9 hF9 q0 => q0.elim)
      · have o14402 : 0 ≤ (((8 : Int32) * x16_3) + x16_5).toInt ∧ (((8 : Int32) * x16_3) + x16_5).toInt < 640 := by have := ti_mul2 (by decide : ((8 : Int32)).toInt = 8) (Eq.refl x16_3.toInt) (by (first | omega | sorry)) (by (first | omega | sorry)); have := ti_add2 (Eq.refl ((8 : Int32) * x16_3).toInt) (Eq.refl x16_5.toInt) (by (first | omega | sorry)) (by (first | omega | sorry)); have := bd_155 hI x16_3.toInt.toNat; (first | omega | sorry)
        refine ⟨o14402, ?_⟩
        refine ⟨fun h14403 => ?_, fun h14403 => ?_⟩
        · have o14404 : (0 ≤ x16_2.toInt) ∧ (x16_2.toInt ≤ 31) ∧ (0 ≤ x16_3.toInt) ∧ (x16_3.toInt ≤ 79) ∧ (0 ≤ (0 : Int32).toInt) ∧ ((0 : Int32).toInt ≤ 1) ∧ (0 ≤ (x16_5 + (1 : Int32)).toInt) ∧ ((x16_5 + (1 : Int32)).toInt ≤ 8) := by have := (by decide : ((0 : Int32)).toInt = 0); have := ti_add2 (Eq.refl x16_5.toInt) (by decide : ((1 : Int32)).toInt = 1) (by (first | omega | sorry)) (by (first | omega | sorry)); have := bd_155 hI x16_3.toInt.toNat; exact ⟨by (first | omega | sorry), by (first | omega | sorry), by (first | omega | sorry), by (first | omega | sorry), by (first | omega | sorry), by (first | omega | sorry), by (first | omega | sorry), by (first | omega | sorry)⟩
          exact ih _ _ w hI  o14404.1 o14404.2.1 o14404.2.2.1 o14404.2.2.2.1 o14404.2.2.2.2.1 o14404.2.2.2.2.2.1 o14404.2.2.2.2.2.2.1 o14404.2.2.2.2.2.2.2 (by have := (by decide : ((0 : Int32)).toInt = 0); have := ti_add2 (Eq.refl x16_5.toInt) (by decide : ((1 : Int32)).toInt = 1) (by (first | omega | sorry)) (by (first | omega | sorry)); have := bd_155 hI x16_3.toInt.toNat; (first | omega | sorry)) (fun e0 w9 hI9 hF9 p0 p1 => hE e0 w9 hI9 ((FR.refl _ w).tr hF9 rfl) p0 p1 ) (fun r w9 hI9 hF9 q0 => q0.elim)
        · have o14405 : (0 ≤ x16_2.toInt) ∧ (x16_2.toInt ≤ 31) ∧ (0 ≤ x16_3.toInt) ∧ (x16_3.toInt ≤ 79) ∧ (0 ≤ (1 : Int32).toInt) ∧ ((1 : Int32).toInt ≤ 1) ∧ (0 ≤ (x16_5 + (1 : Int32)).toInt) ∧ ((x16_5 + (1 : Int32)).toInt ≤ 8) := by have := (by decide : ((1 : Int32)).toInt = 1); have := ti_add2 (Eq.refl x16_5.toInt) (by decide : ((1 : Int32)).toInt = 1) (by (first | omega | sorry)) (by (first | omega | sorry)); have := bd_155 hI x16_3.toInt.toNat; exact ⟨by (first | omega | sorry), by (first | omega | sorry), by (first | omega | sorry), by (first | omega | sorry), by (first | omega | sorry), by (first | omega | sorry), by (first | omega | sorry), by (first | omega | sorry)⟩
          exact ih _ _ w hI  o14405.1 o14405.2.1 o14405.2.2.1 o14405.2.2.2.1 o14405.2.2.2.2.1 o14405.2.2.2.2.2.1 o14405.2.2.2.2.2.2.1 o14405.2.2.2.2.2.2.2 (by have := (by decide : ((1 : Int32)).toInt = 1); have := ti_add2 (Eq.refl x16_5.toInt) (by decide : ((1 : Int32)).toInt = 1) (by (first | omega | sorry)) (by (first | omega | sorry)); have := bd_155 hI x16_3.toInt.toNat; (first | omega | sorry)) (fun e0 w9 hI9 hF9 p0 p1 => hE e0 w9 hI9 ((FR.refl _ w).tr hF9 rfl) p0 p1 ) (fun r w9 hI9 hF9 q0 => q0.elim)
set_option maxRecDepth 20000 in
set_option maxHeartbeats 2000000 in
theorem h_Mr_hasAct {w : MW} {a0 : Int32} {b0 : Int32} {Q : Int32 → MW → Prop} (hI : BND w) (hp0 : 0 ≤ a0.toInt) (hp1 : a0.toInt ≤ 39) (hp2 : 0 ≤ b0.toInt) (hp3 : b0.toInt ≤ 31) (hQ : ∀ (r : Int32) (w' : MW), BND w' → FR l_Mr_hasAct w w' → 0 ≤ r.toInt → r.toInt ≤ 1 → Q r w') : p_Mr_hasAct w a0 b0 Q := by
  refine Eq.mpr (p_Mr_hasAct.eq_1 _ _ _ _) ?_
  have o14406 : (0 ≤ b0.toInt) ∧ (b0.toInt ≤ 31) ∧ (0 ≤ (((40 : Int32) * (w.1 147 12)) + a0).toInt) ∧ ((((40 : Int32) * (w.1 147 12)) + a0).toInt ≤ 79) ∧ (0 ≤ (0 : Int32).toInt) ∧ ((0 : Int32).toInt ≤ 1) ∧ (0 ≤ (0 : Int32).toInt) ∧ ((0 : Int32).toInt ≤ 8) := by have := bd_147_12 hI; have := ti_mul2 (by decide : ((40 : Int32)).toInt = 40) (Eq.refl (w.1 147 12).toInt) (by (first | omega | sorry)) (by (first | omega | sorry)); have := ti_add2 (Eq.refl ((40 : Int32) * (w.1 147 12)).toInt) (Eq.refl a0.toInt) (by (first | omega | sorry)) (by (first | omega | sorry)); have := (by decide : ((0 : Int32)).toInt = 0); exact ⟨by (first | omega | sorry), by (first | omega | sorry), by (first | omega | sorry), by (first | omega | sorry), by (first | omega | sorry), by (first | omega | sorry), by (first | omega | sorry), by (first | omega | sorry)⟩
  refine hq_Mr_hasAct_16 FU _ _ w hI  o14406.1 o14406.2.1 o14406.2.2.1 o14406.2.2.2.1 o14406.2.2.2.2.1 o14406.2.2.2.2.2.1 o14406.2.2.2.2.2.2.1 o14406.2.2.2.2.2.2.2 (fu_lt (by have := bd_147_12 hI; have := ti_mul2 (by decide : ((40 : Int32)).toInt = 40) (Eq.refl (w.1 147 12).toInt) (by (first | omega | sorry)) (by (first | omega | sorry)); have := ti_add2 (Eq.refl ((40 : Int32) * (w.1 147 12)).toInt) (Eq.refl a0.toInt) (by (first | omega | sorry)) (by (first | omega | sorry)); have := (by decide : ((0 : Int32)).toInt = 0); (first | omega | sorry))) (fun e14410 w14407 hI14408 hL14409 p14411 p14412 => ?_) (fun r w9 hI9 hF9 q0 => q0.elim)
  have hF14413 : FR l_Mr_hasAct w w14407 := (FR.refl _ w).tr hL14409 rfl
  have o14414 : e14410.toInt = 0 ∨ e14410.toInt = 1 := by (first | omega | sorry)
  refine ⟨o14414, ?_⟩
  have o14415 : (0 ≤ e14410.toInt) ∧ (e14410.toInt ≤ 1) := by exact ⟨by (first | omega | sorry), by (first | omega | sorry)⟩
  exact hQ _ _ hI14408 hF14413  o14415.1 o14415.2
def l_Mo_sense : Pl := [(201, none), (202, none)]
set_option maxRecDepth 20000 in
set_option maxHeartbeats 2000000 in
theorem h_Mo_sense {w : MW} {a0 : Int32} {b0 : Int32} {c0 : Int32} {Q : Int32 → MW → Prop} (hI : BND w)  (hQ : ∀ (r : Int32) (w' : MW), BND w' → FR l_Mo_sense w w' → 0 ≤ r.toInt → r.toInt ≤ 1 → Q r w') : p_Mo_sense w a0 b0 c0 Q := by
  refine Eq.mpr (p_Mo_sense.eq_1 _ _ _ _ _) ?_
  refine Eq.mpr (p_Mo_isRole.eq_1 _ _ _ _) ?_
  refine ⟨fun h14416 => ?_, fun h14416 => ?_⟩
  · refine ⟨fun _ => ?_, fun h => absurd (by decide) h⟩
    have o14417 : (0 ≤ (0 : Int32).toInt) ∧ ((0 : Int32).toInt ≤ 1) := by have := (by decide : ((0 : Int32)).toInt = 0); exact ⟨by (first | omega | sorry), by (first | omega | sorry)⟩
    exact hQ _ _ hI (FR.refl _ w)  o14417.1 o14417.2
  · refine ⟨fun h14418 => ?_, fun h14418 => ?_⟩
    · refine ⟨fun _ => ?_, fun h => absurd (by decide) h⟩
      have o14419 : (0 ≤ (0 : Int32).toInt) ∧ ((0 : Int32).toInt ≤ 1) := by have := (by decide : ((0 : Int32)).toInt = 0); exact ⟨by (first | omega | sorry), by (first | omega | sorry)⟩
      exact hQ _ _ hI (FR.refl _ w)  o14419.1 o14419.2
    · have o14420 : 0 ≤ (((40 : Int32) * (w.1 129 12)) + a0).toInt ∧ (((40 : Int32) * (w.1 129 12)) + a0).toInt < 80 := by have := bd_129_12 hI; have := ti_mul2 (by decide : ((40 : Int32)).toInt = 40) (Eq.refl (w.1 129 12).toInt) (by (first | omega | sorry)) (by (first | omega | sorry)); have := ti_add2 (Eq.refl ((40 : Int32) * (w.1 129 12)).toInt) (Eq.refl a0.toInt) (by (first | omega | sorry)) (by (first | omega | sorry)); have := (by decide : ((0 : Int32)).toInt = 0); have := bd_129_32 hI; (first | omega | sorry)
      refine ⟨o14420, ?_⟩
      refine ⟨fun h14421 => ?_, fun h14421 => ?_⟩
      · replace h14421 : ¬ (w.1 141 ((((40 : Int32) * (w.1 129 12)) + a0).toInt.toNat)).toInt = 30 := h14421
        refine ⟨fun _ => ?_, fun h => absurd (by decide) h⟩
        have o14422 : (0 ≤ (0 : Int32).toInt) ∧ ((0 : Int32).toInt ≤ 1) := by have := (by decide : ((0 : Int32)).toInt = 0); exact ⟨by (first | omega | sorry), by (first | omega | sorry)⟩
        exact hQ _ _ hI (FR.refl _ w)  o14422.1 o14422.2
      · replace h14421 : ¬ (¬ (w.1 141 ((((40 : Int32) * (w.1 129 12)) + a0).toInt.toNat)).toInt = 30) := h14421
        refine ⟨fun h => absurd h (by decide), fun _ => ?_⟩
        refine ⟨fun h14423 => ?_, fun h14423 => ?_⟩
        · have o14424 : (0 ≤ (0 : Int32).toInt) ∧ ((0 : Int32).toInt ≤ 1) := by have := (by decide : ((0 : Int32)).toInt = 0); exact ⟨by (first | omega | sorry), by (first | omega | sorry)⟩
          exact hQ _ _ hI (FR.refl _ w)  o14424.1 o14424.2
        · refine ⟨fun h14425 => ?_, fun h14425 => ?_⟩
          · have o14426 : 0 ≤ a0.toInt ∧ a0.toInt < 40 := by have := (by decide : ((0 : Int32)).toInt = 0); have := bd_129_32 hI; (first | omega | sorry)
            refine ⟨o14426, ?_⟩
            have o14427 : 0 ≤ a0.toInt ∧ a0.toInt < 40 := by have := (by decide : ((0 : Int32)).toInt = 0); have := bd_129_32 hI; (first | omega | sorry)
            refine ⟨o14427, ?_⟩
            have o14429 : (-1) ≤ b0.toInt ∧ b0.toInt ≤ 5 := by have := (by decide : ((0 : Int32)).toInt = 0); have := (by decide : ((5 : Int32)).toInt = 5); (first | omega | sorry)
            have hI14428 : BND (sI w 201 a0.toInt.toNat b0) := wbd_201 hI a0.toInt.toNat o14429.1 o14429.2
            have hI14430 : BND (sI (sI w 201 a0.toInt.toNat b0) 202 a0.toInt.toNat c0) := wbd_202 hI14428 a0.toInt.toNat
            have o14431 : (0 ≤ (1 : Int32).toInt) ∧ ((1 : Int32).toInt ≤ 1) := by have := (by decide : ((1 : Int32)).toInt = 1); exact ⟨by (first | omega | sorry), by (first | omega | sorry)⟩
            exact hQ _ _ hI14430 (FR.I (FR.I (FR.refl _ w) (k := 201) (j := a0.toInt.toNat) (v := b0) rfl) (k := 202) (j := a0.toInt.toNat) (v := c0) rfl)  o14431.1 o14431.2
          · have o14432 : (0 ≤ (0 : Int32).toInt) ∧ ((0 : Int32).toInt ≤ 1) := by have := (by decide : ((0 : Int32)).toInt = 0); exact ⟨by (first | omega | sorry), by (first | omega | sorry)⟩
            exact hQ _ _ hI (FR.refl _ w)  o14432.1 o14432.2
def l_Mo_watch : Pl := [(203, none), (204, none), (205, none)]
set_option maxRecDepth 20000 in
set_option maxHeartbeats 2000000 in
theorem h_Mo_watch {w : MW} {a0 : Int32} {b0 : Int32} {c0 : Int32} {e0 : Int64} {Q : Int32 → MW → Prop} (hI : BND w)  (hQ : ∀ (r : Int32) (w' : MW), BND w' → FR l_Mo_watch w w' → 0 ≤ r.toInt → r.toInt ≤ 1 → Q r w') : p_Mo_watch w a0 b0 c0 e0 Q := by
  refine Eq.mpr (p_Mo_watch.eq_1 _ _ _ _ _ _) ?_
  refine ⟨fun h14433 => ?_, fun h14433 => ?_⟩
  · have o14434 : (0 ≤ (0 : Int32).toInt) ∧ ((0 : Int32).toInt ≤ 1) := by have := (by decide : ((0 : Int32)).toInt = 0); exact ⟨by (first | omega | sorry), by (first | omega | sorry)⟩
    exact hQ _ _ hI (FR.refl _ w)  o14434.1 o14434.2
  · refine ⟨fun h14435 => ?_, fun h14435 => ?_⟩
    · have o14436 : (0 ≤ (0 : Int32).toInt) ∧ ((0 : Int32).toInt ≤ 1) := by have := (by decide : ((0 : Int32)).toInt = 0); exact ⟨by (first | omega | sorry), by (first | omega | sorry)⟩
      exact hQ _ _ hI (FR.refl _ w)  o14436.1 o14436.2
    · refine ⟨fun h14437 => ?_, fun h14437 => ?_⟩
      · have o14438 : (0 ≤ (0 : Int32).toInt) ∧ ((0 : Int32).toInt ≤ 1) := by have := (by decide : ((0 : Int32)).toInt = 0); exact ⟨by (first | omega | sorry), by (first | omega | sorry)⟩
        exact hQ _ _ hI (FR.refl _ w)  o14438.1 o14438.2
      · refine ⟨fun h14439 => ?_, fun h14439 => ?_⟩
        · have o14440 : 0 ≤ a0.toInt ∧ a0.toInt < 16 := by have := (by decide : ((0 : Int32)).toInt = 0); have := (by decide : ((15 : Int32)).toInt = 15); (first | omega | sorry)
          refine ⟨o14440, ?_⟩
          have o14441 : 0 ≤ a0.toInt ∧ a0.toInt < 16 := by have := (by decide : ((0 : Int32)).toInt = 0); have := (by decide : ((15 : Int32)).toInt = 15); (first | omega | sorry)
          refine ⟨o14441, ?_⟩
          have o14442 : 0 ≤ a0.toInt ∧ a0.toInt < 16 := by have := (by decide : ((0 : Int32)).toInt = 0); have := (by decide : ((15 : Int32)).toInt = 15); (first | omega | sorry)
          refine ⟨o14442, ?_⟩
          have o14444 : (-1) ≤ b0.toInt ∧ b0.toInt ≤ 5 := by have := (by decide : ((0 : Int32)).toInt = 0); have := (by decide : ((5 : Int32)).toInt = 5); (first | omega | sorry)
          have hI14443 : BND (sI w 203 a0.toInt.toNat b0) := wbd_203 hI a0.toInt.toNat o14444.1 o14444.2
          have hI14445 : BND (sI (sI w 203 a0.toInt.toNat b0) 204 a0.toInt.toNat c0) := wbd_204 hI14443 a0.toInt.toNat
          have o14446 : (0 ≤ (1 : Int32).toInt) ∧ ((1 : Int32).toInt ≤ 1) := by have := (by decide : ((1 : Int32)).toInt = 1); exact ⟨by (first | omega | sorry), by (first | omega | sorry)⟩
          exact hQ _ _ (bnd_J hI14445 (k := 205) (j := a0.toInt.toNat) (v := e0)) (FR.J (FR.I (FR.I (FR.refl _ w) (k := 203) (j := a0.toInt.toNat) (v := b0) rfl) (k := 204) (j := a0.toInt.toNat) (v := c0) rfl) (k := 205) (j := a0.toInt.toNat) (v := e0) rfl)  o14446.1 o14446.2
        · have o14447 : (0 ≤ (0 : Int32).toInt) ∧ ((0 : Int32).toInt ≤ 1) := by have := (by decide : ((0 : Int32)).toInt = 0); exact ⟨by (first | omega | sorry), by (first | omega | sorry)⟩
          exact hQ _ _ hI (FR.refl _ w)  o14447.1 o14447.2
def l_Mo_signal : Pl := [(206, none)]
set_option maxRecDepth 20000 in
set_option maxHeartbeats 2000000 in
theorem h_Mo_signal {w : MW} {a0 : Int32} {b0 : Int64} {Q : Int32 → MW → Prop} (hI : BND w)  (hQ : ∀ (r : Int32) (w' : MW), BND w' → FR l_Mo_signal w w' → 0 ≤ r.toInt → r.toInt ≤ 1 → Q r w') : p_Mo_signal w a0 b0 Q := by
  refine Eq.mpr (p_Mo_signal.eq_1 _ _ _ _) ?_
  refine Eq.mpr (p_Mo_isRole.eq_1 _ _ _ _) ?_
  refine ⟨fun h14448 => ?_, fun h14448 => ?_⟩
  · refine ⟨fun h => absurd h (by decide), fun _ => ?_⟩
    have o14449 : (0 ≤ (0 : Int32).toInt) ∧ ((0 : Int32).toInt ≤ 1) := by have := (by decide : ((0 : Int32)).toInt = 0); exact ⟨by (first | omega | sorry), by (first | omega | sorry)⟩
    exact hQ _ _ hI (FR.refl _ w)  o14449.1 o14449.2
  · refine ⟨fun h14450 => ?_, fun h14450 => ?_⟩
    · refine ⟨fun h => absurd h (by decide), fun _ => ?_⟩
      have o14451 : (0 ≤ (0 : Int32).toInt) ∧ ((0 : Int32).toInt ≤ 1) := by have := (by decide : ((0 : Int32)).toInt = 0); exact ⟨by (first | omega | sorry), by (first | omega | sorry)⟩
      exact hQ _ _ hI (FR.refl _ w)  o14451.1 o14451.2
    · have o14452 : 0 ≤ (((40 : Int32) * (w.1 129 12)) + a0).toInt ∧ (((40 : Int32) * (w.1 129 12)) + a0).toInt < 80 := by have := bd_129_12 hI; have := ti_mul2 (by decide : ((40 : Int32)).toInt = 40) (Eq.refl (w.1 129 12).toInt) (by (first | omega | sorry)) (by (first | omega | sorry)); have := ti_add2 (Eq.refl ((40 : Int32) * (w.1 129 12)).toInt) (Eq.refl a0.toInt) (by (first | omega | sorry)) (by (first | omega | sorry)); have := (by decide : ((0 : Int32)).toInt = 0); have := bd_129_32 hI; (first | omega | sorry)
      refine ⟨o14452, ?_⟩
      refine ⟨fun h14453 => ?_, fun h14453 => ?_⟩
      · replace h14453 : ¬ (w.1 141 ((((40 : Int32) * (w.1 129 12)) + a0).toInt.toNat)).toInt = 30 := h14453
        refine ⟨fun h => absurd h (by decide), fun _ => ?_⟩
        have o14454 : (0 ≤ (0 : Int32).toInt) ∧ ((0 : Int32).toInt ≤ 1) := by have := (by decide : ((0 : Int32)).toInt = 0); exact ⟨by (first | omega | sorry), by (first | omega | sorry)⟩
        exact hQ _ _ hI (FR.refl _ w)  o14454.1 o14454.2
      · replace h14453 : ¬ (¬ (w.1 141 ((((40 : Int32) * (w.1 129 12)) + a0).toInt.toNat)).toInt = 30) := h14453
        refine ⟨fun _ => ?_, fun h => absurd (by decide) h⟩
        have o14455 : 0 ≤ a0.toInt ∧ a0.toInt < 40 := by have := (by decide : ((0 : Int32)).toInt = 0); have := bd_129_32 hI; (first | omega | sorry)
        refine ⟨o14455, ?_⟩
        have o14456 : (0 ≤ (1 : Int32).toInt) ∧ ((1 : Int32).toInt ≤ 1) := by have := (by decide : ((1 : Int32)).toInt = 1); exact ⟨by (first | omega | sorry), by (first | omega | sorry)⟩
        exact hQ _ _ (bnd_J hI (k := 206) (j := a0.toInt.toNat) (v := b0)) (FR.J (FR.refl _ w) (k := 206) (j := a0.toInt.toNat) (v := b0) rfl)  o14456.1 o14456.2
def l_Mo_value : Pl := []
set_option maxRecDepth 20000 in
set_option maxHeartbeats 2000000 in
theorem h_Mo_value {w : MW} {a0 : Int32} {Q : Int64 → MW → Prop} (hI : BND w)  (hQ : ∀ (r : Int64) (w' : MW), BND w' → FR l_Mo_value w w' → Q r w') : p_Mo_value w a0 Q := by
  refine Eq.mpr (p_Mo_value.eq_1 _ _ _) ?_
  refine Eq.mpr (p_Mo_isRole.eq_1 _ _ _ _) ?_
  refine ⟨fun h14457 => ?_, fun h14457 => ?_⟩
  · refine ⟨fun h => absurd h (by decide), fun _ => ?_⟩
    refine Eq.mpr (p_Mo_isRole.eq_1 _ _ _ _) ?_
    refine ⟨fun _ => ?_, fun h => absurd h14457 h⟩
    refine ⟨fun _ => ?_, fun h => absurd (by decide) h⟩
    exact hQ _ _ hI (FR.refl _ w) 
  · refine ⟨fun h14458 => ?_, fun h14458 => ?_⟩
    · refine ⟨fun h => absurd h (by decide), fun _ => ?_⟩
      refine Eq.mpr (p_Mo_isRole.eq_1 _ _ _ _) ?_
      refine ⟨fun h => absurd h h14457, fun _ => ?_⟩
      refine ⟨fun _ => ?_, fun h => absurd h14458 h⟩
      refine ⟨fun _ => ?_, fun h => absurd (by decide) h⟩
      exact hQ _ _ hI (FR.refl _ w) 
    · have o14459 : 0 ≤ (((40 : Int32) * (w.1 129 12)) + a0).toInt ∧ (((40 : Int32) * (w.1 129 12)) + a0).toInt < 80 := by have := bd_129_12 hI; have := ti_mul2 (by decide : ((40 : Int32)).toInt = 40) (Eq.refl (w.1 129 12).toInt) (by (first | omega | sorry)) (by (first | omega | sorry)); have := ti_add2 (Eq.refl ((40 : Int32) * (w.1 129 12)).toInt) (Eq.refl a0.toInt) (by (first | omega | sorry)) (by (first | omega | sorry)); have := (by decide : ((0 : Int32)).toInt = 0); have := bd_129_32 hI; (first | omega | sorry)
      refine ⟨o14459, ?_⟩
      refine ⟨fun h14460 => ?_, fun h14460 => ?_⟩
      · replace h14460 : ¬ (w.1 141 ((((40 : Int32) * (w.1 129 12)) + a0).toInt.toNat)).toInt = 30 := h14460
        refine ⟨fun h => absurd h (by decide), fun _ => ?_⟩
        refine Eq.mpr (p_Mo_isRole.eq_1 _ _ _ _) ?_
        refine ⟨fun h => absurd h h14457, fun _ => ?_⟩
        refine ⟨fun h => absurd h h14458, fun _ => ?_⟩
        have o14461 : 0 ≤ (((40 : Int32) * (w.1 129 12)) + a0).toInt ∧ (((40 : Int32) * (w.1 129 12)) + a0).toInt < 80 := by have := bd_129_12 hI; have := ti_mul2 (by decide : ((40 : Int32)).toInt = 40) (Eq.refl (w.1 129 12).toInt) (by (first | omega | sorry)) (by (first | omega | sorry)); have := ti_add2 (Eq.refl ((40 : Int32) * (w.1 129 12)).toInt) (Eq.refl a0.toInt) (by (first | omega | sorry)) (by (first | omega | sorry)); have := (by decide : ((0 : Int32)).toInt = 0); have := bd_129_32 hI; (first | omega | sorry)
        refine ⟨o14461, ?_⟩
        refine ⟨fun h14462 => ?_, fun h14462 => ?_⟩
        · replace h14462 : ¬ (w.1 141 ((((40 : Int32) * (w.1 129 12)) + a0).toInt.toNat)).toInt = 31 := h14462
          refine ⟨fun _ => ?_, fun h => absurd (by decide) h⟩
          exact hQ _ _ hI (FR.refl _ w) 
        · replace h14462 : ¬ (¬ (w.1 141 ((((40 : Int32) * (w.1 129 12)) + a0).toInt.toNat)).toInt = 31) := h14462
          refine ⟨fun h => absurd h (by decide), fun _ => ?_⟩
          have o14463 : 0 ≤ a0.toInt ∧ a0.toInt < 40 := by have := (by decide : ((0 : Int32)).toInt = 0); have := bd_129_32 hI; (first | omega | sorry)
          refine ⟨o14463, ?_⟩
          exact hQ _ _ hI (FR.refl _ w) 
      · replace h14460 : ¬ (¬ (w.1 141 ((((40 : Int32) * (w.1 129 12)) + a0).toInt.toNat)).toInt = 30) := h14460
        refine ⟨fun _ => ?_, fun h => absurd (by decide) h⟩
        have o14464 : 0 ≤ a0.toInt ∧ a0.toInt < 40 := by have := (by decide : ((0 : Int32)).toInt = 0); have := bd_129_32 hI; (first | omega | sorry)
        refine ⟨o14464, ?_⟩
        exact hQ _ _ hI (FR.refl _ w) 
def l_Mr_pass : Pl := [(162, none)]
set_option maxRecDepth 20000 in
set_option maxHeartbeats 2000000 in
theorem h_Mr_pass {w : MW} {a0 : Int32} {b0 : Int32} {c0 : Int32} {e0 : Int32} {Q : Int32 → MW → Prop} (hI : BND w)  (hQ : ∀ (r : Int32) (w' : MW), BND w' → FR l_Mr_pass w w' → (-4) ≤ r.toInt → r.toInt ≤ 0 → Q r w') : p_Mr_pass w a0 b0 c0 e0 Q := by
  refine Eq.mpr (p_Mr_pass.eq_1 _ _ _ _ _ _) ?_
  refine Eq.mpr (p_Mr_isRow.eq_1 _ _ _) ?_
  refine ⟨fun h14465 => ?_, fun h14465 => ?_⟩
  · refine ⟨fun h => absurd h (by decide), fun _ => ?_⟩
    have o14466 : ((-4) ≤ ((-1) : Int32).toInt) ∧ (((-1) : Int32).toInt ≤ 0) := by have := (by decide : (((-1) : Int32)).toInt = (-1)); exact ⟨by (first | omega | sorry), by (first | omega | sorry)⟩
    exact hQ _ _ hI (FR.refl _ w)  o14466.1 o14466.2
  · refine ⟨fun h14467 => ?_, fun h14467 => ?_⟩
    · refine ⟨fun h => absurd h (by decide), fun _ => ?_⟩
      have o14468 : ((-4) ≤ ((-1) : Int32).toInt) ∧ (((-1) : Int32).toInt ≤ 0) := by have := (by decide : (((-1) : Int32)).toInt = (-1)); exact ⟨by (first | omega | sorry), by (first | omega | sorry)⟩
      exact hQ _ _ hI (FR.refl _ w)  o14468.1 o14468.2
    · refine ⟨fun _ => ?_, fun h => absurd (by decide) h⟩
      refine ⟨fun h14469 => ?_, fun h14469 => ?_⟩
      · have o14470 : ((-4) ≤ ((-2) : Int32).toInt) ∧ (((-2) : Int32).toInt ≤ 0) := by have := (by decide : (((-2) : Int32)).toInt = (-2)); exact ⟨by (first | omega | sorry), by (first | omega | sorry)⟩
        exact hQ _ _ hI (FR.refl _ w)  o14470.1 o14470.2
      · refine ⟨fun h14471 => ?_, fun h14471 => ?_⟩
        · have o14472 : ((-4) ≤ ((-2) : Int32).toInt) ∧ (((-2) : Int32).toInt ≤ 0) := by have := (by decide : (((-2) : Int32)).toInt = (-2)); exact ⟨by (first | omega | sorry), by (first | omega | sorry)⟩
          exact hQ _ _ hI (FR.refl _ w)  o14472.1 o14472.2
        · refine ⟨fun h14473 => ?_, fun h14473 => ?_⟩
          · have o14474 : ((-4) ≤ ((-2) : Int32).toInt) ∧ (((-2) : Int32).toInt ≤ 0) := by have := (by decide : (((-2) : Int32)).toInt = (-2)); exact ⟨by (first | omega | sorry), by (first | omega | sorry)⟩
            exact hQ _ _ hI (FR.refl _ w)  o14474.1 o14474.2
          · refine ⟨fun h14475 => ?_, fun h14475 => ?_⟩
            · have o14476 : ((-4) ≤ ((-2) : Int32).toInt) ∧ (((-2) : Int32).toInt ≤ 0) := by have := (by decide : (((-2) : Int32)).toInt = (-2)); exact ⟨by (first | omega | sorry), by (first | omega | sorry)⟩
              exact hQ _ _ hI (FR.refl _ w)  o14476.1 o14476.2
            · refine ⟨fun h14477 => ?_, fun h14477 => ?_⟩
              · refine ⟨fun h14478 => ?_, fun h14478 => ?_⟩
                · have o14479 : ((-4) ≤ ((-3) : Int32).toInt) ∧ (((-3) : Int32).toInt ≤ 0) := by have := (by decide : (((-3) : Int32)).toInt = (-3)); exact ⟨by (first | omega | sorry), by (first | omega | sorry)⟩
                  exact hQ _ _ hI (FR.refl _ w)  o14479.1 o14479.2
                · refine ⟨fun h14480 => ?_, fun h14480 => ?_⟩
                  · have o14481 : 0 ≤ (a0 - (1 : Int32)).toInt ∧ (a0 - (1 : Int32)).toInt < 40 := by have := ti_sub2 (Eq.refl a0.toInt) (by decide : ((1 : Int32)).toInt = 1) (by (first | omega | sorry)) (by (first | omega | sorry)); have := (by decide : ((1 : Int32)).toInt = 1); have := bd_147_20 hI; (first | omega | sorry)
                    refine ⟨o14481, ?_⟩
                    refine ⟨fun h14482 => ?_, fun h14482 => ?_⟩
                    · have o14483 : 0 ≤ (a0 - (1 : Int32)).toInt ∧ (a0 - (1 : Int32)).toInt < 40 := by have := ti_sub2 (Eq.refl a0.toInt) (by decide : ((1 : Int32)).toInt = 1) (by (first | omega | sorry)) (by (first | omega | sorry)); have := (by decide : ((1 : Int32)).toInt = 1); have := bd_147_20 hI; (first | omega | sorry)
                      refine ⟨o14483, ?_⟩
                      have o14485 : 0 ≤ e0.toInt ∧ e0.toInt ≤ 3600 := by have := (by decide : ((1 : Int32)).toInt = 1); have := (by decide : ((3600 : Int32)).toInt = 3600); (first | omega | sorry)
                      have hI14484 : BND (sI w 162 ((a0 - (1 : Int32)).toInt.toNat) e0) := wbd_162 hI ((a0 - (1 : Int32)).toInt.toNat) o14485.1 o14485.2
                      have o14486 : ((-4) ≤ (0 : Int32).toInt) ∧ ((0 : Int32).toInt ≤ 0) := by have := (by decide : ((0 : Int32)).toInt = 0); exact ⟨by (first | omega | sorry), by (first | omega | sorry)⟩
                      exact hQ _ _ hI14484 (FR.I (FR.refl _ w) (k := 162) (j := (a0 - (1 : Int32)).toInt.toNat) (v := e0) rfl)  o14486.1 o14486.2
                    · have o14487 : ((-4) ≤ ((-4) : Int32).toInt) ∧ (((-4) : Int32).toInt ≤ 0) := by have := (by decide : (((-4) : Int32)).toInt = (-4)); exact ⟨by (first | omega | sorry), by (first | omega | sorry)⟩
                      exact hQ _ _ hI (FR.refl _ w)  o14487.1 o14487.2
                  · have o14488 : ((-4) ≤ ((-3) : Int32).toInt) ∧ (((-3) : Int32).toInt ≤ 0) := by have := (by decide : (((-3) : Int32)).toInt = (-3)); exact ⟨by (first | omega | sorry), by (first | omega | sorry)⟩
                    exact hQ _ _ hI (FR.refl _ w)  o14488.1 o14488.2
              · have o14489 : ((-4) ≤ ((-2) : Int32).toInt) ∧ (((-2) : Int32).toInt ≤ 0) := by have := (by decide : (((-2) : Int32)).toInt = (-2)); exact ⟨by (first | omega | sorry), by (first | omega | sorry)⟩
                exact hQ _ _ hI (FR.refl _ w)  o14489.1 o14489.2
def l_Mo_sensed : Pl := []
set_option maxRecDepth 20000 in
set_option maxHeartbeats 2000000 in
theorem h_Mo_sensed {w : MW} {a0 : Int32} {b0 : Int32} {Q : Int64 → MW → Prop} (hI : BND w) (hp0 : 0 ≤ a0.toInt) (hp1 : a0.toInt ≤ 4) (hQ : ∀ (r : Int64) (w' : MW), BND w' → FR l_Mo_sensed w w' → (-2147483648000) ≤ r.toInt → r.toInt ≤ 2147483647000 → Q r w') : p_Mo_sensed w a0 b0 Q := by
  refine Eq.mpr (p_Mo_sensed.eq_1 _ _ _ _) ?_
  refine ⟨fun h14518 => ?_, fun h14518 => ?_⟩
  · refine Eq.mpr (p_Mo_isTank.eq_1 _ _ _) ?_
    refine Eq.mpr (p_Mo_isThing.eq_1 _ _ _) ?_
    refine ⟨fun h14519 => ?_, fun h14519 => ?_⟩
    · refine ⟨fun _ => ?_, fun h => absurd (by decide) h⟩
      refine ⟨fun _ => ?_, fun h => absurd (by decide) h⟩
      have o14520 : ((-2147483648000) ≤ ((-1) : Int64).toInt) ∧ (((-1) : Int64).toInt ≤ 2147483647000) := by have := (by decide : (((-1) : Int64)).toInt = (-1)); exact ⟨by (first | omega | sorry), by (first | omega | sorry)⟩
      exact hQ _ _ hI (FR.refl _ w)  o14520.1 o14520.2
    · refine ⟨fun h14521 => ?_, fun h14521 => ?_⟩
      · refine ⟨fun _ => ?_, fun h => absurd (by decide) h⟩
        refine ⟨fun _ => ?_, fun h => absurd (by decide) h⟩
        have o14522 : ((-2147483648000) ≤ ((-1) : Int64).toInt) ∧ (((-1) : Int64).toInt ≤ 2147483647000) := by have := (by decide : (((-1) : Int64)).toInt = (-1)); exact ⟨by (first | omega | sorry), by (first | omega | sorry)⟩
        exact hQ _ _ hI (FR.refl _ w)  o14522.1 o14522.2
      · refine ⟨fun h => absurd h (by decide), fun _ => ?_⟩
        have o14523 : 0 ≤ b0.toInt ∧ b0.toInt < 20 := by have := (by decide : ((0 : Int32)).toInt = 0); have := bd_127_4 hI; (first | omega | sorry)
        refine ⟨o14523, ?_⟩
        refine ⟨fun h14524 => ?_, fun h14524 => ?_⟩
        · refine ⟨fun _ => ?_, fun h => absurd (by decide) h⟩
          have o14525 : ((-2147483648000) ≤ ((-1) : Int64).toInt) ∧ (((-1) : Int64).toInt ≤ 2147483647000) := by have := (by decide : (((-1) : Int64)).toInt = (-1)); exact ⟨by (first | omega | sorry), by (first | omega | sorry)⟩
          exact hQ _ _ hI (FR.refl _ w)  o14525.1 o14525.2
        · refine ⟨fun h => absurd h (by decide), fun _ => ?_⟩
          have o14526 : 0 ≤ b0.toInt ∧ b0.toInt < 20 := by have := (by decide : ((0 : Int32)).toInt = 0); have := bd_127_4 hI; (first | omega | sorry)
          refine ⟨o14526, ?_⟩
          have o14527 : ((-2147483648000) ≤ ((1000 : Int64) * (Int32.toInt64 (w.1 165 b0.toInt.toNat))).toInt) ∧ (((1000 : Int64) * (Int32.toInt64 (w.1 165 b0.toInt.toNat))).toInt ≤ 2147483647000) := by exact ⟨by (first | omega | sorry), by (first | omega | sorry)⟩
          exact hQ _ _ hI (FR.refl _ w)  o14527.1 o14527.2
  · refine ⟨fun h14528 => ?_, fun h14528 => ?_⟩
    · refine h_Mo_holdsLiquid hI   (fun r14532 w14529 hI14530 hL14531 p14533 p14534 p14535 => ?_)
      have hF14536 : FR l_Mo_sensed w w14529 := (FR.refl _ w).tr hL14531 rfl
      refine ⟨fun h14537 => ?_, fun h14537 => ?_⟩
      · have o14538 : ((-2147483648000) ≤ ((-1) : Int64).toInt) ∧ (((-1) : Int64).toInt ≤ 2147483647000) := by have := (by decide : (((-1) : Int64)).toInt = (-1)); exact ⟨by (first | omega | sorry), by (first | omega | sorry)⟩
        exact hQ _ _ hI14530 hF14536  o14538.1 o14538.2
      · have o14539 : (0 ≤ b0.toInt) ∧ (b0.toInt ≤ 43) ∧ (b0.toInt < (w14529.1 127 4).toInt + (w14529.1 127 11).toInt) := by have := ti_lo b0; have := ti_hi b0; have := bd_127_4 hI14530; have := bd_127_4 hI; have := (congrArg Int32.toInt (hL14531 127 4 rfl).1); have := bd_127_11 hI14530; have := bd_127_11 hI; have := (congrArg Int32.toInt (hL14531 127 11 rfl).1); have := (by decide : ((0 : Int32)).toInt = 0); exact ⟨by (first | omega | sorry), by (first | omega | sorry), by (first | omega | sorry)⟩
        refine h_Mo_liquidIn hI14530  o14539.1 o14539.2.1 o14539.2.2 (fun r14543 w14540 hI14541 hL14542 p14544 p14545 => ?_)
        have hF14546 : FR l_Mo_sensed w w14540 := hF14536.tr hL14542 rfl
        have o14547 : ((-2147483648000) ≤ ((1000 : Int64) * (Int32.toInt64 r14543)).toInt) ∧ (((1000 : Int64) * (Int32.toInt64 r14543)).toInt ≤ 2147483647000) := by exact ⟨by (first | omega | sorry), by (first | omega | sorry)⟩
        exact hQ _ _ hI14541 hF14546  o14547.1 o14547.2
    · refine ⟨fun h14548 => ?_, fun h14548 => ?_⟩
      · refine Eq.mpr (p_Mo_isValve.eq_1 _ _ _) ?_
        refine Eq.mpr (p_Mo_isThing.eq_1 _ _ _) ?_
        refine ⟨fun h14549 => ?_, fun h14549 => ?_⟩
        · refine ⟨fun _ => ?_, fun h => absurd (by decide) h⟩
          refine ⟨fun _ => ?_, fun h => absurd (by decide) h⟩
          have o14550 : ((-2147483648000) ≤ ((-1) : Int64).toInt) ∧ (((-1) : Int64).toInt ≤ 2147483647000) := by have := (by decide : (((-1) : Int64)).toInt = (-1)); exact ⟨by (first | omega | sorry), by (first | omega | sorry)⟩
          exact hQ _ _ hI (FR.refl _ w)  o14550.1 o14550.2
        · refine ⟨fun h14551 => ?_, fun h14551 => ?_⟩
          · refine ⟨fun _ => ?_, fun h => absurd (by decide) h⟩
            refine ⟨fun _ => ?_, fun h => absurd (by decide) h⟩
            have o14552 : ((-2147483648000) ≤ ((-1) : Int64).toInt) ∧ (((-1) : Int64).toInt ≤ 2147483647000) := by have := (by decide : (((-1) : Int64)).toInt = (-1)); exact ⟨by (first | omega | sorry), by (first | omega | sorry)⟩
            exact hQ _ _ hI (FR.refl _ w)  o14552.1 o14552.2
          · refine ⟨fun h => absurd h (by decide), fun _ => ?_⟩
            have o14553 : 0 ≤ b0.toInt ∧ b0.toInt < 20 := by have := (by decide : ((0 : Int32)).toInt = 0); have := bd_127_4 hI; (first | omega | sorry)
            refine ⟨o14553, ?_⟩
            refine ⟨fun h14554 => ?_, fun h14554 => ?_⟩
            · refine ⟨fun _ => ?_, fun h => absurd (by decide) h⟩
              have o14555 : ((-2147483648000) ≤ ((-1) : Int64).toInt) ∧ (((-1) : Int64).toInt ≤ 2147483647000) := by have := (by decide : (((-1) : Int64)).toInt = (-1)); exact ⟨by (first | omega | sorry), by (first | omega | sorry)⟩
              exact hQ _ _ hI (FR.refl _ w)  o14555.1 o14555.2
            · refine ⟨fun h => absurd h (by decide), fun _ => ?_⟩
              have o14556 : 0 ≤ b0.toInt ∧ b0.toInt < 20 := by have := (by decide : ((0 : Int32)).toInt = 0); have := bd_127_4 hI; (first | omega | sorry)
              refine ⟨o14556, ?_⟩
              have o14557 : ((-2147483648000) ≤ ((1000 : Int64) * (Int32.toInt64 (w.1 167 b0.toInt.toNat))).toInt) ∧ (((1000 : Int64) * (Int32.toInt64 (w.1 167 b0.toInt.toNat))).toInt ≤ 2147483647000) := by exact ⟨by (first | omega | sorry), by (first | omega | sorry)⟩
              exact hQ _ _ hI (FR.refl _ w)  o14557.1 o14557.2
      · refine ⟨fun h14558 => ?_, fun h14558 => ?_⟩
        · have o14559 : ((-2147483648000) ≤ ((1000 : Int64) * (Int32.toInt64 (w.1 127 26))).toInt) ∧ (((1000 : Int64) * (Int32.toInt64 (w.1 127 26))).toInt ≤ 2147483647000) := by exact ⟨by (first | omega | sorry), by (first | omega | sorry)⟩
          exact hQ _ _ hI (FR.refl _ w)  o14559.1 o14559.2
        · have o14560 : ((-2147483648000) ≤ ((1000 : Int64) * (Int32.toInt64 (w.1 127 78))).toInt) ∧ (((1000 : Int64) * (Int32.toInt64 (w.1 127 78))).toInt ≤ 2147483647000) := by exact ⟨by (first | omega | sorry), by (first | omega | sorry)⟩
          exact hQ _ _ hI (FR.refl _ w)  o14560.1 o14560.2
def l_Mo_senseAll_2 : Pl := [(206, none)]
def l_Mo_senseAll_146 : Pl := [(147, some 24)]
def l_Mo_senseAll_109 : Pl := [(147, some 24)]
def l_Mo_senseAll_63 : Pl := [(147, some 24)]
def l_Mo_senseAll : Pl := [(147, some 24), (206, none)]
set_option maxRecDepth 20000 in
set_option maxHeartbeats 2000000 in
theorem hq_Mo_senseAll_2 {E : MW → Prop} {Q : MW → Prop} (n : Nat) : ∀ (x2_1 : Int32) (w : MW), BND w → 0 ≤ x2_1.toInt → x2_1.toInt ≤ 40 → (40 - x2_1.toInt).toNat < n → (∀ (w' : MW), BND w' → FR l_Mo_senseAll_2 w w' → E w') → (∀ (w' : MW), BND w' → FR l_Mo_senseAll_2 w w' → False → Q w') → q_Mo_senseAll_2 E Q n x2_1 w := by
  induction n with
  | zero => intros; (first | omega | sorry)
  | succ n ih =>
    intro x2_1 w hI  hp0 hp1 hm hE hQ
    rw [q_Mo_senseAll_2.eq_2]
    refine ⟨fun h14561 => ?_, fun h14561 => ?_⟩
    · exact hE _ hI (FR.refl _ w)
    · have o14562 : 0 ≤ x2_1.toInt ∧ x2_1.toInt < 40 := by have := bd_129_32 hI; (first | omega | sorry)
      refine ⟨o14562, ?_⟩
      refine ⟨fun h14563 => ?_, fun h14563 => ?_⟩
      · have o14564 : (0 ≤ (x2_1 + (1 : Int32)).toInt) ∧ ((x2_1 + (1 : Int32)).toInt ≤ 40) := by have := ti_add2 (Eq.refl x2_1.toInt) (by decide : ((1 : Int32)).toInt = 1) (by (first | omega | sorry)) (by (first | omega | sorry)); have := bd_129_32 hI; exact ⟨by (first | omega | sorry), by (first | omega | sorry)⟩
        exact ih _ w hI  o14564.1 o14564.2 (by have := ti_add2 (Eq.refl x2_1.toInt) (by decide : ((1 : Int32)).toInt = 1) (by (first | omega | sorry)) (by (first | omega | sorry)); have := bd_129_32 hI; (first | omega | sorry)) (fun w9 hI9 hF9 => hE w9 hI9 ((FR.refl _ w).tr hF9 rfl) ) (fun w9 hI9 hF9 q0 => q0.elim)
      · have o14565 : 0 ≤ x2_1.toInt ∧ x2_1.toInt < 40 := by have := bd_129_32 hI; (first | omega | sorry)
        refine ⟨o14565, ?_⟩
        refine ⟨fun h14566 => ?_, fun h14566 => ?_⟩
        · have o14567 : (0 ≤ (x2_1 + (1 : Int32)).toInt) ∧ ((x2_1 + (1 : Int32)).toInt ≤ 40) := by have := ti_add2 (Eq.refl x2_1.toInt) (by decide : ((1 : Int32)).toInt = 1) (by (first | omega | sorry)) (by (first | omega | sorry)); have := bd_129_32 hI; exact ⟨by (first | omega | sorry), by (first | omega | sorry)⟩
          exact ih _ w hI  o14567.1 o14567.2 (by have := ti_add2 (Eq.refl x2_1.toInt) (by decide : ((1 : Int32)).toInt = 1) (by (first | omega | sorry)) (by (first | omega | sorry)); have := bd_129_32 hI; (first | omega | sorry)) (fun w9 hI9 hF9 => hE w9 hI9 ((FR.refl _ w).tr hF9 rfl) ) (fun w9 hI9 hF9 q0 => q0.elim)
        · have o14568 : 0 ≤ x2_1.toInt ∧ x2_1.toInt < 40 := by have := bd_129_32 hI; (first | omega | sorry)
          refine ⟨o14568, ?_⟩
          have o14569 : 0 ≤ x2_1.toInt ∧ x2_1.toInt < 40 := by have := bd_129_32 hI; (first | omega | sorry)
          refine ⟨o14569, ?_⟩
          have o14570 : (0 ≤ (w.1 201 x2_1.toInt.toNat).toInt) ∧ ((w.1 201 x2_1.toInt.toNat).toInt ≤ 4) := by have := bd_201 hI x2_1.toInt.toNat; have := (by decide : (((-1) : Int32)).toInt = (-1)); have := (by decide : ((5 : Int32)).toInt = 5); exact ⟨by (first | omega | sorry), by (first | omega | sorry)⟩
          refine h_Mo_sensed hI  o14570.1 o14570.2 (fun r14574 w14571 hI14572 hL14573 p14575 p14576 => ?_)
          have hF14577 : FR l_Mo_senseAll_2 w w14571 := (FR.refl _ w).tr hL14573 rfl
          have o14578 : 0 ≤ x2_1.toInt ∧ x2_1.toInt < 40 := by have := bd_129_32 hI; (first | omega | sorry)
          refine ⟨o14578, ?_⟩
          have o14579 : (0 ≤ (x2_1 + (1 : Int32)).toInt) ∧ ((x2_1 + (1 : Int32)).toInt ≤ 40) := by have := ti_add2 (Eq.refl x2_1.toInt) (by decide : ((1 : Int32)).toInt = 1) (by (first | omega | sorry)) (by (first | omega | sorry)); have := bd_129_32 hI; exact ⟨by (first | omega | sorry), by (first | omega | sorry)⟩
          exact ih _ (sJ w14571 206 x2_1.toInt.toNat r14574) (bnd_J hI14572 (k := 206) (j := x2_1.toInt.toNat) (v := r14574))  o14579.1 o14579.2 (by have := ti_add2 (Eq.refl x2_1.toInt) (by decide : ((1 : Int32)).toInt = 1) (by (first | omega | sorry)) (by (first | omega | sorry)); have := bd_129_32 hI; (first | omega | sorry)) (fun w9 hI9 hF9 => hE w9 hI9 ((FR.J hF14577 (k := 206) (j := x2_1.toInt.toNat) (v := r14574) rfl).tr hF9 rfl) ) (fun w9 hI9 hF9 q0 => q0.elim)
set_option maxRecDepth 20000 in
set_option maxHeartbeats 2000000 in
theorem hq_Mo_senseAll_63 {E : MW → Prop} {Q : MW → Prop} (n : Nat) : ∀ (x63_1 : Int32) (w : MW), BND w → 0 ≤ x63_1.toInt → x63_1.toInt ≤ 16 → (16 - x63_1.toInt).toNat < n → (∀ (w' : MW), BND w' → FR l_Mo_senseAll_63 w w' → E w') → (∀ (w' : MW), BND w' → FR l_Mo_senseAll_63 w w' → False → Q w') → q_Mo_senseAll_63 E Q n x63_1 w := by
  induction n with
  | zero => intros; (first | omega | sorry)
  | succ n ih =>
    intro x63_1 w hI  hp0 hp1 hm hE hQ
    rw [q_Mo_senseAll_63.eq_2]
    refine ⟨fun h14580 => ?_, fun h14580 => ?_⟩
    · exact hE _ hI (FR.refl _ w)
    · have o14581 : 0 ≤ x63_1.toInt ∧ x63_1.toInt < 16 := by have := (by decide : ((16 : Int32)).toInt = 16); (first | omega | sorry)
      refine ⟨o14581, ?_⟩
      refine ⟨fun h14582 => ?_, fun h14582 => ?_⟩
      · have o14583 : (0 ≤ (x63_1 + (1 : Int32)).toInt) ∧ ((x63_1 + (1 : Int32)).toInt ≤ 16) := by have := ti_add2 (Eq.refl x63_1.toInt) (by decide : ((1 : Int32)).toInt = 1) (by (first | omega | sorry)) (by (first | omega | sorry)); have := (by decide : ((16 : Int32)).toInt = 16); exact ⟨by (first | omega | sorry), by (first | omega | sorry)⟩
        exact ih _ w hI  o14583.1 o14583.2 (by have := ti_add2 (Eq.refl x63_1.toInt) (by decide : ((1 : Int32)).toInt = 1) (by (first | omega | sorry)) (by (first | omega | sorry)); have := (by decide : ((16 : Int32)).toInt = 16); (first | omega | sorry)) (fun w9 hI9 hF9 => hE w9 hI9 ((FR.refl _ w).tr hF9 rfl) ) (fun w9 hI9 hF9 q0 => q0.elim)
      · have o14584 : 0 ≤ x63_1.toInt ∧ x63_1.toInt < 16 := by have := (by decide : ((16 : Int32)).toInt = 16); (first | omega | sorry)
        refine ⟨o14584, ?_⟩
        refine ⟨fun h14585 => ?_, fun h14585 => ?_⟩
        · refine Eq.mpr (q_Mo_senseAll_109.eq_1 _ _ _ _ _ _) ?_
          have o14586 : 0 ≤ x63_1.toInt ∧ x63_1.toInt < 16 := by have := (by decide : ((16 : Int32)).toInt = 16); (first | omega | sorry)
          refine ⟨o14586, ?_⟩
          refine ⟨fun _ => ?_, fun h => absurd h14585 h⟩
          refine Eq.mpr (q_Mo_senseAll_146.eq_1 _ _ _ _ _ _) ?_
          refine ⟨fun _ => ?_, fun h => absurd (by decide) h⟩
          have hI14587 : BND (sI w 147 24 ((w.1 147 24) &&& (((1 : Int32) <<< (x63_1 &&& 31)) ^^^ ((-1) : Int32)))) := wbd_147_24 hI
          have o14588 : (0 ≤ (x63_1 + (1 : Int32)).toInt) ∧ ((x63_1 + (1 : Int32)).toInt ≤ 16) := by have := ti_add2 (Eq.refl x63_1.toInt) (by decide : ((1 : Int32)).toInt = 1) (by (first | omega | sorry)) (by (first | omega | sorry)); have := (by decide : ((16 : Int32)).toInt = 16); exact ⟨by (first | omega | sorry), by (first | omega | sorry)⟩
          exact ih _ (sI w 147 24 ((w.1 147 24) &&& (((1 : Int32) <<< (x63_1 &&& 31)) ^^^ ((-1) : Int32)))) hI14587  o14588.1 o14588.2 (by have := ti_add2 (Eq.refl x63_1.toInt) (by decide : ((1 : Int32)).toInt = 1) (by (first | omega | sorry)) (by (first | omega | sorry)); have := (by decide : ((16 : Int32)).toInt = 16); (first | omega | sorry)) (fun w9 hI9 hF9 => hE w9 hI9 ((FR.I (FR.refl _ w) (k := 147) (j := 24) (v := ((w.1 147 24) &&& (((1 : Int32) <<< (x63_1 &&& 31)) ^^^ ((-1) : Int32)))) rfl).tr hF9 rfl) ) (fun w9 hI9 hF9 q0 => q0.elim)
        · have o14589 : 0 ≤ x63_1.toInt ∧ x63_1.toInt < 16 := by have := (by decide : ((16 : Int32)).toInt = 16); (first | omega | sorry)
          refine ⟨o14589, ?_⟩
          have o14590 : 0 ≤ x63_1.toInt ∧ x63_1.toInt < 16 := by have := (by decide : ((16 : Int32)).toInt = 16); (first | omega | sorry)
          refine ⟨o14590, ?_⟩
          have o14591 : (0 ≤ (w.1 203 x63_1.toInt.toNat).toInt) ∧ ((w.1 203 x63_1.toInt.toNat).toInt ≤ 4) := by have := bd_203 hI x63_1.toInt.toNat; have := (by decide : (((-1) : Int32)).toInt = (-1)); have := (by decide : ((5 : Int32)).toInt = 5); exact ⟨by (first | omega | sorry), by (first | omega | sorry)⟩
          refine h_Mo_sensed hI  o14591.1 o14591.2 (fun r14595 w14592 hI14593 hL14594 p14596 p14597 => ?_)
          have hF14598 : FR l_Mo_senseAll_63 w w14592 := (FR.refl _ w).tr hL14594 rfl
          refine Eq.mpr (q_Mo_senseAll_109.eq_1 _ _ _ _ _ _) ?_
          have o14599 : 0 ≤ x63_1.toInt ∧ x63_1.toInt < 16 := by have := (by decide : ((16 : Int32)).toInt = 16); (first | omega | sorry)
          refine ⟨o14599, ?_⟩
          refine ⟨fun h14600 => ?_, fun h14600 => ?_⟩
          · refine Eq.mpr (q_Mo_senseAll_146.eq_1 _ _ _ _ _ _) ?_
            refine ⟨fun _ => ?_, fun h => absurd (by decide) h⟩
            have hI14601 : BND (sI w14592 147 24 ((w14592.1 147 24) &&& (((1 : Int32) <<< (x63_1 &&& 31)) ^^^ ((-1) : Int32)))) := wbd_147_24 hI14593
            have o14602 : (0 ≤ (x63_1 + (1 : Int32)).toInt) ∧ ((x63_1 + (1 : Int32)).toInt ≤ 16) := by have := ti_add2 (Eq.refl x63_1.toInt) (by decide : ((1 : Int32)).toInt = 1) (by (first | omega | sorry)) (by (first | omega | sorry)); have := (by decide : ((16 : Int32)).toInt = 16); exact ⟨by (first | omega | sorry), by (first | omega | sorry)⟩
            exact ih _ (sI w14592 147 24 ((w14592.1 147 24) &&& (((1 : Int32) <<< (x63_1 &&& 31)) ^^^ ((-1) : Int32)))) hI14601  o14602.1 o14602.2 (by have := ti_add2 (Eq.refl x63_1.toInt) (by decide : ((1 : Int32)).toInt = 1) (by (first | omega | sorry)) (by (first | omega | sorry)); have := (by decide : ((16 : Int32)).toInt = 16); (first | omega | sorry)) (fun w9 hI9 hF9 => hE w9 hI9 ((FR.I hF14598 (k := 147) (j := 24) (v := ((w14592.1 147 24) &&& (((1 : Int32) <<< (x63_1 &&& 31)) ^^^ ((-1) : Int32)))) rfl).tr hF9 rfl) ) (fun w9 hI9 hF9 q0 => q0.elim)
          · refine ⟨fun h14603 => ?_, fun h14603 => ?_⟩
            · refine Eq.mpr (q_Mo_senseAll_146.eq_1 _ _ _ _ _ _) ?_
              refine ⟨fun _ => ?_, fun h => absurd (by decide) h⟩
              have hI14604 : BND (sI w14592 147 24 ((w14592.1 147 24) &&& (((1 : Int32) <<< (x63_1 &&& 31)) ^^^ ((-1) : Int32)))) := wbd_147_24 hI14593
              have o14605 : (0 ≤ (x63_1 + (1 : Int32)).toInt) ∧ ((x63_1 + (1 : Int32)).toInt ≤ 16) := by have := ti_add2 (Eq.refl x63_1.toInt) (by decide : ((1 : Int32)).toInt = 1) (by (first | omega | sorry)) (by (first | omega | sorry)); have := (by decide : ((16 : Int32)).toInt = 16); exact ⟨by (first | omega | sorry), by (first | omega | sorry)⟩
              exact ih _ (sI w14592 147 24 ((w14592.1 147 24) &&& (((1 : Int32) <<< (x63_1 &&& 31)) ^^^ ((-1) : Int32)))) hI14604  o14605.1 o14605.2 (by have := ti_add2 (Eq.refl x63_1.toInt) (by decide : ((1 : Int32)).toInt = 1) (by (first | omega | sorry)) (by (first | omega | sorry)); have := (by decide : ((16 : Int32)).toInt = 16); (first | omega | sorry)) (fun w9 hI9 hF9 => hE w9 hI9 ((FR.I hF14598 (k := 147) (j := 24) (v := ((w14592.1 147 24) &&& (((1 : Int32) <<< (x63_1 &&& 31)) ^^^ ((-1) : Int32)))) rfl).tr hF9 rfl) ) (fun w9 hI9 hF9 q0 => q0.elim)
            · have o14606 : 0 ≤ x63_1.toInt ∧ x63_1.toInt < 16 := by have := (by decide : ((16 : Int32)).toInt = 16); (first | omega | sorry)
              refine ⟨o14606, ?_⟩
              refine ⟨fun h14607 => ?_, fun h14607 => ?_⟩
              · refine Eq.mpr (q_Mo_senseAll_146.eq_1 _ _ _ _ _ _) ?_
                refine ⟨fun _ => ?_, fun h => absurd (by decide) h⟩
                have hI14608 : BND (sI w14592 147 24 ((w14592.1 147 24) &&& (((1 : Int32) <<< (x63_1 &&& 31)) ^^^ ((-1) : Int32)))) := wbd_147_24 hI14593
                have o14609 : (0 ≤ (x63_1 + (1 : Int32)).toInt) ∧ ((x63_1 + (1 : Int32)).toInt ≤ 16) := by have := ti_add2 (Eq.refl x63_1.toInt) (by decide : ((1 : Int32)).toInt = 1) (by (first | omega | sorry)) (by (first | omega | sorry)); have := (by decide : ((16 : Int32)).toInt = 16); exact ⟨by (first | omega | sorry), by (first | omega | sorry)⟩
                exact ih _ (sI w14592 147 24 ((w14592.1 147 24) &&& (((1 : Int32) <<< (x63_1 &&& 31)) ^^^ ((-1) : Int32)))) hI14608  o14609.1 o14609.2 (by have := ti_add2 (Eq.refl x63_1.toInt) (by decide : ((1 : Int32)).toInt = 1) (by (first | omega | sorry)) (by (first | omega | sorry)); have := (by decide : ((16 : Int32)).toInt = 16); (first | omega | sorry)) (fun w9 hI9 hF9 => hE w9 hI9 ((FR.I hF14598 (k := 147) (j := 24) (v := ((w14592.1 147 24) &&& (((1 : Int32) <<< (x63_1 &&& 31)) ^^^ ((-1) : Int32)))) rfl).tr hF9 rfl) ) (fun w9 hI9 hF9 q0 => q0.elim)
              · refine Eq.mpr (q_Mo_senseAll_146.eq_1 _ _ _ _ _ _) ?_
                refine ⟨fun h => absurd h (by decide), fun _ => ?_⟩
                have hI14610 : BND (sI w14592 147 24 ((w14592.1 147 24) ||| ((1 : Int32) <<< (x63_1 &&& 31)))) := wbd_147_24 hI14593
                have o14611 : (0 ≤ (x63_1 + (1 : Int32)).toInt) ∧ ((x63_1 + (1 : Int32)).toInt ≤ 16) := by have := ti_add2 (Eq.refl x63_1.toInt) (by decide : ((1 : Int32)).toInt = 1) (by (first | omega | sorry)) (by (first | omega | sorry)); have := (by decide : ((16 : Int32)).toInt = 16); exact ⟨by (first | omega | sorry), by (first | omega | sorry)⟩
                exact ih _ (sI w14592 147 24 ((w14592.1 147 24) ||| ((1 : Int32) <<< (x63_1 &&& 31)))) hI14610  o14611.1 o14611.2 (by have := ti_add2 (Eq.refl x63_1.toInt) (by decide : ((1 : Int32)).toInt = 1) (by (first | omega | sorry)) (by (first | omega | sorry)); have := (by decide : ((16 : Int32)).toInt = 16); (first | omega | sorry)) (fun w9 hI9 hF9 => hE w9 hI9 ((FR.I hF14598 (k := 147) (j := 24) (v := ((w14592.1 147 24) ||| ((1 : Int32) <<< (x63_1 &&& 31)))) rfl).tr hF9 rfl) ) (fun w9 hI9 hF9 q0 => q0.elim)
set_option maxRecDepth 20000 in
set_option maxHeartbeats 2000000 in
theorem h_Mo_senseAll {w : MW} {Q : MW → Prop} (hI : BND w)  (hQ : ∀ (w' : MW), BND w' → FR l_Mo_senseAll w w' → Q w') : p_Mo_senseAll w Q := by
  refine Eq.mpr (p_Mo_senseAll.eq_1 _ _) ?_
  have o14612 : (0 ≤ (0 : Int32).toInt) ∧ ((0 : Int32).toInt ≤ 40) := by have := (by decide : ((0 : Int32)).toInt = 0); exact ⟨by (first | omega | sorry), by (first | omega | sorry)⟩
  refine hq_Mo_senseAll_2 FU _ w hI  o14612.1 o14612.2 (fu_lt (by have := (by decide : ((0 : Int32)).toInt = 0); (first | omega | sorry))) (fun w14613 hI14614 hL14615  => ?_) (fun w9 hI9 hF9 q0 => q0.elim)
  have hF14616 : FR l_Mo_senseAll w w14613 := (FR.refl _ w).tr hL14615 rfl
  have o14617 : (0 ≤ (0 : Int32).toInt) ∧ ((0 : Int32).toInt ≤ 16) := by have := (by decide : ((0 : Int32)).toInt = 0); exact ⟨by (first | omega | sorry), by (first | omega | sorry)⟩
  refine hq_Mo_senseAll_63 FU _ w14613 hI14614  o14617.1 o14617.2 (fu_lt (by have := (by decide : ((0 : Int32)).toInt = 0); (first | omega | sorry))) (fun w14618 hI14619 hL14620  => ?_) (fun w9 hI9 hF9 q0 => q0.elim)
  have hF14621 : FR l_Mo_senseAll w w14618 := hF14616.tr hL14620 rfl
  exact hQ _ hI14619 hF14621 
def l_Mo_goRamp_127 : Pl := [(206, none)]
def l_Mo_goRamp : Pl := [(206, none)]
set_option maxRecDepth 20000 in
set_option maxHeartbeats 2000000 in
theorem h_Mo_goRamp {w : MW} {a0 : Int32} {Q : Int32 → MW → Prop} (hI : BND w) (hp0 : 0 ≤ a0.toInt) (hp1 : a0.toInt ≤ 501) (hQ : ∀ (r : Int32) (w' : MW), BND w' → FR l_Mo_goRamp w w' → 0 ≤ r.toInt → r.toInt ≤ 1 → Q r w') : p_Mo_goRamp w a0 Q := by
  refine Eq.mpr (p_Mo_goRamp.eq_1 _ _ _) ?_
  have o14622 : 0 ≤ a0.toInt ∧ a0.toInt < 502 := by (first | omega | sorry)
  refine ⟨o14622, ?_⟩
  have o14623 : 0 ≤ a0.toInt ∧ a0.toInt < 502 := by (first | omega | sorry)
  refine ⟨o14623, ?_⟩
  refine Eq.mpr (p_Tx_node1.eq_1 _ _ _) ?_
  have o14624 : 0 ≤ (((300 : Int32) * (w.1 129 12)) + (w.1 207 a0.toInt.toNat)).toInt ∧ (((300 : Int32) * (w.1 129 12)) + (w.1 207 a0.toInt.toNat)).toInt < 600 := by have := bd_129_12 hI; have := ti_mul2 (by decide : ((300 : Int32)).toInt = 300) (Eq.refl (w.1 129 12).toInt) (by (first | omega | sorry)) (by (first | omega | sorry)); have := bd_207 hI a0.toInt.toNat; have := ti_add2 (Eq.refl ((300 : Int32) * (w.1 129 12)).toInt) (Eq.refl (w.1 207 a0.toInt.toNat).toInt) (by (first | omega | sorry)) (by (first | omega | sorry)); (first | omega | sorry)
  refine ⟨o14624, ?_⟩
  have o14625 : 0 ≤ a0.toInt ∧ a0.toInt < 502 := by (first | omega | sorry)
  refine ⟨o14625, ?_⟩
  refine ⟨fun h14626 => ?_, fun h14626 => ?_⟩
  · have o14627 : 0 ≤ a0.toInt ∧ a0.toInt < 502 := by (first | omega | sorry)
    refine ⟨o14627, ?_⟩
    have o14628 : 0 ≤ (Int64.toInt32 (w.2.1 132 ((((300 : Int32) * (w.1 129 12)) + (w.1 207 a0.toInt.toNat)).toInt.toNat))).toInt ∧ (Int64.toInt32 (w.2.1 132 ((((300 : Int32) * (w.1 129 12)) + (w.1 207 a0.toInt.toNat)).toInt.toNat))).toInt < 40 := by have := ti_lo (Int64.toInt32 (w.2.1 132 ((((300 : Int32) * (w.1 129 12)) + (w.1 207 a0.toInt.toNat)).toInt.toNat))); have := ti_hi (Int64.toInt32 (w.2.1 132 ((((300 : Int32) * (w.1 129 12)) + (w.1 207 a0.toInt.toNat)).toInt.toNat))); (first | omega | sorry)
    refine ⟨o14628, ?_⟩
    have o14629 : (0 ≤ (1 : Int32).toInt) ∧ ((1 : Int32).toInt ≤ 1) := by have := (by decide : ((1 : Int32)).toInt = 1); exact ⟨by (first | omega | sorry), by (first | omega | sorry)⟩
    exact hQ _ _ (bnd_J hI (k := 206) (j := (Int64.toInt32 (w.2.1 132 ((((300 : Int32) * (w.1 129 12)) + (w.1 207 a0.toInt.toNat)).toInt.toNat))).toInt.toNat) (v := (w.2.1 216 a0.toInt.toNat))) (FR.J (FR.refl _ w) (k := 206) (j := (Int64.toInt32 (w.2.1 132 ((((300 : Int32) * (w.1 129 12)) + (w.1 207 a0.toInt.toNat)).toInt.toNat))).toInt.toNat) (v := (w.2.1 216 a0.toInt.toNat)) rfl)  o14629.1 o14629.2
  · have o14630 : 0 ≤ a0.toInt ∧ a0.toInt < 502 := by (first | omega | sorry)
    refine ⟨o14630, ?_⟩
    refine ⟨fun h14631 => ?_, fun h14631 => ?_⟩
    · refine ⟨fun h14632 => ?_, fun h14632 => ?_⟩
      · have o14633 : (0 ≤ (0 : Int32).toInt) ∧ ((0 : Int32).toInt ≤ 1) := by have := (by decide : ((0 : Int32)).toInt = 0); exact ⟨by (first | omega | sorry), by (first | omega | sorry)⟩
        exact hQ _ _ hI (FR.refl _ w)  o14633.1 o14633.2
      · have o14634 : 0 ≤ a0.toInt ∧ a0.toInt < 502 := by (first | omega | sorry)
        refine ⟨o14634, ?_⟩
        have o14635 : 0 ≤ a0.toInt ∧ a0.toInt < 502 := by (first | omega | sorry)
        refine ⟨o14635, ?_⟩
        have o14636 : 0 ≤ a0.toInt ∧ a0.toInt < 502 := by (first | omega | sorry)
        refine ⟨o14636, ?_⟩
        have o14637 : ¬ (w.2.1 215 a0.toInt.toNat).toInt = 0 := by have := nb_cmp (Int32.toInt64 ((w.1 127 74) - (w.1 214 a0.toInt.toNat))) (w.2.1 215 a0.toInt.toNat); have := (by decide : ((0 : Int32)).toInt = 0); have := nb_cmp (Int32.toInt64 ((w.1 127 74) - (w.1 214 a0.toInt.toNat))) (0 : Int64); (first | omega | sorry)
        refine ⟨o14637, ?_⟩
        have o14638 : 0 ≤ a0.toInt ∧ a0.toInt < 502 := by (first | omega | sorry)
        refine ⟨o14638, ?_⟩
        have o14639 : ¬ (w.2.1 215 a0.toInt.toNat).toInt = 0 := by have := nb_cmp (Int32.toInt64 ((w.1 127 74) - (w.1 214 a0.toInt.toNat))) (w.2.1 215 a0.toInt.toNat); have := (by decide : ((0 : Int32)).toInt = 0); have := nb_cmp (Int32.toInt64 ((w.1 127 74) - (w.1 214 a0.toInt.toNat))) (0 : Int64); (first | omega | sorry)
        refine ⟨o14639, ?_⟩
        refine ⟨fun h14640 => ?_, fun h14640 => ?_⟩
        · refine Eq.mpr (q_Mo_goRamp_127.eq_1 _ _ _ _ _ _) ?_
          have o14641 : 0 ≤ a0.toInt ∧ a0.toInt < 502 := by (first | omega | sorry)
          refine ⟨o14641, ?_⟩
          have o14642 : 0 ≤ (Int64.toInt32 (w.2.1 132 ((((300 : Int32) * (w.1 129 12)) + (w.1 207 a0.toInt.toNat)).toInt.toNat))).toInt ∧ (Int64.toInt32 (w.2.1 132 ((((300 : Int32) * (w.1 129 12)) + (w.1 207 a0.toInt.toNat)).toInt.toNat))).toInt < 40 := by have := ti_lo (Int64.toInt32 (w.2.1 132 ((((300 : Int32) * (w.1 129 12)) + (w.1 207 a0.toInt.toNat)).toInt.toNat))); have := ti_hi (Int64.toInt32 (w.2.1 132 ((((300 : Int32) * (w.1 129 12)) + (w.1 207 a0.toInt.toNat)).toInt.toNat))); (first | omega | sorry)
          refine ⟨o14642, ?_⟩
          have o14643 : (0 ≤ (0 : Int32).toInt) ∧ ((0 : Int32).toInt ≤ 1) := by have := (by decide : ((0 : Int32)).toInt = 0); exact ⟨by (first | omega | sorry), by (first | omega | sorry)⟩
          exact hQ _ _ (bnd_J hI (k := 206) (j := (Int64.toInt32 (w.2.1 132 ((((300 : Int32) * (w.1 129 12)) + (w.1 207 a0.toInt.toNat)).toInt.toNat))).toInt.toNat) (v := ((w.2.1 217 a0.toInt.toNat) + (((((w.2.1 216 a0.toInt.toNat) - (w.2.1 217 a0.toInt.toNat)) * (Int32.toInt64 ((w.1 127 74) - (w.1 214 a0.toInt.toNat)))) / (w.2.1 215 a0.toInt.toNat)) - (0 : Int64))))) (FR.J (FR.refl _ w) (k := 206) (j := (Int64.toInt32 (w.2.1 132 ((((300 : Int32) * (w.1 129 12)) + (w.1 207 a0.toInt.toNat)).toInt.toNat))).toInt.toNat) (v := ((w.2.1 217 a0.toInt.toNat) + (((((w.2.1 216 a0.toInt.toNat) - (w.2.1 217 a0.toInt.toNat)) * (Int32.toInt64 ((w.1 127 74) - (w.1 214 a0.toInt.toNat)))) / (w.2.1 215 a0.toInt.toNat)) - (0 : Int64)))) rfl)  o14643.1 o14643.2
        · refine Eq.mpr (q_Mo_goRamp_127.eq_1 _ _ _ _ _ _) ?_
          have o14644 : 0 ≤ a0.toInt ∧ a0.toInt < 502 := by (first | omega | sorry)
          refine ⟨o14644, ?_⟩
          have o14645 : 0 ≤ (Int64.toInt32 (w.2.1 132 ((((300 : Int32) * (w.1 129 12)) + (w.1 207 a0.toInt.toNat)).toInt.toNat))).toInt ∧ (Int64.toInt32 (w.2.1 132 ((((300 : Int32) * (w.1 129 12)) + (w.1 207 a0.toInt.toNat)).toInt.toNat))).toInt < 40 := by have := ti_lo (Int64.toInt32 (w.2.1 132 ((((300 : Int32) * (w.1 129 12)) + (w.1 207 a0.toInt.toNat)).toInt.toNat))); have := ti_hi (Int64.toInt32 (w.2.1 132 ((((300 : Int32) * (w.1 129 12)) + (w.1 207 a0.toInt.toNat)).toInt.toNat))); (first | omega | sorry)
          refine ⟨o14645, ?_⟩
          have o14646 : (0 ≤ (0 : Int32).toInt) ∧ ((0 : Int32).toInt ≤ 1) := by have := (by decide : ((0 : Int32)).toInt = 0); exact ⟨by (first | omega | sorry), by (first | omega | sorry)⟩
          exact hQ _ _ (bnd_J hI (k := 206) (j := (Int64.toInt32 (w.2.1 132 ((((300 : Int32) * (w.1 129 12)) + (w.1 207 a0.toInt.toNat)).toInt.toNat))).toInt.toNat) (v := ((w.2.1 217 a0.toInt.toNat) + (((((w.2.1 216 a0.toInt.toNat) - (w.2.1 217 a0.toInt.toNat)) * (Int32.toInt64 ((w.1 127 74) - (w.1 214 a0.toInt.toNat)))) / (w.2.1 215 a0.toInt.toNat)) - (1 : Int64))))) (FR.J (FR.refl _ w) (k := 206) (j := (Int64.toInt32 (w.2.1 132 ((((300 : Int32) * (w.1 129 12)) + (w.1 207 a0.toInt.toNat)).toInt.toNat))).toInt.toNat) (v := ((w.2.1 217 a0.toInt.toNat) + (((((w.2.1 216 a0.toInt.toNat) - (w.2.1 217 a0.toInt.toNat)) * (Int32.toInt64 ((w.1 127 74) - (w.1 214 a0.toInt.toNat)))) / (w.2.1 215 a0.toInt.toNat)) - (1 : Int64)))) rfl)  o14646.1 o14646.2
    · have o14647 : 0 ≤ a0.toInt ∧ a0.toInt < 502 := by (first | omega | sorry)
      refine ⟨o14647, ?_⟩
      have o14648 : 0 ≤ (Int64.toInt32 (w.2.1 132 ((((300 : Int32) * (w.1 129 12)) + (w.1 207 a0.toInt.toNat)).toInt.toNat))).toInt ∧ (Int64.toInt32 (w.2.1 132 ((((300 : Int32) * (w.1 129 12)) + (w.1 207 a0.toInt.toNat)).toInt.toNat))).toInt < 40 := by have := ti_lo (Int64.toInt32 (w.2.1 132 ((((300 : Int32) * (w.1 129 12)) + (w.1 207 a0.toInt.toNat)).toInt.toNat))); have := ti_hi (Int64.toInt32 (w.2.1 132 ((((300 : Int32) * (w.1 129 12)) + (w.1 207 a0.toInt.toNat)).toInt.toNat))); (first | omega | sorry)
      refine ⟨o14648, ?_⟩
      have o14649 : (0 ≤ (1 : Int32).toInt) ∧ ((1 : Int32).toInt ≤ 1) := by have := (by decide : ((1 : Int32)).toInt = 1); exact ⟨by (first | omega | sorry), by (first | omega | sorry)⟩
      exact hQ _ _ (bnd_J hI (k := 206) (j := (Int64.toInt32 (w.2.1 132 ((((300 : Int32) * (w.1 129 12)) + (w.1 207 a0.toInt.toNat)).toInt.toNat))).toInt.toNat) (v := (w.2.1 216 a0.toInt.toNat))) (FR.J (FR.refl _ w) (k := 206) (j := (Int64.toInt32 (w.2.1 132 ((((300 : Int32) * (w.1 129 12)) + (w.1 207 a0.toInt.toNat)).toInt.toNat))).toInt.toNat) (v := (w.2.1 216 a0.toInt.toNat)) rfl)  o14649.1 o14649.2
def l_Mo_hold_24 : Pl := [(127, some 26), (127, some 59), (167, none), (181, none), (182, none), (183, none), (184, none), (185, none), (186, none), (187, none)]
def l_Mo_hold : Pl := [(127, some 26), (127, some 59), (167, none), (181, none), (182, none), (183, none), (184, none), (185, none), (186, none), (187, none)]
set_option maxRecDepth 20000 in
set_option maxHeartbeats 2000000 in
theorem h_Mo_hold {w : MW} {a0 : Int32} {Q : Int32 → MW → Prop} (hI : BND w)  (hQ : ∀ (r : Int32) (w' : MW), BND w' → FR l_Mo_hold w w' → 0 ≤ r.toInt → r.toInt ≤ 1 → Q r w') : p_Mo_hold w a0 Q := by
  refine Eq.mpr (p_Mo_hold.eq_1 _ _ _) ?_
  refine ⟨fun h14650 => ?_, fun h14650 => ?_⟩
  · refine ⟨fun h14651 => ?_, fun h14651 => ?_⟩
    · refine Eq.mpr (q_Mo_hold_24.eq_1 _ _ _) ?_
      refine ⟨fun _ => ?_, fun h => absurd h14650 h⟩
      have hI14652 : BND (sI w 127 59 0) := wbd_127_59 hI (by decide) (by decide)
      have o14653 : (0 ≤ (1 : Int32).toInt) ∧ ((1 : Int32).toInt ≤ 1) := by have := (by decide : ((1 : Int32)).toInt = 1); exact ⟨by (first | omega | sorry), by (first | omega | sorry)⟩
      exact hQ _ _ hI14652 (FR.I (FR.refl _ w) (k := 127) (j := 59) (v := 0) rfl)  o14653.1 o14653.2
    · have o14654 : (0 ≤ (0 : Int32).toInt) ∧ ((0 : Int32).toInt ≤ 1) := by have := (by decide : ((0 : Int32)).toInt = 0); exact ⟨by (first | omega | sorry), by (first | omega | sorry)⟩
      exact hQ _ _ hI (FR.refl _ w)  o14654.1 o14654.2
  · refine ⟨fun h14655 => ?_, fun h14655 => ?_⟩
    · refine Eq.mpr (q_Mo_hold_24.eq_1 _ _ _) ?_
      refine ⟨fun h => absurd h h14650, fun _ => ?_⟩
      have hI14656 : BND (sI w 127 59 2) := wbd_127_59 hI (by decide) (by decide)
      refine h_Mo_closeAll hI14656   (fun w14657 hI14658 hL14659  => ?_)
      have hF14661 : FR l_Mo_hold w w14657 := (FR.I (FR.refl _ w) (k := 127) (j := 59) (v := 2) rfl).tr hL14659 rfl
      have o14662 : (0 ≤ (1 : Int32).toInt) ∧ ((1 : Int32).toInt ≤ 1) := by have := (by decide : ((1 : Int32)).toInt = 1); exact ⟨by (first | omega | sorry), by (first | omega | sorry)⟩
      exact hQ _ _ hI14658 hF14661  o14662.1 o14662.2
    · have o14663 : (0 ≤ (0 : Int32).toInt) ∧ ((0 : Int32).toInt ≤ 1) := by have := (by decide : ((0 : Int32)).toInt = 0); exact ⟨by (first | omega | sorry), by (first | omega | sorry)⟩
      exact hQ _ _ hI (FR.refl _ w)  o14663.1 o14663.2
