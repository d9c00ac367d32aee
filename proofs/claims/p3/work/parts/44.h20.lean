def l_Sf_isSafe_103 : Pl := [(42, some 6), (42, some 7), (42, some 8), (42, some 9), (45, none), (46, none)]
def l_Sf_isSafe_57 : Pl := [(42, some 6), (42, some 7), (42, some 8), (42, some 9), (45, none), (46, none)]
def l_Sf_isSafe : Pl := [(42, some 6), (42, some 7), (42, some 8), (42, some 9), (43, none), (44, none), (45, none), (46, none)]
set_option maxRecDepth 20000 in
set_option maxHeartbeats 2000000 in
theorem hq_Sf_isSafe_57 {E : MW → Prop} {Q : Int32 → MW → Prop} (n : Nat) : ∀ (x57_1 : Int32) (x57_2 : Int32) (w : MW), BND w → PE w → PL w → w.2.2 7 0 = some 8 → 0 ≤ x57_1.toInt → x57_1.toInt ≤ 31710 → 0 ≤ x57_2.toInt → x57_2.toInt ≤ 200 → (200 - x57_2.toInt).toNat < n → (∀ (w' : MW), BND w' → FR l_Sf_isSafe_57 w w' → E w') → (∀ (r : Int32) (w' : MW), BND w' → FR l_Sf_isSafe_57 w w' → 0 ≤ r.toInt → r.toInt ≤ 0 → Q r w') → q_Sf_isSafe_57 E Q n x57_1 x57_2 w := by
  induction n with
  | zero => intros; omega
  | succ n ih =>
    intro x57_1 x57_2 w hI hf_PE hf_PL hr_7_0 hp0 hp1 hp2 hp3 hm hE hQ
    rw [q_Sf_isSafe_57.eq_2]
    refine ⟨hr_7_0, ?_⟩
    refine ⟨fun h5456 => ?_, fun h5456 => ?_⟩
    · exact hE _ hI (FR.refl _ w)
    · have o5457 : (0 ≤ (x57_2 / (10 : Int32)).toInt) ∧ ((x57_2 / (10 : Int32)).toInt ≤ 19) ∧ (0 ≤ (x57_2 - x57_2 / (10 : Int32) * (10 : Int32)).toInt) ∧ ((x57_2 - x57_2 / (10 : Int32) * (10 : Int32)).toInt ≤ 9) := by have := bd_8_0 hI; have := nb_div (x := x57_2) (by omega) (by decide : ((10 : Int32)).toInt = 10) (by decide); have := nb_rem (x := x57_2) (by omega) (by decide : ((10 : Int32)).toInt = 10) (by decide); have := ti_mul2 (by decide : ((10 : Int32)).toInt = 10) (Eq.refl (w.1 8 0).toInt) (by omega) (by omega); exact ⟨by omega, by omega, by omega, by omega⟩
      refine h_Sf_otherPasses hI hr_7_0 o5457.1 o5457.2.1 o5457.2.2.1 o5457.2.2.2 (fun r5461 w5458 hI5459 hL5460 p5462 p5463 => ?_)
      have hF5464 : FR l_Sf_isSafe_57 w w5458 := (FR.refl _ w).tr hL5460 rfl
      refine ⟨fun h5465 => ?_, fun h5465 => ?_⟩
      · have o5466 : (0 ≤ r5461.toInt) ∧ (r5461.toInt ≤ 31710) ∧ (0 ≤ (x57_2 + (1 : Int32)).toInt) ∧ ((x57_2 + (1 : Int32)).toInt ≤ 200) := by have := bd_8_0 hI; have := (by decide : ((0 : Int32)).toInt = 0); have := ti_add2 (Eq.refl x57_2.toInt) (by decide : ((1 : Int32)).toInt = 1) (by omega) (by omega); have := ti_mul2 (by decide : ((10 : Int32)).toInt = 10) (Eq.refl (w.1 8 0).toInt) (by omega) (by omega); exact ⟨by omega, by omega, by omega, by omega⟩
        exact ih _ _ w5458 hI5459 (PE_fr hL5460 rfl hf_PE) (PL_fr hL5460 rfl hf_PL) ((hL5460 7 0 rfl).2.2.trans hr_7_0) o5466.1 o5466.2.1 o5466.2.2.1 o5466.2.2.2 (by have := bd_8_0 hI; have := (by decide : ((0 : Int32)).toInt = 0); have := ti_add2 (Eq.refl x57_2.toInt) (by decide : ((1 : Int32)).toInt = 1) (by omega) (by omega); have := ti_mul2 (by decide : ((10 : Int32)).toInt = 10) (Eq.refl (w.1 8 0).toInt) (by omega) (by omega); omega) (fun w9 hI9 hF9 => hE w9 hI9 (hF5464.tr hF9 rfl) ) (fun r w9 hI9 hF9 q0 q1 => hQ r w9 hI9 (hF5464.tr hF9 rfl) (by have := bd_8_0 hI; have := (by decide : ((0 : Int32)).toInt = 0); have := ti_add2 (Eq.refl x57_2.toInt) (by decide : ((1 : Int32)).toInt = 1) (by omega) (by omega); have := ti_mul2 (by decide : ((10 : Int32)).toInt = 10) (Eq.refl (w.1 8 0).toInt) (by omega) (by omega); omega) (by have := bd_8_0 hI; have := (by decide : ((0 : Int32)).toInt = 0); have := ti_add2 (Eq.refl x57_2.toInt) (by decide : ((1 : Int32)).toInt = 1) (by omega) (by omega); have := ti_mul2 (by decide : ((10 : Int32)).toInt = 10) (Eq.refl (w.1 8 0).toInt) (by omega) (by omega); omega))
      · refine ⟨fun h5467 => ?_, fun h5467 => ?_⟩
        · refine Eq.mpr (q_Sf_isSafe_103.eq_1 _ _ _ _ _ _) ?_
          have o5468 : ((-1) ≤ (x57_2 / (10 : Int32)).toInt) ∧ ((x57_2 / (10 : Int32)).toInt ≤ 19) ∧ (0 ≤ r5461.toInt) ∧ (r5461.toInt ≤ 31710) := by have := bd_8_0 hI; have := (by decide : ((0 : Int32)).toInt = 0); have := nb_div (x := x57_2) (by omega) (by decide : ((10 : Int32)).toInt = 10) (by decide); have := ti_mul2 (by decide : ((10 : Int32)).toInt = 10) (Eq.refl (w.1 8 0).toInt) (by omega) (by omega); exact ⟨by omega, by omega, by omega, by omega⟩
          refine h_Sf_link hI5459 (PE_fr hL5460 rfl hf_PE) (PL_fr hL5460 rfl hf_PL) ((hL5460 7 0 rfl).2.2.trans hr_7_0) o5468.1 o5468.2.1 o5468.2.2.1 o5468.2.2.2 (fun w5469 hI5470 hL5471  => ?_)
          have hF5473 : FR l_Sf_isSafe_57 w w5469 := hF5464.tr hL5471 rfl
          refine h_Sf_meet hI5470   (fun r5477 w5474 hI5475 hL5476 p5478 p5479 => ?_)
          have hF5480 : FR l_Sf_isSafe_57 w w5474 := hF5473.tr hL5476 rfl
          refine ⟨fun h5481 => ?_, fun h5481 => ?_⟩
          · have o5482 : (0 ≤ r5461.toInt) ∧ (r5461.toInt ≤ 31710) ∧ (0 ≤ (x57_2 + (1 : Int32)).toInt) ∧ ((x57_2 + (1 : Int32)).toInt ≤ 200) := by have := bd_8_0 hI; have := (by decide : ((0 : Int32)).toInt = 0); have := ti_add2 (Eq.refl x57_2.toInt) (by decide : ((1 : Int32)).toInt = 1) (by omega) (by omega); have := ti_mul2 (by decide : ((10 : Int32)).toInt = 10) (Eq.refl (w.1 8 0).toInt) (by omega) (by omega); exact ⟨by omega, by omega, by omega, by omega⟩
            exact ih _ _ w5474 hI5475 (PE_fr hL5476 rfl (PE_fr hL5471 rfl (PE_fr hL5460 rfl hf_PE))) (PL_fr hL5476 rfl (PL_fr hL5471 rfl (PL_fr hL5460 rfl hf_PL))) ((hL5476 7 0 rfl).2.2.trans ((hL5471 7 0 rfl).2.2.trans ((hL5460 7 0 rfl).2.2.trans hr_7_0))) o5482.1 o5482.2.1 o5482.2.2.1 o5482.2.2.2 (by have := bd_8_0 hI; have := (by decide : ((0 : Int32)).toInt = 0); have := ti_add2 (Eq.refl x57_2.toInt) (by decide : ((1 : Int32)).toInt = 1) (by omega) (by omega); have := ti_mul2 (by decide : ((10 : Int32)).toInt = 10) (Eq.refl (w.1 8 0).toInt) (by omega) (by omega); omega) (fun w9 hI9 hF9 => hE w9 hI9 (hF5480.tr hF9 rfl) ) (fun r w9 hI9 hF9 q0 q1 => hQ r w9 hI9 (hF5480.tr hF9 rfl) (by have := bd_8_0 hI; have := (by decide : ((0 : Int32)).toInt = 0); have := ti_add2 (Eq.refl x57_2.toInt) (by decide : ((1 : Int32)).toInt = 1) (by omega) (by omega); have := ti_mul2 (by decide : ((10 : Int32)).toInt = 10) (Eq.refl (w.1 8 0).toInt) (by omega) (by omega); omega) (by have := bd_8_0 hI; have := (by decide : ((0 : Int32)).toInt = 0); have := ti_add2 (Eq.refl x57_2.toInt) (by decide : ((1 : Int32)).toInt = 1) (by omega) (by omega); have := ti_mul2 (by decide : ((10 : Int32)).toInt = 10) (Eq.refl (w.1 8 0).toInt) (by omega) (by omega); omega))
          · have hI5483 : BND (sI w5474 42 6 ((2 : Int32) + x57_2)) := wbd_42_6 hI5475
            have o5484 : (0 ≤ (0 : Int32).toInt) ∧ ((0 : Int32).toInt ≤ 0) := by have := (by decide : ((0 : Int32)).toInt = 0); exact ⟨by omega, by omega⟩
            exact hQ _ _ hI5483 (FR.I hF5480 (k := 42) (j := 6) (v := ((2 : Int32) + x57_2)) rfl)  o5484.1 o5484.2
        · refine ⟨fun h5485 => ?_, fun h5485 => ?_⟩
          · have o5486 : (0 ≤ r5461.toInt) ∧ (r5461.toInt ≤ 31710) ∧ (0 ≤ (x57_2 + (1 : Int32)).toInt) ∧ ((x57_2 + (1 : Int32)).toInt ≤ 200) := by have := bd_8_0 hI; have := (by decide : ((0 : Int32)).toInt = 0); have := ti_add2 (Eq.refl x57_2.toInt) (by decide : ((1 : Int32)).toInt = 1) (by omega) (by omega); have := ti_mul2 (by decide : ((10 : Int32)).toInt = 10) (Eq.refl (w.1 8 0).toInt) (by omega) (by omega); have := nb_rem (x := x57_2) (by omega) (by decide : ((10 : Int32)).toInt = 10) (by decide); exact ⟨by omega, by omega, by omega, by omega⟩
            exact ih _ _ w5458 hI5459 (PE_fr hL5460 rfl hf_PE) (PL_fr hL5460 rfl hf_PL) ((hL5460 7 0 rfl).2.2.trans hr_7_0) o5486.1 o5486.2.1 o5486.2.2.1 o5486.2.2.2 (by have := bd_8_0 hI; have := (by decide : ((0 : Int32)).toInt = 0); have := ti_add2 (Eq.refl x57_2.toInt) (by decide : ((1 : Int32)).toInt = 1) (by omega) (by omega); have := ti_mul2 (by decide : ((10 : Int32)).toInt = 10) (Eq.refl (w.1 8 0).toInt) (by omega) (by omega); have := nb_rem (x := x57_2) (by omega) (by decide : ((10 : Int32)).toInt = 10) (by decide); omega) (fun w9 hI9 hF9 => hE w9 hI9 (hF5464.tr hF9 rfl) ) (fun r w9 hI9 hF9 q0 q1 => hQ r w9 hI9 (hF5464.tr hF9 rfl) (by have := bd_8_0 hI; have := (by decide : ((0 : Int32)).toInt = 0); have := ti_add2 (Eq.refl x57_2.toInt) (by decide : ((1 : Int32)).toInt = 1) (by omega) (by omega); have := ti_mul2 (by decide : ((10 : Int32)).toInt = 10) (Eq.refl (w.1 8 0).toInt) (by omega) (by omega); have := nb_rem (x := x57_2) (by omega) (by decide : ((10 : Int32)).toInt = 10) (by decide); omega) (by have := bd_8_0 hI; have := (by decide : ((0 : Int32)).toInt = 0); have := ti_add2 (Eq.refl x57_2.toInt) (by decide : ((1 : Int32)).toInt = 1) (by omega) (by omega); have := ti_mul2 (by decide : ((10 : Int32)).toInt = 10) (Eq.refl (w.1 8 0).toInt) (by omega) (by omega); have := nb_rem (x := x57_2) (by omega) (by decide : ((10 : Int32)).toInt = 10) (by decide); omega))
          · refine Eq.mpr (q_Sf_isSafe_103.eq_1 _ _ _ _ _ _) ?_
            have o5487 : ((-1) ≤ (x57_2 / (10 : Int32)).toInt) ∧ ((x57_2 / (10 : Int32)).toInt ≤ 19) ∧ (0 ≤ r5461.toInt) ∧ (r5461.toInt ≤ 31710) := by have := bd_8_0 hI; have := (by decide : ((0 : Int32)).toInt = 0); have := nb_div (x := x57_2) (by omega) (by decide : ((10 : Int32)).toInt = 10) (by decide); have := ti_mul2 (by decide : ((10 : Int32)).toInt = 10) (Eq.refl (w.1 8 0).toInt) (by omega) (by omega); have := nb_rem (x := x57_2) (by omega) (by decide : ((10 : Int32)).toInt = 10) (by decide); exact ⟨by omega, by omega, by omega, by omega⟩
            refine h_Sf_link hI5459 (PE_fr hL5460 rfl hf_PE) (PL_fr hL5460 rfl hf_PL) ((hL5460 7 0 rfl).2.2.trans hr_7_0) o5487.1 o5487.2.1 o5487.2.2.1 o5487.2.2.2 (fun w5488 hI5489 hL5490  => ?_)
            have hF5492 : FR l_Sf_isSafe_57 w w5488 := hF5464.tr hL5490 rfl
            refine h_Sf_meet hI5489   (fun r5496 w5493 hI5494 hL5495 p5497 p5498 => ?_)
            have hF5499 : FR l_Sf_isSafe_57 w w5493 := hF5492.tr hL5495 rfl
            refine ⟨fun h5500 => ?_, fun h5500 => ?_⟩
            · have o5501 : (0 ≤ r5461.toInt) ∧ (r5461.toInt ≤ 31710) ∧ (0 ≤ (x57_2 + (1 : Int32)).toInt) ∧ ((x57_2 + (1 : Int32)).toInt ≤ 200) := by have := bd_8_0 hI; have := (by decide : ((0 : Int32)).toInt = 0); have := ti_add2 (Eq.refl x57_2.toInt) (by decide : ((1 : Int32)).toInt = 1) (by omega) (by omega); have := ti_mul2 (by decide : ((10 : Int32)).toInt = 10) (Eq.refl (w.1 8 0).toInt) (by omega) (by omega); have := nb_rem (x := x57_2) (by omega) (by decide : ((10 : Int32)).toInt = 10) (by decide); exact ⟨by omega, by omega, by omega, by omega⟩
              exact ih _ _ w5493 hI5494 (PE_fr hL5495 rfl (PE_fr hL5490 rfl (PE_fr hL5460 rfl hf_PE))) (PL_fr hL5495 rfl (PL_fr hL5490 rfl (PL_fr hL5460 rfl hf_PL))) ((hL5495 7 0 rfl).2.2.trans ((hL5490 7 0 rfl).2.2.trans ((hL5460 7 0 rfl).2.2.trans hr_7_0))) o5501.1 o5501.2.1 o5501.2.2.1 o5501.2.2.2 (by have := bd_8_0 hI; have := (by decide : ((0 : Int32)).toInt = 0); have := ti_add2 (Eq.refl x57_2.toInt) (by decide : ((1 : Int32)).toInt = 1) (by omega) (by omega); have := ti_mul2 (by decide : ((10 : Int32)).toInt = 10) (Eq.refl (w.1 8 0).toInt) (by omega) (by omega); have := nb_rem (x := x57_2) (by omega) (by decide : ((10 : Int32)).toInt = 10) (by decide); omega) (fun w9 hI9 hF9 => hE w9 hI9 (hF5499.tr hF9 rfl) ) (fun r w9 hI9 hF9 q0 q1 => hQ r w9 hI9 (hF5499.tr hF9 rfl) (by have := bd_8_0 hI; have := (by decide : ((0 : Int32)).toInt = 0); have := ti_add2 (Eq.refl x57_2.toInt) (by decide : ((1 : Int32)).toInt = 1) (by omega) (by omega); have := ti_mul2 (by decide : ((10 : Int32)).toInt = 10) (Eq.refl (w.1 8 0).toInt) (by omega) (by omega); have := nb_rem (x := x57_2) (by omega) (by decide : ((10 : Int32)).toInt = 10) (by decide); omega) (by have := bd_8_0 hI; have := (by decide : ((0 : Int32)).toInt = 0); have := ti_add2 (Eq.refl x57_2.toInt) (by decide : ((1 : Int32)).toInt = 1) (by omega) (by omega); have := ti_mul2 (by decide : ((10 : Int32)).toInt = 10) (Eq.refl (w.1 8 0).toInt) (by omega) (by omega); have := nb_rem (x := x57_2) (by omega) (by decide : ((10 : Int32)).toInt = 10) (by decide); omega))
            · have hI5502 : BND (sI w5493 42 6 ((2 : Int32) + x57_2)) := wbd_42_6 hI5494
              have o5503 : (0 ≤ (0 : Int32).toInt) ∧ ((0 : Int32).toInt ≤ 0) := by have := (by decide : ((0 : Int32)).toInt = 0); exact ⟨by omega, by omega⟩
              exact hQ _ _ hI5502 (FR.I hF5499 (k := 42) (j := 6) (v := ((2 : Int32) + x57_2)) rfl)  o5503.1 o5503.2
set_option maxRecDepth 20000 in
set_option maxHeartbeats 2000000 in
theorem h_Sf_isSafe {w : MW} {Q : Int32 → MW → Prop} (hI : BND w) (hf_PE : PE w) (hf_PL : PL w) (hr_7_0 : w.2.2 7 0 = some 8)  (hQ : ∀ (r : Int32) (w' : MW), BND w' → FR l_Sf_isSafe w w' → 0 ≤ r.toInt → r.toInt ≤ 1 → Q r w') : p_Sf_isSafe w Q := by
  refine Eq.mpr (p_Sf_isSafe.eq_1 _ _) ?_
  have hI5504 : BND (sI w 42 6 0) := wbd_42_6 hI
  have o5505 : (0 ≤ (0 : Int64).toInt) ∧ ((0 : Int64).toInt ≤ 0) := by have := (by decide : ((0 : Int64)).toInt = 0); exact ⟨by omega, by omega⟩
  refine h_Ar_fill1_43 hI5504  o5505.1 o5505.2 (fun w5506 hI5507 hL5508  => ?_)
  have hF5510 : FR l_Sf_isSafe w w5506 := (FR.I (FR.refl _ w) (k := 42) (j := 6) (v := 0) rfl).tr hL5508 rfl
  refine h_Wa_addSources_43 hI5507 ((hL5508 7 0 rfl).2.2.trans hr_7_0)  (fun w5511 hI5512 hL5513  => ?_)
  have hF5515 : FR l_Sf_isSafe w w5511 := hF5510.tr hL5513 rfl
  refine h_Sf_findRivals hI5512 ((hL5513 7 0 rfl).2.2.trans ((hL5508 7 0 rfl).2.2.trans hr_7_0))  (fun r5519 w5516 hI5517 hL5518 p5520 p5521 => ?_)
  have hF5522 : FR l_Sf_isSafe w w5516 := hF5515.tr hL5518 rfl
  refine ⟨fun h5523 => ?_, fun h5523 => ?_⟩
  · have o5524 : ((-1) ≤ ((-1) : Int32).toInt) ∧ (((-1) : Int32).toInt ≤ 19) ∧ (0 ≤ (0 : Int32).toInt) ∧ ((0 : Int32).toInt ≤ 31710) := by have := (by decide : (((-1) : Int32)).toInt = (-1)); have := (by decide : ((0 : Int32)).toInt = 0); exact ⟨by omega, by omega, by omega, by omega⟩
    refine h_Sf_link hI5517 (PE_fr hL5518 rfl (PE_fr hL5513 rfl (PE_fr hL5508 rfl (PE_fr (l := [(42, some 6)]) (FR.I (FR.refl _ w) (k := 42) (j := 6) (v := 0) rfl) rfl hf_PE)))) (PL_fr hL5518 rfl (PL_fr hL5513 rfl (PL_fr hL5508 rfl (PL_fr (l := [(42, some 6)]) (FR.I (FR.refl _ w) (k := 42) (j := 6) (v := 0) rfl) rfl hf_PL)))) ((hL5518 7 0 rfl).2.2.trans ((hL5513 7 0 rfl).2.2.trans ((hL5508 7 0 rfl).2.2.trans hr_7_0))) o5524.1 o5524.2.1 o5524.2.2.1 o5524.2.2.2 (fun w5525 hI5526 hL5527  => ?_)
    have hF5529 : FR l_Sf_isSafe w w5525 := hF5522.tr hL5527 rfl
    refine h_Sf_meet hI5526   (fun r5533 w5530 hI5531 hL5532 p5534 p5535 => ?_)
    have hF5536 : FR l_Sf_isSafe w w5530 := hF5529.tr hL5532 rfl
    refine ⟨fun h5537 => ?_, fun h5537 => ?_⟩
    · have o5538 : (0 ≤ (0 : Int32).toInt) ∧ ((0 : Int32).toInt ≤ 31710) ∧ (0 ≤ (0 : Int32).toInt) ∧ ((0 : Int32).toInt ≤ 200) := by have := (by decide : ((0 : Int32)).toInt = 0); exact ⟨by omega, by omega, by omega, by omega⟩
      refine hq_Sf_isSafe_57 FU _ _ w5530 hI5531 (PE_fr hL5532 rfl (PE_fr hL5527 rfl (PE_fr hL5518 rfl (PE_fr hL5513 rfl (PE_fr hL5508 rfl (PE_fr (l := [(42, some 6)]) (FR.I (FR.refl _ w) (k := 42) (j := 6) (v := 0) rfl) rfl hf_PE)))))) (PL_fr hL5532 rfl (PL_fr hL5527 rfl (PL_fr hL5518 rfl (PL_fr hL5513 rfl (PL_fr hL5508 rfl (PL_fr (l := [(42, some 6)]) (FR.I (FR.refl _ w) (k := 42) (j := 6) (v := 0) rfl) rfl hf_PL)))))) ((hL5532 7 0 rfl).2.2.trans ((hL5527 7 0 rfl).2.2.trans ((hL5518 7 0 rfl).2.2.trans ((hL5513 7 0 rfl).2.2.trans ((hL5508 7 0 rfl).2.2.trans hr_7_0))))) o5538.1 o5538.2.1 o5538.2.2.1 o5538.2.2.2 (fu_lt (by have := (by decide : ((0 : Int32)).toInt = 0); omega)) (fun w5539 hI5540 hL5541  => ?_) (fun r w9 hI9 hF9 q0 q1 => hQ r w9 hI9 ((hF5536).tr hF9 rfl) (by have := (by decide : ((0 : Int32)).toInt = 0); omega) (by have := (by decide : ((0 : Int32)).toInt = 0); omega))
      have hF5542 : FR l_Sf_isSafe w w5539 := hF5536.tr hL5541 rfl
      have o5543 : (0 ≤ (1 : Int32).toInt) ∧ ((1 : Int32).toInt ≤ 1) := by have := (by decide : ((1 : Int32)).toInt = 1); exact ⟨by omega, by omega⟩
      exact hQ _ _ hI5540 hF5542  o5543.1 o5543.2
    · have hI5544 : BND (sI w5530 42 6 1) := wbd_42_6 hI5531
      have o5545 : (0 ≤ (0 : Int32).toInt) ∧ ((0 : Int32).toInt ≤ 1) := by have := (by decide : ((0 : Int32)).toInt = 0); exact ⟨by omega, by omega⟩
      exact hQ _ _ hI5544 (FR.I hF5536 (k := 42) (j := 6) (v := 1) rfl)  o5545.1 o5545.2
  · have o5546 : (0 ≤ (1 : Int32).toInt) ∧ ((1 : Int32).toInt ≤ 1) := by have := (by decide : ((1 : Int32)).toInt = 1); exact ⟨by omega, by omega⟩
    exact hQ _ _ hI5517 hF5522  o5546.1 o5546.2
def l_St_forgetCleanings_2 : Pl := [(23, none)]
def l_St_forgetCleanings : Pl := [(23, none)]
set_option maxRecDepth 20000 in
set_option maxHeartbeats 2000000 in
theorem hq_St_forgetCleanings_2 {x2_1 : Int32} {E : MW → Prop} {Q : MW → Prop} (n : Nat) : ∀ (x2_2 : Int32) (w : MW), BND w → 0 ≤ x2_1.toInt → x2_1.toInt ≤ 43 → 1 ≤ x2_2.toInt → x2_2.toInt ≤ 6 → (6 - x2_2.toInt).toNat < n → (∀ (w' : MW), BND w' → FR l_St_forgetCleanings_2 w w' → E w') → (∀ (w' : MW), BND w' → FR l_St_forgetCleanings_2 w w' → False → Q w') → q_St_forgetCleanings_2 x2_1 E Q n x2_2 w := by
  induction n with
  | zero => intros; omega
  | succ n ih =>
    intro x2_2 w hI  hp0 hp1 hp2 hp3 hm hE hQ
    rw [q_St_forgetCleanings_2.eq_2]
    refine ⟨fun h5547 => ?_, fun h5547 => ?_⟩
    · exact hE _ hI (FR.refl _ w)
    · have o5548 : 0 ≤ ((x2_1 * (6 : Int32)) + x2_2).toInt ∧ ((x2_1 * (6 : Int32)) + x2_2).toInt < 264 := by have := (by decide : ((5 : Int32)).toInt = 5); have := ti_mul2 (Eq.refl x2_1.toInt) (by decide : ((6 : Int32)).toInt = 6) (by omega) (by omega); have := ti_add2 (Eq.refl (x2_1 * (6 : Int32)).toInt) (Eq.refl x2_2.toInt) (by omega) (by omega); omega
      refine ⟨o5548, ?_⟩
      have hI5549 : BND (sI w 23 (((x2_1 * (6 : Int32)) + x2_2).toInt.toNat) (-1)) := wbd_23 hI (((x2_1 * (6 : Int32)) + x2_2).toInt.toNat)
      have o5550 : (0 ≤ x2_1.toInt) ∧ (x2_1.toInt ≤ 43) ∧ (1 ≤ (x2_2 + (1 : Int32)).toInt) ∧ ((x2_2 + (1 : Int32)).toInt ≤ 6) := by have := (by decide : ((5 : Int32)).toInt = 5); have := ti_add2 (Eq.refl x2_2.toInt) (by decide : ((1 : Int32)).toInt = 1) (by omega) (by omega); exact ⟨by omega, by omega, by omega, by omega⟩
      exact ih _ (sI w 23 (((x2_1 * (6 : Int32)) + x2_2).toInt.toNat) (-1)) hI5549  o5550.1 o5550.2.1 o5550.2.2.1 o5550.2.2.2 (by have := (by decide : ((5 : Int32)).toInt = 5); have := ti_add2 (Eq.refl x2_2.toInt) (by decide : ((1 : Int32)).toInt = 1) (by omega) (by omega); omega) (fun w9 hI9 hF9 => hE w9 hI9 ((FR.I (FR.refl _ w) (k := 23) (j := ((x2_1 * (6 : Int32)) + x2_2).toInt.toNat) (v := (-1)) rfl).tr hF9 rfl) ) (fun w9 hI9 hF9 q0 => q0.elim)
set_option maxRecDepth 20000 in
set_option maxHeartbeats 2000000 in
theorem h_St_forgetCleanings {w : MW} {a0 : Int32} {Q : MW → Prop} (hI : BND w) (hp0 : 0 ≤ a0.toInt) (hp1 : a0.toInt ≤ 43) (hQ : ∀ (w' : MW), BND w' → FR l_St_forgetCleanings w w' → Q w') : p_St_forgetCleanings w a0 Q := by
  refine Eq.mpr (p_St_forgetCleanings.eq_1 _ _ _) ?_
  have o5551 : (0 ≤ a0.toInt) ∧ (a0.toInt ≤ 43) ∧ (1 ≤ (1 : Int32).toInt) ∧ ((1 : Int32).toInt ≤ 6) := by have := (by decide : ((1 : Int32)).toInt = 1); exact ⟨by omega, by omega, by omega, by omega⟩
  refine hq_St_forgetCleanings_2 FU _ w hI  o5551.1 o5551.2.1 o5551.2.2.1 o5551.2.2.2 (fu_lt (by have := (by decide : ((1 : Int32)).toInt = 1); omega)) (fun w5552 hI5553 hL5554  => ?_) (fun w9 hI9 hF9 q0 => q0.elim)
  have hF5555 : FR l_St_forgetCleanings w w5552 := (FR.refl _ w).tr hL5554 rfl
  exact hQ _ hI5553 hF5555 
def l_St_arrive_14 : Pl := [(17, none), (18, none)]
def l_St_arrive : Pl := [(17, none), (18, none), (23, none)]
set_option maxRecDepth 20000 in
set_option maxHeartbeats 2000000 in
theorem h_St_arrive {w : MW} {a0 : Int32} {b0 : Int32} {c0 : Int32} {Q : MW → Prop} (hI : BND w) (hp0 : 0 ≤ a0.toInt) (hp1 : a0.toInt ≤ 43) (hp2 : 0 ≤ b0.toInt) (hp3 : b0.toInt ≤ 14) (hp4 : 1 ≤ c0.toInt) (hp5 : c0.toInt ≤ 100000) (hQ : ∀ (w' : MW), BND w' → FR l_St_arrive w w' → Q w') : p_St_arrive w a0 b0 c0 Q := by
  refine Eq.mpr (p_St_arrive.eq_1 _ _ _ _ _) ?_
  have o5556 : 0 ≤ a0.toInt ∧ a0.toInt < 44 := by omega
  refine ⟨o5556, ?_⟩
  refine ⟨fun h5557 => ?_, fun h5557 => ?_⟩
  · refine Eq.mpr (q_St_arrive_14.eq_1 _ _ _ _ _) ?_
    have o5558 : 0 ≤ a0.toInt ∧ a0.toInt < 44 := by omega
    refine ⟨o5558, ?_⟩
    have o5559 : 0 ≤ a0.toInt ∧ a0.toInt < 44 := by omega
    refine ⟨o5559, ?_⟩
    have o5560 : 0 ≤ a0.toInt ∧ a0.toInt < 44 := by omega
    refine ⟨o5560, ?_⟩
    have o5562 : 0 ≤ b0.toInt ∧ b0.toInt ≤ 14 := by omega
    have hI5561 : BND (sI w 17 a0.toInt.toNat b0) := wbd_17 hI a0.toInt.toNat o5562.1 o5562.2
    have hI5563 : BND (sI (sI w 17 a0.toInt.toNat b0) 18 a0.toInt.toNat ((w.1 18 a0.toInt.toNat) + c0)) := wbd_18 hI5561 a0.toInt.toNat
    exact hQ _ hI5563 (FR.I (FR.I (FR.refl _ w) (k := 17) (j := a0.toInt.toNat) (v := b0) rfl) (k := 18) (j := a0.toInt.toNat) (v := ((w.1 18 a0.toInt.toNat) + c0)) rfl) 
  · have o5564 : (0 ≤ a0.toInt) ∧ (a0.toInt ≤ 43) := by exact ⟨by omega, by omega⟩
    refine h_St_forgetCleanings hI  o5564.1 o5564.2 (fun w5565 hI5566 hL5567  => ?_)
    have hF5569 : FR l_St_arrive w w5565 := (FR.refl _ w).tr hL5567 rfl
    refine Eq.mpr (q_St_arrive_14.eq_1 _ _ _ _ _) ?_
    have o5570 : 0 ≤ a0.toInt ∧ a0.toInt < 44 := by omega
    refine ⟨o5570, ?_⟩
    have o5571 : 0 ≤ a0.toInt ∧ a0.toInt < 44 := by omega
    refine ⟨o5571, ?_⟩
    have o5572 : 0 ≤ a0.toInt ∧ a0.toInt < 44 := by omega
    refine ⟨o5572, ?_⟩
    have o5574 : 0 ≤ b0.toInt ∧ b0.toInt ≤ 14 := by omega
    have hI5573 : BND (sI w5565 17 a0.toInt.toNat b0) := wbd_17 hI5566 a0.toInt.toNat o5574.1 o5574.2
    have hI5575 : BND (sI (sI w5565 17 a0.toInt.toNat b0) 18 a0.toInt.toNat ((w5565.1 18 a0.toInt.toNat) + c0)) := wbd_18 hI5573 a0.toInt.toNat
    exact hQ _ hI5575 (FR.I (FR.I hF5569 (k := 17) (j := a0.toInt.toNat) (v := b0) rfl) (k := 18) (j := a0.toInt.toNat) (v := ((w5565.1 18 a0.toInt.toNat) + c0)) rfl) 
def l_St_heldLevel_4 : Pl := []
def l_St_heldLevel : Pl := []
set_option maxRecDepth 20000 in
set_option maxHeartbeats 2000000 in
theorem hq_St_heldLevel_4 {x4_1 : Int32} {E : MW → Prop} {Q : Int32 → MW → Prop} (n : Nat) : ∀ (x4_2 : Int32) (x4_3 : Int32) (w : MW), BND w → 0 ≤ x4_1.toInt → x4_1.toInt ≤ 43 → (-1) ≤ x4_2.toInt → 0 ≤ x4_3.toInt → x4_3.toInt ≤ 5 → (x4_3.toInt - 0).toNat < n → (∀ (w' : MW), BND w' → FR l_St_heldLevel_4 w w' → E w') → (∀ (r : Int32) (w' : MW), BND w' → FR l_St_heldLevel_4 w w' → 1 ≤ r.toInt → r.toInt ≤ 5 → Q r w') → q_St_heldLevel_4 x4_1 E Q n x4_2 x4_3 w := by
  induction n with
  | zero => intros; omega
  | succ n ih =>
    intro x4_2 x4_3 w hI hp0 hp1 hp2 hp3 hp4 hm hE hQ
    rw [q_St_heldLevel_4.eq_2]
    refine ⟨fun _ => hE w hI (FR.refl _ w), fun h1 => ?_⟩
    have e1 := ti_dec x4_3 (by omega)
    have key : ∀ r : Int32, -1 ≤ r.toInt → (q_St_heldLevel_4 x4_1 E Q n r (x4_3 + ((-1) : Int32)) w) := fun r hr => ih r _ w hI hp0 hp1 hr (by omega) (by omega) (by omega) hE hQ
    clear e1 ih
    have e2 : (x4_1 * (6 : Int32)).toInt = x4_1.toInt * 6 := ti_mul2 (Eq.refl x4_1.toInt) (by decide : ((6 : Int32)).toInt = 6) (by omega) (by omega)
    have e3 := ti_add2 e2 (Eq.refl x4_3.toInt) (by omega) (by omega)
    refine ⟨⟨by omega, by omega⟩, ?_⟩
    clear e2 e3
    refine Eq.mpr (p_Ma_max.eq_1 _ _ _ _) ?_
    have fin : ∀ r : Int32, -1 ≤ r.toInt → ((r.toInt < 0 → (q_St_heldLevel_4 x4_1 E Q n r (x4_3 + ((-1) : Int32)) w)) ∧ (¬ (r.toInt < 0) → ((0 ≤ x4_3.toInt ∧ x4_3.toInt < 6) ∧ (((w.1 25 x4_3.toInt.toNat).toInt ≤ ((w.1 7 1) - r).toInt → (q_St_heldLevel_4 x4_1 E Q n r (x4_3 + ((-1) : Int32)) w)) ∧ (¬ ((w.1 25 x4_3.toInt.toNat).toInt ≤ ((w.1 7 1) - r).toInt) → (Q x4_3 w)))))) := fun r hr => ⟨fun _ => key r hr, fun _ => ⟨⟨hp3, by omega⟩, fun _ => key r hr, fun _ => hQ x4_3 w hI (FR.refl _ w) (by omega) hp4⟩⟩
    clear key
    generalize (w.1 23 (((x4_1 * (6 : Int32)) + x4_3).toInt.toNat)) = c
    exact ⟨fun h => fin c (by omega), fun _ => fin x4_2 hp2⟩
set_option maxRecDepth 20000 in
set_option maxHeartbeats 2000000 in
theorem h_St_heldLevel {w : MW} {a0 : Int32} {Q : Int32 → MW → Prop} (hI : BND w) (hp0 : 0 ≤ a0.toInt) (hp1 : a0.toInt ≤ 43) (hQ : ∀ (r : Int32) (w' : MW), BND w' → FR l_St_heldLevel w w' → 0 ≤ r.toInt → r.toInt ≤ 5 → Q r w') : p_St_heldLevel w a0 Q := by
  refine Eq.mpr (p_St_heldLevel.eq_1 _ _ _) ?_
  have o5576 : (0 ≤ a0.toInt) ∧ (a0.toInt ≤ 43) ∧ ((-1) ≤ ((-1) : Int32).toInt) ∧ (0 ≤ (5 : Int32).toInt) ∧ ((5 : Int32).toInt ≤ 5) := by have := (by decide : (((-1) : Int32)).toInt = (-1)); have := (by decide : ((5 : Int32)).toInt = 5); exact ⟨by omega, by omega, by omega, by omega, by omega⟩
  refine hq_St_heldLevel_4 FU _ _ w hI  o5576.1 o5576.2.1 o5576.2.2.1 o5576.2.2.2.1 o5576.2.2.2.2 (fu_lt (by have := (by decide : (((-1) : Int32)).toInt = (-1)); have := (by decide : ((5 : Int32)).toInt = 5); omega)) (fun w5577 hI5578 hL5579  => ?_) (fun r w9 hI9 hF9 q0 q1 => hQ r w9 hI9 (((FR.refl _ w)).tr hF9 rfl) (by have := (by decide : (((-1) : Int32)).toInt = (-1)); have := (by decide : ((5 : Int32)).toInt = 5); omega) (by have := (by decide : (((-1) : Int32)).toInt = (-1)); have := (by decide : ((5 : Int32)).toInt = 5); omega))
  have hF5580 : FR l_St_heldLevel w w5577 := (FR.refl _ w).tr hL5579 rfl
  have o5581 : (0 ≤ (0 : Int32).toInt) ∧ ((0 : Int32).toInt ≤ 5) := by have := (by decide : ((0 : Int32)).toInt = 0); exact ⟨by omega, by omega⟩
  exact hQ _ _ hI5578 hF5580  o5581.1 o5581.2
def l_St_mayCome : Pl := []
set_option maxRecDepth 20000 in
set_option maxHeartbeats 2000000 in
theorem h_St_mayCome {w : MW} {a0 : Int32} {b0 : Int32} {Q : Int32 → MW → Prop} (hI : BND w) (hp0 : 0 ≤ a0.toInt) (hp1 : a0.toInt ≤ 43) (hp2 : 0 ≤ b0.toInt) (hp3 : b0.toInt ≤ 14) (hQ : ∀ (r : Int32) (w' : MW), BND w' → FR l_St_mayCome w w' → 0 ≤ r.toInt → r.toInt ≤ 1 → Q r w') : p_St_mayCome w a0 b0 Q := by
  refine Eq.mpr (p_St_mayCome.eq_1 _ _ _ _) ?_
  have o5582 : 0 ≤ a0.toInt ∧ a0.toInt < 44 := by omega
  refine ⟨o5582, ?_⟩
  refine ⟨fun h5583 => ?_, fun h5583 => ?_⟩
  · have o5584 : 0 ≤ a0.toInt ∧ a0.toInt < 44 := by omega
    refine ⟨o5584, ?_⟩
    refine ⟨fun h5585 => ?_, fun h5585 => ?_⟩
    · have o5586 : 0 ≤ a0.toInt ∧ a0.toInt < 44 := by omega
      refine ⟨o5586, ?_⟩
      have o5587 : 0 ≤ (((w.1 19 a0.toInt.toNat) * (15 : Int32)) + b0).toInt ∧ (((w.1 19 a0.toInt.toNat) * (15 : Int32)) + b0).toInt < 225 := by have := bd_19 hI a0.toInt.toNat; have := (by decide : ((0 : Int32)).toInt = 0); have := ti_mul2 (Eq.refl (w.1 19 a0.toInt.toNat).toInt) (by decide : ((15 : Int32)).toInt = 15) (by omega) (by omega); have := ti_add2 (Eq.refl ((w.1 19 a0.toInt.toNat) * (15 : Int32)).toInt) (Eq.refl b0.toInt) (by omega) (by omega); omega
      refine ⟨o5587, ?_⟩
      refine ⟨fun h5588 => ?_, fun h5588 => ?_⟩
      · have o5589 : (0 ≤ (1 : Int32).toInt) ∧ ((1 : Int32).toInt ≤ 1) := by have := (by decide : ((1 : Int32)).toInt = 1); exact ⟨by omega, by omega⟩
        exact hQ _ _ hI (FR.refl _ w)  o5589.1 o5589.2
      · have o5590 : (0 ≤ a0.toInt) ∧ (a0.toInt ≤ 43) := by exact ⟨by omega, by omega⟩
        refine h_St_heldLevel hI  o5590.1 o5590.2 (fun r5594 w5591 hI5592 hL5593 p5595 p5596 => ?_)
        have hF5597 : FR l_St_mayCome w w5591 := (FR.refl _ w).tr hL5593 rfl
        refine ⟨fun h5598 => ?_, fun h5598 => ?_⟩
        · have o5599 : (0 ≤ (0 : Int32).toInt) ∧ ((0 : Int32).toInt ≤ 1) := by have := (by decide : ((0 : Int32)).toInt = 0); exact ⟨by omega, by omega⟩
          exact hQ _ _ hI5592 hF5597  o5599.1 o5599.2
        · have o5600 : (0 ≤ (1 : Int32).toInt) ∧ ((1 : Int32).toInt ≤ 1) := by have := (by decide : ((1 : Int32)).toInt = 1); exact ⟨by omega, by omega⟩
          exact hQ _ _ hI5592 hF5597  o5600.1 o5600.2
    · have o5601 : (0 ≤ (1 : Int32).toInt) ∧ ((1 : Int32).toInt ≤ 1) := by have := (by decide : ((1 : Int32)).toInt = 1); exact ⟨by omega, by omega⟩
      exact hQ _ _ hI (FR.refl _ w)  o5601.1 o5601.2
  · have o5602 : 0 ≤ a0.toInt ∧ a0.toInt < 44 := by omega
    refine ⟨o5602, ?_⟩
    refine ⟨fun h5603 => ?_, fun h5603 => ?_⟩
    · have o5604 : (0 ≤ (0 : Int32).toInt) ∧ ((0 : Int32).toInt ≤ 1) := by have := (by decide : ((0 : Int32)).toInt = 0); exact ⟨by omega, by omega⟩
      exact hQ _ _ hI (FR.refl _ w)  o5604.1 o5604.2
    · have o5605 : (0 ≤ (1 : Int32).toInt) ∧ ((1 : Int32).toInt ≤ 1) := by have := (by decide : ((1 : Int32)).toInt = 1); exact ⟨by omega, by omega⟩
      exact hQ _ _ hI (FR.refl _ w)  o5605.1 o5605.2
def l_Bh_fill : Pl := [(17, none), (18, none), (23, none), (42, some 6), (42, some 7), (42, some 8), (42, some 9), (43, none), (44, none), (45, none), (46, none)]
set_option maxRecDepth 20000 in
set_option maxHeartbeats 2000000 in
theorem h_Bh_fill {w : MW} {a0 : Int32} {b0 : Int32} {c0 : Int64} {Q : Int32 → MW → Prop} (hI : BND w) (hf_PE : PE w) (hf_PL : PL w) (hr_7_0 : w.2.2 7 0 = some 8)  (hQ : ∀ (r : Int32) (w' : MW), BND w' → FR l_Bh_fill w w' → 0 ≤ r.toInt → r.toInt ≤ 1 → Q r w') : p_Bh_fill w a0 b0 c0 Q := by
  refine Eq.mpr (p_Bh_fill.eq_1 _ _ _ _ _) ?_
  refine Eq.mpr (p_St_isTank.eq_1 _ _ _) ?_
  refine ⟨fun h5606 => ?_, fun h5606 => ?_⟩
  · refine ⟨fun _ => ?_, fun h => absurd (by decide) h⟩
    have o5607 : (0 ≤ (0 : Int32).toInt) ∧ ((0 : Int32).toInt ≤ 1) := by have := (by decide : ((0 : Int32)).toInt = 0); exact ⟨by omega, by omega⟩
    exact hQ _ _ hI (FR.refl _ w)  o5607.1 o5607.2
  · refine ⟨hr_7_0, ?_⟩
    refine ⟨fun h5608 => ?_, fun h5608 => ?_⟩
    · refine ⟨fun _ => ?_, fun h => absurd (by decide) h⟩
      have o5609 : (0 ≤ (0 : Int32).toInt) ∧ ((0 : Int32).toInt ≤ 1) := by have := (by decide : ((0 : Int32)).toInt = 0); exact ⟨by omega, by omega⟩
      exact hQ _ _ hI (FR.refl _ w)  o5609.1 o5609.2
    · refine ⟨hr_7_0, ?_⟩
      have o5610 : 0 ≤ a0.toInt ∧ a0.toInt < 20 := by have := (by decide : ((0 : Int32)).toInt = 0); have := bd_8_0 hI; omega
      refine ⟨o5610, ?_⟩
      refine ⟨fun h5611 => ?_, fun h5611 => ?_⟩
      · refine ⟨fun _ => ?_, fun h => absurd (by decide) h⟩
        have o5612 : (0 ≤ (0 : Int32).toInt) ∧ ((0 : Int32).toInt ≤ 1) := by have := (by decide : ((0 : Int32)).toInt = 0); exact ⟨by omega, by omega⟩
        exact hQ _ _ hI (FR.refl _ w)  o5612.1 o5612.2
      · refine ⟨fun h => absurd h (by decide), fun _ => ?_⟩
        refine Eq.mpr (p_Bh_isLiquid.eq_1 _ _ _) ?_
        refine ⟨fun h5613 => ?_, fun h5613 => ?_⟩
        · refine ⟨fun _ => ?_, fun h => absurd (by decide) h⟩
          have o5614 : (0 ≤ (0 : Int32).toInt) ∧ ((0 : Int32).toInt ≤ 1) := by have := (by decide : ((0 : Int32)).toInt = 0); exact ⟨by omega, by omega⟩
          exact hQ _ _ hI (FR.refl _ w)  o5614.1 o5614.2
        · refine ⟨fun h5615 => ?_, fun h5615 => ?_⟩
          · refine ⟨fun _ => ?_, fun h => absurd (by decide) h⟩
            have o5616 : (0 ≤ (0 : Int32).toInt) ∧ ((0 : Int32).toInt ≤ 1) := by have := (by decide : ((0 : Int32)).toInt = 0); exact ⟨by omega, by omega⟩
            exact hQ _ _ hI (FR.refl _ w)  o5616.1 o5616.2
          · refine ⟨fun h => absurd h (by decide), fun _ => ?_⟩
            refine ⟨fun h5617 => ?_, fun h5617 => ?_⟩
            · have o5618 : (0 ≤ (0 : Int32).toInt) ∧ ((0 : Int32).toInt ≤ 1) := by have := (by decide : ((0 : Int32)).toInt = 0); exact ⟨by omega, by omega⟩
              exact hQ _ _ hI (FR.refl _ w)  o5618.1 o5618.2
            · refine ⟨fun h5619 => ?_, fun h5619 => ?_⟩
              · refine ⟨hr_7_0, ?_⟩
                have o5620 : 0 ≤ a0.toInt ∧ a0.toInt < 20 := by have := (by decide : ((0 : Int32)).toInt = 0); have := bd_8_0 hI; omega
                refine ⟨o5620, ?_⟩
                have o5621 : 0 ≤ a0.toInt ∧ a0.toInt < 44 := by have := (by decide : ((0 : Int32)).toInt = 0); have := bd_8_0 hI; omega
                refine ⟨o5621, ?_⟩
                refine ⟨fun h5622 => ?_, fun h5622 => ?_⟩
                · have o5623 : (0 ≤ (0 : Int32).toInt) ∧ ((0 : Int32).toInt ≤ 1) := by have := (by decide : ((0 : Int32)).toInt = 0); exact ⟨by omega, by omega⟩
                  exact hQ _ _ hI (FR.refl _ w)  o5623.1 o5623.2
                · have o5624 : (0 ≤ a0.toInt) ∧ (a0.toInt ≤ 43) ∧ (0 ≤ b0.toInt) ∧ (b0.toInt ≤ 14) := by have := (by decide : ((0 : Int32)).toInt = 0); have := bd_8_0 hI; have := (by decide : ((1 : Int32)).toInt = 1); have := (by decide : ((14 : Int32)).toInt = 14); exact ⟨by omega, by omega, by omega, by omega⟩
                  refine h_St_mayCome hI  o5624.1 o5624.2.1 o5624.2.2.1 o5624.2.2.2 (fun r5628 w5625 hI5626 hL5627 p5629 p5630 => ?_)
                  have hF5631 : FR l_Bh_fill w w5625 := (FR.refl _ w).tr hL5627 rfl
                  refine ⟨fun h5632 => ?_, fun h5632 => ?_⟩
                  · have o5633 : 0 ≤ a0.toInt ∧ a0.toInt < 44 := by have := (by decide : ((0 : Int32)).toInt = 0); have := bd_8_0 hI; omega
                    refine ⟨o5633, ?_⟩
                    have o5634 : 0 ≤ a0.toInt ∧ a0.toInt < 44 := by have := (by decide : ((0 : Int32)).toInt = 0); have := bd_8_0 hI; omega
                    refine ⟨o5634, ?_⟩
                    have o5636 : 0 ≤ b0.toInt ∧ b0.toInt ≤ 14 := by have := (by decide : ((1 : Int32)).toInt = 1); have := (by decide : ((14 : Int32)).toInt = 14); omega
                    have hI5635 : BND (sI w5625 17 a0.toInt.toNat b0) := wbd_17 hI5626 a0.toInt.toNat o5636.1 o5636.2
                    refine h_Sf_isSafe hI5635 (PE_fr (l := [(17, none)]) (FR.I (FR.refl _ w5625) (k := 17) (j := a0.toInt.toNat) (v := b0) rfl) rfl (PE_fr hL5627 rfl hf_PE)) (PL_fr (l := [(17, none)]) (FR.I (FR.refl _ w5625) (k := 17) (j := a0.toInt.toNat) (v := b0) rfl) rfl (PL_fr hL5627 rfl hf_PL)) ((hL5627 7 0 rfl).2.2.trans hr_7_0)  (fun r5640 w5637 hI5638 hL5639 p5641 p5642 => ?_)
                    have hF5643 : FR l_Bh_fill w w5637 := (FR.I hF5631 (k := 17) (j := a0.toInt.toNat) (v := b0) rfl).tr hL5639 rfl
                    have o5644 : 0 ≤ a0.toInt ∧ a0.toInt < 44 := by have := (by decide : ((0 : Int32)).toInt = 0); have := bd_8_0 hI; omega
                    refine ⟨o5644, ?_⟩
                    refine ⟨fun h5645 => ?_, fun h5645 => ?_⟩
                    · have o5647 : 0 ≤ (w5625.1 17 a0.toInt.toNat).toInt ∧ (w5625.1 17 a0.toInt.toNat).toInt ≤ 14 := by have := bd_17 hI5626 a0.toInt.toNat; have := bd_17 hI a0.toInt.toNat; have := (congrArg Int32.toInt (hL5627 17 a0.toInt.toNat rfl).1); omega
                      have hI5646 : BND (sI w5637 17 a0.toInt.toNat (w5625.1 17 a0.toInt.toNat)) := wbd_17 hI5638 a0.toInt.toNat o5647.1 o5647.2
                      have o5648 : (0 ≤ r5640.toInt) ∧ (r5640.toInt ≤ 1) := by have := (by decide : ((0 : Int32)).toInt = 0); exact ⟨by omega, by omega⟩
                      exact hQ _ _ hI5646 (FR.I hF5643 (k := 17) (j := a0.toInt.toNat) (v := (w5625.1 17 a0.toInt.toNat)) rfl)  o5648.1 o5648.2
                    · have o5650 : 0 ≤ (w5625.1 17 a0.toInt.toNat).toInt ∧ (w5625.1 17 a0.toInt.toNat).toInt ≤ 14 := by have := bd_17 hI5626 a0.toInt.toNat; have := bd_17 hI a0.toInt.toNat; have := (congrArg Int32.toInt (hL5627 17 a0.toInt.toNat rfl).1); omega
                      have hI5649 : BND (sI w5637 17 a0.toInt.toNat (w5625.1 17 a0.toInt.toNat)) := wbd_17 hI5638 a0.toInt.toNat o5650.1 o5650.2
                      have o5651 : (0 ≤ a0.toInt) ∧ (a0.toInt ≤ 43) ∧ (0 ≤ b0.toInt) ∧ (b0.toInt ≤ 14) ∧ (1 ≤ (Int64.toInt32 c0).toInt) ∧ ((Int64.toInt32 c0).toInt ≤ 100000) := by have := ti_lo (Int64.toInt32 c0); have := ti_hi (Int64.toInt32 c0); have := (by decide : ((0 : Int32)).toInt = 0); have := bd_8_0 hI; have := (by decide : ((1 : Int32)).toInt = 1); have := (by decide : ((14 : Int32)).toInt = 14); have := nb_cmp c0 (1 : Int64); have := (by decide : ((1 : Int64)).toInt = 1); have := nb_cmp c0 (100000 : Int64); have := (by decide : ((100000 : Int64)).toInt = 100000); have := nb_cmp c0 (Int32.toInt64 ((w.1 10 a0.toInt.toNat) - (w.1 18 a0.toInt.toNat))); (try have := nb_l2i (x := c0) (by omega) (by omega)); exact ⟨by omega, by omega, by omega, by omega, by omega, by omega⟩
                      refine h_St_arrive hI5649  o5651.1 o5651.2.1 o5651.2.2.1 o5651.2.2.2.1 o5651.2.2.2.2.1 o5651.2.2.2.2.2 (fun w5652 hI5653 hL5654  => ?_)
                      have hF5656 : FR l_Bh_fill w w5652 := (FR.I hF5643 (k := 17) (j := a0.toInt.toNat) (v := (w5625.1 17 a0.toInt.toNat)) rfl).tr hL5654 rfl
                      have o5657 : (0 ≤ r5640.toInt) ∧ (r5640.toInt ≤ 1) := by have := (by decide : ((0 : Int32)).toInt = 0); exact ⟨by omega, by omega⟩
                      exact hQ _ _ hI5653 hF5656  o5657.1 o5657.2
                  · have o5658 : (0 ≤ (0 : Int32).toInt) ∧ ((0 : Int32).toInt ≤ 1) := by have := (by decide : ((0 : Int32)).toInt = 0); exact ⟨by omega, by omega⟩
                    exact hQ _ _ hI5626 hF5631  o5658.1 o5658.2
              · have o5659 : (0 ≤ (0 : Int32).toInt) ∧ ((0 : Int32).toInt ≤ 1) := by have := (by decide : ((0 : Int32)).toInt = 0); exact ⟨by omega, by omega⟩
                exact hQ _ _ hI (FR.refl _ w)  o5659.1 o5659.2
def l_Bh_may : Pl := [(22, none)]
set_option maxRecDepth 20000 in
set_option maxHeartbeats 2000000 in
theorem h_Bh_may {w : MW} {a0 : Int32} {b0 : Int32} {Q : Int32 → MW → Prop} (hI : BND w)  (hQ : ∀ (r : Int32) (w' : MW), BND w' → FR l_Bh_may w w' → 0 ≤ r.toInt → r.toInt ≤ 1 → Q r w') : p_Bh_may w a0 b0 Q := by
  refine Eq.mpr (p_Bh_may.eq_1 _ _ _ _) ?_
  refine Eq.mpr (p_Bh_isLiquid.eq_1 _ _ _) ?_
  refine ⟨fun h5660 => ?_, fun h5660 => ?_⟩
  · refine ⟨fun _ => ?_, fun h => absurd (by decide) h⟩
    have o5661 : (0 ≤ (0 : Int32).toInt) ∧ ((0 : Int32).toInt ≤ 1) := by have := (by decide : ((0 : Int32)).toInt = 0); exact ⟨by omega, by omega⟩
    exact hQ _ _ hI (FR.refl _ w)  o5661.1 o5661.2
  · refine ⟨fun h5662 => ?_, fun h5662 => ?_⟩
    · refine ⟨fun _ => ?_, fun h => absurd (by decide) h⟩
      have o5663 : (0 ≤ (0 : Int32).toInt) ∧ ((0 : Int32).toInt ≤ 1) := by have := (by decide : ((0 : Int32)).toInt = 0); exact ⟨by omega, by omega⟩
      exact hQ _ _ hI (FR.refl _ w)  o5663.1 o5663.2
    · refine ⟨fun h => absurd h (by decide), fun _ => ?_⟩
      refine Eq.mpr (p_Bh_isLiquid.eq_1 _ _ _) ?_
      refine ⟨fun h5664 => ?_, fun h5664 => ?_⟩
      · refine ⟨fun _ => ?_, fun h => absurd (by decide) h⟩
        have o5665 : (0 ≤ (0 : Int32).toInt) ∧ ((0 : Int32).toInt ≤ 1) := by have := (by decide : ((0 : Int32)).toInt = 0); exact ⟨by omega, by omega⟩
        exact hQ _ _ hI (FR.refl _ w)  o5665.1 o5665.2
      · refine ⟨fun h5666 => ?_, fun h5666 => ?_⟩
        · refine ⟨fun _ => ?_, fun h => absurd (by decide) h⟩
          have o5667 : (0 ≤ (0 : Int32).toInt) ∧ ((0 : Int32).toInt ≤ 1) := by have := (by decide : ((0 : Int32)).toInt = 0); exact ⟨by omega, by omega⟩
          exact hQ _ _ hI (FR.refl _ w)  o5667.1 o5667.2
        · refine ⟨fun h => absurd h (by decide), fun _ => ?_⟩
          refine ⟨fun h5668 => ?_, fun h5668 => ?_⟩
          · have o5669 : (0 ≤ (0 : Int32).toInt) ∧ ((0 : Int32).toInt ≤ 1) := by have := (by decide : ((0 : Int32)).toInt = 0); exact ⟨by omega, by omega⟩
            exact hQ _ _ hI (FR.refl _ w)  o5669.1 o5669.2
          · refine Eq.mpr (p_St_mayMeet.eq_1 _ _ _ _) ?_
            have o5670 : 0 ≤ a0.toInt ∧ a0.toInt < 15 := by have := (by decide : ((1 : Int32)).toInt = 1); have := (by decide : ((14 : Int32)).toInt = 14); omega
            refine ⟨o5670, ?_⟩
            refine ⟨fun h5671 => ?_, fun h5671 => ?_⟩
            · refine ⟨fun _ => ?_, fun h => absurd (by decide) h⟩
              have o5672 : 0 ≤ a0.toInt ∧ a0.toInt < 15 := by have := (by decide : ((1 : Int32)).toInt = 1); have := (by decide : ((14 : Int32)).toInt = 14); have := ti_lo (((w.1 22 a0.toInt.toNat) >>> (b0 &&& 31)) &&& (1 : Int32)); have := ti_hi (((w.1 22 a0.toInt.toNat) >>> (b0 &&& 31)) &&& (1 : Int32)); have := nb_and ((w.1 22 a0.toInt.toNat) >>> (b0 &&& 31)) (1 : Int32) 1 rfl (by decide); have := (by decide : ((0 : Int32)).toInt = 0); omega
              refine ⟨o5672, ?_⟩
              have o5673 : 0 ≤ a0.toInt ∧ a0.toInt < 15 := by have := (by decide : ((1 : Int32)).toInt = 1); have := (by decide : ((14 : Int32)).toInt = 14); have := ti_lo (((w.1 22 a0.toInt.toNat) >>> (b0 &&& 31)) &&& (1 : Int32)); have := ti_hi (((w.1 22 a0.toInt.toNat) >>> (b0 &&& 31)) &&& (1 : Int32)); have := nb_and ((w.1 22 a0.toInt.toNat) >>> (b0 &&& 31)) (1 : Int32) 1 rfl (by decide); have := (by decide : ((0 : Int32)).toInt = 0); omega
              refine ⟨o5673, ?_⟩
              have o5674 : 0 ≤ b0.toInt ∧ b0.toInt < 15 := by have := (by decide : ((1 : Int32)).toInt = 1); have := (by decide : ((14 : Int32)).toInt = 14); have := ti_lo (((w.1 22 a0.toInt.toNat) >>> (b0 &&& 31)) &&& (1 : Int32)); have := ti_hi (((w.1 22 a0.toInt.toNat) >>> (b0 &&& 31)) &&& (1 : Int32)); have := nb_and ((w.1 22 a0.toInt.toNat) >>> (b0 &&& 31)) (1 : Int32) 1 rfl (by decide); have := (by decide : ((0 : Int32)).toInt = 0); omega
              refine ⟨o5674, ?_⟩
              have o5675 : 0 ≤ b0.toInt ∧ b0.toInt < 15 := by have := (by decide : ((1 : Int32)).toInt = 1); have := (by decide : ((14 : Int32)).toInt = 14); have := ti_lo (((w.1 22 a0.toInt.toNat) >>> (b0 &&& 31)) &&& (1 : Int32)); have := ti_hi (((w.1 22 a0.toInt.toNat) >>> (b0 &&& 31)) &&& (1 : Int32)); have := nb_and ((w.1 22 a0.toInt.toNat) >>> (b0 &&& 31)) (1 : Int32) 1 rfl (by decide); have := (by decide : ((0 : Int32)).toInt = 0); omega
              refine ⟨o5675, ?_⟩
              have hI5676 : BND (sI w 22 a0.toInt.toNat ((w.1 22 a0.toInt.toNat) ||| ((1 : Int32) <<< (b0 &&& 31)))) := wbd_22 hI a0.toInt.toNat
              have hI5677 : BND (sI (sI w 22 a0.toInt.toNat ((w.1 22 a0.toInt.toNat) ||| ((1 : Int32) <<< (b0 &&& 31)))) 22 b0.toInt.toNat (((sI w 22 a0.toInt.toNat ((w.1 22 a0.toInt.toNat) ||| ((1 : Int32) <<< (b0 &&& 31)))).1 22 b0.toInt.toNat) ||| ((1 : Int32) <<< (a0 &&& 31)))) := wbd_22 hI5676 b0.toInt.toNat
              have o5678 : (0 ≤ (1 : Int32).toInt) ∧ ((1 : Int32).toInt ≤ 1) := by have := (by decide : ((1 : Int32)).toInt = 1); exact ⟨by omega, by omega⟩
              exact hQ _ _ hI5677 (FR.I (FR.I (FR.refl _ w) (k := 22) (j := a0.toInt.toNat) (v := ((w.1 22 a0.toInt.toNat) ||| ((1 : Int32) <<< (b0 &&& 31)))) rfl) (k := 22) (j := b0.toInt.toNat) (v := (((sI w 22 a0.toInt.toNat ((w.1 22 a0.toInt.toNat) ||| ((1 : Int32) <<< (b0 &&& 31)))).1 22 b0.toInt.toNat) ||| ((1 : Int32) <<< (a0 &&& 31)))) rfl)  o5678.1 o5678.2
            · refine ⟨fun h => absurd h (by decide), fun _ => ?_⟩
              have o5679 : (0 ≤ (0 : Int32).toInt) ∧ ((0 : Int32).toInt ≤ 1) := by have := (by decide : ((0 : Int32)).toInt = 0); exact ⟨by omega, by omega⟩
              exact hQ _ _ hI (FR.refl _ w)  o5679.1 o5679.2
def l_Bh_need : Pl := [(24, none)]
set_option maxRecDepth 20000 in
set_option maxHeartbeats 2000000 in
theorem h_Bh_need {w : MW} {a0 : Int32} {b0 : Int32} {c0 : Int32} {Q : Int32 → MW → Prop} (hI : BND w)  (hQ : ∀ (r : Int32) (w' : MW), BND w' → FR l_Bh_need w w' → 0 ≤ r.toInt → r.toInt ≤ 1 → Q r w') : p_Bh_need w a0 b0 c0 Q := by
  refine Eq.mpr (p_Bh_need.eq_1 _ _ _ _ _) ?_
  refine Eq.mpr (p_Bh_isLiquid.eq_1 _ _ _) ?_
  refine ⟨fun h5680 => ?_, fun h5680 => ?_⟩
  · refine ⟨fun _ => ?_, fun h => absurd (by decide) h⟩
    have o5681 : (0 ≤ (0 : Int32).toInt) ∧ ((0 : Int32).toInt ≤ 1) := by have := (by decide : ((0 : Int32)).toInt = 0); exact ⟨by omega, by omega⟩
    exact hQ _ _ hI (FR.refl _ w)  o5681.1 o5681.2
  · refine ⟨fun h5682 => ?_, fun h5682 => ?_⟩
    · refine ⟨fun _ => ?_, fun h => absurd (by decide) h⟩
      have o5683 : (0 ≤ (0 : Int32).toInt) ∧ ((0 : Int32).toInt ≤ 1) := by have := (by decide : ((0 : Int32)).toInt = 0); exact ⟨by omega, by omega⟩
      exact hQ _ _ hI (FR.refl _ w)  o5683.1 o5683.2
    · refine ⟨fun h => absurd h (by decide), fun _ => ?_⟩
      refine Eq.mpr (p_Bh_isLiquid.eq_1 _ _ _) ?_
      refine ⟨fun h5684 => ?_, fun h5684 => ?_⟩
      · refine ⟨fun _ => ?_, fun h => absurd (by decide) h⟩
        have o5685 : (0 ≤ (0 : Int32).toInt) ∧ ((0 : Int32).toInt ≤ 1) := by have := (by decide : ((0 : Int32)).toInt = 0); exact ⟨by omega, by omega⟩
        exact hQ _ _ hI (FR.refl _ w)  o5685.1 o5685.2
      · refine ⟨fun h5686 => ?_, fun h5686 => ?_⟩
        · refine ⟨fun _ => ?_, fun h => absurd (by decide) h⟩
          have o5687 : (0 ≤ (0 : Int32).toInt) ∧ ((0 : Int32).toInt ≤ 1) := by have := (by decide : ((0 : Int32)).toInt = 0); exact ⟨by omega, by omega⟩
          exact hQ _ _ hI (FR.refl _ w)  o5687.1 o5687.2
        · refine ⟨fun h => absurd h (by decide), fun _ => ?_⟩
          refine ⟨fun h5688 => ?_, fun h5688 => ?_⟩
          · have o5689 : (0 ≤ (0 : Int32).toInt) ∧ ((0 : Int32).toInt ≤ 1) := by have := (by decide : ((0 : Int32)).toInt = 0); exact ⟨by omega, by omega⟩
            exact hQ _ _ hI (FR.refl _ w)  o5689.1 o5689.2
          · refine ⟨fun h5690 => ?_, fun h5690 => ?_⟩
            · have o5691 : 0 ≤ ((a0 * (15 : Int32)) + b0).toInt ∧ ((a0 * (15 : Int32)) + b0).toInt < 225 := by have := (by decide : ((1 : Int32)).toInt = 1); have := (by decide : ((14 : Int32)).toInt = 14); have := ti_mul2 (Eq.refl a0.toInt) (by decide : ((15 : Int32)).toInt = 15) (by omega) (by omega); have := ti_add2 (Eq.refl (a0 * (15 : Int32)).toInt) (Eq.refl b0.toInt) (by omega) (by omega); omega
              refine ⟨o5691, ?_⟩
              have o5693 : 0 ≤ c0.toInt ∧ c0.toInt ≤ 5 := by have := (by decide : ((0 : Int32)).toInt = 0); have := (by decide : ((5 : Int32)).toInt = 5); omega
              have hI5692 : BND (sI w 24 (((a0 * (15 : Int32)) + b0).toInt.toNat) c0) := wbd_24 hI (((a0 * (15 : Int32)) + b0).toInt.toNat) o5693.1 o5693.2
              have o5694 : (0 ≤ (1 : Int32).toInt) ∧ ((1 : Int32).toInt ≤ 1) := by have := (by decide : ((1 : Int32)).toInt = 1); exact ⟨by omega, by omega⟩
              exact hQ _ _ hI5692 (FR.I (FR.refl _ w) (k := 24) (j := ((a0 * (15 : Int32)) + b0).toInt.toNat) (v := c0) rfl)  o5694.1 o5694.2
            · have o5695 : (0 ≤ (0 : Int32).toInt) ∧ ((0 : Int32).toInt ≤ 1) := by have := (by decide : ((0 : Int32)).toInt = 0); exact ⟨by omega, by omega⟩
              exact hQ _ _ hI (FR.refl _ w)  o5695.1 o5695.2
def l_Bh_lasts : Pl := [(25, none)]
set_option maxRecDepth 20000 in
set_option maxHeartbeats 2000000 in
theorem h_Bh_lasts {w : MW} {a0 : Int32} {b0 : Int32} {Q : Int32 → MW → Prop} (hI : BND w)  (hQ : ∀ (r : Int32) (w' : MW), BND w' → FR l_Bh_lasts w w' → 0 ≤ r.toInt → r.toInt ≤ 1 → Q r w') : p_Bh_lasts w a0 b0 Q := by
  refine Eq.mpr (p_Bh_lasts.eq_1 _ _ _ _) ?_
  refine ⟨fun h5696 => ?_, fun h5696 => ?_⟩
  · have o5697 : (0 ≤ (0 : Int32).toInt) ∧ ((0 : Int32).toInt ≤ 1) := by have := (by decide : ((0 : Int32)).toInt = 0); exact ⟨by omega, by omega⟩
    exact hQ _ _ hI (FR.refl _ w)  o5697.1 o5697.2
  · refine ⟨fun h5698 => ?_, fun h5698 => ?_⟩
    · have o5699 : (0 ≤ (0 : Int32).toInt) ∧ ((0 : Int32).toInt ≤ 1) := by have := (by decide : ((0 : Int32)).toInt = 0); exact ⟨by omega, by omega⟩
      exact hQ _ _ hI (FR.refl _ w)  o5699.1 o5699.2
    · refine ⟨fun h5700 => ?_, fun h5700 => ?_⟩
      · have o5701 : (0 ≤ (0 : Int32).toInt) ∧ ((0 : Int32).toInt ≤ 1) := by have := (by decide : ((0 : Int32)).toInt = 0); exact ⟨by omega, by omega⟩
        exact hQ _ _ hI (FR.refl _ w)  o5701.1 o5701.2
      · refine ⟨fun h5702 => ?_, fun h5702 => ?_⟩
        · have o5703 : 0 ≤ a0.toInt ∧ a0.toInt < 6 := by have := (by decide : ((1 : Int32)).toInt = 1); have := (by decide : ((5 : Int32)).toInt = 5); omega
          refine ⟨o5703, ?_⟩
          have o5705 : 0 ≤ b0.toInt ∧ b0.toInt ≤ 1000000 := by have := (by decide : ((0 : Int32)).toInt = 0); have := (by decide : ((1000000 : Int32)).toInt = 1000000); omega
          have hI5704 : BND (sI w 25 a0.toInt.toNat b0) := wbd_25 hI a0.toInt.toNat o5705.1 o5705.2
          have o5706 : (0 ≤ (1 : Int32).toInt) ∧ ((1 : Int32).toInt ≤ 1) := by have := (by decide : ((1 : Int32)).toInt = 1); exact ⟨by omega, by omega⟩
          exact hQ _ _ hI5704 (FR.I (FR.refl _ w) (k := 25) (j := a0.toInt.toNat) (v := b0) rfl)  o5706.1 o5706.2
        · have o5707 : (0 ≤ (0 : Int32).toInt) ∧ ((0 : Int32).toInt ≤ 1) := by have := (by decide : ((0 : Int32)).toInt = 0); exact ⟨by omega, by omega⟩
          exact hQ _ _ hI (FR.refl _ w)  o5707.1 o5707.2
def l_Bh_sense : Pl := [(75, none), (76, none)]
set_option maxRecDepth 20000 in
set_option maxHeartbeats 2000000 in
theorem h_Bh_sense {w : MW} {a0 : Int32} {b0 : Int32} {c0 : Int32} {Q : Int32 → MW → Prop} (hI : BND w) (hr_61_3 : w.2.2 61 3 = some 62)  (hQ : ∀ (r : Int32) (w' : MW), BND w' → FR l_Bh_sense w w' → 0 ≤ r.toInt → r.toInt ≤ 1 → Q r w') : p_Bh_sense w a0 b0 c0 Q := by
  refine Eq.mpr (p_Bh_sense.eq_1 _ _ _ _ _) ?_
  refine ⟨hr_61_3, ?_⟩
  refine Eq.mpr (p_Pr_isSignal.eq_1 _ _ _) ?_
  refine ⟨fun h5708 => ?_, fun h5708 => ?_⟩
  · refine ⟨fun _ => ?_, fun h => absurd (by decide) h⟩
    have o5709 : (0 ≤ (0 : Int32).toInt) ∧ ((0 : Int32).toInt ≤ 1) := by have := (by decide : ((0 : Int32)).toInt = 0); exact ⟨by omega, by omega⟩
    exact hQ _ _ hI (FR.refl _ w)  o5709.1 o5709.2
  · refine ⟨fun h5710 => ?_, fun h5710 => ?_⟩
    · refine ⟨fun _ => ?_, fun h => absurd (by decide) h⟩
      have o5711 : (0 ≤ (0 : Int32).toInt) ∧ ((0 : Int32).toInt ≤ 1) := by have := (by decide : ((0 : Int32)).toInt = 0); exact ⟨by omega, by omega⟩
      exact hQ _ _ hI (FR.refl _ w)  o5711.1 o5711.2
    · have o5712 : 0 ≤ a0.toInt ∧ a0.toInt < 40 := by have := (by decide : ((0 : Int32)).toInt = 0); have := bd_62_10 hI; omega
      refine ⟨o5712, ?_⟩
      refine ⟨fun h5713 => ?_, fun h5713 => ?_⟩
      · refine ⟨fun _ => ?_, fun h => absurd (by decide) h⟩
        have o5714 : (0 ≤ (0 : Int32).toInt) ∧ ((0 : Int32).toInt ≤ 1) := by have := (by decide : ((0 : Int32)).toInt = 0); exact ⟨by omega, by omega⟩
        exact hQ _ _ hI (FR.refl _ w)  o5714.1 o5714.2
      · refine ⟨fun h => absurd h (by decide), fun _ => ?_⟩
        refine ⟨fun h5715 => ?_, fun h5715 => ?_⟩
        · have o5716 : (0 ≤ (0 : Int32).toInt) ∧ ((0 : Int32).toInt ≤ 1) := by have := (by decide : ((0 : Int32)).toInt = 0); exact ⟨by omega, by omega⟩
          exact hQ _ _ hI (FR.refl _ w)  o5716.1 o5716.2
        · refine ⟨fun h5717 => ?_, fun h5717 => ?_⟩
          · refine ⟨hr_61_3, ?_⟩
            have o5718 : 0 ≤ a0.toInt ∧ a0.toInt < 40 := by have := (by decide : ((0 : Int32)).toInt = 0); have := bd_62_10 hI; omega
            refine ⟨o5718, ?_⟩
            refine ⟨hr_61_3, ?_⟩
            have o5719 : 0 ≤ a0.toInt ∧ a0.toInt < 40 := by have := (by decide : ((0 : Int32)).toInt = 0); have := bd_62_10 hI; omega
            refine ⟨o5719, ?_⟩
            have o5721 : 0 ≤ b0.toInt ∧ b0.toInt ≤ 5 := by have := (by decide : ((0 : Int32)).toInt = 0); have := (by decide : ((5 : Int32)).toInt = 5); omega
            have hI5720 : BND (sI w 75 a0.toInt.toNat b0) := wbd_75 hI a0.toInt.toNat o5721.1 o5721.2
            have hI5722 : BND (sI (sI w 75 a0.toInt.toNat b0) 76 a0.toInt.toNat c0) := wbd_76 hI5720 a0.toInt.toNat
            have o5723 : (0 ≤ (1 : Int32).toInt) ∧ ((1 : Int32).toInt ≤ 1) := by have := (by decide : ((1 : Int32)).toInt = 1); exact ⟨by omega, by omega⟩
            exact hQ _ _ hI5722 (FR.I (FR.I (FR.refl _ w) (k := 75) (j := a0.toInt.toNat) (v := b0) rfl) (k := 76) (j := a0.toInt.toNat) (v := c0) rfl)  o5723.1 o5723.2
          · have o5724 : (0 ≤ (0 : Int32).toInt) ∧ ((0 : Int32).toInt ≤ 1) := by have := (by decide : ((0 : Int32)).toInt = 0); exact ⟨by omega, by omega⟩
            exact hQ _ _ hI (FR.refl _ w)  o5724.1 o5724.2
def l_Bh_watch : Pl := [(124, none), (125, none), (126, none)]
set_option maxRecDepth 20000 in
set_option maxHeartbeats 2000000 in
theorem h_Bh_watch {w : MW} {a0 : Int32} {b0 : Int32} {c0 : Int32} {e0 : Int64} {Q : Int32 → MW → Prop} (hI : BND w)  (hQ : ∀ (r : Int32) (w' : MW), BND w' → FR l_Bh_watch w w' → 0 ≤ r.toInt → r.toInt ≤ 1 → Q r w') : p_Bh_watch w a0 b0 c0 e0 Q := by
  refine Eq.mpr (p_Bh_watch.eq_1 _ _ _ _ _ _) ?_
  refine ⟨fun h5725 => ?_, fun h5725 => ?_⟩
  · have o5726 : (0 ≤ (0 : Int32).toInt) ∧ ((0 : Int32).toInt ≤ 1) := by have := (by decide : ((0 : Int32)).toInt = 0); exact ⟨by omega, by omega⟩
    exact hQ _ _ hI (FR.refl _ w)  o5726.1 o5726.2
  · refine ⟨fun h5727 => ?_, fun h5727 => ?_⟩
    · have o5728 : (0 ≤ (0 : Int32).toInt) ∧ ((0 : Int32).toInt ≤ 1) := by have := (by decide : ((0 : Int32)).toInt = 0); exact ⟨by omega, by omega⟩
      exact hQ _ _ hI (FR.refl _ w)  o5728.1 o5728.2
    · refine ⟨fun h5729 => ?_, fun h5729 => ?_⟩
      · have o5730 : (0 ≤ (0 : Int32).toInt) ∧ ((0 : Int32).toInt ≤ 1) := by have := (by decide : ((0 : Int32)).toInt = 0); exact ⟨by omega, by omega⟩
        exact hQ _ _ hI (FR.refl _ w)  o5730.1 o5730.2
      · refine ⟨fun h5731 => ?_, fun h5731 => ?_⟩
        · have o5732 : 0 ≤ a0.toInt ∧ a0.toInt < 16 := by have := (by decide : ((0 : Int32)).toInt = 0); have := (by decide : ((15 : Int32)).toInt = 15); omega
          refine ⟨o5732, ?_⟩
          have o5733 : 0 ≤ a0.toInt ∧ a0.toInt < 16 := by have := (by decide : ((0 : Int32)).toInt = 0); have := (by decide : ((15 : Int32)).toInt = 15); omega
          refine ⟨o5733, ?_⟩
          have o5734 : 0 ≤ a0.toInt ∧ a0.toInt < 16 := by have := (by decide : ((0 : Int32)).toInt = 0); have := (by decide : ((15 : Int32)).toInt = 15); omega
          refine ⟨o5734, ?_⟩
          have o5736 : 0 ≤ b0.toInt ∧ b0.toInt ≤ 5 := by have := (by decide : ((0 : Int32)).toInt = 0); have := (by decide : ((5 : Int32)).toInt = 5); omega
          have hI5735 : BND (sI w 126 a0.toInt.toNat b0) := wbd_126 hI a0.toInt.toNat o5736.1 o5736.2
          have hI5737 : BND (sI (sI w 126 a0.toInt.toNat b0) 124 a0.toInt.toNat c0) := wbd_124 hI5735 a0.toInt.toNat
          have o5738 : (0 ≤ (1 : Int32).toInt) ∧ ((1 : Int32).toInt ≤ 1) := by have := (by decide : ((1 : Int32)).toInt = 1); exact ⟨by omega, by omega⟩
          exact hQ _ _ (bnd_J hI5737 (k := 125) (j := a0.toInt.toNat) (v := e0)) (FR.J (FR.I (FR.I (FR.refl _ w) (k := 126) (j := a0.toInt.toNat) (v := b0) rfl) (k := 124) (j := a0.toInt.toNat) (v := c0) rfl) (k := 125) (j := a0.toInt.toNat) (v := e0) rfl)  o5738.1 o5738.2
        · have o5739 : (0 ≤ (0 : Int32).toInt) ∧ ((0 : Int32).toInt ≤ 1) := by have := (by decide : ((0 : Int32)).toInt = 0); exact ⟨by omega, by omega⟩
          exact hQ _ _ hI (FR.refl _ w)  o5739.1 o5739.2
def l_Bh_signal : Pl := [(74, none)]
set_option maxRecDepth 20000 in
set_option maxHeartbeats 2000000 in
theorem h_Bh_signal {w : MW} {a0 : Int32} {b0 : Int64} {Q : Int32 → MW → Prop} (hI : BND w) (hr_61_3 : w.2.2 61 3 = some 62)  (hQ : ∀ (r : Int32) (w' : MW), BND w' → FR l_Bh_signal w w' → 0 ≤ r.toInt → r.toInt ≤ 1 → Q r w') : p_Bh_signal w a0 b0 Q := by
  refine Eq.mpr (p_Bh_signal.eq_1 _ _ _ _) ?_
  refine ⟨hr_61_3, ?_⟩
  refine Eq.mpr (p_Pr_isSignal.eq_1 _ _ _) ?_
  refine ⟨fun h5740 => ?_, fun h5740 => ?_⟩
  · refine ⟨fun h => absurd h (by decide), fun _ => ?_⟩
    have o5741 : (0 ≤ (0 : Int32).toInt) ∧ ((0 : Int32).toInt ≤ 1) := by have := (by decide : ((0 : Int32)).toInt = 0); exact ⟨by omega, by omega⟩
    exact hQ _ _ hI (FR.refl _ w)  o5741.1 o5741.2
  · refine ⟨fun h5742 => ?_, fun h5742 => ?_⟩
    · refine ⟨fun h => absurd h (by decide), fun _ => ?_⟩
      have o5743 : (0 ≤ (0 : Int32).toInt) ∧ ((0 : Int32).toInt ≤ 1) := by have := (by decide : ((0 : Int32)).toInt = 0); exact ⟨by omega, by omega⟩
      exact hQ _ _ hI (FR.refl _ w)  o5743.1 o5743.2
    · have o5744 : 0 ≤ a0.toInt ∧ a0.toInt < 40 := by have := (by decide : ((0 : Int32)).toInt = 0); have := bd_62_10 hI; omega
      refine ⟨o5744, ?_⟩
      refine ⟨fun h5745 => ?_, fun h5745 => ?_⟩
      · refine ⟨fun h => absurd h (by decide), fun _ => ?_⟩
        have o5746 : (0 ≤ (0 : Int32).toInt) ∧ ((0 : Int32).toInt ≤ 1) := by have := (by decide : ((0 : Int32)).toInt = 0); exact ⟨by omega, by omega⟩
        exact hQ _ _ hI (FR.refl _ w)  o5746.1 o5746.2
      · refine ⟨fun _ => ?_, fun h => absurd (by decide) h⟩
        refine ⟨hr_61_3, ?_⟩
        have o5747 : 0 ≤ a0.toInt ∧ a0.toInt < 40 := by have := (by decide : ((0 : Int32)).toInt = 0); have := bd_62_10 hI; omega
        refine ⟨o5747, ?_⟩
        have o5748 : (0 ≤ (1 : Int32).toInt) ∧ ((1 : Int32).toInt ≤ 1) := by have := (by decide : ((1 : Int32)).toInt = 1); exact ⟨by omega, by omega⟩
        exact hQ _ _ (bnd_J hI (k := 74) (j := a0.toInt.toNat) (v := b0)) (FR.J (FR.refl _ w) (k := 74) (j := a0.toInt.toNat) (v := b0) rfl)  o5748.1 o5748.2
def l_Ac_tie_71 : Pl := [(57, none), (58, none), (59, none), (60, none)]
def l_Ac_tie_52 : Pl := [(57, none), (58, none), (59, none), (60, none)]
def l_Ac_tie_35 : Pl := [(57, none), (58, none), (59, none), (60, none)]
def l_Ac_tie : Pl := [(57, none), (58, none), (59, none), (60, none)]
set_option maxRecDepth 20000 in
set_option maxHeartbeats 2000000 in
theorem hq_Ac_tie_35 {y35_1 : Int32} {y35_2 : Int32} {y35_3 : Int32} {y35_4 : Int32} {y35_5 : Int32} {w : MW} {Q : Int32 → MW → Prop} (hI : BND w) (hp0 : 0 ≤ y35_1.toInt) (hp1 : y35_1.toInt ≤ 31) (hp2 : 0 ≤ y35_2.toInt) (hp3 : y35_2.toInt ≤ 4) (hQ : ∀ (r : Int32) (w' : MW), BND w' → FR l_Ac_tie_35 w w' → 0 ≤ r.toInt → r.toInt ≤ 1 → Q r w') : q_Ac_tie_35 y35_1 y35_2 y35_3 y35_4 y35_5 w Q := by
  refine Eq.mpr (q_Ac_tie_35.eq_1 _ _ _ _ _ _ _) ?_
  refine ⟨fun h5749 => ?_, fun h5749 => ?_⟩
  · refine Eq.mpr (q_Ac_tie_52.eq_1 _ _ _ _ _ _ _) ?_
    refine ⟨fun h5750 => ?_, fun h5750 => ?_⟩
    · refine Eq.mpr (q_Ac_tie_71.eq_1 _ _ _ _ _ _ _) ?_
      have o5751 : 0 ≤ y35_1.toInt ∧ y35_1.toInt < 32 := by omega
      refine ⟨o5751, ?_⟩
      have o5752 : 0 ≤ y35_1.toInt ∧ y35_1.toInt < 32 := by omega
      refine ⟨o5752, ?_⟩
      have o5753 : 0 ≤ y35_1.toInt ∧ y35_1.toInt < 32 := by omega
      refine ⟨o5753, ?_⟩
      have o5754 : 0 ≤ y35_1.toInt ∧ y35_1.toInt < 32 := by omega
      refine ⟨o5754, ?_⟩
      have o5756 : (-1) ≤ y35_2.toInt ∧ y35_2.toInt ≤ 4 := by have := (by decide : ((2 : Int32)).toInt = 2); have := (by decide : ((3 : Int32)).toInt = 3); omega
      have hI5755 : BND (sI w 60 y35_1.toInt.toNat y35_2) := wbd_60 hI y35_1.toInt.toNat o5756.1 o5756.2
      have hI5757 : BND (sI (sI w 60 y35_1.toInt.toNat y35_2) 57 y35_1.toInt.toNat y35_3) := wbd_57 hI5755 y35_1.toInt.toNat
      have hI5758 : BND (sI (sI (sI w 60 y35_1.toInt.toNat y35_2) 57 y35_1.toInt.toNat y35_3) 58 y35_1.toInt.toNat y35_4) := wbd_58 hI5757 y35_1.toInt.toNat
      have hI5759 : BND (sI (sI (sI (sI w 60 y35_1.toInt.toNat y35_2) 57 y35_1.toInt.toNat y35_3) 58 y35_1.toInt.toNat y35_4) 59 y35_1.toInt.toNat y35_5) := wbd_59 hI5758 y35_1.toInt.toNat
      have o5760 : (0 ≤ (1 : Int32).toInt) ∧ ((1 : Int32).toInt ≤ 1) := by have := (by decide : ((1 : Int32)).toInt = 1); exact ⟨by omega, by omega⟩
      exact hQ _ _ hI5759 (FR.I (FR.I (FR.I (FR.I (FR.refl _ w) (k := 60) (j := y35_1.toInt.toNat) (v := y35_2) rfl) (k := 57) (j := y35_1.toInt.toNat) (v := y35_3) rfl) (k := 58) (j := y35_1.toInt.toNat) (v := y35_4) rfl) (k := 59) (j := y35_1.toInt.toNat) (v := y35_5) rfl)  o5760.1 o5760.2
    · refine ⟨fun h5761 => ?_, fun h5761 => ?_⟩
      · have o5762 : (0 ≤ (0 : Int32).toInt) ∧ ((0 : Int32).toInt ≤ 1) := by have := (by decide : ((0 : Int32)).toInt = 0); exact ⟨by omega, by omega⟩
        exact hQ _ _ hI (FR.refl _ w)  o5762.1 o5762.2
      · refine ⟨fun h5763 => ?_, fun h5763 => ?_⟩
        · refine Eq.mpr (q_Ac_tie_71.eq_1 _ _ _ _ _ _ _) ?_
          have o5764 : 0 ≤ y35_1.toInt ∧ y35_1.toInt < 32 := by omega
          refine ⟨o5764, ?_⟩
          have o5765 : 0 ≤ y35_1.toInt ∧ y35_1.toInt < 32 := by omega
          refine ⟨o5765, ?_⟩
          have o5766 : 0 ≤ y35_1.toInt ∧ y35_1.toInt < 32 := by omega
          refine ⟨o5766, ?_⟩
          have o5767 : 0 ≤ y35_1.toInt ∧ y35_1.toInt < 32 := by omega
          refine ⟨o5767, ?_⟩
          have o5769 : (-1) ≤ y35_2.toInt ∧ y35_2.toInt ≤ 4 := by have := (by decide : ((2 : Int32)).toInt = 2); have := (by decide : ((3 : Int32)).toInt = 3); omega
          have hI5768 : BND (sI w 60 y35_1.toInt.toNat y35_2) := wbd_60 hI y35_1.toInt.toNat o5769.1 o5769.2
          have hI5770 : BND (sI (sI w 60 y35_1.toInt.toNat y35_2) 57 y35_1.toInt.toNat y35_3) := wbd_57 hI5768 y35_1.toInt.toNat
          have hI5771 : BND (sI (sI (sI w 60 y35_1.toInt.toNat y35_2) 57 y35_1.toInt.toNat y35_3) 58 y35_1.toInt.toNat y35_4) := wbd_58 hI5770 y35_1.toInt.toNat
          have hI5772 : BND (sI (sI (sI (sI w 60 y35_1.toInt.toNat y35_2) 57 y35_1.toInt.toNat y35_3) 58 y35_1.toInt.toNat y35_4) 59 y35_1.toInt.toNat y35_5) := wbd_59 hI5771 y35_1.toInt.toNat
          have o5773 : (0 ≤ (1 : Int32).toInt) ∧ ((1 : Int32).toInt ≤ 1) := by have := (by decide : ((1 : Int32)).toInt = 1); exact ⟨by omega, by omega⟩
          exact hQ _ _ hI5772 (FR.I (FR.I (FR.I (FR.I (FR.refl _ w) (k := 60) (j := y35_1.toInt.toNat) (v := y35_2) rfl) (k := 57) (j := y35_1.toInt.toNat) (v := y35_3) rfl) (k := 58) (j := y35_1.toInt.toNat) (v := y35_4) rfl) (k := 59) (j := y35_1.toInt.toNat) (v := y35_5) rfl)  o5773.1 o5773.2
        · have o5774 : (0 ≤ (0 : Int32).toInt) ∧ ((0 : Int32).toInt ≤ 1) := by have := (by decide : ((0 : Int32)).toInt = 0); exact ⟨by omega, by omega⟩
          exact hQ _ _ hI (FR.refl _ w)  o5774.1 o5774.2
  · refine ⟨fun h5775 => ?_, fun h5775 => ?_⟩
    · have o5776 : (0 ≤ (0 : Int32).toInt) ∧ ((0 : Int32).toInt ≤ 1) := by have := (by decide : ((0 : Int32)).toInt = 0); exact ⟨by omega, by omega⟩
      exact hQ _ _ hI (FR.refl _ w)  o5776.1 o5776.2
    · refine ⟨fun h5777 => ?_, fun h5777 => ?_⟩
      · have o5778 : (0 ≤ (0 : Int32).toInt) ∧ ((0 : Int32).toInt ≤ 1) := by have := (by decide : ((0 : Int32)).toInt = 0); exact ⟨by omega, by omega⟩
        exact hQ _ _ hI (FR.refl _ w)  o5778.1 o5778.2
      · refine Eq.mpr (q_Ac_tie_52.eq_1 _ _ _ _ _ _ _) ?_
        refine ⟨fun h5779 => ?_, fun h5779 => ?_⟩
        · refine Eq.mpr (q_Ac_tie_71.eq_1 _ _ _ _ _ _ _) ?_
          have o5780 : 0 ≤ y35_1.toInt ∧ y35_1.toInt < 32 := by omega
          refine ⟨o5780, ?_⟩
          have o5781 : 0 ≤ y35_1.toInt ∧ y35_1.toInt < 32 := by omega
          refine ⟨o5781, ?_⟩
          have o5782 : 0 ≤ y35_1.toInt ∧ y35_1.toInt < 32 := by omega
          refine ⟨o5782, ?_⟩
          have o5783 : 0 ≤ y35_1.toInt ∧ y35_1.toInt < 32 := by omega
          refine ⟨o5783, ?_⟩
          have o5785 : (-1) ≤ y35_2.toInt ∧ y35_2.toInt ≤ 4 := by have := (by decide : ((2 : Int32)).toInt = 2); have := (by decide : ((3 : Int32)).toInt = 3); omega
          have hI5784 : BND (sI w 60 y35_1.toInt.toNat y35_2) := wbd_60 hI y35_1.toInt.toNat o5785.1 o5785.2
          have hI5786 : BND (sI (sI w 60 y35_1.toInt.toNat y35_2) 57 y35_1.toInt.toNat y35_3) := wbd_57 hI5784 y35_1.toInt.toNat
          have hI5787 : BND (sI (sI (sI w 60 y35_1.toInt.toNat y35_2) 57 y35_1.toInt.toNat y35_3) 58 y35_1.toInt.toNat y35_4) := wbd_58 hI5786 y35_1.toInt.toNat
          have hI5788 : BND (sI (sI (sI (sI w 60 y35_1.toInt.toNat y35_2) 57 y35_1.toInt.toNat y35_3) 58 y35_1.toInt.toNat y35_4) 59 y35_1.toInt.toNat y35_5) := wbd_59 hI5787 y35_1.toInt.toNat
          have o5789 : (0 ≤ (1 : Int32).toInt) ∧ ((1 : Int32).toInt ≤ 1) := by have := (by decide : ((1 : Int32)).toInt = 1); exact ⟨by omega, by omega⟩
          exact hQ _ _ hI5788 (FR.I (FR.I (FR.I (FR.I (FR.refl _ w) (k := 60) (j := y35_1.toInt.toNat) (v := y35_2) rfl) (k := 57) (j := y35_1.toInt.toNat) (v := y35_3) rfl) (k := 58) (j := y35_1.toInt.toNat) (v := y35_4) rfl) (k := 59) (j := y35_1.toInt.toNat) (v := y35_5) rfl)  o5789.1 o5789.2
        · exfalso; have := (by decide : ((2 : Int32)).toInt = 2); have := (by decide : ((0 : Int32)).toInt = 0); have := (by decide : ((10 : Int32)).toInt = 10); have := (by decide : ((3 : Int32)).toInt = 3); omega
set_option maxRecDepth 20000 in
set_option maxHeartbeats 2000000 in
theorem h_Ac_tie {w : MW} {a0 : Int32} {b0 : Int32} {c0 : Int32} {e0 : Int32} {f0 : Int32} {Q : Int32 → MW → Prop} (hI : BND w)  (hQ : ∀ (r : Int32) (w' : MW), BND w' → FR l_Ac_tie w w' → 0 ≤ r.toInt → r.toInt ≤ 1 → Q r w') : p_Ac_tie w a0 b0 c0 e0 f0 Q := by
  refine Eq.mpr (p_Ac_tie.eq_1 _ _ _ _ _ _ _) ?_
  refine Eq.mpr (p_Ac_isAct.eq_1 _ _ _) ?_
  refine ⟨fun h5790 => ?_, fun h5790 => ?_⟩
  · refine ⟨fun _ => ?_, fun h => absurd (by decide) h⟩
    have o5791 : (0 ≤ (0 : Int32).toInt) ∧ ((0 : Int32).toInt ≤ 1) := by have := (by decide : ((0 : Int32)).toInt = 0); exact ⟨by omega, by omega⟩
    exact hQ _ _ hI (FR.refl _ w)  o5791.1 o5791.2
  · refine ⟨fun h5792 => ?_, fun h5792 => ?_⟩
    · refine ⟨fun _ => ?_, fun h => absurd (by decide) h⟩
      have o5793 : (0 ≤ (0 : Int32).toInt) ∧ ((0 : Int32).toInt ≤ 1) := by have := (by decide : ((0 : Int32)).toInt = 0); exact ⟨by omega, by omega⟩
      exact hQ _ _ hI (FR.refl _ w)  o5793.1 o5793.2
    · refine ⟨fun h => absurd h (by decide), fun _ => ?_⟩
      refine ⟨fun h5794 => ?_, fun h5794 => ?_⟩
      · have o5795 : (0 ≤ (0 : Int32).toInt) ∧ ((0 : Int32).toInt ≤ 1) := by have := (by decide : ((0 : Int32)).toInt = 0); exact ⟨by omega, by omega⟩
        exact hQ _ _ hI (FR.refl _ w)  o5795.1 o5795.2
      · refine ⟨fun h5796 => ?_, fun h5796 => ?_⟩
        · refine ⟨fun h5797 => ?_, fun h5797 => ?_⟩
          · have o5798 : (0 ≤ a0.toInt) ∧ (a0.toInt ≤ 31) ∧ (0 ≤ b0.toInt) ∧ (b0.toInt ≤ 4) := by have := ti_lo c0; have := ti_hi c0; have := ti_lo e0; have := ti_hi e0; have := ti_lo f0; have := ti_hi f0; have := (by decide : ((0 : Int32)).toInt = 0); have := (by decide : ((32 : Int32)).toInt = 32); have := (by decide : ((4 : Int32)).toInt = 4); exact ⟨by omega, by omega, by omega, by omega⟩
            exact hq_Ac_tie_35 hI  o5798.1 o5798.2.1 o5798.2.2.1 o5798.2.2.2 (fun r w9 hI9 hF9 q0 q1 => hQ r w9 hI9 ((FR.refl _ w).tr hF9 rfl) (by have := ti_lo c0; have := ti_hi c0; have := ti_lo e0; have := ti_hi e0; have := ti_lo f0; have := ti_hi f0; have := (by decide : ((0 : Int32)).toInt = 0); have := (by decide : ((32 : Int32)).toInt = 32); have := (by decide : ((4 : Int32)).toInt = 4); omega) (by have := ti_lo c0; have := ti_hi c0; have := ti_lo e0; have := ti_hi e0; have := ti_lo f0; have := ti_hi f0; have := (by decide : ((0 : Int32)).toInt = 0); have := (by decide : ((32 : Int32)).toInt = 32); have := (by decide : ((4 : Int32)).toInt = 4); omega))
          · refine ⟨fun h5799 => ?_, fun h5799 => ?_⟩
            · have o5800 : (0 ≤ (0 : Int32).toInt) ∧ ((0 : Int32).toInt ≤ 1) := by have := (by decide : ((0 : Int32)).toInt = 0); exact ⟨by omega, by omega⟩
              exact hQ _ _ hI (FR.refl _ w)  o5800.1 o5800.2
            · refine ⟨fun h5801 => ?_, fun h5801 => ?_⟩
              · have o5802 : (0 ≤ (0 : Int32).toInt) ∧ ((0 : Int32).toInt ≤ 1) := by have := (by decide : ((0 : Int32)).toInt = 0); exact ⟨by omega, by omega⟩
                exact hQ _ _ hI (FR.refl _ w)  o5802.1 o5802.2
              · have o5803 : (0 ≤ a0.toInt) ∧ (a0.toInt ≤ 31) ∧ (0 ≤ b0.toInt) ∧ (b0.toInt ≤ 4) := by have := ti_lo c0; have := ti_hi c0; have := ti_lo e0; have := ti_hi e0; have := (by decide : ((0 : Int32)).toInt = 0); have := (by decide : ((32 : Int32)).toInt = 32); have := (by decide : ((4 : Int32)).toInt = 4); have := (by decide : ((1 : Int32)).toInt = 1); have := (by decide : ((100 : Int32)).toInt = 100); exact ⟨by omega, by omega, by omega, by omega⟩
                exact hq_Ac_tie_35 hI  o5803.1 o5803.2.1 o5803.2.2.1 o5803.2.2.2 (fun r w9 hI9 hF9 q0 q1 => hQ r w9 hI9 ((FR.refl _ w).tr hF9 rfl) (by have := ti_lo c0; have := ti_hi c0; have := ti_lo e0; have := ti_hi e0; have := (by decide : ((0 : Int32)).toInt = 0); have := (by decide : ((32 : Int32)).toInt = 32); have := (by decide : ((4 : Int32)).toInt = 4); have := (by decide : ((1 : Int32)).toInt = 1); have := (by decide : ((100 : Int32)).toInt = 100); omega) (by have := ti_lo c0; have := ti_hi c0; have := ti_lo e0; have := ti_hi e0; have := (by decide : ((0 : Int32)).toInt = 0); have := (by decide : ((32 : Int32)).toInt = 32); have := (by decide : ((4 : Int32)).toInt = 4); have := (by decide : ((1 : Int32)).toInt = 1); have := (by decide : ((100 : Int32)).toInt = 100); omega))
        · have o5804 : (0 ≤ (0 : Int32).toInt) ∧ ((0 : Int32).toInt ≤ 1) := by have := (by decide : ((0 : Int32)).toInt = 0); exact ⟨by omega, by omega⟩
          exact hQ _ _ hI (FR.refl _ w)  o5804.1 o5804.2
