def l_Sf_isSafe_103 : Pl := [(42, some 6), (42, some 7), (42, some 8), (42, some 9), (45, none), (46, none)]
def l_Sf_isSafe_57 : Pl := [(42, some 6), (42, some 7), (42, some 8), (42, some 9), (45, none), (46, none)]
def l_Sf_isSafe : Pl := [(42, some 6), (42, some 7), (42, some 8), (42, some 9), (43, none), (44, none), (45, none), (46, none)]
set_option maxRecDepth 20000 in
set_option maxHeartbeats 2000000 in
theorem hq_Sf_isSafe_57 {E : MW → Prop} {Q : Int32 → MW → Prop} (n : Nat) : ∀ (x57_1 : Int32) (x57_2 : Int32) (w : MW), BND w → PE w → PL w → w.2.2 7 0 = some 8 → 0 ≤ x57_1.toInt → x57_1.toInt ≤ 31710 → 0 ≤ x57_2.toInt → x57_2.toInt ≤ 200 → (200 - x57_2.toInt).toNat < n → (∀ (w' : MW), BND w' → FR l_Sf_isSafe_57 w w' → E w') → (∀ (r : Int32) (w' : MW), BND w' → FR l_Sf_isSafe_57 w w' → 0 ≤ r.toInt → r.toInt ≤ 0 → Q r w') → q_Sf_isSafe_57 E Q n x57_1 x57_2 w := by
  induction n with
  | zero => intros; omega
  | succ n ih =>
    intro x57_1 x57_2 w hI hf_PE hf_PL hr_7_0 hp0 hp1 hp2 hp3 hm hE hQ
    rw [q_Sf_isSafe_57.eq_2]
    refine ⟨hr_7_0, ?_⟩
    refine ⟨fun h4473 => ?_, fun h4473 => ?_⟩
    · exact hE _ hI (FR.refl _ w)
    · have o4474 : (0 ≤ (x57_2 / (10 : Int32)).toInt) ∧ ((x57_2 / (10 : Int32)).toInt ≤ 19) ∧ (0 ≤ (x57_2 - x57_2 / (10 : Int32) * (10 : Int32)).toInt) ∧ ((x57_2 - x57_2 / (10 : Int32) * (10 : Int32)).toInt ≤ 9) := by have := bd_8_0 hI; have := nb_div (x := x57_2) (by omega) (by decide : ((10 : Int32)).toInt = 10) (by decide); have := nb_rem (x := x57_2) (by omega) (by decide : ((10 : Int32)).toInt = 10) (by decide); have := ti_mul2 (by decide : ((10 : Int32)).toInt = 10) (Eq.refl (w.1 8 0).toInt) (by omega) (by omega); exact ⟨by omega, by omega, by omega, by omega⟩
      refine h_Sf_otherPasses hI hr_7_0 o4474.1 o4474.2.1 o4474.2.2.1 o4474.2.2.2 (fun r4478 w4475 hI4476 hL4477 p4479 p4480 => ?_)
      have hF4481 : FR l_Sf_isSafe_57 w w4475 := (FR.refl _ w).tr hL4477 rfl
      refine ⟨fun h4482 => ?_, fun h4482 => ?_⟩
      · have o4483 : (0 ≤ r4478.toInt) ∧ (r4478.toInt ≤ 31710) ∧ (0 ≤ (x57_2 + (1 : Int32)).toInt) ∧ ((x57_2 + (1 : Int32)).toInt ≤ 200) := by have := bd_8_0 hI; have := (by decide : ((0 : Int32)).toInt = 0); have := ti_add2 (Eq.refl x57_2.toInt) (by decide : ((1 : Int32)).toInt = 1) (by omega) (by omega); have := ti_mul2 (by decide : ((10 : Int32)).toInt = 10) (Eq.refl (w.1 8 0).toInt) (by omega) (by omega); exact ⟨by omega, by omega, by omega, by omega⟩
        exact ih _ _ w4475 hI4476 (PE_fr hL4477 rfl hf_PE) (PL_fr hL4477 rfl hf_PL) ((hL4477 7 0 rfl).2.2.trans hr_7_0) o4483.1 o4483.2.1 o4483.2.2.1 o4483.2.2.2 (by have := bd_8_0 hI; have := (by decide : ((0 : Int32)).toInt = 0); have := ti_add2 (Eq.refl x57_2.toInt) (by decide : ((1 : Int32)).toInt = 1) (by omega) (by omega); have := ti_mul2 (by decide : ((10 : Int32)).toInt = 10) (Eq.refl (w.1 8 0).toInt) (by omega) (by omega); omega) (fun w9 hI9 hF9 => hE w9 hI9 (hF4481.tr hF9 rfl) ) (fun r w9 hI9 hF9 q0 q1 => hQ r w9 hI9 (hF4481.tr hF9 rfl) (by have := bd_8_0 hI; have := (by decide : ((0 : Int32)).toInt = 0); have := ti_add2 (Eq.refl x57_2.toInt) (by decide : ((1 : Int32)).toInt = 1) (by omega) (by omega); have := ti_mul2 (by decide : ((10 : Int32)).toInt = 10) (Eq.refl (w.1 8 0).toInt) (by omega) (by omega); omega) (by have := bd_8_0 hI; have := (by decide : ((0 : Int32)).toInt = 0); have := ti_add2 (Eq.refl x57_2.toInt) (by decide : ((1 : Int32)).toInt = 1) (by omega) (by omega); have := ti_mul2 (by decide : ((10 : Int32)).toInt = 10) (Eq.refl (w.1 8 0).toInt) (by omega) (by omega); omega))
      · refine ⟨fun h4484 => ?_, fun h4484 => ?_⟩
        · refine Eq.mpr (q_Sf_isSafe_103.eq_1 _ _ _ _ _ _) ?_
          have o4485 : ((-1) ≤ (x57_2 / (10 : Int32)).toInt) ∧ ((x57_2 / (10 : Int32)).toInt ≤ 19) ∧ (0 ≤ r4478.toInt) ∧ (r4478.toInt ≤ 31710) := by have := bd_8_0 hI; have := (by decide : ((0 : Int32)).toInt = 0); have := nb_div (x := x57_2) (by omega) (by decide : ((10 : Int32)).toInt = 10) (by decide); have := ti_mul2 (by decide : ((10 : Int32)).toInt = 10) (Eq.refl (w.1 8 0).toInt) (by omega) (by omega); exact ⟨by omega, by omega, by omega, by omega⟩
          refine h_Sf_link hI4476 (PE_fr hL4477 rfl hf_PE) (PL_fr hL4477 rfl hf_PL) ((hL4477 7 0 rfl).2.2.trans hr_7_0) o4485.1 o4485.2.1 o4485.2.2.1 o4485.2.2.2 (fun w4486 hI4487 hL4488  => ?_)
          have hF4490 : FR l_Sf_isSafe_57 w w4486 := hF4481.tr hL4488 rfl
          refine h_Sf_meet hI4487   (fun r4494 w4491 hI4492 hL4493 p4495 p4496 => ?_)
          have hF4497 : FR l_Sf_isSafe_57 w w4491 := hF4490.tr hL4493 rfl
          refine ⟨fun h4498 => ?_, fun h4498 => ?_⟩
          · have o4499 : (0 ≤ r4478.toInt) ∧ (r4478.toInt ≤ 31710) ∧ (0 ≤ (x57_2 + (1 : Int32)).toInt) ∧ ((x57_2 + (1 : Int32)).toInt ≤ 200) := by have := bd_8_0 hI; have := (by decide : ((0 : Int32)).toInt = 0); have := ti_add2 (Eq.refl x57_2.toInt) (by decide : ((1 : Int32)).toInt = 1) (by omega) (by omega); have := ti_mul2 (by decide : ((10 : Int32)).toInt = 10) (Eq.refl (w.1 8 0).toInt) (by omega) (by omega); exact ⟨by omega, by omega, by omega, by omega⟩
            exact ih _ _ w4491 hI4492 (PE_fr hL4493 rfl (PE_fr hL4488 rfl (PE_fr hL4477 rfl hf_PE))) (PL_fr hL4493 rfl (PL_fr hL4488 rfl (PL_fr hL4477 rfl hf_PL))) ((hL4493 7 0 rfl).2.2.trans ((hL4488 7 0 rfl).2.2.trans ((hL4477 7 0 rfl).2.2.trans hr_7_0))) o4499.1 o4499.2.1 o4499.2.2.1 o4499.2.2.2 (by have := bd_8_0 hI; have := (by decide : ((0 : Int32)).toInt = 0); have := ti_add2 (Eq.refl x57_2.toInt) (by decide : ((1 : Int32)).toInt = 1) (by omega) (by omega); have := ti_mul2 (by decide : ((10 : Int32)).toInt = 10) (Eq.refl (w.1 8 0).toInt) (by omega) (by omega); omega) (fun w9 hI9 hF9 => hE w9 hI9 (hF4497.tr hF9 rfl) ) (fun r w9 hI9 hF9 q0 q1 => hQ r w9 hI9 (hF4497.tr hF9 rfl) (by have := bd_8_0 hI; have := (by decide : ((0 : Int32)).toInt = 0); have := ti_add2 (Eq.refl x57_2.toInt) (by decide : ((1 : Int32)).toInt = 1) (by omega) (by omega); have := ti_mul2 (by decide : ((10 : Int32)).toInt = 10) (Eq.refl (w.1 8 0).toInt) (by omega) (by omega); omega) (by have := bd_8_0 hI; have := (by decide : ((0 : Int32)).toInt = 0); have := ti_add2 (Eq.refl x57_2.toInt) (by decide : ((1 : Int32)).toInt = 1) (by omega) (by omega); have := ti_mul2 (by decide : ((10 : Int32)).toInt = 10) (Eq.refl (w.1 8 0).toInt) (by omega) (by omega); omega))
          · have hI4500 : BND (sI w4491 42 6 ((2 : Int32) + x57_2)) := wbd_42_6 hI4492
            have o4501 : (0 ≤ (0 : Int32).toInt) ∧ ((0 : Int32).toInt ≤ 0) := by have := (by decide : ((0 : Int32)).toInt = 0); exact ⟨by omega, by omega⟩
            exact hQ _ _ hI4500 (FR.I hF4497 (k := 42) (j := 6) (v := ((2 : Int32) + x57_2)) rfl)  o4501.1 o4501.2
        · refine ⟨fun h4502 => ?_, fun h4502 => ?_⟩
          · have o4503 : (0 ≤ r4478.toInt) ∧ (r4478.toInt ≤ 31710) ∧ (0 ≤ (x57_2 + (1 : Int32)).toInt) ∧ ((x57_2 + (1 : Int32)).toInt ≤ 200) := by have := bd_8_0 hI; have := (by decide : ((0 : Int32)).toInt = 0); have := ti_add2 (Eq.refl x57_2.toInt) (by decide : ((1 : Int32)).toInt = 1) (by omega) (by omega); have := ti_mul2 (by decide : ((10 : Int32)).toInt = 10) (Eq.refl (w.1 8 0).toInt) (by omega) (by omega); have := nb_rem (x := x57_2) (by omega) (by decide : ((10 : Int32)).toInt = 10) (by decide); exact ⟨by omega, by omega, by omega, by omega⟩
            exact ih _ _ w4475 hI4476 (PE_fr hL4477 rfl hf_PE) (PL_fr hL4477 rfl hf_PL) ((hL4477 7 0 rfl).2.2.trans hr_7_0) o4503.1 o4503.2.1 o4503.2.2.1 o4503.2.2.2 (by have := bd_8_0 hI; have := (by decide : ((0 : Int32)).toInt = 0); have := ti_add2 (Eq.refl x57_2.toInt) (by decide : ((1 : Int32)).toInt = 1) (by omega) (by omega); have := ti_mul2 (by decide : ((10 : Int32)).toInt = 10) (Eq.refl (w.1 8 0).toInt) (by omega) (by omega); have := nb_rem (x := x57_2) (by omega) (by decide : ((10 : Int32)).toInt = 10) (by decide); omega) (fun w9 hI9 hF9 => hE w9 hI9 (hF4481.tr hF9 rfl) ) (fun r w9 hI9 hF9 q0 q1 => hQ r w9 hI9 (hF4481.tr hF9 rfl) (by have := bd_8_0 hI; have := (by decide : ((0 : Int32)).toInt = 0); have := ti_add2 (Eq.refl x57_2.toInt) (by decide : ((1 : Int32)).toInt = 1) (by omega) (by omega); have := ti_mul2 (by decide : ((10 : Int32)).toInt = 10) (Eq.refl (w.1 8 0).toInt) (by omega) (by omega); have := nb_rem (x := x57_2) (by omega) (by decide : ((10 : Int32)).toInt = 10) (by decide); omega) (by have := bd_8_0 hI; have := (by decide : ((0 : Int32)).toInt = 0); have := ti_add2 (Eq.refl x57_2.toInt) (by decide : ((1 : Int32)).toInt = 1) (by omega) (by omega); have := ti_mul2 (by decide : ((10 : Int32)).toInt = 10) (Eq.refl (w.1 8 0).toInt) (by omega) (by omega); have := nb_rem (x := x57_2) (by omega) (by decide : ((10 : Int32)).toInt = 10) (by decide); omega))
          · refine Eq.mpr (q_Sf_isSafe_103.eq_1 _ _ _ _ _ _) ?_
            have o4504 : ((-1) ≤ (x57_2 / (10 : Int32)).toInt) ∧ ((x57_2 / (10 : Int32)).toInt ≤ 19) ∧ (0 ≤ r4478.toInt) ∧ (r4478.toInt ≤ 31710) := by have := bd_8_0 hI; have := (by decide : ((0 : Int32)).toInt = 0); have := nb_div (x := x57_2) (by omega) (by decide : ((10 : Int32)).toInt = 10) (by decide); have := ti_mul2 (by decide : ((10 : Int32)).toInt = 10) (Eq.refl (w.1 8 0).toInt) (by omega) (by omega); have := nb_rem (x := x57_2) (by omega) (by decide : ((10 : Int32)).toInt = 10) (by decide); exact ⟨by omega, by omega, by omega, by omega⟩
            refine h_Sf_link hI4476 (PE_fr hL4477 rfl hf_PE) (PL_fr hL4477 rfl hf_PL) ((hL4477 7 0 rfl).2.2.trans hr_7_0) o4504.1 o4504.2.1 o4504.2.2.1 o4504.2.2.2 (fun w4505 hI4506 hL4507  => ?_)
            have hF4509 : FR l_Sf_isSafe_57 w w4505 := hF4481.tr hL4507 rfl
            refine h_Sf_meet hI4506   (fun r4513 w4510 hI4511 hL4512 p4514 p4515 => ?_)
            have hF4516 : FR l_Sf_isSafe_57 w w4510 := hF4509.tr hL4512 rfl
            refine ⟨fun h4517 => ?_, fun h4517 => ?_⟩
            · have o4518 : (0 ≤ r4478.toInt) ∧ (r4478.toInt ≤ 31710) ∧ (0 ≤ (x57_2 + (1 : Int32)).toInt) ∧ ((x57_2 + (1 : Int32)).toInt ≤ 200) := by have := bd_8_0 hI; have := (by decide : ((0 : Int32)).toInt = 0); have := ti_add2 (Eq.refl x57_2.toInt) (by decide : ((1 : Int32)).toInt = 1) (by omega) (by omega); have := ti_mul2 (by decide : ((10 : Int32)).toInt = 10) (Eq.refl (w.1 8 0).toInt) (by omega) (by omega); have := nb_rem (x := x57_2) (by omega) (by decide : ((10 : Int32)).toInt = 10) (by decide); exact ⟨by omega, by omega, by omega, by omega⟩
              exact ih _ _ w4510 hI4511 (PE_fr hL4512 rfl (PE_fr hL4507 rfl (PE_fr hL4477 rfl hf_PE))) (PL_fr hL4512 rfl (PL_fr hL4507 rfl (PL_fr hL4477 rfl hf_PL))) ((hL4512 7 0 rfl).2.2.trans ((hL4507 7 0 rfl).2.2.trans ((hL4477 7 0 rfl).2.2.trans hr_7_0))) o4518.1 o4518.2.1 o4518.2.2.1 o4518.2.2.2 (by have := bd_8_0 hI; have := (by decide : ((0 : Int32)).toInt = 0); have := ti_add2 (Eq.refl x57_2.toInt) (by decide : ((1 : Int32)).toInt = 1) (by omega) (by omega); have := ti_mul2 (by decide : ((10 : Int32)).toInt = 10) (Eq.refl (w.1 8 0).toInt) (by omega) (by omega); have := nb_rem (x := x57_2) (by omega) (by decide : ((10 : Int32)).toInt = 10) (by decide); omega) (fun w9 hI9 hF9 => hE w9 hI9 (hF4516.tr hF9 rfl) ) (fun r w9 hI9 hF9 q0 q1 => hQ r w9 hI9 (hF4516.tr hF9 rfl) (by have := bd_8_0 hI; have := (by decide : ((0 : Int32)).toInt = 0); have := ti_add2 (Eq.refl x57_2.toInt) (by decide : ((1 : Int32)).toInt = 1) (by omega) (by omega); have := ti_mul2 (by decide : ((10 : Int32)).toInt = 10) (Eq.refl (w.1 8 0).toInt) (by omega) (by omega); have := nb_rem (x := x57_2) (by omega) (by decide : ((10 : Int32)).toInt = 10) (by decide); omega) (by have := bd_8_0 hI; have := (by decide : ((0 : Int32)).toInt = 0); have := ti_add2 (Eq.refl x57_2.toInt) (by decide : ((1 : Int32)).toInt = 1) (by omega) (by omega); have := ti_mul2 (by decide : ((10 : Int32)).toInt = 10) (Eq.refl (w.1 8 0).toInt) (by omega) (by omega); have := nb_rem (x := x57_2) (by omega) (by decide : ((10 : Int32)).toInt = 10) (by decide); omega))
            · have hI4519 : BND (sI w4510 42 6 ((2 : Int32) + x57_2)) := wbd_42_6 hI4511
              have o4520 : (0 ≤ (0 : Int32).toInt) ∧ ((0 : Int32).toInt ≤ 0) := by have := (by decide : ((0 : Int32)).toInt = 0); exact ⟨by omega, by omega⟩
              exact hQ _ _ hI4519 (FR.I hF4516 (k := 42) (j := 6) (v := ((2 : Int32) + x57_2)) rfl)  o4520.1 o4520.2
set_option maxRecDepth 20000 in
set_option maxHeartbeats 2000000 in
theorem h_Sf_isSafe {w : MW} {Q : Int32 → MW → Prop} (hI : BND w) (hf_PE : PE w) (hf_PL : PL w) (hr_7_0 : w.2.2 7 0 = some 8)  (hQ : ∀ (r : Int32) (w' : MW), BND w' → FR l_Sf_isSafe w w' → 0 ≤ r.toInt → r.toInt ≤ 1 → Q r w') : p_Sf_isSafe w Q := by
  refine Eq.mpr (p_Sf_isSafe.eq_1 _ _) ?_
  have hI4521 : BND (sI w 42 6 0) := wbd_42_6 hI
  have o4522 : (0 ≤ (0 : Int64).toInt) ∧ ((0 : Int64).toInt ≤ 0) := by have := (by decide : ((0 : Int64)).toInt = 0); exact ⟨by omega, by omega⟩
  refine h_Ar_fill1_43 hI4521  o4522.1 o4522.2 (fun w4523 hI4524 hL4525  => ?_)
  have hF4527 : FR l_Sf_isSafe w w4523 := (FR.I (FR.refl _ w) (k := 42) (j := 6) (v := 0) rfl).tr hL4525 rfl
  refine h_Wa_addSources_43 hI4524 ((hL4525 7 0 rfl).2.2.trans hr_7_0)  (fun w4528 hI4529 hL4530  => ?_)
  have hF4532 : FR l_Sf_isSafe w w4528 := hF4527.tr hL4530 rfl
  refine h_Sf_findRivals hI4529 ((hL4530 7 0 rfl).2.2.trans ((hL4525 7 0 rfl).2.2.trans hr_7_0))  (fun r4536 w4533 hI4534 hL4535 p4537 p4538 => ?_)
  have hF4539 : FR l_Sf_isSafe w w4533 := hF4532.tr hL4535 rfl
  refine ⟨fun h4540 => ?_, fun h4540 => ?_⟩
  · have o4541 : ((-1) ≤ ((-1) : Int32).toInt) ∧ (((-1) : Int32).toInt ≤ 19) ∧ (0 ≤ (0 : Int32).toInt) ∧ ((0 : Int32).toInt ≤ 31710) := by have := (by decide : (((-1) : Int32)).toInt = (-1)); have := (by decide : ((0 : Int32)).toInt = 0); exact ⟨by omega, by omega, by omega, by omega⟩
    refine h_Sf_link hI4534 (PE_fr hL4535 rfl (PE_fr hL4530 rfl (PE_fr hL4525 rfl (PE_fr (l := [(42, some 6)]) (FR.I (FR.refl _ w) (k := 42) (j := 6) (v := 0) rfl) rfl hf_PE)))) (PL_fr hL4535 rfl (PL_fr hL4530 rfl (PL_fr hL4525 rfl (PL_fr (l := [(42, some 6)]) (FR.I (FR.refl _ w) (k := 42) (j := 6) (v := 0) rfl) rfl hf_PL)))) ((hL4535 7 0 rfl).2.2.trans ((hL4530 7 0 rfl).2.2.trans ((hL4525 7 0 rfl).2.2.trans hr_7_0))) o4541.1 o4541.2.1 o4541.2.2.1 o4541.2.2.2 (fun w4542 hI4543 hL4544  => ?_)
    have hF4546 : FR l_Sf_isSafe w w4542 := hF4539.tr hL4544 rfl
    refine h_Sf_meet hI4543   (fun r4550 w4547 hI4548 hL4549 p4551 p4552 => ?_)
    have hF4553 : FR l_Sf_isSafe w w4547 := hF4546.tr hL4549 rfl
    refine ⟨fun h4554 => ?_, fun h4554 => ?_⟩
    · have o4555 : (0 ≤ (0 : Int32).toInt) ∧ ((0 : Int32).toInt ≤ 31710) ∧ (0 ≤ (0 : Int32).toInt) ∧ ((0 : Int32).toInt ≤ 200) := by have := (by decide : ((0 : Int32)).toInt = 0); exact ⟨by omega, by omega, by omega, by omega⟩
      refine hq_Sf_isSafe_57 FU _ _ w4547 hI4548 (PE_fr hL4549 rfl (PE_fr hL4544 rfl (PE_fr hL4535 rfl (PE_fr hL4530 rfl (PE_fr hL4525 rfl (PE_fr (l := [(42, some 6)]) (FR.I (FR.refl _ w) (k := 42) (j := 6) (v := 0) rfl) rfl hf_PE)))))) (PL_fr hL4549 rfl (PL_fr hL4544 rfl (PL_fr hL4535 rfl (PL_fr hL4530 rfl (PL_fr hL4525 rfl (PL_fr (l := [(42, some 6)]) (FR.I (FR.refl _ w) (k := 42) (j := 6) (v := 0) rfl) rfl hf_PL)))))) ((hL4549 7 0 rfl).2.2.trans ((hL4544 7 0 rfl).2.2.trans ((hL4535 7 0 rfl).2.2.trans ((hL4530 7 0 rfl).2.2.trans ((hL4525 7 0 rfl).2.2.trans hr_7_0))))) o4555.1 o4555.2.1 o4555.2.2.1 o4555.2.2.2 (fu_lt (by have := (by decide : ((0 : Int32)).toInt = 0); omega)) (fun w4556 hI4557 hL4558  => ?_) (fun r w9 hI9 hF9 q0 q1 => hQ r w9 hI9 ((hF4553).tr hF9 rfl) (by have := (by decide : ((0 : Int32)).toInt = 0); omega) (by have := (by decide : ((0 : Int32)).toInt = 0); omega))
      have hF4559 : FR l_Sf_isSafe w w4556 := hF4553.tr hL4558 rfl
      have o4560 : (0 ≤ (1 : Int32).toInt) ∧ ((1 : Int32).toInt ≤ 1) := by have := (by decide : ((1 : Int32)).toInt = 1); exact ⟨by omega, by omega⟩
      exact hQ _ _ hI4557 hF4559  o4560.1 o4560.2
    · have hI4561 : BND (sI w4547 42 6 1) := wbd_42_6 hI4548
      have o4562 : (0 ≤ (0 : Int32).toInt) ∧ ((0 : Int32).toInt ≤ 1) := by have := (by decide : ((0 : Int32)).toInt = 0); exact ⟨by omega, by omega⟩
      exact hQ _ _ hI4561 (FR.I hF4553 (k := 42) (j := 6) (v := 1) rfl)  o4562.1 o4562.2
  · have o4563 : (0 ≤ (1 : Int32).toInt) ∧ ((1 : Int32).toInt ≤ 1) := by have := (by decide : ((1 : Int32)).toInt = 1); exact ⟨by omega, by omega⟩
    exact hQ _ _ hI4534 hF4539  o4563.1 o4563.2
def l_St_forgetCleanings_2 : Pl := [(23, none)]
def l_St_forgetCleanings : Pl := [(23, none)]
set_option maxRecDepth 20000 in
set_option maxHeartbeats 2000000 in
theorem hq_St_forgetCleanings_2 {x2_1 : Int32} {E : MW → Prop} {Q : MW → Prop} (n : Nat) : ∀ (x2_2 : Int32) (w : MW), BND w → 0 ≤ x2_1.toInt → x2_1.toInt ≤ 43 → 1 ≤ x2_2.toInt → x2_2.toInt ≤ 6 → (6 - x2_2.toInt).toNat < n → (∀ (w' : MW), BND w' → FR l_St_forgetCleanings_2 w w' → E w') → (∀ (w' : MW), BND w' → FR l_St_forgetCleanings_2 w w' → False → Q w') → q_St_forgetCleanings_2 x2_1 E Q n x2_2 w := by
  induction n with
  | zero => intros; omega
  | succ n ih =>
    intro x2_2 w hI  hp0 hp1 hp2 hp3 hm hE hQ
    rw [q_St_forgetCleanings_2.eq_2]
    refine ⟨fun h4564 => ?_, fun h4564 => ?_⟩
    · exact hE _ hI (FR.refl _ w)
    · have o4565 : 0 ≤ ((x2_1 * (6 : Int32)) + x2_2).toInt ∧ ((x2_1 * (6 : Int32)) + x2_2).toInt < 264 := by have := (by decide : ((5 : Int32)).toInt = 5); have := ti_mul2 (Eq.refl x2_1.toInt) (by decide : ((6 : Int32)).toInt = 6) (by omega) (by omega); have := ti_add2 (Eq.refl (x2_1 * (6 : Int32)).toInt) (Eq.refl x2_2.toInt) (by omega) (by omega); omega
      refine ⟨o4565, ?_⟩
      have hI4566 : BND (sI w 23 (((x2_1 * (6 : Int32)) + x2_2).toInt.toNat) (-1)) := wbd_23 hI (((x2_1 * (6 : Int32)) + x2_2).toInt.toNat)
      have o4567 : (0 ≤ x2_1.toInt) ∧ (x2_1.toInt ≤ 43) ∧ (1 ≤ (x2_2 + (1 : Int32)).toInt) ∧ ((x2_2 + (1 : Int32)).toInt ≤ 6) := by have := (by decide : ((5 : Int32)).toInt = 5); have := ti_add2 (Eq.refl x2_2.toInt) (by decide : ((1 : Int32)).toInt = 1) (by omega) (by omega); exact ⟨by omega, by omega, by omega, by omega⟩
      exact ih _ (sI w 23 (((x2_1 * (6 : Int32)) + x2_2).toInt.toNat) (-1)) hI4566  o4567.1 o4567.2.1 o4567.2.2.1 o4567.2.2.2 (by have := (by decide : ((5 : Int32)).toInt = 5); have := ti_add2 (Eq.refl x2_2.toInt) (by decide : ((1 : Int32)).toInt = 1) (by omega) (by omega); omega) (fun w9 hI9 hF9 => hE w9 hI9 ((FR.I (FR.refl _ w) (k := 23) (j := ((x2_1 * (6 : Int32)) + x2_2).toInt.toNat) (v := (-1)) rfl).tr hF9 rfl) ) (fun w9 hI9 hF9 q0 => q0.elim)
set_option maxRecDepth 20000 in
set_option maxHeartbeats 2000000 in
theorem h_St_forgetCleanings {w : MW} {a0 : Int32} {Q : MW → Prop} (hI : BND w) (hp0 : 0 ≤ a0.toInt) (hp1 : a0.toInt ≤ 43) (hQ : ∀ (w' : MW), BND w' → FR l_St_forgetCleanings w w' → Q w') : p_St_forgetCleanings w a0 Q := by
  refine Eq.mpr (p_St_forgetCleanings.eq_1 _ _ _) ?_
  have o4568 : (0 ≤ a0.toInt) ∧ (a0.toInt ≤ 43) ∧ (1 ≤ (1 : Int32).toInt) ∧ ((1 : Int32).toInt ≤ 6) := by have := (by decide : ((1 : Int32)).toInt = 1); exact ⟨by omega, by omega, by omega, by omega⟩
  refine hq_St_forgetCleanings_2 FU _ w hI  o4568.1 o4568.2.1 o4568.2.2.1 o4568.2.2.2 (fu_lt (by have := (by decide : ((1 : Int32)).toInt = 1); omega)) (fun w4569 hI4570 hL4571  => ?_) (fun w9 hI9 hF9 q0 => q0.elim)
  have hF4572 : FR l_St_forgetCleanings w w4569 := (FR.refl _ w).tr hL4571 rfl
  exact hQ _ hI4570 hF4572 
def l_St_arrive_14 : Pl := [(17, none), (18, none)]
def l_St_arrive : Pl := [(17, none), (18, none), (23, none)]
set_option maxRecDepth 20000 in
set_option maxHeartbeats 2000000 in
theorem h_St_arrive {w : MW} {a0 : Int32} {b0 : Int32} {c0 : Int32} {Q : MW → Prop} (hI : BND w) (hp0 : 0 ≤ a0.toInt) (hp1 : a0.toInt ≤ 43) (hp2 : 0 ≤ b0.toInt) (hp3 : b0.toInt ≤ 14) (hp4 : 1 ≤ c0.toInt) (hp5 : c0.toInt ≤ 100000) (hQ : ∀ (w' : MW), BND w' → FR l_St_arrive w w' → Q w') : p_St_arrive w a0 b0 c0 Q := by
  refine Eq.mpr (p_St_arrive.eq_1 _ _ _ _ _) ?_
  have o4573 : 0 ≤ a0.toInt ∧ a0.toInt < 44 := by omega
  refine ⟨o4573, ?_⟩
  refine ⟨fun h4574 => ?_, fun h4574 => ?_⟩
  · refine Eq.mpr (q_St_arrive_14.eq_1 _ _ _ _ _) ?_
    have o4575 : 0 ≤ a0.toInt ∧ a0.toInt < 44 := by omega
    refine ⟨o4575, ?_⟩
    have o4576 : 0 ≤ a0.toInt ∧ a0.toInt < 44 := by omega
    refine ⟨o4576, ?_⟩
    have o4577 : 0 ≤ a0.toInt ∧ a0.toInt < 44 := by omega
    refine ⟨o4577, ?_⟩
    have o4579 : 0 ≤ b0.toInt ∧ b0.toInt ≤ 14 := by omega
    have hI4578 : BND (sI w 17 a0.toInt.toNat b0) := wbd_17 hI a0.toInt.toNat o4579.1 o4579.2
    have hI4580 : BND (sI (sI w 17 a0.toInt.toNat b0) 18 a0.toInt.toNat ((w.1 18 a0.toInt.toNat) + c0)) := wbd_18 hI4578 a0.toInt.toNat
    exact hQ _ hI4580 (FR.I (FR.I (FR.refl _ w) (k := 17) (j := a0.toInt.toNat) (v := b0) rfl) (k := 18) (j := a0.toInt.toNat) (v := ((w.1 18 a0.toInt.toNat) + c0)) rfl) 
  · have o4581 : (0 ≤ a0.toInt) ∧ (a0.toInt ≤ 43) := by exact ⟨by omega, by omega⟩
    refine h_St_forgetCleanings hI  o4581.1 o4581.2 (fun w4582 hI4583 hL4584  => ?_)
    have hF4586 : FR l_St_arrive w w4582 := (FR.refl _ w).tr hL4584 rfl
    refine Eq.mpr (q_St_arrive_14.eq_1 _ _ _ _ _) ?_
    have o4587 : 0 ≤ a0.toInt ∧ a0.toInt < 44 := by omega
    refine ⟨o4587, ?_⟩
    have o4588 : 0 ≤ a0.toInt ∧ a0.toInt < 44 := by omega
    refine ⟨o4588, ?_⟩
    have o4589 : 0 ≤ a0.toInt ∧ a0.toInt < 44 := by omega
    refine ⟨o4589, ?_⟩
    have o4591 : 0 ≤ b0.toInt ∧ b0.toInt ≤ 14 := by omega
    have hI4590 : BND (sI w4582 17 a0.toInt.toNat b0) := wbd_17 hI4583 a0.toInt.toNat o4591.1 o4591.2
    have hI4592 : BND (sI (sI w4582 17 a0.toInt.toNat b0) 18 a0.toInt.toNat ((w4582.1 18 a0.toInt.toNat) + c0)) := wbd_18 hI4590 a0.toInt.toNat
    exact hQ _ hI4592 (FR.I (FR.I hF4586 (k := 17) (j := a0.toInt.toNat) (v := b0) rfl) (k := 18) (j := a0.toInt.toNat) (v := ((w4582.1 18 a0.toInt.toNat) + c0)) rfl) 
def l_Bh_may : Pl := [(22, none)]
set_option maxRecDepth 20000 in
set_option maxHeartbeats 2000000 in
theorem h_Bh_may {w : MW} {a0 : Int32} {b0 : Int32} {Q : Int32 → MW → Prop} (hI : BND w)  (hQ : ∀ (r : Int32) (w' : MW), BND w' → FR l_Bh_may w w' → 0 ≤ r.toInt → r.toInt ≤ 1 → Q r w') : p_Bh_may w a0 b0 Q := by
  refine Eq.mpr (p_Bh_may.eq_1 _ _ _ _) ?_
  refine Eq.mpr (p_Bh_isLiquid.eq_1 _ _ _) ?_
  refine ⟨fun h4593 => ?_, fun h4593 => ?_⟩
  · refine ⟨fun _ => ?_, fun h => absurd (by decide) h⟩
    have o4594 : (0 ≤ (0 : Int32).toInt) ∧ ((0 : Int32).toInt ≤ 1) := by have := (by decide : ((0 : Int32)).toInt = 0); exact ⟨by omega, by omega⟩
    exact hQ _ _ hI (FR.refl _ w)  o4594.1 o4594.2
  · refine ⟨fun h4595 => ?_, fun h4595 => ?_⟩
    · refine ⟨fun _ => ?_, fun h => absurd (by decide) h⟩
      have o4596 : (0 ≤ (0 : Int32).toInt) ∧ ((0 : Int32).toInt ≤ 1) := by have := (by decide : ((0 : Int32)).toInt = 0); exact ⟨by omega, by omega⟩
      exact hQ _ _ hI (FR.refl _ w)  o4596.1 o4596.2
    · refine ⟨fun h => absurd h (by decide), fun _ => ?_⟩
      refine Eq.mpr (p_Bh_isLiquid.eq_1 _ _ _) ?_
      refine ⟨fun h4597 => ?_, fun h4597 => ?_⟩
      · refine ⟨fun _ => ?_, fun h => absurd (by decide) h⟩
        have o4598 : (0 ≤ (0 : Int32).toInt) ∧ ((0 : Int32).toInt ≤ 1) := by have := (by decide : ((0 : Int32)).toInt = 0); exact ⟨by omega, by omega⟩
        exact hQ _ _ hI (FR.refl _ w)  o4598.1 o4598.2
      · refine ⟨fun h4599 => ?_, fun h4599 => ?_⟩
        · refine ⟨fun _ => ?_, fun h => absurd (by decide) h⟩
          have o4600 : (0 ≤ (0 : Int32).toInt) ∧ ((0 : Int32).toInt ≤ 1) := by have := (by decide : ((0 : Int32)).toInt = 0); exact ⟨by omega, by omega⟩
          exact hQ _ _ hI (FR.refl _ w)  o4600.1 o4600.2
        · refine ⟨fun h => absurd h (by decide), fun _ => ?_⟩
          refine ⟨fun h4601 => ?_, fun h4601 => ?_⟩
          · have o4602 : (0 ≤ (0 : Int32).toInt) ∧ ((0 : Int32).toInt ≤ 1) := by have := (by decide : ((0 : Int32)).toInt = 0); exact ⟨by omega, by omega⟩
            exact hQ _ _ hI (FR.refl _ w)  o4602.1 o4602.2
          · refine Eq.mpr (p_St_mayMeet.eq_1 _ _ _ _) ?_
            have o4603 : 0 ≤ a0.toInt ∧ a0.toInt < 15 := by have := (by decide : ((1 : Int32)).toInt = 1); have := (by decide : ((14 : Int32)).toInt = 14); omega
            refine ⟨o4603, ?_⟩
            refine ⟨fun h4604 => ?_, fun h4604 => ?_⟩
            · refine ⟨fun _ => ?_, fun h => absurd (by decide) h⟩
              have o4605 : 0 ≤ a0.toInt ∧ a0.toInt < 15 := by have := (by decide : ((1 : Int32)).toInt = 1); have := (by decide : ((14 : Int32)).toInt = 14); have := ti_lo (((w.1 22 a0.toInt.toNat) >>> (b0 &&& 31)) &&& (1 : Int32)); have := ti_hi (((w.1 22 a0.toInt.toNat) >>> (b0 &&& 31)) &&& (1 : Int32)); have := nb_and ((w.1 22 a0.toInt.toNat) >>> (b0 &&& 31)) (1 : Int32) 1 rfl (by decide); have := (by decide : ((0 : Int32)).toInt = 0); omega
              refine ⟨o4605, ?_⟩
              have o4606 : 0 ≤ a0.toInt ∧ a0.toInt < 15 := by have := (by decide : ((1 : Int32)).toInt = 1); have := (by decide : ((14 : Int32)).toInt = 14); have := ti_lo (((w.1 22 a0.toInt.toNat) >>> (b0 &&& 31)) &&& (1 : Int32)); have := ti_hi (((w.1 22 a0.toInt.toNat) >>> (b0 &&& 31)) &&& (1 : Int32)); have := nb_and ((w.1 22 a0.toInt.toNat) >>> (b0 &&& 31)) (1 : Int32) 1 rfl (by decide); have := (by decide : ((0 : Int32)).toInt = 0); omega
              refine ⟨o4606, ?_⟩
              have o4607 : 0 ≤ b0.toInt ∧ b0.toInt < 15 := by have := (by decide : ((1 : Int32)).toInt = 1); have := (by decide : ((14 : Int32)).toInt = 14); have := ti_lo (((w.1 22 a0.toInt.toNat) >>> (b0 &&& 31)) &&& (1 : Int32)); have := ti_hi (((w.1 22 a0.toInt.toNat) >>> (b0 &&& 31)) &&& (1 : Int32)); have := nb_and ((w.1 22 a0.toInt.toNat) >>> (b0 &&& 31)) (1 : Int32) 1 rfl (by decide); have := (by decide : ((0 : Int32)).toInt = 0); omega
              refine ⟨o4607, ?_⟩
              have o4608 : 0 ≤ b0.toInt ∧ b0.toInt < 15 := by have := (by decide : ((1 : Int32)).toInt = 1); have := (by decide : ((14 : Int32)).toInt = 14); have := ti_lo (((w.1 22 a0.toInt.toNat) >>> (b0 &&& 31)) &&& (1 : Int32)); have := ti_hi (((w.1 22 a0.toInt.toNat) >>> (b0 &&& 31)) &&& (1 : Int32)); have := nb_and ((w.1 22 a0.toInt.toNat) >>> (b0 &&& 31)) (1 : Int32) 1 rfl (by decide); have := (by decide : ((0 : Int32)).toInt = 0); omega
              refine ⟨o4608, ?_⟩
              have hI4609 : BND (sI w 22 a0.toInt.toNat ((w.1 22 a0.toInt.toNat) ||| ((1 : Int32) <<< (b0 &&& 31)))) := wbd_22 hI a0.toInt.toNat
              have hI4610 : BND (sI (sI w 22 a0.toInt.toNat ((w.1 22 a0.toInt.toNat) ||| ((1 : Int32) <<< (b0 &&& 31)))) 22 b0.toInt.toNat (((sI w 22 a0.toInt.toNat ((w.1 22 a0.toInt.toNat) ||| ((1 : Int32) <<< (b0 &&& 31)))).1 22 b0.toInt.toNat) ||| ((1 : Int32) <<< (a0 &&& 31)))) := wbd_22 hI4609 b0.toInt.toNat
              have o4611 : (0 ≤ (1 : Int32).toInt) ∧ ((1 : Int32).toInt ≤ 1) := by have := (by decide : ((1 : Int32)).toInt = 1); exact ⟨by omega, by omega⟩
              exact hQ _ _ hI4610 (FR.I (FR.I (FR.refl _ w) (k := 22) (j := a0.toInt.toNat) (v := ((w.1 22 a0.toInt.toNat) ||| ((1 : Int32) <<< (b0 &&& 31)))) rfl) (k := 22) (j := b0.toInt.toNat) (v := (((sI w 22 a0.toInt.toNat ((w.1 22 a0.toInt.toNat) ||| ((1 : Int32) <<< (b0 &&& 31)))).1 22 b0.toInt.toNat) ||| ((1 : Int32) <<< (a0 &&& 31)))) rfl)  o4611.1 o4611.2
            · refine ⟨fun h => absurd h (by decide), fun _ => ?_⟩
              have o4612 : (0 ≤ (0 : Int32).toInt) ∧ ((0 : Int32).toInt ≤ 1) := by have := (by decide : ((0 : Int32)).toInt = 0); exact ⟨by omega, by omega⟩
              exact hQ _ _ hI (FR.refl _ w)  o4612.1 o4612.2
def l_Bh_need : Pl := [(24, none)]
set_option maxRecDepth 20000 in
set_option maxHeartbeats 2000000 in
theorem h_Bh_need {w : MW} {a0 : Int32} {b0 : Int32} {c0 : Int32} {Q : Int32 → MW → Prop} (hI : BND w)  (hQ : ∀ (r : Int32) (w' : MW), BND w' → FR l_Bh_need w w' → 0 ≤ r.toInt → r.toInt ≤ 1 → Q r w') : p_Bh_need w a0 b0 c0 Q := by
  refine Eq.mpr (p_Bh_need.eq_1 _ _ _ _ _) ?_
  refine Eq.mpr (p_Bh_isLiquid.eq_1 _ _ _) ?_
  refine ⟨fun h4613 => ?_, fun h4613 => ?_⟩
  · refine ⟨fun _ => ?_, fun h => absurd (by decide) h⟩
    have o4614 : (0 ≤ (0 : Int32).toInt) ∧ ((0 : Int32).toInt ≤ 1) := by have := (by decide : ((0 : Int32)).toInt = 0); exact ⟨by omega, by omega⟩
    exact hQ _ _ hI (FR.refl _ w)  o4614.1 o4614.2
  · refine ⟨fun h4615 => ?_, fun h4615 => ?_⟩
    · refine ⟨fun _ => ?_, fun h => absurd (by decide) h⟩
      have o4616 : (0 ≤ (0 : Int32).toInt) ∧ ((0 : Int32).toInt ≤ 1) := by have := (by decide : ((0 : Int32)).toInt = 0); exact ⟨by omega, by omega⟩
      exact hQ _ _ hI (FR.refl _ w)  o4616.1 o4616.2
    · refine ⟨fun h => absurd h (by decide), fun _ => ?_⟩
      refine Eq.mpr (p_Bh_isLiquid.eq_1 _ _ _) ?_
      refine ⟨fun h4617 => ?_, fun h4617 => ?_⟩
      · refine ⟨fun _ => ?_, fun h => absurd (by decide) h⟩
        have o4618 : (0 ≤ (0 : Int32).toInt) ∧ ((0 : Int32).toInt ≤ 1) := by have := (by decide : ((0 : Int32)).toInt = 0); exact ⟨by omega, by omega⟩
        exact hQ _ _ hI (FR.refl _ w)  o4618.1 o4618.2
      · refine ⟨fun h4619 => ?_, fun h4619 => ?_⟩
        · refine ⟨fun _ => ?_, fun h => absurd (by decide) h⟩
          have o4620 : (0 ≤ (0 : Int32).toInt) ∧ ((0 : Int32).toInt ≤ 1) := by have := (by decide : ((0 : Int32)).toInt = 0); exact ⟨by omega, by omega⟩
          exact hQ _ _ hI (FR.refl _ w)  o4620.1 o4620.2
        · refine ⟨fun h => absurd h (by decide), fun _ => ?_⟩
          refine ⟨fun h4621 => ?_, fun h4621 => ?_⟩
          · have o4622 : (0 ≤ (0 : Int32).toInt) ∧ ((0 : Int32).toInt ≤ 1) := by have := (by decide : ((0 : Int32)).toInt = 0); exact ⟨by omega, by omega⟩
            exact hQ _ _ hI (FR.refl _ w)  o4622.1 o4622.2
          · refine ⟨fun h4623 => ?_, fun h4623 => ?_⟩
            · have o4624 : 0 ≤ ((a0 * (15 : Int32)) + b0).toInt ∧ ((a0 * (15 : Int32)) + b0).toInt < 225 := by have := (by decide : ((1 : Int32)).toInt = 1); have := (by decide : ((14 : Int32)).toInt = 14); have := ti_mul2 (Eq.refl a0.toInt) (by decide : ((15 : Int32)).toInt = 15) (by omega) (by omega); have := ti_add2 (Eq.refl (a0 * (15 : Int32)).toInt) (Eq.refl b0.toInt) (by omega) (by omega); omega
              refine ⟨o4624, ?_⟩
              have o4626 : 0 ≤ c0.toInt ∧ c0.toInt ≤ 5 := by have := (by decide : ((0 : Int32)).toInt = 0); have := (by decide : ((5 : Int32)).toInt = 5); omega
              have hI4625 : BND (sI w 24 (((a0 * (15 : Int32)) + b0).toInt.toNat) c0) := wbd_24 hI (((a0 * (15 : Int32)) + b0).toInt.toNat) o4626.1 o4626.2
              have o4627 : (0 ≤ (1 : Int32).toInt) ∧ ((1 : Int32).toInt ≤ 1) := by have := (by decide : ((1 : Int32)).toInt = 1); exact ⟨by omega, by omega⟩
              exact hQ _ _ hI4625 (FR.I (FR.refl _ w) (k := 24) (j := ((a0 * (15 : Int32)) + b0).toInt.toNat) (v := c0) rfl)  o4627.1 o4627.2
            · have o4628 : (0 ≤ (0 : Int32).toInt) ∧ ((0 : Int32).toInt ≤ 1) := by have := (by decide : ((0 : Int32)).toInt = 0); exact ⟨by omega, by omega⟩
              exact hQ _ _ hI (FR.refl _ w)  o4628.1 o4628.2
def l_Bh_lasts : Pl := [(25, none)]
set_option maxRecDepth 20000 in
set_option maxHeartbeats 2000000 in
theorem h_Bh_lasts {w : MW} {a0 : Int32} {b0 : Int32} {Q : Int32 → MW → Prop} (hI : BND w)  (hQ : ∀ (r : Int32) (w' : MW), BND w' → FR l_Bh_lasts w w' → 0 ≤ r.toInt → r.toInt ≤ 1 → Q r w') : p_Bh_lasts w a0 b0 Q := by
  refine Eq.mpr (p_Bh_lasts.eq_1 _ _ _ _) ?_
  refine ⟨fun h4629 => ?_, fun h4629 => ?_⟩
  · have o4630 : (0 ≤ (0 : Int32).toInt) ∧ ((0 : Int32).toInt ≤ 1) := by have := (by decide : ((0 : Int32)).toInt = 0); exact ⟨by omega, by omega⟩
    exact hQ _ _ hI (FR.refl _ w)  o4630.1 o4630.2
  · refine ⟨fun h4631 => ?_, fun h4631 => ?_⟩
    · have o4632 : (0 ≤ (0 : Int32).toInt) ∧ ((0 : Int32).toInt ≤ 1) := by have := (by decide : ((0 : Int32)).toInt = 0); exact ⟨by omega, by omega⟩
      exact hQ _ _ hI (FR.refl _ w)  o4632.1 o4632.2
    · refine ⟨fun h4633 => ?_, fun h4633 => ?_⟩
      · have o4634 : (0 ≤ (0 : Int32).toInt) ∧ ((0 : Int32).toInt ≤ 1) := by have := (by decide : ((0 : Int32)).toInt = 0); exact ⟨by omega, by omega⟩
        exact hQ _ _ hI (FR.refl _ w)  o4634.1 o4634.2
      · refine ⟨fun h4635 => ?_, fun h4635 => ?_⟩
        · have o4636 : 0 ≤ a0.toInt ∧ a0.toInt < 6 := by have := (by decide : ((1 : Int32)).toInt = 1); have := (by decide : ((5 : Int32)).toInt = 5); omega
          refine ⟨o4636, ?_⟩
          have o4638 : 0 ≤ b0.toInt ∧ b0.toInt ≤ 1000000 := by have := (by decide : ((0 : Int32)).toInt = 0); have := (by decide : ((1000000 : Int32)).toInt = 1000000); omega
          have hI4637 : BND (sI w 25 a0.toInt.toNat b0) := wbd_25 hI a0.toInt.toNat o4638.1 o4638.2
          have o4639 : (0 ≤ (1 : Int32).toInt) ∧ ((1 : Int32).toInt ≤ 1) := by have := (by decide : ((1 : Int32)).toInt = 1); exact ⟨by omega, by omega⟩
          exact hQ _ _ hI4637 (FR.I (FR.refl _ w) (k := 25) (j := a0.toInt.toNat) (v := b0) rfl)  o4639.1 o4639.2
        · have o4640 : (0 ≤ (0 : Int32).toInt) ∧ ((0 : Int32).toInt ≤ 1) := by have := (by decide : ((0 : Int32)).toInt = 0); exact ⟨by omega, by omega⟩
          exact hQ _ _ hI (FR.refl _ w)  o4640.1 o4640.2
def l_Bh_sense : Pl := [(75, none), (76, none)]
set_option maxRecDepth 20000 in
set_option maxHeartbeats 2000000 in
theorem h_Bh_sense {w : MW} {a0 : Int32} {b0 : Int32} {c0 : Int32} {Q : Int32 → MW → Prop} (hI : BND w) (hr_61_3 : w.2.2 61 3 = some 62)  (hQ : ∀ (r : Int32) (w' : MW), BND w' → FR l_Bh_sense w w' → 0 ≤ r.toInt → r.toInt ≤ 1 → Q r w') : p_Bh_sense w a0 b0 c0 Q := by
  refine Eq.mpr (p_Bh_sense.eq_1 _ _ _ _ _) ?_
  refine ⟨hr_61_3, ?_⟩
  refine Eq.mpr (p_Pr_isSignal.eq_1 _ _ _) ?_
  refine ⟨fun h4641 => ?_, fun h4641 => ?_⟩
  · refine ⟨fun _ => ?_, fun h => absurd (by decide) h⟩
    have o4642 : (0 ≤ (0 : Int32).toInt) ∧ ((0 : Int32).toInt ≤ 1) := by have := (by decide : ((0 : Int32)).toInt = 0); exact ⟨by omega, by omega⟩
    exact hQ _ _ hI (FR.refl _ w)  o4642.1 o4642.2
  · refine ⟨fun h4643 => ?_, fun h4643 => ?_⟩
    · refine ⟨fun _ => ?_, fun h => absurd (by decide) h⟩
      have o4644 : (0 ≤ (0 : Int32).toInt) ∧ ((0 : Int32).toInt ≤ 1) := by have := (by decide : ((0 : Int32)).toInt = 0); exact ⟨by omega, by omega⟩
      exact hQ _ _ hI (FR.refl _ w)  o4644.1 o4644.2
    · have o4645 : 0 ≤ a0.toInt ∧ a0.toInt < 40 := by have := (by decide : ((0 : Int32)).toInt = 0); have := bd_62_10 hI; omega
      refine ⟨o4645, ?_⟩
      refine ⟨fun h4646 => ?_, fun h4646 => ?_⟩
      · refine ⟨fun _ => ?_, fun h => absurd (by decide) h⟩
        have o4647 : (0 ≤ (0 : Int32).toInt) ∧ ((0 : Int32).toInt ≤ 1) := by have := (by decide : ((0 : Int32)).toInt = 0); exact ⟨by omega, by omega⟩
        exact hQ _ _ hI (FR.refl _ w)  o4647.1 o4647.2
      · refine ⟨fun h => absurd h (by decide), fun _ => ?_⟩
        refine ⟨fun h4648 => ?_, fun h4648 => ?_⟩
        · have o4649 : (0 ≤ (0 : Int32).toInt) ∧ ((0 : Int32).toInt ≤ 1) := by have := (by decide : ((0 : Int32)).toInt = 0); exact ⟨by omega, by omega⟩
          exact hQ _ _ hI (FR.refl _ w)  o4649.1 o4649.2
        · refine ⟨fun h4650 => ?_, fun h4650 => ?_⟩
          · refine ⟨hr_61_3, ?_⟩
            have o4651 : 0 ≤ a0.toInt ∧ a0.toInt < 40 := by have := (by decide : ((0 : Int32)).toInt = 0); have := bd_62_10 hI; omega
            refine ⟨o4651, ?_⟩
            refine ⟨hr_61_3, ?_⟩
            have o4652 : 0 ≤ a0.toInt ∧ a0.toInt < 40 := by have := (by decide : ((0 : Int32)).toInt = 0); have := bd_62_10 hI; omega
            refine ⟨o4652, ?_⟩
            have o4654 : 0 ≤ b0.toInt ∧ b0.toInt ≤ 5 := by have := (by decide : ((0 : Int32)).toInt = 0); have := (by decide : ((5 : Int32)).toInt = 5); omega
            have hI4653 : BND (sI w 75 a0.toInt.toNat b0) := wbd_75 hI a0.toInt.toNat o4654.1 o4654.2
            have hI4655 : BND (sI (sI w 75 a0.toInt.toNat b0) 76 a0.toInt.toNat c0) := wbd_76 hI4653 a0.toInt.toNat
            have o4656 : (0 ≤ (1 : Int32).toInt) ∧ ((1 : Int32).toInt ≤ 1) := by have := (by decide : ((1 : Int32)).toInt = 1); exact ⟨by omega, by omega⟩
            exact hQ _ _ hI4655 (FR.I (FR.I (FR.refl _ w) (k := 75) (j := a0.toInt.toNat) (v := b0) rfl) (k := 76) (j := a0.toInt.toNat) (v := c0) rfl)  o4656.1 o4656.2
          · have o4657 : (0 ≤ (0 : Int32).toInt) ∧ ((0 : Int32).toInt ≤ 1) := by have := (by decide : ((0 : Int32)).toInt = 0); exact ⟨by omega, by omega⟩
            exact hQ _ _ hI (FR.refl _ w)  o4657.1 o4657.2
def l_Bh_watch : Pl := [(124, none), (125, none), (126, none)]
set_option maxRecDepth 20000 in
set_option maxHeartbeats 2000000 in
theorem h_Bh_watch {w : MW} {a0 : Int32} {b0 : Int32} {c0 : Int32} {e0 : Int64} {Q : Int32 → MW → Prop} (hI : BND w)  (hQ : ∀ (r : Int32) (w' : MW), BND w' → FR l_Bh_watch w w' → 0 ≤ r.toInt → r.toInt ≤ 1 → Q r w') : p_Bh_watch w a0 b0 c0 e0 Q := by
  refine Eq.mpr (p_Bh_watch.eq_1 _ _ _ _ _ _) ?_
  refine ⟨fun h4658 => ?_, fun h4658 => ?_⟩
  · have o4659 : (0 ≤ (0 : Int32).toInt) ∧ ((0 : Int32).toInt ≤ 1) := by have := (by decide : ((0 : Int32)).toInt = 0); exact ⟨by omega, by omega⟩
    exact hQ _ _ hI (FR.refl _ w)  o4659.1 o4659.2
  · refine ⟨fun h4660 => ?_, fun h4660 => ?_⟩
    · have o4661 : (0 ≤ (0 : Int32).toInt) ∧ ((0 : Int32).toInt ≤ 1) := by have := (by decide : ((0 : Int32)).toInt = 0); exact ⟨by omega, by omega⟩
      exact hQ _ _ hI (FR.refl _ w)  o4661.1 o4661.2
    · refine ⟨fun h4662 => ?_, fun h4662 => ?_⟩
      · have o4663 : (0 ≤ (0 : Int32).toInt) ∧ ((0 : Int32).toInt ≤ 1) := by have := (by decide : ((0 : Int32)).toInt = 0); exact ⟨by omega, by omega⟩
        exact hQ _ _ hI (FR.refl _ w)  o4663.1 o4663.2
      · refine ⟨fun h4664 => ?_, fun h4664 => ?_⟩
        · have o4665 : 0 ≤ a0.toInt ∧ a0.toInt < 16 := by have := (by decide : ((0 : Int32)).toInt = 0); have := (by decide : ((15 : Int32)).toInt = 15); omega
          refine ⟨o4665, ?_⟩
          have o4666 : 0 ≤ a0.toInt ∧ a0.toInt < 16 := by have := (by decide : ((0 : Int32)).toInt = 0); have := (by decide : ((15 : Int32)).toInt = 15); omega
          refine ⟨o4666, ?_⟩
          have o4667 : 0 ≤ a0.toInt ∧ a0.toInt < 16 := by have := (by decide : ((0 : Int32)).toInt = 0); have := (by decide : ((15 : Int32)).toInt = 15); omega
          refine ⟨o4667, ?_⟩
          have o4669 : 0 ≤ b0.toInt ∧ b0.toInt ≤ 5 := by have := (by decide : ((0 : Int32)).toInt = 0); have := (by decide : ((5 : Int32)).toInt = 5); omega
          have hI4668 : BND (sI w 126 a0.toInt.toNat b0) := wbd_126 hI a0.toInt.toNat o4669.1 o4669.2
          have hI4670 : BND (sI (sI w 126 a0.toInt.toNat b0) 124 a0.toInt.toNat c0) := wbd_124 hI4668 a0.toInt.toNat
          have o4671 : (0 ≤ (1 : Int32).toInt) ∧ ((1 : Int32).toInt ≤ 1) := by have := (by decide : ((1 : Int32)).toInt = 1); exact ⟨by omega, by omega⟩
          exact hQ _ _ (bnd_J hI4670 (k := 125) (j := a0.toInt.toNat) (v := e0)) (FR.J (FR.I (FR.I (FR.refl _ w) (k := 126) (j := a0.toInt.toNat) (v := b0) rfl) (k := 124) (j := a0.toInt.toNat) (v := c0) rfl) (k := 125) (j := a0.toInt.toNat) (v := e0) rfl)  o4671.1 o4671.2
        · have o4672 : (0 ≤ (0 : Int32).toInt) ∧ ((0 : Int32).toInt ≤ 1) := by have := (by decide : ((0 : Int32)).toInt = 0); exact ⟨by omega, by omega⟩
          exact hQ _ _ hI (FR.refl _ w)  o4672.1 o4672.2
def l_Bh_signal : Pl := [(74, none)]
set_option maxRecDepth 20000 in
set_option maxHeartbeats 2000000 in
theorem h_Bh_signal {w : MW} {a0 : Int32} {b0 : Int64} {Q : Int32 → MW → Prop} (hI : BND w) (hr_61_3 : w.2.2 61 3 = some 62)  (hQ : ∀ (r : Int32) (w' : MW), BND w' → FR l_Bh_signal w w' → 0 ≤ r.toInt → r.toInt ≤ 1 → Q r w') : p_Bh_signal w a0 b0 Q := by
  refine Eq.mpr (p_Bh_signal.eq_1 _ _ _ _) ?_
  refine ⟨hr_61_3, ?_⟩
  refine Eq.mpr (p_Pr_isSignal.eq_1 _ _ _) ?_
  refine ⟨fun h4673 => ?_, fun h4673 => ?_⟩
  · refine ⟨fun h => absurd h (by decide), fun _ => ?_⟩
    have o4674 : (0 ≤ (0 : Int32).toInt) ∧ ((0 : Int32).toInt ≤ 1) := by have := (by decide : ((0 : Int32)).toInt = 0); exact ⟨by omega, by omega⟩
    exact hQ _ _ hI (FR.refl _ w)  o4674.1 o4674.2
  · refine ⟨fun h4675 => ?_, fun h4675 => ?_⟩
    · refine ⟨fun h => absurd h (by decide), fun _ => ?_⟩
      have o4676 : (0 ≤ (0 : Int32).toInt) ∧ ((0 : Int32).toInt ≤ 1) := by have := (by decide : ((0 : Int32)).toInt = 0); exact ⟨by omega, by omega⟩
      exact hQ _ _ hI (FR.refl _ w)  o4676.1 o4676.2
    · have o4677 : 0 ≤ a0.toInt ∧ a0.toInt < 40 := by have := (by decide : ((0 : Int32)).toInt = 0); have := bd_62_10 hI; omega
      refine ⟨o4677, ?_⟩
      refine ⟨fun h4678 => ?_, fun h4678 => ?_⟩
      · refine ⟨fun h => absurd h (by decide), fun _ => ?_⟩
        have o4679 : (0 ≤ (0 : Int32).toInt) ∧ ((0 : Int32).toInt ≤ 1) := by have := (by decide : ((0 : Int32)).toInt = 0); exact ⟨by omega, by omega⟩
        exact hQ _ _ hI (FR.refl _ w)  o4679.1 o4679.2
      · refine ⟨fun _ => ?_, fun h => absurd (by decide) h⟩
        refine ⟨hr_61_3, ?_⟩
        have o4680 : 0 ≤ a0.toInt ∧ a0.toInt < 40 := by have := (by decide : ((0 : Int32)).toInt = 0); have := bd_62_10 hI; omega
        refine ⟨o4680, ?_⟩
        have o4681 : (0 ≤ (1 : Int32).toInt) ∧ ((1 : Int32).toInt ≤ 1) := by have := (by decide : ((1 : Int32)).toInt = 1); exact ⟨by omega, by omega⟩
        exact hQ _ _ (bnd_J hI (k := 74) (j := a0.toInt.toNat) (v := b0)) (FR.J (FR.refl _ w) (k := 74) (j := a0.toInt.toNat) (v := b0) rfl)  o4681.1 o4681.2
def l_Ac_tie_71 : Pl := [(57, none), (58, none), (59, none), (60, none)]
def l_Ac_tie_52 : Pl := [(57, none), (58, none), (59, none), (60, none)]
def l_Ac_tie_35 : Pl := [(57, none), (58, none), (59, none), (60, none)]
def l_Ac_tie : Pl := [(57, none), (58, none), (59, none), (60, none)]
set_option maxRecDepth 20000 in
set_option maxHeartbeats 2000000 in
theorem hq_Ac_tie_35 {y35_1 : Int32} {y35_2 : Int32} {y35_3 : Int32} {y35_4 : Int32} {y35_5 : Int32} {w : MW} {Q : Int32 → MW → Prop} (hI : BND w) (hp0 : 0 ≤ y35_1.toInt) (hp1 : y35_1.toInt ≤ 31) (hp2 : 0 ≤ y35_2.toInt) (hp3 : y35_2.toInt ≤ 4) (hQ : ∀ (r : Int32) (w' : MW), BND w' → FR l_Ac_tie_35 w w' → 0 ≤ r.toInt → r.toInt ≤ 1 → Q r w') : q_Ac_tie_35 y35_1 y35_2 y35_3 y35_4 y35_5 w Q := by
  refine Eq.mpr (q_Ac_tie_35.eq_1 _ _ _ _ _ _ _) ?_
  refine ⟨fun h4682 => ?_, fun h4682 => ?_⟩
  · refine Eq.mpr (q_Ac_tie_52.eq_1 _ _ _ _ _ _ _) ?_
    refine ⟨fun h4683 => ?_, fun h4683 => ?_⟩
    · refine Eq.mpr (q_Ac_tie_71.eq_1 _ _ _ _ _ _ _) ?_
      have o4684 : 0 ≤ y35_1.toInt ∧ y35_1.toInt < 32 := by omega
      refine ⟨o4684, ?_⟩
      have o4685 : 0 ≤ y35_1.toInt ∧ y35_1.toInt < 32 := by omega
      refine ⟨o4685, ?_⟩
      have o4686 : 0 ≤ y35_1.toInt ∧ y35_1.toInt < 32 := by omega
      refine ⟨o4686, ?_⟩
      have o4687 : 0 ≤ y35_1.toInt ∧ y35_1.toInt < 32 := by omega
      refine ⟨o4687, ?_⟩
      have o4689 : (-1) ≤ y35_2.toInt ∧ y35_2.toInt ≤ 4 := by have := (by decide : ((2 : Int32)).toInt = 2); have := (by decide : ((3 : Int32)).toInt = 3); omega
      have hI4688 : BND (sI w 60 y35_1.toInt.toNat y35_2) := wbd_60 hI y35_1.toInt.toNat o4689.1 o4689.2
      have hI4690 : BND (sI (sI w 60 y35_1.toInt.toNat y35_2) 57 y35_1.toInt.toNat y35_3) := wbd_57 hI4688 y35_1.toInt.toNat
      have hI4691 : BND (sI (sI (sI w 60 y35_1.toInt.toNat y35_2) 57 y35_1.toInt.toNat y35_3) 58 y35_1.toInt.toNat y35_4) := wbd_58 hI4690 y35_1.toInt.toNat
      have hI4692 : BND (sI (sI (sI (sI w 60 y35_1.toInt.toNat y35_2) 57 y35_1.toInt.toNat y35_3) 58 y35_1.toInt.toNat y35_4) 59 y35_1.toInt.toNat y35_5) := wbd_59 hI4691 y35_1.toInt.toNat
      have o4693 : (0 ≤ (1 : Int32).toInt) ∧ ((1 : Int32).toInt ≤ 1) := by have := (by decide : ((1 : Int32)).toInt = 1); exact ⟨by omega, by omega⟩
      exact hQ _ _ hI4692 (FR.I (FR.I (FR.I (FR.I (FR.refl _ w) (k := 60) (j := y35_1.toInt.toNat) (v := y35_2) rfl) (k := 57) (j := y35_1.toInt.toNat) (v := y35_3) rfl) (k := 58) (j := y35_1.toInt.toNat) (v := y35_4) rfl) (k := 59) (j := y35_1.toInt.toNat) (v := y35_5) rfl)  o4693.1 o4693.2
    · refine ⟨fun h4694 => ?_, fun h4694 => ?_⟩
      · have o4695 : (0 ≤ (0 : Int32).toInt) ∧ ((0 : Int32).toInt ≤ 1) := by have := (by decide : ((0 : Int32)).toInt = 0); exact ⟨by omega, by omega⟩
        exact hQ _ _ hI (FR.refl _ w)  o4695.1 o4695.2
      · refine ⟨fun h4696 => ?_, fun h4696 => ?_⟩
        · refine Eq.mpr (q_Ac_tie_71.eq_1 _ _ _ _ _ _ _) ?_
          have o4697 : 0 ≤ y35_1.toInt ∧ y35_1.toInt < 32 := by omega
          refine ⟨o4697, ?_⟩
          have o4698 : 0 ≤ y35_1.toInt ∧ y35_1.toInt < 32 := by omega
          refine ⟨o4698, ?_⟩
          have o4699 : 0 ≤ y35_1.toInt ∧ y35_1.toInt < 32 := by omega
          refine ⟨o4699, ?_⟩
          have o4700 : 0 ≤ y35_1.toInt ∧ y35_1.toInt < 32 := by omega
          refine ⟨o4700, ?_⟩
          have o4702 : (-1) ≤ y35_2.toInt ∧ y35_2.toInt ≤ 4 := by have := (by decide : ((2 : Int32)).toInt = 2); have := (by decide : ((3 : Int32)).toInt = 3); omega
          have hI4701 : BND (sI w 60 y35_1.toInt.toNat y35_2) := wbd_60 hI y35_1.toInt.toNat o4702.1 o4702.2
          have hI4703 : BND (sI (sI w 60 y35_1.toInt.toNat y35_2) 57 y35_1.toInt.toNat y35_3) := wbd_57 hI4701 y35_1.toInt.toNat
          have hI4704 : BND (sI (sI (sI w 60 y35_1.toInt.toNat y35_2) 57 y35_1.toInt.toNat y35_3) 58 y35_1.toInt.toNat y35_4) := wbd_58 hI4703 y35_1.toInt.toNat
          have hI4705 : BND (sI (sI (sI (sI w 60 y35_1.toInt.toNat y35_2) 57 y35_1.toInt.toNat y35_3) 58 y35_1.toInt.toNat y35_4) 59 y35_1.toInt.toNat y35_5) := wbd_59 hI4704 y35_1.toInt.toNat
          have o4706 : (0 ≤ (1 : Int32).toInt) ∧ ((1 : Int32).toInt ≤ 1) := by have := (by decide : ((1 : Int32)).toInt = 1); exact ⟨by omega, by omega⟩
          exact hQ _ _ hI4705 (FR.I (FR.I (FR.I (FR.I (FR.refl _ w) (k := 60) (j := y35_1.toInt.toNat) (v := y35_2) rfl) (k := 57) (j := y35_1.toInt.toNat) (v := y35_3) rfl) (k := 58) (j := y35_1.toInt.toNat) (v := y35_4) rfl) (k := 59) (j := y35_1.toInt.toNat) (v := y35_5) rfl)  o4706.1 o4706.2
        · have o4707 : (0 ≤ (0 : Int32).toInt) ∧ ((0 : Int32).toInt ≤ 1) := by have := (by decide : ((0 : Int32)).toInt = 0); exact ⟨by omega, by omega⟩
          exact hQ _ _ hI (FR.refl _ w)  o4707.1 o4707.2
  · refine ⟨fun h4708 => ?_, fun h4708 => ?_⟩
    · have o4709 : (0 ≤ (0 : Int32).toInt) ∧ ((0 : Int32).toInt ≤ 1) := by have := (by decide : ((0 : Int32)).toInt = 0); exact ⟨by omega, by omega⟩
      exact hQ _ _ hI (FR.refl _ w)  o4709.1 o4709.2
    · refine ⟨fun h4710 => ?_, fun h4710 => ?_⟩
      · have o4711 : (0 ≤ (0 : Int32).toInt) ∧ ((0 : Int32).toInt ≤ 1) := by have := (by decide : ((0 : Int32)).toInt = 0); exact ⟨by omega, by omega⟩
        exact hQ _ _ hI (FR.refl _ w)  o4711.1 o4711.2
      · refine Eq.mpr (q_Ac_tie_52.eq_1 _ _ _ _ _ _ _) ?_
        refine ⟨fun h4712 => ?_, fun h4712 => ?_⟩
        · refine Eq.mpr (q_Ac_tie_71.eq_1 _ _ _ _ _ _ _) ?_
          have o4713 : 0 ≤ y35_1.toInt ∧ y35_1.toInt < 32 := by omega
          refine ⟨o4713, ?_⟩
          have o4714 : 0 ≤ y35_1.toInt ∧ y35_1.toInt < 32 := by omega
          refine ⟨o4714, ?_⟩
          have o4715 : 0 ≤ y35_1.toInt ∧ y35_1.toInt < 32 := by omega
          refine ⟨o4715, ?_⟩
          have o4716 : 0 ≤ y35_1.toInt ∧ y35_1.toInt < 32 := by omega
          refine ⟨o4716, ?_⟩
          have o4718 : (-1) ≤ y35_2.toInt ∧ y35_2.toInt ≤ 4 := by have := (by decide : ((2 : Int32)).toInt = 2); have := (by decide : ((3 : Int32)).toInt = 3); omega
          have hI4717 : BND (sI w 60 y35_1.toInt.toNat y35_2) := wbd_60 hI y35_1.toInt.toNat o4718.1 o4718.2
          have hI4719 : BND (sI (sI w 60 y35_1.toInt.toNat y35_2) 57 y35_1.toInt.toNat y35_3) := wbd_57 hI4717 y35_1.toInt.toNat
          have hI4720 : BND (sI (sI (sI w 60 y35_1.toInt.toNat y35_2) 57 y35_1.toInt.toNat y35_3) 58 y35_1.toInt.toNat y35_4) := wbd_58 hI4719 y35_1.toInt.toNat
          have hI4721 : BND (sI (sI (sI (sI w 60 y35_1.toInt.toNat y35_2) 57 y35_1.toInt.toNat y35_3) 58 y35_1.toInt.toNat y35_4) 59 y35_1.toInt.toNat y35_5) := wbd_59 hI4720 y35_1.toInt.toNat
          have o4722 : (0 ≤ (1 : Int32).toInt) ∧ ((1 : Int32).toInt ≤ 1) := by have := (by decide : ((1 : Int32)).toInt = 1); exact ⟨by omega, by omega⟩
          exact hQ _ _ hI4721 (FR.I (FR.I (FR.I (FR.I (FR.refl _ w) (k := 60) (j := y35_1.toInt.toNat) (v := y35_2) rfl) (k := 57) (j := y35_1.toInt.toNat) (v := y35_3) rfl) (k := 58) (j := y35_1.toInt.toNat) (v := y35_4) rfl) (k := 59) (j := y35_1.toInt.toNat) (v := y35_5) rfl)  o4722.1 o4722.2
        · exfalso; have := (by decide : ((2 : Int32)).toInt = 2); have := (by decide : ((0 : Int32)).toInt = 0); have := (by decide : ((10 : Int32)).toInt = 10); have := (by decide : ((3 : Int32)).toInt = 3); omega
set_option maxRecDepth 20000 in
set_option maxHeartbeats 2000000 in
theorem h_Ac_tie {w : MW} {a0 : Int32} {b0 : Int32} {c0 : Int32} {e0 : Int32} {f0 : Int32} {Q : Int32 → MW → Prop} (hI : BND w)  (hQ : ∀ (r : Int32) (w' : MW), BND w' → FR l_Ac_tie w w' → 0 ≤ r.toInt → r.toInt ≤ 1 → Q r w') : p_Ac_tie w a0 b0 c0 e0 f0 Q := by
  refine Eq.mpr (p_Ac_tie.eq_1 _ _ _ _ _ _ _) ?_
  refine Eq.mpr (p_Ac_isAct.eq_1 _ _ _) ?_
  refine ⟨fun h4723 => ?_, fun h4723 => ?_⟩
  · refine ⟨fun _ => ?_, fun h => absurd (by decide) h⟩
    have o4724 : (0 ≤ (0 : Int32).toInt) ∧ ((0 : Int32).toInt ≤ 1) := by have := (by decide : ((0 : Int32)).toInt = 0); exact ⟨by omega, by omega⟩
    exact hQ _ _ hI (FR.refl _ w)  o4724.1 o4724.2
  · refine ⟨fun h4725 => ?_, fun h4725 => ?_⟩
    · refine ⟨fun _ => ?_, fun h => absurd (by decide) h⟩
      have o4726 : (0 ≤ (0 : Int32).toInt) ∧ ((0 : Int32).toInt ≤ 1) := by have := (by decide : ((0 : Int32)).toInt = 0); exact ⟨by omega, by omega⟩
      exact hQ _ _ hI (FR.refl _ w)  o4726.1 o4726.2
    · refine ⟨fun h => absurd h (by decide), fun _ => ?_⟩
      refine ⟨fun h4727 => ?_, fun h4727 => ?_⟩
      · have o4728 : (0 ≤ (0 : Int32).toInt) ∧ ((0 : Int32).toInt ≤ 1) := by have := (by decide : ((0 : Int32)).toInt = 0); exact ⟨by omega, by omega⟩
        exact hQ _ _ hI (FR.refl _ w)  o4728.1 o4728.2
      · refine ⟨fun h4729 => ?_, fun h4729 => ?_⟩
        · refine ⟨fun h4730 => ?_, fun h4730 => ?_⟩
          · have o4731 : (0 ≤ a0.toInt) ∧ (a0.toInt ≤ 31) ∧ (0 ≤ b0.toInt) ∧ (b0.toInt ≤ 4) := by have := ti_lo c0; have := ti_hi c0; have := ti_lo e0; have := ti_hi e0; have := ti_lo f0; have := ti_hi f0; have := (by decide : ((0 : Int32)).toInt = 0); have := (by decide : ((32 : Int32)).toInt = 32); have := (by decide : ((4 : Int32)).toInt = 4); exact ⟨by omega, by omega, by omega, by omega⟩
            exact hq_Ac_tie_35 hI  o4731.1 o4731.2.1 o4731.2.2.1 o4731.2.2.2 (fun r w9 hI9 hF9 q0 q1 => hQ r w9 hI9 ((FR.refl _ w).tr hF9 rfl) (by have := ti_lo c0; have := ti_hi c0; have := ti_lo e0; have := ti_hi e0; have := ti_lo f0; have := ti_hi f0; have := (by decide : ((0 : Int32)).toInt = 0); have := (by decide : ((32 : Int32)).toInt = 32); have := (by decide : ((4 : Int32)).toInt = 4); omega) (by have := ti_lo c0; have := ti_hi c0; have := ti_lo e0; have := ti_hi e0; have := ti_lo f0; have := ti_hi f0; have := (by decide : ((0 : Int32)).toInt = 0); have := (by decide : ((32 : Int32)).toInt = 32); have := (by decide : ((4 : Int32)).toInt = 4); omega))
          · refine ⟨fun h4732 => ?_, fun h4732 => ?_⟩
            · have o4733 : (0 ≤ (0 : Int32).toInt) ∧ ((0 : Int32).toInt ≤ 1) := by have := (by decide : ((0 : Int32)).toInt = 0); exact ⟨by omega, by omega⟩
              exact hQ _ _ hI (FR.refl _ w)  o4733.1 o4733.2
            · refine ⟨fun h4734 => ?_, fun h4734 => ?_⟩
              · have o4735 : (0 ≤ (0 : Int32).toInt) ∧ ((0 : Int32).toInt ≤ 1) := by have := (by decide : ((0 : Int32)).toInt = 0); exact ⟨by omega, by omega⟩
                exact hQ _ _ hI (FR.refl _ w)  o4735.1 o4735.2
              · have o4736 : (0 ≤ a0.toInt) ∧ (a0.toInt ≤ 31) ∧ (0 ≤ b0.toInt) ∧ (b0.toInt ≤ 4) := by have := ti_lo c0; have := ti_hi c0; have := ti_lo e0; have := ti_hi e0; have := (by decide : ((0 : Int32)).toInt = 0); have := (by decide : ((32 : Int32)).toInt = 32); have := (by decide : ((4 : Int32)).toInt = 4); have := (by decide : ((1 : Int32)).toInt = 1); have := (by decide : ((100 : Int32)).toInt = 100); exact ⟨by omega, by omega, by omega, by omega⟩
                exact hq_Ac_tie_35 hI  o4736.1 o4736.2.1 o4736.2.2.1 o4736.2.2.2 (fun r w9 hI9 hF9 q0 q1 => hQ r w9 hI9 ((FR.refl _ w).tr hF9 rfl) (by have := ti_lo c0; have := ti_hi c0; have := ti_lo e0; have := ti_hi e0; have := (by decide : ((0 : Int32)).toInt = 0); have := (by decide : ((32 : Int32)).toInt = 32); have := (by decide : ((4 : Int32)).toInt = 4); have := (by decide : ((1 : Int32)).toInt = 1); have := (by decide : ((100 : Int32)).toInt = 100); omega) (by have := ti_lo c0; have := ti_hi c0; have := ti_lo e0; have := ti_hi e0; have := (by decide : ((0 : Int32)).toInt = 0); have := (by decide : ((32 : Int32)).toInt = 32); have := (by decide : ((4 : Int32)).toInt = 4); have := (by decide : ((1 : Int32)).toInt = 1); have := (by decide : ((100 : Int32)).toInt = 100); omega))
        · have o4737 : (0 ≤ (0 : Int32).toInt) ∧ ((0 : Int32).toInt ≤ 1) := by have := (by decide : ((0 : Int32)).toInt = 0); exact ⟨by omega, by omega⟩
          exact hQ _ _ hI (FR.refl _ w)  o4737.1 o4737.2
def l_Wa_hasSpace_31 : Pl := []
def l_Wa_hasSpace : Pl := []
set_option maxRecDepth 20000 in
set_option maxHeartbeats 2000000 in
theorem hq_Wa_hasSpace_31 {x31_1 : Int32} {E : MW → Prop} {Q : Int32 → MW → Prop} (n : Nat) : ∀ (x31_2 : Int32) (w : MW), BND w → 0 ≤ x31_1.toInt → x31_1.toInt ≤ 43 → 0 ≤ x31_2.toInt → x31_2.toInt ≤ 24 → (24 - x31_2.toInt).toNat < n → (∀ (w' : MW), BND w' → FR l_Wa_hasSpace_31 w w' → E w') → (∀ (r : Int32) (w' : MW), BND w' → FR l_Wa_hasSpace_31 w w' → 1 ≤ r.toInt → r.toInt ≤ 1 → Q r w') → q_Wa_hasSpace_31 x31_1 E Q n x31_2 w := by
  induction n with
  | zero => intros; omega
  | succ n ih =>
    intro x31_2 w hI  hp0 hp1 hp2 hp3 hm hE hQ
    rw [q_Wa_hasSpace_31.eq_2]
    refine ⟨fun h4738 => ?_, fun h4738 => ?_⟩
    · exact hE _ hI (FR.refl _ w)
    · have o4739 : 0 ≤ x31_2.toInt ∧ x31_2.toInt < 24 := by have := bd_26_1 hI; omega
      refine ⟨o4739, ?_⟩
      refine ⟨fun h4740 => ?_, fun h4740 => ?_⟩
      · have o4741 : (1 ≤ (1 : Int32).toInt) ∧ ((1 : Int32).toInt ≤ 1) := by have := (by decide : ((1 : Int32)).toInt = 1); exact ⟨by omega, by omega⟩
        exact hQ _ _ hI (FR.refl _ w)  o4741.1 o4741.2
      · have o4742 : 0 ≤ x31_2.toInt ∧ x31_2.toInt < 24 := by have := bd_26_1 hI; omega
        refine ⟨o4742, ?_⟩
        refine ⟨fun h4743 => ?_, fun h4743 => ?_⟩
        · have o4744 : (0 ≤ x31_1.toInt) ∧ (x31_1.toInt ≤ 43) ∧ (0 ≤ (x31_2 + (1 : Int32)).toInt) ∧ ((x31_2 + (1 : Int32)).toInt ≤ 24) := by have := bd_26_1 hI; have := ti_add2 (Eq.refl x31_2.toInt) (by decide : ((1 : Int32)).toInt = 1) (by omega) (by omega); exact ⟨by omega, by omega, by omega, by omega⟩
          exact ih _ w hI  o4744.1 o4744.2.1 o4744.2.2.1 o4744.2.2.2 (by have := bd_26_1 hI; have := ti_add2 (Eq.refl x31_2.toInt) (by decide : ((1 : Int32)).toInt = 1) (by omega) (by omega); omega) (fun w9 hI9 hF9 => hE w9 hI9 ((FR.refl _ w).tr hF9 rfl) ) (fun r w9 hI9 hF9 q0 q1 => hQ r w9 hI9 ((FR.refl _ w).tr hF9 rfl) (by have := bd_26_1 hI; have := ti_add2 (Eq.refl x31_2.toInt) (by decide : ((1 : Int32)).toInt = 1) (by omega) (by omega); omega) (by have := bd_26_1 hI; have := ti_add2 (Eq.refl x31_2.toInt) (by decide : ((1 : Int32)).toInt = 1) (by omega) (by omega); omega))
        · have o4745 : (1 ≤ (1 : Int32).toInt) ∧ ((1 : Int32).toInt ≤ 1) := by have := (by decide : ((1 : Int32)).toInt = 1); exact ⟨by omega, by omega⟩
          exact hQ _ _ hI (FR.refl _ w)  o4745.1 o4745.2
set_option maxRecDepth 20000 in
set_option maxHeartbeats 2000000 in
theorem h_Wa_hasSpace {w : MW} {a0 : Int32} {Q : Int32 → MW → Prop} (hI : BND w) (hr_7_0 : w.2.2 7 0 = some 8) (hp0 : 0 ≤ a0.toInt) (hp1 : a0.toInt ≤ 43) (hQ : ∀ (r : Int32) (w' : MW), BND w' → FR l_Wa_hasSpace w w' → 0 ≤ r.toInt → r.toInt ≤ 1 → Q r w') : p_Wa_hasSpace w a0 Q := by
  refine Eq.mpr (p_Wa_hasSpace.eq_1 _ _ _) ?_
  refine Eq.mpr (p_St_isPipe.eq_1 _ _ _) ?_
  refine ⟨hr_7_0, ?_⟩
  refine ⟨fun h4746 => ?_, fun h4746 => ?_⟩
  · refine ⟨fun _ => ?_, fun h => absurd (by decide) h⟩
    have o4747 : (0 ≤ a0.toInt) ∧ (a0.toInt ≤ 43) ∧ (0 ≤ (0 : Int32).toInt) ∧ ((0 : Int32).toInt ≤ 24) := by have := (by decide : ((0 : Int32)).toInt = 0); have := bd_8_0 hI; exact ⟨by omega, by omega, by omega, by omega⟩
    refine hq_Wa_hasSpace_31 FU _ w hI  o4747.1 o4747.2.1 o4747.2.2.1 o4747.2.2.2 (fu_lt (by have := (by decide : ((0 : Int32)).toInt = 0); have := bd_8_0 hI; omega)) (fun w4748 hI4749 hL4750  => ?_) (fun r w9 hI9 hF9 q0 q1 => hQ r w9 hI9 (((FR.refl _ w)).tr hF9 rfl) (by have := (by decide : ((0 : Int32)).toInt = 0); have := bd_8_0 hI; omega) (by have := (by decide : ((0 : Int32)).toInt = 0); have := bd_8_0 hI; omega))
    have hF4751 : FR l_Wa_hasSpace w w4748 := (FR.refl _ w).tr hL4750 rfl
    have o4752 : (0 ≤ (0 : Int32).toInt) ∧ ((0 : Int32).toInt ≤ 1) := by have := (by decide : ((0 : Int32)).toInt = 0); exact ⟨by omega, by omega⟩
    exact hQ _ _ hI4749 hF4751  o4752.1 o4752.2
  · refine ⟨hr_7_0, ?_⟩
    refine ⟨hr_7_0, ?_⟩
    refine ⟨fun h4753 => ?_, fun h4753 => ?_⟩
    · refine ⟨fun _ => ?_, fun h => absurd (by decide) h⟩
      have o4754 : (0 ≤ a0.toInt) ∧ (a0.toInt ≤ 43) ∧ (0 ≤ (0 : Int32).toInt) ∧ ((0 : Int32).toInt ≤ 24) := by have := (by decide : ((0 : Int32)).toInt = 0); have := bd_8_0 hI; have := bd_8_1 hI; have := ti_add2 (Eq.refl (w.1 8 0).toInt) (Eq.refl (w.1 8 1).toInt) (by omega) (by omega); exact ⟨by omega, by omega, by omega, by omega⟩
      refine hq_Wa_hasSpace_31 FU _ w hI  o4754.1 o4754.2.1 o4754.2.2.1 o4754.2.2.2 (fu_lt (by have := (by decide : ((0 : Int32)).toInt = 0); have := bd_8_0 hI; have := bd_8_1 hI; have := ti_add2 (Eq.refl (w.1 8 0).toInt) (Eq.refl (w.1 8 1).toInt) (by omega) (by omega); omega)) (fun w4755 hI4756 hL4757  => ?_) (fun r w9 hI9 hF9 q0 q1 => hQ r w9 hI9 (((FR.refl _ w)).tr hF9 rfl) (by have := (by decide : ((0 : Int32)).toInt = 0); have := bd_8_0 hI; have := bd_8_1 hI; have := ti_add2 (Eq.refl (w.1 8 0).toInt) (Eq.refl (w.1 8 1).toInt) (by omega) (by omega); omega) (by have := (by decide : ((0 : Int32)).toInt = 0); have := bd_8_0 hI; have := bd_8_1 hI; have := ti_add2 (Eq.refl (w.1 8 0).toInt) (Eq.refl (w.1 8 1).toInt) (by omega) (by omega); omega))
      have hF4758 : FR l_Wa_hasSpace w w4755 := (FR.refl _ w).tr hL4757 rfl
      have o4759 : (0 ≤ (0 : Int32).toInt) ∧ ((0 : Int32).toInt ≤ 1) := by have := (by decide : ((0 : Int32)).toInt = 0); exact ⟨by omega, by omega⟩
      exact hQ _ _ hI4756 hF4758  o4759.1 o4759.2
    · refine ⟨fun h => absurd h (by decide), fun _ => ?_⟩
      refine ⟨hr_7_0, ?_⟩
      have o4760 : 0 ≤ (a0 - (w.1 8 0)).toInt ∧ (a0 - (w.1 8 0)).toInt < 24 := by have := bd_8_0 hI; have := bd_8_1 hI; have := ti_sub2 (Eq.refl a0.toInt) (Eq.refl (w.1 8 0).toInt) (by omega) (by omega); have := ti_add2 (Eq.refl (w.1 8 0).toInt) (Eq.refl (w.1 8 1).toInt) (by omega) (by omega); omega
      refine ⟨o4760, ?_⟩
      have o4761 : (w.1 36 ((a0 - (w.1 8 0)).toInt.toNat)).toInt = 0 ∨ (w.1 36 ((a0 - (w.1 8 0)).toInt.toNat)).toInt = 1 := by have := bd_36 hI ((a0 - (w.1 8 0)).toInt.toNat); omega
      refine ⟨o4761, ?_⟩
      have o4762 : (0 ≤ (w.1 36 ((a0 - (w.1 8 0)).toInt.toNat)).toInt) ∧ ((w.1 36 ((a0 - (w.1 8 0)).toInt.toNat)).toInt ≤ 1) := by have := bd_36 hI ((a0 - (w.1 8 0)).toInt.toNat); exact ⟨by omega, by omega⟩
      exact hQ _ _ hI (FR.refl _ w)  o4762.1 o4762.2
def l_Ac_cleanSpace : Pl := [(23, none)]
set_option maxRecDepth 20000 in
set_option maxHeartbeats 2000000 in
theorem h_Ac_cleanSpace {w : MW} {a0 : Int32} {b0 : Int32} {Q : Int32 → MW → Prop} (hI : BND w) (hr_7_0 : w.2.2 7 0 = some 8) (hp0 : 0 ≤ a0.toInt) (hp1 : a0.toInt ≤ 43) (hp2 : 1 ≤ b0.toInt) (hp3 : b0.toInt ≤ 5) (hQ : ∀ (r : Int32) (w' : MW), BND w' → FR l_Ac_cleanSpace w w' → 0 ≤ r.toInt → r.toInt ≤ 3 → Q r w') : p_Ac_cleanSpace w a0 b0 Q := by
  refine Eq.mpr (p_Ac_cleanSpace.eq_1 _ _ _ _) ?_
  have o4763 : 0 ≤ a0.toInt ∧ a0.toInt < 44 := by omega
  refine ⟨o4763, ?_⟩
  refine ⟨fun h4764 => ?_, fun h4764 => ?_⟩
  · have o4765 : (0 ≤ (3 : Int32).toInt) ∧ ((3 : Int32).toInt ≤ 3) := by have := (by decide : ((3 : Int32)).toInt = 3); exact ⟨by omega, by omega⟩
    exact hQ _ _ hI (FR.refl _ w)  o4765.1 o4765.2
  · have o4766 : (0 ≤ a0.toInt) ∧ (a0.toInt ≤ 43) := by exact ⟨by omega, by omega⟩
    refine h_Wa_hasSpace hI hr_7_0 o4766.1 o4766.2 (fun r4770 w4767 hI4768 hL4769 p4771 p4772 => ?_)
    have hF4773 : FR l_Ac_cleanSpace w w4767 := (FR.refl _ w).tr hL4769 rfl
    refine ⟨fun h4774 => ?_, fun h4774 => ?_⟩
    · refine Eq.mpr (p_St_cleanSpace.eq_1 _ _ _ _) ?_
      have o4775 : 0 ≤ ((a0 * (6 : Int32)) + b0).toInt ∧ ((a0 * (6 : Int32)) + b0).toInt < 264 := by have := ti_mul2 (Eq.refl a0.toInt) (by decide : ((6 : Int32)).toInt = 6) (by omega) (by omega); have := ti_add2 (Eq.refl (a0 * (6 : Int32)).toInt) (Eq.refl b0.toInt) (by omega) (by omega); omega
      refine ⟨o4775, ?_⟩
      have hI4776 : BND (sI w4767 23 (((a0 * (6 : Int32)) + b0).toInt.toNat) (w4767.1 7 1)) := wbd_23 hI4768 (((a0 * (6 : Int32)) + b0).toInt.toNat)
      have o4777 : (0 ≤ (0 : Int32).toInt) ∧ ((0 : Int32).toInt ≤ 3) := by have := (by decide : ((0 : Int32)).toInt = 0); exact ⟨by omega, by omega⟩
      exact hQ _ _ hI4776 (FR.I hF4773 (k := 23) (j := ((a0 * (6 : Int32)) + b0).toInt.toNat) (v := (w4767.1 7 1)) rfl)  o4777.1 o4777.2
    · have o4778 : (0 ≤ (3 : Int32).toInt) ∧ ((3 : Int32).toInt ≤ 3) := by have := (by decide : ((3 : Int32)).toInt = 3); exact ⟨by omega, by omega⟩
      exact hQ _ _ hI4768 hF4773  o4778.1 o4778.2
