def nfl : List Cond := flatC (Jvm.Cond.and given_1 narrow_1)
def psc (j : Nat) : Cond := Cond.eq (.elem (.static "BreweryHouse" "PASSES" "[I") (.int (Int32.ofNat j))) (.int (psB.getD j 0))
theorem ps_l : (nfl.drop 7).take 100 = (List.range 100).map psc := by decide +kernel
theorem ps_in (j : Nat) (hj : j < 100) : psc j ∈ nfl := List.mem_of_mem_drop (List.mem_of_mem_take (by rw [ps_l]; exact List.mem_map.mpr ⟨j, List.mem_range.mpr hj, rfl⟩))
def kwc (j : Nat) : Cond := Cond.eq (.elem (.field (.string "BreweryHouse$ProgramReader" 22) "java/lang/String" "value" "[B") (.int (Int32.ofNat j))) (.int (kwB.getD j 0))
theorem kw_l : (nfl.drop 137).take 114 = (List.range 114).map kwc := by decide +kernel
theorem kw_in (j : Nat) (hj : j < 114) : kwc j ∈ nfl := List.mem_of_mem_drop (List.mem_of_mem_take (by rw [kw_l]; exact List.mem_map.mpr ⟨j, List.mem_range.mpr hj, rfl⟩))
theorem gg_start {s : State} {b : Nat} {A : Nat → Prop} (hpre : (Jvm.Cond.and given_1 narrow_1).before #[Value.ref b] s = true) (hts0 : ∀ w ∈ lw_tbl, w.before #[Value.ref b] s = true) (hA : ∀ a : Nat, a < s.heap.size → ¬ A a) : ∃ (tPA : Nat) (adK adV : Nat → Nat), GG tPA adK adV A s s.heap := by
  have hs := flat_of_before _ hpre
  obtain ⟨t, ht, hT⟩ := va_Tof (tm := .static "BreweryHouse" "PASSES" "[I") (ty := .int) (N := 100) (f := fun j => .int (psB.getD j 0)) (A := A) (by decide) (hs _ (by decide +kernel)) (va_eqt (hs _ (by decide +kernel))) (fun j hj => va_eqt (hs _ (ps_in j hj))) hA
  have h1 := va_Zref (hts0 _ (List.mem_append_right _ (List.mem_of_getElem? (i := 216) (by decide +kernel)))) (hts0 _ (List.mem_append_right _ (List.mem_of_getElem? (i := 1) (by decide +kernel)))) ht hA
  obtain ⟨adK, adV, hK, hKe⟩ := vk_Sof (N := 1) (tm := fun _ => .string "BreweryHouse$ProgramReader" 22) (len := [114]) (byt := [kwB]) (A := A) (by decide) (fun _ _ => hs _ (by decide +kernel)) (fun _ _ => hs _ (by decide +kernel)) (fun _ _ => hs _ (by decide +kernel))
    (fun i hi => by obtain rfl : i = 0 := by omega
                    exact hs _ (by decide +kernel))
    (fun i hi j hj => by obtain rfl : i = 0 := by omega
                         exact hs _ (kw_in j hj))
    (fun i j hi hj hne => absurd (by omega) hne) hA
  have h3 : va_Z "java/lang/String" "COMPACT_STRINGS" "Z" (.int 1) A s s.heap := va_Zof (hts0 _ (List.mem_append_right _ (List.mem_of_getElem? (i := 593) (by decide +kernel)))) (hts0 _ (List.mem_append_right _ (List.mem_of_getElem? (i := 14) (by decide +kernel)))) (va_eqi (hs _ (by decide +kernel))) hA
  have h5 : vk_R "BreweryHouse$ProgramReader" 22 kwT (adK 0) s := vk_R.of (hts0 _ (List.mem_append_right _ (List.mem_of_getElem? (i := 583) (by decide +kernel)))) (hKe 0 (by decide))
  have h6 : va_Zq "jdk/internal/util/Preconditions" "SIOOBE_FORMATTER" "Ljava/util/function/BiFunction;" A s s.heap := va_Zqof (hts0 _ (List.mem_append_right _ (List.mem_of_getElem? (i := 609) (by decide +kernel)))) (hts0 _ (List.mem_append_right _ (List.mem_of_getElem? (i := 16) (by decide +kernel)))) (hs _ (by decide +kernel)) hA
  exact ⟨t, adK, adV, h1, hT, h3, hK, h5, h6⟩
