/-! the tables and the texts stand at the start -/
theorem tb_at {w : Cond} {i : Nat} (h : tables_1[i]? = some w) : w ∈ lw_tbl := List.mem_append_right _ (List.mem_of_getElem? h)
def oS : List Nat := [133, 251, 261, 273, 284, 297, 307, 320, 335, 350, 364, 379, 397, 415, 435, 460, 480, 501]
def tmx (i : Nat) : Term := .string ((txR.getD i ("", 0, "")).1) ((txR.getD i ("", 0, "")).2.1)
theorem nf_m {w : Cond} {i : Nat} (h : nfl[i]? = some w) : w ∈ nfl := List.mem_of_getElem? h
theorem tx_ex : ∀ i, i < 18 → nfl[oS.getD i 0]? = some (Cond.exactly (tmx i) "java/lang/String") := by decide +kernel
theorem tx_co : ∀ i, i < 18 → nfl[oS.getD i 0 + 1]? = some (Cond.eq (.field (tmx i) "java/lang/String" "coder" "B") (.int 0)) := by decide +kernel
theorem tx_ar : ∀ i, i < 18 → nfl[oS.getD i 0 + 2]? = some (Cond.arrayOf (.field (tmx i) "java/lang/String" "value" "[B") .byte) := by decide +kernel
theorem tx_le : ∀ i, i < 18 → nfl[oS.getD i 0 + 3]? = some (Cond.eq (.length (.field (tmx i) "java/lang/String" "value" "[B")) (.int (Int32.ofNat (txL.getD i 0)))) := by decide +kernel
theorem tx_el : ∀ i, i < 18 → ∀ j, j < txL.getD i 0 → nfl[oS.getD i 0 + 4 + j]? = some (Cond.eq (.elem (.field (tmx i) "java/lang/String" "value" "[B") (.int (Int32.ofNat j))) (.int ((txB.getD i []).getD j 0))) := by decide +kernel
def tx_nc (i j : Nat) : Cond := Cond.not (Cond.eq (tmx i) (tmx j))
theorem tx_ne : ∀ j, j < 18 → ∀ i, i < j → nfl[oS.getD j 0 + 4 + txL.getD j 0 + i]? = some (tx_nc i j) ∨ nfl[oS.getD j 0 + 4 + txL.getD j 0 + i]? = some (tx_nc j i) := by decide +kernel
theorem st_el (C n : String) (k N o : Nat) (h : (nfl.drop o).take N = (List.range N).map fun j => Cond.eq (.elem (.static C n "[I") (.int (Int32.ofNat j))) (.int ((stT k).getD j 0))) (j : Nat) (hj : j < N) : Cond.eq (.elem (.static C n "[I") (.int (Int32.ofNat j))) (.int ((stT k).getD j 0)) ∈ nfl := List.mem_of_mem_drop (List.mem_of_mem_take (by rw [h]; exact List.mem_map.mpr ⟨j, List.mem_range.mpr hj, rfl⟩))
theorem el_0 : (nfl.drop 115).take 10 = (List.range 10).map fun j => Cond.eq (.elem (.static "BreweryHouse" "PORT_COUNT" "[I") (.int (Int32.ofNat j))) (.int ((stT 1000).getD j 0)) := by decide +kernel
theorem el_1 : (nfl.drop 7).take 100 = (List.range 100).map fun j => Cond.eq (.elem (.static "BreweryHouse" "PASSES" "[I") (.int (Int32.ofNat j))) (.int ((stT 1001).getD j 0)) := by decide +kernel
theorem el_2 : (nfl.drop 128).take 5 = (List.range 5).map fun j => Cond.eq (.elem (.static "BreweryHouse$Safety" "BETWEEN" "[I") (.int (Int32.ofNat j))) (.int ((stT 1002).getD j 0)) := by decide +kernel
def srI : List Nat := [583, 766, 789, 790, 791, 800, 834, 849, 867, 868, 873, 874, 875, 876, 877, 878, 1038, 1042]
theorem sr_at : ∀ i, i < 18 → tables_1[srI.getD i 0]? = some (Cond.stringRef ((txR.getD i ("", 0, "")).1) ((txR.getD i ("", 0, "")).2.1) ((txR.getD i ("", 0, "")).2.2)) := by decide +kernel
set_option maxHeartbeats 4000000 in
theorem gm_start {s : State} {b : Nat} {A : Nat → Prop} (hpre : (Jvm.Cond.and given_1 narrow_1).before #[Value.ref b] s = true) (hts0 : ∀ w ∈ lw_tbl, w.before #[Value.ref b] s = true) (hA : ∀ a : Nat, a < s.heap.size → ¬ A a) : ∃ (aT aV : Nat → Nat), ∀ E : EV, (∀ k, 1000 ≤ k → E.ad k = aT k) → E.av = aV → GM E A s s.heap := by
  have hs := flat_of_before _ hpre
  obtain ⟨t0, ht0, hT0⟩ := va_Tof (tm := .static "BreweryHouse" "PORT_COUNT" "[I") (ty := .int) (N := 10) (f := fun j => .int ((stT 1000).getD j 0)) (A := A) (by decide) (hs _ (nf_m (i := 113) (by decide +kernel))) (va_eqt (hs _ (nf_m (i := 114) (by decide +kernel)))) (fun j hj => va_eqt (hs _ (st_el _ _ 1000 10 115 el_0 j hj))) hA
  obtain ⟨t1, ht1, hT1⟩ := va_Tof (tm := .static "BreweryHouse" "PASSES" "[I") (ty := .int) (N := 100) (f := fun j => .int ((stT 1001).getD j 0)) (A := A) (by decide) (hs _ (nf_m (i := 5) (by decide +kernel))) (va_eqt (hs _ (nf_m (i := 6) (by decide +kernel)))) (fun j hj => va_eqt (hs _ (st_el _ _ 1001 100 7 el_1 j hj))) hA
  obtain ⟨t2, ht2, hT2⟩ := va_Tof (tm := .static "BreweryHouse$Safety" "BETWEEN" "[I") (ty := .int) (N := 5) (f := fun j => .int ((stT 1002).getD j 0)) (A := A) (by decide) (hs _ (nf_m (i := 126) (by decide +kernel))) (va_eqt (hs _ (nf_m (i := 127) (by decide +kernel)))) (fun j hj => va_eqt (hs _ (st_el _ _ 1002 5 128 el_2 j hj))) hA
  have z0 := va_Zref (hts0 _ (tb_at (i := 810) (by decide +kernel))) (hts0 _ (tb_at (i := 1) (by decide +kernel))) ht0 hA
  have z1 := va_Zref (hts0 _ (tb_at (i := 216) (by decide +kernel))) (hts0 _ (tb_at (i := 1) (by decide +kernel))) ht1 hA
  have z2 := va_Zref (hts0 _ (tb_at (i := 1127) (by decide +kernel))) (hts0 _ (tb_at (i := 8) (by decide +kernel))) ht2 hA
  obtain ⟨adK, adV, hK, hKe⟩ := vk_Sof (N := 18) (tm := tmx) (len := txL) (byt := txB) (A := A) (by decide +kernel) (fun i hi => hs _ (nf_m (tx_ex i hi))) (fun i hi => hs _ (nf_m (tx_co i hi))) (fun i hi => hs _ (nf_m (tx_ar i hi))) (fun i hi => hs _ (nf_m (tx_le i hi))) (fun i hi j hj => hs _ (nf_m (tx_el i hi j hj)))
    (fun i j hi hj hne => by
      rcases Nat.lt_or_gt_of_ne hne with h | h
      · rcases tx_ne j hj i h with q | q
        · exact Or.inl (hs _ (nf_m q))
        · exact Or.inr (hs _ (nf_m q))
      · rcases tx_ne i hi j h with q | q
        · exact Or.inr (hs _ (nf_m q))
        · exact Or.inl (hs _ (nf_m q))) hA
  have h3 : va_Z "java/lang/String" "COMPACT_STRINGS" "Z" (.int 1) A s s.heap := va_Zof (hts0 _ (tb_at (i := 593) (by decide +kernel))) (hts0 _ (tb_at (i := 14) (by decide +kernel))) (va_eqi (hs _ (by decide +kernel))) hA
  have h6 : va_Zq "jdk/internal/util/Preconditions" "SIOOBE_FORMATTER" "Ljava/util/function/BiFunction;" A s s.heap := va_Zqof (hts0 _ (tb_at (i := 609) (by decide +kernel))) (hts0 _ (tb_at (i := 16) (by decide +kernel))) (hs _ (by decide +kernel)) hA
  refine ⟨fun k => if k = 1000 then t0 else if k = 1001 then t1 else if k = 1002 then t2 else adK (k - 2000), adV, fun E hE hV => ?_⟩
  have hE : ∀ k, 1000 ≤ k → E.ad k = if k = 1000 then t0 else if k = 1001 then t1 else if k = 1002 then t2 else adK (k - 2000) := hE
  have e0 : E.ad 1000 = t0 := (hE 1000 (by omega)).trans (if_pos rfl)
  have e1 : E.ad 1001 = t1 := (hE 1001 (by omega)).trans (by rw [if_neg (by decide), if_pos rfl])
  have e2 : E.ad 1002 = t2 := (hE 1002 (by omega)).trans (by rw [if_neg (by decide), if_neg (by decide), if_pos rfl])
  have eK : ∀ i, E.ad (2000 + i) = adK i := fun i => (hE (2000 + i) (by omega)).trans (by rw [if_neg (by omega), if_neg (by omega), if_neg (by omega), Nat.add_sub_cancel_left])
  have eF : (fun i => E.ad (2000 + i)) = adK := funext eK
  refine ⟨⟨by rw [e0]; exact z0, by rw [e0]; exact hT0⟩, ⟨by rw [e1]; exact z1, by rw [e1]; exact hT1⟩, ⟨by rw [e2]; exact z2, by rw [e2]; exact hT2⟩, h3, by rw [eF, hV]; exact hK, fun i q hq => ?_, h6⟩
  have hi : i < 18 := (List.getElem?_eq_some_iff.mp hq).1
  have eq : txR.getD i ("", 0, "") = q := by rw [List.getD_eq_getElem?_getD, hq]; rfl
  have h5 := hts0 _ (tb_at (sr_at i hi))
  have h7 := hKe i hi
  unfold tmx at h7
  rw [eq] at h5 h7
  rw [eK]
  exact vk_R.of h5 h7
