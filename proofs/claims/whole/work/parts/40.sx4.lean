def s_Ac_isBound (w : MW) (a0 : Int32) : Prop := ((0 ≤ a0.toInt ∧ a0.toInt < 32) ∧ (if (w.1 60 a0.toInt.toNat).toInt = 0 then ((0 ≤ a0.toInt ∧ a0.toInt < 32) ∧ ((s_St_isTank w (w.1 57 a0.toInt.toNat)) ∧ (if (g_St_isTank w (w.1 57 a0.toInt.toNat)).toInt = 0 then True else ((0 ≤ a0.toInt ∧ a0.toInt < 32) ∧ ((s_St_isTank w (w.1 58 a0.toInt.toNat)) ∧ (if (g_St_isTank w (w.1 58 a0.toInt.toNat)).toInt = 0 then True else ((0 ≤ a0.toInt ∧ a0.toInt < 32) ∧ ((0 ≤ a0.toInt ∧ a0.toInt < 32) ∧ (if (w.1 57 a0.toInt.toNat).toInt = (w.1 58 a0.toInt.toNat).toInt then True else True))))))))) else (if (w.1 60 a0.toInt.toNat).toInt = 1 then ((0 ≤ a0.toInt ∧ a0.toInt < 32) ∧ ((s_St_isTank w (w.1 57 a0.toInt.toNat)) ∧ (if (g_St_isTank w (w.1 57 a0.toInt.toNat)).toInt = 0 then True else ((0 ≤ a0.toInt ∧ a0.toInt < 32) ∧ ((s_St_isTank w (w.1 58 a0.toInt.toNat)) ∧ (if (g_St_isTank w (w.1 58 a0.toInt.toNat)).toInt = 0 then True else ((0 ≤ a0.toInt ∧ a0.toInt < 32) ∧ ((0 ≤ a0.toInt ∧ a0.toInt < 32) ∧ (if (w.1 57 a0.toInt.toNat).toInt = (w.1 58 a0.toInt.toNat).toInt then True else True))))))))) else (if (w.1 60 a0.toInt.toNat).toInt = 2 then ((0 ≤ a0.toInt ∧ a0.toInt < 32) ∧ ((s_St_isValve w (w.1 57 a0.toInt.toNat)) ∧ True)) else (if (w.1 60 a0.toInt.toNat).toInt = 3 then ((0 ≤ a0.toInt ∧ a0.toInt < 32) ∧ ((s_St_isHolder w (w.1 57 a0.toInt.toNat)) ∧ True)) else (if (w.1 60 a0.toInt.toNat).toInt = 4 then ((0 ≤ a0.toInt ∧ a0.toInt < 32) ∧ ((s_St_isHolder w (w.1 57 a0.toInt.toNat)) ∧ True)) else True))))))
def g_Ac_isBound (w : MW) (a0 : Int32) : Int32 := (if (w.1 60 a0.toInt.toNat).toInt = 0 then (if (g_St_isTank w (w.1 57 a0.toInt.toNat)).toInt = 0 then 0 else (if (g_St_isTank w (w.1 58 a0.toInt.toNat)).toInt = 0 then 0 else (if (w.1 57 a0.toInt.toNat).toInt = (w.1 58 a0.toInt.toNat).toInt then 0 else 1))) else (if (w.1 60 a0.toInt.toNat).toInt = 1 then (if (g_St_isTank w (w.1 57 a0.toInt.toNat)).toInt = 0 then 0 else (if (g_St_isTank w (w.1 58 a0.toInt.toNat)).toInt = 0 then 0 else (if (w.1 57 a0.toInt.toNat).toInt = (w.1 58 a0.toInt.toNat).toInt then 0 else 1))) else (if (w.1 60 a0.toInt.toNat).toInt = 2 then (g_St_isValve w (w.1 57 a0.toInt.toNat)) else (if (w.1 60 a0.toInt.toNat).toInt = 3 then (g_St_isHolder w (w.1 57 a0.toInt.toNat)) else (if (w.1 60 a0.toInt.toNat).toInt = 4 then (g_St_isHolder w (w.1 57 a0.toInt.toNat)) else 0)))))
theorem z_Ac_isBound (w : MW) (a0 : Int32) : (g_Ac_isBound w a0).toInt = 0 ∨ (g_Ac_isBound w a0).toInt = 1 := (ite_Z (ite_Z (by decide) (ite_Z (by decide) (ite_Z (by decide) (by decide)))) (ite_Z (ite_Z (by decide) (ite_Z (by decide) (ite_Z (by decide) (by decide)))) (ite_Z (z_St_isValve w (w.1 57 a0.toInt.toNat)) (ite_Z (z_St_isHolder w (w.1 57 a0.toInt.toNat)) (ite_Z (z_St_isHolder w (w.1 57 a0.toInt.toNat)) (by decide))))))
set_option maxHeartbeats 4000000 in
set_option maxRecDepth 100000 in
theorem c_Ac_isBound {d : Nat} (w : MW) (a0 : Int32)  (hs : s_Ac_isBound w a0) : Tc (d + 2) 128 [.ref 47, .int a0] w (fun v w1 => v = some (.int (g_Ac_isBound w a0)) ∧ w1 = w) := by
  unfold s_Ac_isBound at hs
  refine tm_go 3 (pc' := 5) (L' := [some (.ref 47), some (.int a0)]) (S' := [.int a0, .ref 60]) (w' := w) rfl ?_
  obtain ⟨b1, hs⟩ := hs
  refine tm_k (pc' := 6) (L' := [some (.ref 47), some (.int a0)]) (S' := [.int (w.1 60 a0.toInt.toNat)]) (w' := w) rfl b1 ?_
  by_cases h1 : (w.1 60 a0.toInt.toNat).toInt = 0
  · rw [if_pos h1] at hs
    refine tm_tab (dflt := 121) (lo := 0) (ts := [40, 40, 93, 107, 107]) rfl (by rw [h1]; decide) (t := 40) (by rw [h1]; rfl) ?_
    refine tm_go 5 (pc' := 49) (L' := [some (.ref 47), some (.int a0)]) (S' := [.int a0, .ref 57, .ref 7]) (w' := w) rfl ?_
    obtain ⟨b2, hs⟩ := hs
    refine tm_k (pc' := 50) (L' := [some (.ref 47), some (.int a0)]) (S' := [.int (w.1 57 a0.toInt.toNat), .ref 7]) (w' := w) rfl b2 ?_
    obtain ⟨b3, hs⟩ := hs
    refine tm_c rfl (Nat.le_of_ble_eq_true rfl) (c_St_isTank (d := d + 1) w (w.1 57 a0.toInt.toNat)  b3) (fun v w1 hq => ?_)
    obtain ⟨rfl, hw9⟩ := hq; rw [hw9]; clear hw9
    refine tm_i (p1 := 91) (p2 := 56) rfl (fun h2 => ?_) (fun h2 => ?_)
    · rw [if_pos h2] at hs
      refine tm_go 1 (pc' := 92) (L' := [some (.ref 47), some (.int a0)]) (S' := [.int 0]) (w' := w) rfl ?_
      exact tm_r rfl (⟨by unfold g_Ac_isBound; rw [if_pos h1, if_pos h2], rfl⟩)
    · rw [if_neg h2] at hs
      refine tm_go 5 (pc' := 65) (L' := [some (.ref 47), some (.int a0)]) (S' := [.int a0, .ref 58, .ref 7]) (w' := w) rfl ?_
      obtain ⟨b4, hs⟩ := hs
      refine tm_k (pc' := 66) (L' := [some (.ref 47), some (.int a0)]) (S' := [.int (w.1 58 a0.toInt.toNat), .ref 7]) (w' := w) rfl b4 ?_
      obtain ⟨b5, hs⟩ := hs
      refine tm_c rfl (Nat.le_of_ble_eq_true rfl) (c_St_isTank (d := d + 1) w (w.1 58 a0.toInt.toNat)  b5) (fun v w1 hq => ?_)
      obtain ⟨rfl, hw9⟩ := hq; rw [hw9]; clear hw9
      refine tm_i (p1 := 91) (p2 := 72) rfl (fun h3 => ?_) (fun h3 => ?_)
      · rw [if_pos h3] at hs
        refine tm_go 1 (pc' := 92) (L' := [some (.ref 47), some (.int a0)]) (S' := [.int 0]) (w' := w) rfl ?_
        exact tm_r rfl (⟨by unfold g_Ac_isBound; rw [if_pos h1, if_neg h2, if_pos h3], rfl⟩)
      · rw [if_neg h3] at hs
        refine tm_go 3 (pc' := 77) (L' := [some (.ref 47), some (.int a0)]) (S' := [.int a0, .ref 57]) (w' := w) rfl ?_
        obtain ⟨b6, hs⟩ := hs
        refine tm_k (pc' := 78) (L' := [some (.ref 47), some (.int a0)]) (S' := [.int (w.1 57 a0.toInt.toNat)]) (w' := w) rfl b6 ?_
        refine tm_go 3 (pc' := 83) (L' := [some (.ref 47), some (.int a0)]) (S' := [.int a0, .ref 58, .int (w.1 57 a0.toInt.toNat)]) (w' := w) rfl ?_
        obtain ⟨b7, hs⟩ := hs
        refine tm_k (pc' := 84) (L' := [some (.ref 47), some (.int a0)]) (S' := [.int (w.1 58 a0.toInt.toNat), .int (w.1 57 a0.toInt.toNat)]) (w' := w) rfl b7 ?_
        refine tm_i (p1 := 91) (p2 := 87) rfl (fun h4 => ?_) (fun h4 => ?_)
        · rw [if_pos h4] at hs
          refine tm_go 1 (pc' := 92) (L' := [some (.ref 47), some (.int a0)]) (S' := [.int 0]) (w' := w) rfl ?_
          exact tm_r rfl (⟨by unfold g_Ac_isBound; rw [if_pos h1, if_neg h2, if_neg h3, if_pos h4], rfl⟩)
        · rw [if_neg h4] at hs
          refine tm_go 2 (pc' := 92) (L' := [some (.ref 47), some (.int a0)]) (S' := [.int 1]) (w' := w) rfl ?_
          exact tm_r rfl (⟨by unfold g_Ac_isBound; rw [if_pos h1, if_neg h2, if_neg h3, if_neg h4], rfl⟩)
  · rw [if_neg h1] at hs
    by_cases h5 : (w.1 60 a0.toInt.toNat).toInt = 1
    · rw [if_pos h5] at hs
      refine tm_tab (dflt := 121) (lo := 0) (ts := [40, 40, 93, 107, 107]) rfl (by rw [h5]; decide) (t := 40) (by rw [h5]; rfl) ?_
      refine tm_go 5 (pc' := 49) (L' := [some (.ref 47), some (.int a0)]) (S' := [.int a0, .ref 57, .ref 7]) (w' := w) rfl ?_
      obtain ⟨b8, hs⟩ := hs
      refine tm_k (pc' := 50) (L' := [some (.ref 47), some (.int a0)]) (S' := [.int (w.1 57 a0.toInt.toNat), .ref 7]) (w' := w) rfl b8 ?_
      obtain ⟨b9, hs⟩ := hs
      refine tm_c rfl (Nat.le_of_ble_eq_true rfl) (c_St_isTank (d := d + 1) w (w.1 57 a0.toInt.toNat)  b9) (fun v w1 hq => ?_)
      obtain ⟨rfl, hw9⟩ := hq; rw [hw9]; clear hw9
      refine tm_i (p1 := 91) (p2 := 56) rfl (fun h6 => ?_) (fun h6 => ?_)
      · rw [if_pos h6] at hs
        refine tm_go 1 (pc' := 92) (L' := [some (.ref 47), some (.int a0)]) (S' := [.int 0]) (w' := w) rfl ?_
        exact tm_r rfl (⟨by unfold g_Ac_isBound; rw [if_neg h1, if_pos h5, if_pos h6], rfl⟩)
      · rw [if_neg h6] at hs
        refine tm_go 5 (pc' := 65) (L' := [some (.ref 47), some (.int a0)]) (S' := [.int a0, .ref 58, .ref 7]) (w' := w) rfl ?_
        obtain ⟨b10, hs⟩ := hs
        refine tm_k (pc' := 66) (L' := [some (.ref 47), some (.int a0)]) (S' := [.int (w.1 58 a0.toInt.toNat), .ref 7]) (w' := w) rfl b10 ?_
        obtain ⟨b11, hs⟩ := hs
        refine tm_c rfl (Nat.le_of_ble_eq_true rfl) (c_St_isTank (d := d + 1) w (w.1 58 a0.toInt.toNat)  b11) (fun v w1 hq => ?_)
        obtain ⟨rfl, hw9⟩ := hq; rw [hw9]; clear hw9
        refine tm_i (p1 := 91) (p2 := 72) rfl (fun h7 => ?_) (fun h7 => ?_)
        · rw [if_pos h7] at hs
          refine tm_go 1 (pc' := 92) (L' := [some (.ref 47), some (.int a0)]) (S' := [.int 0]) (w' := w) rfl ?_
          exact tm_r rfl (⟨by unfold g_Ac_isBound; rw [if_neg h1, if_pos h5, if_neg h6, if_pos h7], rfl⟩)
        · rw [if_neg h7] at hs
          refine tm_go 3 (pc' := 77) (L' := [some (.ref 47), some (.int a0)]) (S' := [.int a0, .ref 57]) (w' := w) rfl ?_
          obtain ⟨b12, hs⟩ := hs
          refine tm_k (pc' := 78) (L' := [some (.ref 47), some (.int a0)]) (S' := [.int (w.1 57 a0.toInt.toNat)]) (w' := w) rfl b12 ?_
          refine tm_go 3 (pc' := 83) (L' := [some (.ref 47), some (.int a0)]) (S' := [.int a0, .ref 58, .int (w.1 57 a0.toInt.toNat)]) (w' := w) rfl ?_
          obtain ⟨b13, hs⟩ := hs
          refine tm_k (pc' := 84) (L' := [some (.ref 47), some (.int a0)]) (S' := [.int (w.1 58 a0.toInt.toNat), .int (w.1 57 a0.toInt.toNat)]) (w' := w) rfl b13 ?_
          refine tm_i (p1 := 91) (p2 := 87) rfl (fun h8 => ?_) (fun h8 => ?_)
          · rw [if_pos h8] at hs
            refine tm_go 1 (pc' := 92) (L' := [some (.ref 47), some (.int a0)]) (S' := [.int 0]) (w' := w) rfl ?_
            exact tm_r rfl (⟨by unfold g_Ac_isBound; rw [if_neg h1, if_pos h5, if_neg h6, if_neg h7, if_pos h8], rfl⟩)
          · rw [if_neg h8] at hs
            refine tm_go 2 (pc' := 92) (L' := [some (.ref 47), some (.int a0)]) (S' := [.int 1]) (w' := w) rfl ?_
            exact tm_r rfl (⟨by unfold g_Ac_isBound; rw [if_neg h1, if_pos h5, if_neg h6, if_neg h7, if_neg h8], rfl⟩)
    · rw [if_neg h5] at hs
      by_cases h9 : (w.1 60 a0.toInt.toNat).toInt = 2
      · rw [if_pos h9] at hs
        refine tm_tab (dflt := 121) (lo := 0) (ts := [40, 40, 93, 107, 107]) rfl (by rw [h9]; decide) (t := 93) (by rw [h9]; rfl) ?_
        refine tm_go 5 (pc' := 102) (L' := [some (.ref 47), some (.int a0)]) (S' := [.int a0, .ref 57, .ref 7]) (w' := w) rfl ?_
        obtain ⟨b14, hs⟩ := hs
        refine tm_k (pc' := 103) (L' := [some (.ref 47), some (.int a0)]) (S' := [.int (w.1 57 a0.toInt.toNat), .ref 7]) (w' := w) rfl b14 ?_
        obtain ⟨b15, hs⟩ := hs
        refine tm_c rfl (Nat.le_of_ble_eq_true rfl) (c_St_isValve (d := d + 1) w (w.1 57 a0.toInt.toNat)  b15) (fun v w1 hq => ?_)
        obtain ⟨rfl, hw9⟩ := hq; rw [hw9]; clear hw9
        exact tm_rk rfl (by exact z_St_isValve w (w.1 57 a0.toInt.toNat)) (⟨by unfold g_Ac_isBound; rw [if_neg h1, if_neg h5, if_pos h9], rfl⟩)
      · rw [if_neg h9] at hs
        by_cases h10 : (w.1 60 a0.toInt.toNat).toInt = 3
        · rw [if_pos h10] at hs
          refine tm_tab (dflt := 121) (lo := 0) (ts := [40, 40, 93, 107, 107]) rfl (by rw [h10]; decide) (t := 107) (by rw [h10]; rfl) ?_
          refine tm_go 5 (pc' := 116) (L' := [some (.ref 47), some (.int a0)]) (S' := [.int a0, .ref 57, .ref 7]) (w' := w) rfl ?_
          obtain ⟨b16, hs⟩ := hs
          refine tm_k (pc' := 117) (L' := [some (.ref 47), some (.int a0)]) (S' := [.int (w.1 57 a0.toInt.toNat), .ref 7]) (w' := w) rfl b16 ?_
          obtain ⟨b17, hs⟩ := hs
          refine tm_c rfl (Nat.le_of_ble_eq_true rfl) (c_St_isHolder (d := d + 0) w (w.1 57 a0.toInt.toNat)  b17) (fun v w1 hq => ?_)
          obtain ⟨rfl, hw9⟩ := hq; rw [hw9]; clear hw9
          exact tm_rk rfl (by exact z_St_isHolder w (w.1 57 a0.toInt.toNat)) (⟨by unfold g_Ac_isBound; rw [if_neg h1, if_neg h5, if_neg h9, if_pos h10], rfl⟩)
        · rw [if_neg h10] at hs
          by_cases h11 : (w.1 60 a0.toInt.toNat).toInt = 4
          · rw [if_pos h11] at hs
            refine tm_tab (dflt := 121) (lo := 0) (ts := [40, 40, 93, 107, 107]) rfl (by rw [h11]; decide) (t := 107) (by rw [h11]; rfl) ?_
            refine tm_go 5 (pc' := 116) (L' := [some (.ref 47), some (.int a0)]) (S' := [.int a0, .ref 57, .ref 7]) (w' := w) rfl ?_
            obtain ⟨b18, hs⟩ := hs
            refine tm_k (pc' := 117) (L' := [some (.ref 47), some (.int a0)]) (S' := [.int (w.1 57 a0.toInt.toNat), .ref 7]) (w' := w) rfl b18 ?_
            obtain ⟨b19, hs⟩ := hs
            refine tm_c rfl (Nat.le_of_ble_eq_true rfl) (c_St_isHolder (d := d + 0) w (w.1 57 a0.toInt.toNat)  b19) (fun v w1 hq => ?_)
            obtain ⟨rfl, hw9⟩ := hq; rw [hw9]; clear hw9
            exact tm_rk rfl (by exact z_St_isHolder w (w.1 57 a0.toInt.toNat)) (⟨by unfold g_Ac_isBound; rw [if_neg h1, if_neg h5, if_neg h9, if_neg h10, if_pos h11], rfl⟩)
          · rw [if_neg h11] at hs
            refine tm_tad (dflt := 121) (lo := 0) (ts := [40, 40, 93, 107, 107]) rfl (by simp only [List.length_cons, List.length_nil]; omega) ?_
            refine tm_go 1 (pc' := 122) (L' := [some (.ref 47), some (.int a0)]) (S' := [.int 0]) (w' := w) rfl ?_
            exact tm_r rfl (⟨by unfold g_Ac_isBound; rw [if_neg h1, if_neg h5, if_neg h9, if_neg h10, if_neg h11], rfl⟩)
def s_Pl_endsLine (w : MW)  : Prop := (((w.2.2 8 9) = some 1) ∧ ((s_Tp_at w (w.1 8 10)) ∧ (if ¬ (g_Tp_at w (w.1 8 10)).toInt = (10 : Int32).toInt then True else True)))
def g_Pl_endsLine (w : MW)  : Int32 := (if ¬ (g_Tp_at w (w.1 8 10)).toInt = (10 : Int32).toInt then 0 else 1)
theorem z_Pl_endsLine (w : MW)  : (g_Pl_endsLine w).toInt = 0 ∨ (g_Pl_endsLine w).toInt = 1 := (ite_Z (by decide) (by decide))
set_option maxHeartbeats 4000000 in
set_option maxRecDepth 100000 in
theorem c_Pl_endsLine {d : Nat} (w : MW)   (hs : s_Pl_endsLine w) : Tc (d + 1) 141 [.ref 8] w (fun v w1 => v = some (.int (g_Pl_endsLine w)) ∧ w1 = w) := by
  unfold s_Pl_endsLine at hs
  refine tm_go 1 (pc' := 1) (L' := [some (.ref 8)]) (S' := [.ref 8]) (w' := w) rfl ?_
  obtain ⟨b1, hs⟩ := hs
  refine tm_g (pc' := 4) (k := 8) (j := 9) rfl b1 ?_
  refine tm_go 2 (pc' := 8) (L' := [some (.ref 8)]) (S' := [.int (w.1 8 10), .ref 1]) (w' := w) rfl ?_
  obtain ⟨b2, hs⟩ := hs
  refine tm_c rfl (Nat.le_of_ble_eq_true rfl) (c_Tp_at (d := d + 0) w (w.1 8 10)  b2) (fun v w1 hq => ?_)
  obtain ⟨rfl, hw9⟩ := hq; rw [hw9]; clear hw9
  refine tm_go 1 (pc' := 13) (L' := [some (.ref 8)]) (S' := [.int 10, .int (g_Tp_at w (w.1 8 10))]) (w' := w) rfl ?_
  refine tm_i (p1 := 20) (p2 := 16) rfl (fun h1 => ?_) (fun h1 => ?_)
  · rw [if_pos h1] at hs
    refine tm_go 1 (pc' := 21) (L' := [some (.ref 8)]) (S' := [.int 0]) (w' := w) rfl ?_
    exact tm_r rfl (⟨by unfold g_Pl_endsLine; rw [if_pos h1], rfl⟩)
  · rw [if_neg h1] at hs
    refine tm_go 2 (pc' := 21) (L' := [some (.ref 8)]) (S' := [.int 1]) (w' := w) rfl ?_
    exact tm_r rfl (⟨by unfold g_Pl_endsLine; rw [if_neg h1], rfl⟩)
def s_Pl_addPipe (w : MW) (a0 : Int32) (b0 : Int32) (c0 : Int32) : Prop := (if (24 : Int32).toInt ≤ (w.1 8 1).toInt then True else (if c0.toInt < (1 : Int32).toInt then True else (if c0.toInt ≤ (200 : Int32).toInt then ((0 ≤ (w.1 8 1).toInt ∧ (w.1 8 1).toInt < 24) ∧ ((s_Pl_joins (sI w 12 ((w.1 8 1).toInt.toNat) c0) ((2 : Int32) * (w.1 8 1)) a0) ∧ (if (g_Pl_joins (sI w 12 ((w.1 8 1).toInt.toNat) c0) ((2 : Int32) * (w.1 8 1)) a0).toInt = 0 then True else ((s_Pl_joins (u_Pl_joins (sI w 12 ((w.1 8 1).toInt.toNat) c0) ((2 : Int32) * (w.1 8 1)) a0) (((2 : Int32) * ((u_Pl_joins (sI w 12 ((w.1 8 1).toInt.toNat) c0) ((2 : Int32) * (w.1 8 1)) a0).1 8 1)) + (1 : Int32)) b0) ∧ (if ¬ (g_Pl_joins (u_Pl_joins (sI w 12 ((w.1 8 1).toInt.toNat) c0) ((2 : Int32) * (w.1 8 1)) a0) (((2 : Int32) * ((u_Pl_joins (sI w 12 ((w.1 8 1).toInt.toNat) c0) ((2 : Int32) * (w.1 8 1)) a0).1 8 1)) + (1 : Int32)) b0).toInt = 0 then True else True))))) else True)))
def g_Pl_addPipe (w : MW) (a0 : Int32) (b0 : Int32) (c0 : Int32) : Int32 := (if (24 : Int32).toInt ≤ (w.1 8 1).toInt then 0 else (if c0.toInt < (1 : Int32).toInt then 0 else (if c0.toInt ≤ (200 : Int32).toInt then (if (g_Pl_joins (sI w 12 ((w.1 8 1).toInt.toNat) c0) ((2 : Int32) * (w.1 8 1)) a0).toInt = 0 then 0 else (if ¬ (g_Pl_joins (u_Pl_joins (sI w 12 ((w.1 8 1).toInt.toNat) c0) ((2 : Int32) * (w.1 8 1)) a0) (((2 : Int32) * ((u_Pl_joins (sI w 12 ((w.1 8 1).toInt.toNat) c0) ((2 : Int32) * (w.1 8 1)) a0).1 8 1)) + (1 : Int32)) b0).toInt = 0 then 1 else 0)) else 0)))
def u_Pl_addPipe (w : MW) (a0 : Int32) (b0 : Int32) (c0 : Int32) : MW := (if (24 : Int32).toInt ≤ (w.1 8 1).toInt then w else (if c0.toInt < (1 : Int32).toInt then w else (if c0.toInt ≤ (200 : Int32).toInt then (if (g_Pl_joins (sI w 12 ((w.1 8 1).toInt.toNat) c0) ((2 : Int32) * (w.1 8 1)) a0).toInt = 0 then (u_Pl_joins (sI w 12 ((w.1 8 1).toInt.toNat) c0) ((2 : Int32) * (w.1 8 1)) a0) else (if ¬ (g_Pl_joins (u_Pl_joins (sI w 12 ((w.1 8 1).toInt.toNat) c0) ((2 : Int32) * (w.1 8 1)) a0) (((2 : Int32) * ((u_Pl_joins (sI w 12 ((w.1 8 1).toInt.toNat) c0) ((2 : Int32) * (w.1 8 1)) a0).1 8 1)) + (1 : Int32)) b0).toInt = 0 then (sI (u_Pl_joins (u_Pl_joins (sI w 12 ((w.1 8 1).toInt.toNat) c0) ((2 : Int32) * (w.1 8 1)) a0) (((2 : Int32) * ((u_Pl_joins (sI w 12 ((w.1 8 1).toInt.toNat) c0) ((2 : Int32) * (w.1 8 1)) a0).1 8 1)) + (1 : Int32)) b0) 8 1 (((u_Pl_joins (u_Pl_joins (sI w 12 ((w.1 8 1).toInt.toNat) c0) ((2 : Int32) * (w.1 8 1)) a0) (((2 : Int32) * ((u_Pl_joins (sI w 12 ((w.1 8 1).toInt.toNat) c0) ((2 : Int32) * (w.1 8 1)) a0).1 8 1)) + (1 : Int32)) b0).1 8 1) + (1 : Int32))) else (u_Pl_joins (u_Pl_joins (sI w 12 ((w.1 8 1).toInt.toNat) c0) ((2 : Int32) * (w.1 8 1)) a0) (((2 : Int32) * ((u_Pl_joins (sI w 12 ((w.1 8 1).toInt.toNat) c0) ((2 : Int32) * (w.1 8 1)) a0).1 8 1)) + (1 : Int32)) b0))) else w)))
theorem ur_Pl_addPipe (w : MW) (a0 : Int32) (b0 : Int32) (c0 : Int32) : (u_Pl_addPipe w a0 b0 c0).2.2 = w.2.2 := (ite_R rfl (ite_R rfl (ite_R (ite_R (by simp only [sI_R, sJ_R, ur_Pl_joins]) (ite_R (by simp only [sI_R, sJ_R, ur_Pl_joins]) (by simp only [sI_R, sJ_R, ur_Pl_joins]))) rfl)))
theorem z_Pl_addPipe (w : MW) (a0 : Int32) (b0 : Int32) (c0 : Int32) : (g_Pl_addPipe w a0 b0 c0).toInt = 0 ∨ (g_Pl_addPipe w a0 b0 c0).toInt = 1 := (ite_Z (by decide) (ite_Z (by decide) (ite_Z (ite_Z (by decide) (ite_Z (by decide) (by decide))) (by decide))))
set_option maxHeartbeats 4000000 in
set_option maxRecDepth 100000 in
theorem c_Pl_addPipe {d : Nat} (w : MW) (a0 : Int32) (b0 : Int32) (c0 : Int32)  (hs : s_Pl_addPipe w a0 b0 c0) : Tc (d + 1) 145 [.ref 8, .int a0, .int b0, .int c0] w (fun v w1 => v = some (.int (g_Pl_addPipe w a0 b0 c0)) ∧ w1 = u_Pl_addPipe w a0 b0 c0) := by
  unfold s_Pl_addPipe at hs
  refine tm_go 3 (pc' := 6) (L' := [some (.ref 8), some (.int a0), some (.int b0), some (.int c0)]) (S' := [.int 24, .int (w.1 8 1)]) (w' := w) rfl ?_
  refine tm_i (p1 := 21) (p2 := 9) rfl (fun h1 => ?_) (fun h1 => ?_)
  · rw [if_pos h1] at hs
    refine tm_go 1 (pc' := 22) (L' := [some (.ref 8), some (.int a0), some (.int b0), some (.int c0)]) (S' := [.int 0]) (w' := w) rfl ?_
    exact tm_r rfl (⟨by unfold g_Pl_addPipe; rw [if_pos h1], by unfold u_Pl_addPipe; rw [if_pos h1]⟩)
  · rw [if_neg h1] at hs
    refine tm_go 2 (pc' := 11) (L' := [some (.ref 8), some (.int a0), some (.int b0), some (.int c0)]) (S' := [.int 1, .int c0]) (w' := w) rfl ?_
    refine tm_i (p1 := 21) (p2 := 14) rfl (fun h2 => ?_) (fun h2 => ?_)
    · rw [if_pos h2] at hs
      refine tm_go 1 (pc' := 22) (L' := [some (.ref 8), some (.int a0), some (.int b0), some (.int c0)]) (S' := [.int 0]) (w' := w) rfl ?_
      exact tm_r rfl (⟨by unfold g_Pl_addPipe; rw [if_neg h1, if_pos h2], by unfold u_Pl_addPipe; rw [if_neg h1, if_pos h2]⟩)
    · rw [if_neg h2] at hs
      refine tm_go 2 (pc' := 18) (L' := [some (.ref 8), some (.int a0), some (.int b0), some (.int c0)]) (S' := [.int 200, .int c0]) (w' := w) rfl ?_
      refine tm_i (p1 := 23) (p2 := 21) rfl (fun h3 => ?_) (fun h3 => ?_)
      · rw [if_pos h3] at hs
        refine tm_go 5 (pc' := 32) (L' := [some (.ref 8), some (.int a0), some (.int b0), some (.int c0)]) (S' := [.int c0, .int (w.1 8 1), .ref 12]) (w' := w) rfl ?_
        obtain ⟨b1, hs⟩ := hs
        refine tm_k (pc' := 33) (L' := [some (.ref 8), some (.int a0), some (.int b0), some (.int c0)]) (S' := []) (w' := (sI w 12 ((w.1 8 1).toInt.toNat) c0)) rfl b1 ?_
        refine tm_go 6 (pc' := 41) (L' := [some (.ref 8), some (.int a0), some (.int b0), some (.int c0)]) (S' := [.int a0, .int ((2 : Int32) * (w.1 8 1)), .ref 8]) (w' := (sI w 12 ((w.1 8 1).toInt.toNat) c0)) rfl ?_
        obtain ⟨b2, hs⟩ := hs
        refine tm_c rfl (Nat.le_of_ble_eq_true rfl) (c_Pl_joins (d := d + 0) (sI w 12 ((w.1 8 1).toInt.toNat) c0) ((2 : Int32) * (w.1 8 1)) a0  b2) (fun v w_1 hq => ?_)
        obtain ⟨rfl, ew_1⟩ := hq
        try rw [← ew_1] at hs
        refine tm_i (p1 := 63) (p2 := 47) rfl (fun h4 => ?_) (fun h4 => ?_)
        · rw [if_pos h4] at hs
          refine tm_go 1 (pc' := 64) (L' := [some (.ref 8), some (.int a0), some (.int b0), some (.int c0)]) (S' := [.int 0]) (w' := w_1) rfl ?_
          exact tm_r rfl (⟨by unfold g_Pl_addPipe; subst ew_1; rw [if_neg h1, if_neg h2, if_pos h3, if_pos h4], by unfold u_Pl_addPipe; subst ew_1; rw [if_neg h1, if_neg h2, if_pos h3, if_pos h4]⟩)
        · rw [if_neg h4] at hs
          refine tm_go 8 (pc' := 57) (L' := [some (.ref 8), some (.int a0), some (.int b0), some (.int c0)]) (S' := [.int b0, .int (((2 : Int32) * (w_1.1 8 1)) + (1 : Int32)), .ref 8]) (w' := w_1) rfl ?_
          obtain ⟨b3, hs⟩ := hs
          refine tm_c rfl (Nat.le_of_ble_eq_true rfl) (c_Pl_joins (d := d + 0) w_1 (((2 : Int32) * (w_1.1 8 1)) + (1 : Int32)) b0  b3) (fun v w_2 hq => ?_)
          obtain ⟨rfl, ew_2⟩ := hq
          try rw [← ew_2] at hs
          refine tm_i (p1 := 65) (p2 := 63) rfl (fun h5 => ?_) (fun h5 => ?_)
          · rw [if_pos h5] at hs
            refine tm_go 7 (pc' := 76) (L' := [some (.ref 8), some (.int a0), some (.int b0), some (.int c0)]) (S' := [.int 1]) (w' := (sI w_2 8 1 ((w_2.1 8 1) + (1 : Int32)))) rfl ?_
            exact tm_r rfl (⟨by unfold g_Pl_addPipe; subst ew_2; subst ew_1; rw [if_neg h1, if_neg h2, if_pos h3, if_neg h4, if_pos h5], by unfold u_Pl_addPipe; subst ew_2; subst ew_1; rw [if_neg h1, if_neg h2, if_pos h3, if_neg h4, if_pos h5]⟩)
          · rw [if_neg h5] at hs
            refine tm_go 1 (pc' := 64) (L' := [some (.ref 8), some (.int a0), some (.int b0), some (.int c0)]) (S' := [.int 0]) (w' := w_2) rfl ?_
            exact tm_r rfl (⟨by unfold g_Pl_addPipe; subst ew_2; subst ew_1; rw [if_neg h1, if_neg h2, if_pos h3, if_neg h4, if_neg h5], by unfold u_Pl_addPipe; subst ew_2; subst ew_1; rw [if_neg h1, if_neg h2, if_pos h3, if_neg h4, if_neg h5]⟩)
      · rw [if_neg h3] at hs
        refine tm_go 1 (pc' := 22) (L' := [some (.ref 8), some (.int a0), some (.int b0), some (.int c0)]) (S' := [.int 0]) (w' := w) rfl ?_
        exact tm_r rfl (⟨by unfold g_Pl_addPipe; rw [if_neg h1, if_neg h2, if_neg h3], by unfold u_Pl_addPipe; rw [if_neg h1, if_neg h2, if_neg h3]⟩)
def s_Rd_makeNode (w : MW) (a0 : Int32) (b0 : Int32) : Prop := (((w.2.2 87 1) = some 108) ∧ (((w.2.2 87 1) = some 108) ∧ ((0 ≤ (g_Ma_min w (w.1 108 1) 300).toInt ∧ (g_Ma_min w (w.1 108 1) 300).toInt < 301) ∧ (((w.2.2 87 1) = some 108) ∧ ((0 ≤ (g_Ma_min w (w.1 108 1) 300).toInt ∧ (g_Ma_min w (w.1 108 1) 300).toInt < 301) ∧ (((w.2.2 87 1) = some 108) ∧ ((0 ≤ (g_Ma_min w (w.1 108 1) 300).toInt ∧ (g_Ma_min w (w.1 108 1) 300).toInt < 301) ∧ (((w.2.2 87 1) = some 108) ∧ ((0 ≤ (g_Ma_min w (w.1 108 1) 300).toInt ∧ (g_Ma_min w (w.1 108 1) 300).toInt < 301) ∧ (((w.2.2 87 1) = some 108) ∧ ((0 ≤ (g_Ma_min w (w.1 108 1) 300).toInt ∧ (g_Ma_min w (w.1 108 1) 300).toInt < 301) ∧ (((w.2.2 87 1) = some 108) ∧ ((0 ≤ (g_Ma_min w (w.1 108 1) 300).toInt ∧ (g_Ma_min w (w.1 108 1) 300).toInt < 301) ∧ ((0 ≤ (g_Ma_min w (w.1 108 1) 300).toInt ∧ (g_Ma_min w (w.1 108 1) 300).toInt < 301) ∧ ((0 ≤ (g_Ma_min w (w.1 108 1) 300).toInt ∧ (g_Ma_min w (w.1 108 1) 300).toInt < 301) ∧ (((w.2.2 87 1) = some 108) ∧ (if ¬ (g_Ma_min w (w.1 108 1) 300).toInt = (300 : Int32).toInt then True else True)))))))))))))))))
def g_Rd_makeNode (w : MW) (a0 : Int32) (b0 : Int32) : Int32 := (if ¬ (g_Ma_min w (w.1 108 1) 300).toInt = (300 : Int32).toInt then (g_Ma_min w (w.1 108 1) 300) else (g_Ma_min w (w.1 108 1) 300))
def u_Rd_makeNode (w : MW) (a0 : Int32) (b0 : Int32) : MW := (if ¬ (g_Ma_min w (w.1 108 1) 300).toInt = (300 : Int32).toInt then (sI (sI (sI (sI (sI (sI (sI (sI (sI w 109 ((g_Ma_min w (w.1 108 1) 300).toInt.toNat) a0) 110 ((g_Ma_min w (w.1 108 1) 300).toInt.toNat) b0) 111 ((g_Ma_min w (w.1 108 1) 300).toInt.toNat) (g_Ma_min w (w.1 108 1) 300)) 112 ((g_Ma_min w (w.1 108 1) 300).toInt.toNat) (g_Ma_min w (w.1 108 1) 300)) 113 ((g_Ma_min w (w.1 108 1) 300).toInt.toNat) (-1)) 114 ((g_Ma_min w (w.1 108 1) 300).toInt.toNat) (-1)) 88 ((g_Ma_min w (w.1 108 1) 300).toInt.toNat) 1) 89 ((g_Ma_min w (w.1 108 1) 300).toInt.toNat) 0) 108 1 ((g_Ma_min w (w.1 108 1) 300) + (1 : Int32))) else (u_Rd_fail (sI (sI (sI (sI (sI (sI (sI (sI (sI w 109 ((g_Ma_min w (w.1 108 1) 300).toInt.toNat) a0) 110 ((g_Ma_min w (w.1 108 1) 300).toInt.toNat) b0) 111 ((g_Ma_min w (w.1 108 1) 300).toInt.toNat) (g_Ma_min w (w.1 108 1) 300)) 112 ((g_Ma_min w (w.1 108 1) 300).toInt.toNat) (g_Ma_min w (w.1 108 1) 300)) 113 ((g_Ma_min w (w.1 108 1) 300).toInt.toNat) (-1)) 114 ((g_Ma_min w (w.1 108 1) 300).toInt.toNat) (-1)) 88 ((g_Ma_min w (w.1 108 1) 300).toInt.toNat) 1) 89 ((g_Ma_min w (w.1 108 1) 300).toInt.toNat) 0) 108 1 ((g_Ma_min w (w.1 108 1) 300) + (1 : Int32)))))
theorem ur_Rd_makeNode (w : MW) (a0 : Int32) (b0 : Int32) : (u_Rd_makeNode w a0 b0).2.2 = w.2.2 := (ite_R rfl (by simp only [sI_R, sJ_R, ur_Rd_fail]))
set_option maxHeartbeats 4000000 in
set_option maxRecDepth 100000 in
theorem c_Rd_makeNode {d : Nat} (w : MW) (a0 : Int32) (b0 : Int32)  (hs : s_Rd_makeNode w a0 b0) : Tc (d + 1) 168 [.ref 87, .int a0, .int b0] w (fun v w1 => v = some (.int (g_Rd_makeNode w a0 b0)) ∧ w1 = u_Rd_makeNode w a0 b0) := by
  unfold s_Rd_makeNode at hs
  refine tm_go 1 (pc' := 1) (L' := [some (.ref 87), some (.int a0), some (.int b0), none]) (S' := [.ref 87]) (w' := w) rfl ?_
  obtain ⟨b1, hs⟩ := hs
  refine tm_g (pc' := 4) (k := 87) (j := 1) rfl b1 ?_
  refine tm_go 2 (pc' := 10) (L' := [some (.ref 87), some (.int a0), some (.int b0), none]) (S' := [.int 300, .int (w.1 108 1)]) (w' := w) rfl ?_
  refine tm_c rfl (Nat.le_of_ble_eq_true rfl) (c_Ma_min (d := d + 0) w (w.1 108 1) 300 ) (fun v w1 hq => ?_)
  obtain ⟨rfl, hw9⟩ := hq; rw [hw9]; clear hw9
  refine tm_go 2 (pc' := 15) (L' := [some (.ref 87), some (.int a0), some (.int b0), some (.int (g_Ma_min w (w.1 108 1) 300))]) (S' := [.ref 87]) (w' := w) rfl ?_
  obtain ⟨b2, hs⟩ := hs
  refine tm_g (pc' := 18) (k := 87) (j := 1) rfl b2 ?_
  refine tm_go 3 (pc' := 23) (L' := [some (.ref 87), some (.int a0), some (.int b0), some (.int (g_Ma_min w (w.1 108 1) 300))]) (S' := [.int a0, .int (g_Ma_min w (w.1 108 1) 300), .ref 109]) (w' := w) rfl ?_
  obtain ⟨b3, hs⟩ := hs
  refine tm_k (pc' := 24) (L' := [some (.ref 87), some (.int a0), some (.int b0), some (.int (g_Ma_min w (w.1 108 1) 300))]) (S' := []) (w' := (sI w 109 ((g_Ma_min w (w.1 108 1) 300).toInt.toNat) a0)) rfl b3 ?_
  refine tm_go 1 (pc' := 25) (L' := [some (.ref 87), some (.int a0), some (.int b0), some (.int (g_Ma_min w (w.1 108 1) 300))]) (S' := [.ref 87]) (w' := (sI w 109 ((g_Ma_min w (w.1 108 1) 300).toInt.toNat) a0)) rfl ?_
  obtain ⟨b4, hs⟩ := hs
  refine tm_g (pc' := 28) (k := 87) (j := 1) rfl b4 ?_
  refine tm_go 3 (pc' := 33) (L' := [some (.ref 87), some (.int a0), some (.int b0), some (.int (g_Ma_min w (w.1 108 1) 300))]) (S' := [.int b0, .int (g_Ma_min w (w.1 108 1) 300), .ref 110]) (w' := (sI w 109 ((g_Ma_min w (w.1 108 1) 300).toInt.toNat) a0)) rfl ?_
  obtain ⟨b5, hs⟩ := hs
  refine tm_k (pc' := 34) (L' := [some (.ref 87), some (.int a0), some (.int b0), some (.int (g_Ma_min w (w.1 108 1) 300))]) (S' := []) (w' := (sI (sI w 109 ((g_Ma_min w (w.1 108 1) 300).toInt.toNat) a0) 110 ((g_Ma_min w (w.1 108 1) 300).toInt.toNat) b0)) rfl b5 ?_
  refine tm_go 1 (pc' := 35) (L' := [some (.ref 87), some (.int a0), some (.int b0), some (.int (g_Ma_min w (w.1 108 1) 300))]) (S' := [.ref 87]) (w' := (sI (sI w 109 ((g_Ma_min w (w.1 108 1) 300).toInt.toNat) a0) 110 ((g_Ma_min w (w.1 108 1) 300).toInt.toNat) b0)) rfl ?_
  obtain ⟨b6, hs⟩ := hs
  refine tm_g (pc' := 38) (k := 87) (j := 1) rfl b6 ?_
  refine tm_go 3 (pc' := 43) (L' := [some (.ref 87), some (.int a0), some (.int b0), some (.int (g_Ma_min w (w.1 108 1) 300))]) (S' := [.int (g_Ma_min w (w.1 108 1) 300), .int (g_Ma_min w (w.1 108 1) 300), .ref 111]) (w' := (sI (sI w 109 ((g_Ma_min w (w.1 108 1) 300).toInt.toNat) a0) 110 ((g_Ma_min w (w.1 108 1) 300).toInt.toNat) b0)) rfl ?_
  obtain ⟨b7, hs⟩ := hs
  refine tm_k (pc' := 44) (L' := [some (.ref 87), some (.int a0), some (.int b0), some (.int (g_Ma_min w (w.1 108 1) 300))]) (S' := []) (w' := (sI (sI (sI w 109 ((g_Ma_min w (w.1 108 1) 300).toInt.toNat) a0) 110 ((g_Ma_min w (w.1 108 1) 300).toInt.toNat) b0) 111 ((g_Ma_min w (w.1 108 1) 300).toInt.toNat) (g_Ma_min w (w.1 108 1) 300))) rfl b7 ?_
  refine tm_go 1 (pc' := 45) (L' := [some (.ref 87), some (.int a0), some (.int b0), some (.int (g_Ma_min w (w.1 108 1) 300))]) (S' := [.ref 87]) (w' := (sI (sI (sI w 109 ((g_Ma_min w (w.1 108 1) 300).toInt.toNat) a0) 110 ((g_Ma_min w (w.1 108 1) 300).toInt.toNat) b0) 111 ((g_Ma_min w (w.1 108 1) 300).toInt.toNat) (g_Ma_min w (w.1 108 1) 300))) rfl ?_
  obtain ⟨b8, hs⟩ := hs
  refine tm_g (pc' := 48) (k := 87) (j := 1) rfl b8 ?_
  refine tm_go 3 (pc' := 53) (L' := [some (.ref 87), some (.int a0), some (.int b0), some (.int (g_Ma_min w (w.1 108 1) 300))]) (S' := [.int (g_Ma_min w (w.1 108 1) 300), .int (g_Ma_min w (w.1 108 1) 300), .ref 112]) (w' := (sI (sI (sI w 109 ((g_Ma_min w (w.1 108 1) 300).toInt.toNat) a0) 110 ((g_Ma_min w (w.1 108 1) 300).toInt.toNat) b0) 111 ((g_Ma_min w (w.1 108 1) 300).toInt.toNat) (g_Ma_min w (w.1 108 1) 300))) rfl ?_
  obtain ⟨b9, hs⟩ := hs
  refine tm_k (pc' := 54) (L' := [some (.ref 87), some (.int a0), some (.int b0), some (.int (g_Ma_min w (w.1 108 1) 300))]) (S' := []) (w' := (sI (sI (sI (sI w 109 ((g_Ma_min w (w.1 108 1) 300).toInt.toNat) a0) 110 ((g_Ma_min w (w.1 108 1) 300).toInt.toNat) b0) 111 ((g_Ma_min w (w.1 108 1) 300).toInt.toNat) (g_Ma_min w (w.1 108 1) 300)) 112 ((g_Ma_min w (w.1 108 1) 300).toInt.toNat) (g_Ma_min w (w.1 108 1) 300))) rfl b9 ?_
  refine tm_go 1 (pc' := 55) (L' := [some (.ref 87), some (.int a0), some (.int b0), some (.int (g_Ma_min w (w.1 108 1) 300))]) (S' := [.ref 87]) (w' := (sI (sI (sI (sI w 109 ((g_Ma_min w (w.1 108 1) 300).toInt.toNat) a0) 110 ((g_Ma_min w (w.1 108 1) 300).toInt.toNat) b0) 111 ((g_Ma_min w (w.1 108 1) 300).toInt.toNat) (g_Ma_min w (w.1 108 1) 300)) 112 ((g_Ma_min w (w.1 108 1) 300).toInt.toNat) (g_Ma_min w (w.1 108 1) 300))) rfl ?_
  obtain ⟨b10, hs⟩ := hs
  refine tm_g (pc' := 58) (k := 87) (j := 1) rfl b10 ?_
  refine tm_go 3 (pc' := 63) (L' := [some (.ref 87), some (.int a0), some (.int b0), some (.int (g_Ma_min w (w.1 108 1) 300))]) (S' := [.int (-1), .int (g_Ma_min w (w.1 108 1) 300), .ref 113]) (w' := (sI (sI (sI (sI w 109 ((g_Ma_min w (w.1 108 1) 300).toInt.toNat) a0) 110 ((g_Ma_min w (w.1 108 1) 300).toInt.toNat) b0) 111 ((g_Ma_min w (w.1 108 1) 300).toInt.toNat) (g_Ma_min w (w.1 108 1) 300)) 112 ((g_Ma_min w (w.1 108 1) 300).toInt.toNat) (g_Ma_min w (w.1 108 1) 300))) rfl ?_
  obtain ⟨b11, hs⟩ := hs
  refine tm_k (pc' := 64) (L' := [some (.ref 87), some (.int a0), some (.int b0), some (.int (g_Ma_min w (w.1 108 1) 300))]) (S' := []) (w' := (sI (sI (sI (sI (sI w 109 ((g_Ma_min w (w.1 108 1) 300).toInt.toNat) a0) 110 ((g_Ma_min w (w.1 108 1) 300).toInt.toNat) b0) 111 ((g_Ma_min w (w.1 108 1) 300).toInt.toNat) (g_Ma_min w (w.1 108 1) 300)) 112 ((g_Ma_min w (w.1 108 1) 300).toInt.toNat) (g_Ma_min w (w.1 108 1) 300)) 113 ((g_Ma_min w (w.1 108 1) 300).toInt.toNat) (-1))) rfl b11 ?_
  refine tm_go 1 (pc' := 65) (L' := [some (.ref 87), some (.int a0), some (.int b0), some (.int (g_Ma_min w (w.1 108 1) 300))]) (S' := [.ref 87]) (w' := (sI (sI (sI (sI (sI w 109 ((g_Ma_min w (w.1 108 1) 300).toInt.toNat) a0) 110 ((g_Ma_min w (w.1 108 1) 300).toInt.toNat) b0) 111 ((g_Ma_min w (w.1 108 1) 300).toInt.toNat) (g_Ma_min w (w.1 108 1) 300)) 112 ((g_Ma_min w (w.1 108 1) 300).toInt.toNat) (g_Ma_min w (w.1 108 1) 300)) 113 ((g_Ma_min w (w.1 108 1) 300).toInt.toNat) (-1))) rfl ?_
  obtain ⟨b12, hs⟩ := hs
  refine tm_g (pc' := 68) (k := 87) (j := 1) rfl b12 ?_
  refine tm_go 3 (pc' := 73) (L' := [some (.ref 87), some (.int a0), some (.int b0), some (.int (g_Ma_min w (w.1 108 1) 300))]) (S' := [.int (-1), .int (g_Ma_min w (w.1 108 1) 300), .ref 114]) (w' := (sI (sI (sI (sI (sI w 109 ((g_Ma_min w (w.1 108 1) 300).toInt.toNat) a0) 110 ((g_Ma_min w (w.1 108 1) 300).toInt.toNat) b0) 111 ((g_Ma_min w (w.1 108 1) 300).toInt.toNat) (g_Ma_min w (w.1 108 1) 300)) 112 ((g_Ma_min w (w.1 108 1) 300).toInt.toNat) (g_Ma_min w (w.1 108 1) 300)) 113 ((g_Ma_min w (w.1 108 1) 300).toInt.toNat) (-1))) rfl ?_
  obtain ⟨b13, hs⟩ := hs
  refine tm_k (pc' := 74) (L' := [some (.ref 87), some (.int a0), some (.int b0), some (.int (g_Ma_min w (w.1 108 1) 300))]) (S' := []) (w' := (sI (sI (sI (sI (sI (sI w 109 ((g_Ma_min w (w.1 108 1) 300).toInt.toNat) a0) 110 ((g_Ma_min w (w.1 108 1) 300).toInt.toNat) b0) 111 ((g_Ma_min w (w.1 108 1) 300).toInt.toNat) (g_Ma_min w (w.1 108 1) 300)) 112 ((g_Ma_min w (w.1 108 1) 300).toInt.toNat) (g_Ma_min w (w.1 108 1) 300)) 113 ((g_Ma_min w (w.1 108 1) 300).toInt.toNat) (-1)) 114 ((g_Ma_min w (w.1 108 1) 300).toInt.toNat) (-1))) rfl b13 ?_
  refine tm_go 4 (pc' := 80) (L' := [some (.ref 87), some (.int a0), some (.int b0), some (.int (g_Ma_min w (w.1 108 1) 300))]) (S' := [.int 1, .int (g_Ma_min w (w.1 108 1) 300), .ref 88]) (w' := (sI (sI (sI (sI (sI (sI w 109 ((g_Ma_min w (w.1 108 1) 300).toInt.toNat) a0) 110 ((g_Ma_min w (w.1 108 1) 300).toInt.toNat) b0) 111 ((g_Ma_min w (w.1 108 1) 300).toInt.toNat) (g_Ma_min w (w.1 108 1) 300)) 112 ((g_Ma_min w (w.1 108 1) 300).toInt.toNat) (g_Ma_min w (w.1 108 1) 300)) 113 ((g_Ma_min w (w.1 108 1) 300).toInt.toNat) (-1)) 114 ((g_Ma_min w (w.1 108 1) 300).toInt.toNat) (-1))) rfl ?_
  obtain ⟨b14, hs⟩ := hs
  refine tm_k (pc' := 81) (L' := [some (.ref 87), some (.int a0), some (.int b0), some (.int (g_Ma_min w (w.1 108 1) 300))]) (S' := []) (w' := (sI (sI (sI (sI (sI (sI (sI w 109 ((g_Ma_min w (w.1 108 1) 300).toInt.toNat) a0) 110 ((g_Ma_min w (w.1 108 1) 300).toInt.toNat) b0) 111 ((g_Ma_min w (w.1 108 1) 300).toInt.toNat) (g_Ma_min w (w.1 108 1) 300)) 112 ((g_Ma_min w (w.1 108 1) 300).toInt.toNat) (g_Ma_min w (w.1 108 1) 300)) 113 ((g_Ma_min w (w.1 108 1) 300).toInt.toNat) (-1)) 114 ((g_Ma_min w (w.1 108 1) 300).toInt.toNat) (-1)) 88 ((g_Ma_min w (w.1 108 1) 300).toInt.toNat) 1)) rfl b14 ?_
  refine tm_go 4 (pc' := 87) (L' := [some (.ref 87), some (.int a0), some (.int b0), some (.int (g_Ma_min w (w.1 108 1) 300))]) (S' := [.int 0, .int (g_Ma_min w (w.1 108 1) 300), .ref 89]) (w' := (sI (sI (sI (sI (sI (sI (sI w 109 ((g_Ma_min w (w.1 108 1) 300).toInt.toNat) a0) 110 ((g_Ma_min w (w.1 108 1) 300).toInt.toNat) b0) 111 ((g_Ma_min w (w.1 108 1) 300).toInt.toNat) (g_Ma_min w (w.1 108 1) 300)) 112 ((g_Ma_min w (w.1 108 1) 300).toInt.toNat) (g_Ma_min w (w.1 108 1) 300)) 113 ((g_Ma_min w (w.1 108 1) 300).toInt.toNat) (-1)) 114 ((g_Ma_min w (w.1 108 1) 300).toInt.toNat) (-1)) 88 ((g_Ma_min w (w.1 108 1) 300).toInt.toNat) 1)) rfl ?_
  obtain ⟨b15, hs⟩ := hs
  refine tm_k (pc' := 88) (L' := [some (.ref 87), some (.int a0), some (.int b0), some (.int (g_Ma_min w (w.1 108 1) 300))]) (S' := []) (w' := (sI (sI (sI (sI (sI (sI (sI (sI w 109 ((g_Ma_min w (w.1 108 1) 300).toInt.toNat) a0) 110 ((g_Ma_min w (w.1 108 1) 300).toInt.toNat) b0) 111 ((g_Ma_min w (w.1 108 1) 300).toInt.toNat) (g_Ma_min w (w.1 108 1) 300)) 112 ((g_Ma_min w (w.1 108 1) 300).toInt.toNat) (g_Ma_min w (w.1 108 1) 300)) 113 ((g_Ma_min w (w.1 108 1) 300).toInt.toNat) (-1)) 114 ((g_Ma_min w (w.1 108 1) 300).toInt.toNat) (-1)) 88 ((g_Ma_min w (w.1 108 1) 300).toInt.toNat) 1) 89 ((g_Ma_min w (w.1 108 1) 300).toInt.toNat) 0)) rfl b15 ?_
  refine tm_go 1 (pc' := 89) (L' := [some (.ref 87), some (.int a0), some (.int b0), some (.int (g_Ma_min w (w.1 108 1) 300))]) (S' := [.ref 87]) (w' := (sI (sI (sI (sI (sI (sI (sI (sI w 109 ((g_Ma_min w (w.1 108 1) 300).toInt.toNat) a0) 110 ((g_Ma_min w (w.1 108 1) 300).toInt.toNat) b0) 111 ((g_Ma_min w (w.1 108 1) 300).toInt.toNat) (g_Ma_min w (w.1 108 1) 300)) 112 ((g_Ma_min w (w.1 108 1) 300).toInt.toNat) (g_Ma_min w (w.1 108 1) 300)) 113 ((g_Ma_min w (w.1 108 1) 300).toInt.toNat) (-1)) 114 ((g_Ma_min w (w.1 108 1) 300).toInt.toNat) (-1)) 88 ((g_Ma_min w (w.1 108 1) 300).toInt.toNat) 1) 89 ((g_Ma_min w (w.1 108 1) 300).toInt.toNat) 0)) rfl ?_
  obtain ⟨b16, hs⟩ := hs
  refine tm_g (pc' := 92) (k := 87) (j := 1) rfl b16 ?_
  refine tm_go 6 (pc' := 102) (L' := [some (.ref 87), some (.int a0), some (.int b0), some (.int (g_Ma_min w (w.1 108 1) 300))]) (S' := [.int 300, .int (g_Ma_min w (w.1 108 1) 300)]) (w' := (sI (sI (sI (sI (sI (sI (sI (sI (sI w 109 ((g_Ma_min w (w.1 108 1) 300).toInt.toNat) a0) 110 ((g_Ma_min w (w.1 108 1) 300).toInt.toNat) b0) 111 ((g_Ma_min w (w.1 108 1) 300).toInt.toNat) (g_Ma_min w (w.1 108 1) 300)) 112 ((g_Ma_min w (w.1 108 1) 300).toInt.toNat) (g_Ma_min w (w.1 108 1) 300)) 113 ((g_Ma_min w (w.1 108 1) 300).toInt.toNat) (-1)) 114 ((g_Ma_min w (w.1 108 1) 300).toInt.toNat) (-1)) 88 ((g_Ma_min w (w.1 108 1) 300).toInt.toNat) 1) 89 ((g_Ma_min w (w.1 108 1) 300).toInt.toNat) 0) 108 1 ((g_Ma_min w (w.1 108 1) 300) + (1 : Int32)))) rfl ?_
  refine tm_i (p1 := 109) (p2 := 105) rfl (fun h1 => ?_) (fun h1 => ?_)
  · rw [if_pos h1] at hs
    refine tm_go 1 (pc' := 110) (L' := [some (.ref 87), some (.int a0), some (.int b0), some (.int (g_Ma_min w (w.1 108 1) 300))]) (S' := [.int (g_Ma_min w (w.1 108 1) 300)]) (w' := (sI (sI (sI (sI (sI (sI (sI (sI (sI w 109 ((g_Ma_min w (w.1 108 1) 300).toInt.toNat) a0) 110 ((g_Ma_min w (w.1 108 1) 300).toInt.toNat) b0) 111 ((g_Ma_min w (w.1 108 1) 300).toInt.toNat) (g_Ma_min w (w.1 108 1) 300)) 112 ((g_Ma_min w (w.1 108 1) 300).toInt.toNat) (g_Ma_min w (w.1 108 1) 300)) 113 ((g_Ma_min w (w.1 108 1) 300).toInt.toNat) (-1)) 114 ((g_Ma_min w (w.1 108 1) 300).toInt.toNat) (-1)) 88 ((g_Ma_min w (w.1 108 1) 300).toInt.toNat) 1) 89 ((g_Ma_min w (w.1 108 1) 300).toInt.toNat) 0) 108 1 ((g_Ma_min w (w.1 108 1) 300) + (1 : Int32)))) rfl ?_
    exact tm_r rfl (⟨by unfold g_Rd_makeNode; rw [if_pos h1], by unfold u_Rd_makeNode; rw [if_pos h1]⟩)
  · rw [if_neg h1] at hs
    refine tm_go 1 (pc' := 106) (L' := [some (.ref 87), some (.int a0), some (.int b0), some (.int (g_Ma_min w (w.1 108 1) 300))]) (S' := [.ref 87]) (w' := (sI (sI (sI (sI (sI (sI (sI (sI (sI w 109 ((g_Ma_min w (w.1 108 1) 300).toInt.toNat) a0) 110 ((g_Ma_min w (w.1 108 1) 300).toInt.toNat) b0) 111 ((g_Ma_min w (w.1 108 1) 300).toInt.toNat) (g_Ma_min w (w.1 108 1) 300)) 112 ((g_Ma_min w (w.1 108 1) 300).toInt.toNat) (g_Ma_min w (w.1 108 1) 300)) 113 ((g_Ma_min w (w.1 108 1) 300).toInt.toNat) (-1)) 114 ((g_Ma_min w (w.1 108 1) 300).toInt.toNat) (-1)) 88 ((g_Ma_min w (w.1 108 1) 300).toInt.toNat) 1) 89 ((g_Ma_min w (w.1 108 1) 300).toInt.toNat) 0) 108 1 ((g_Ma_min w (w.1 108 1) 300) + (1 : Int32)))) rfl ?_
    refine tm_c rfl (Nat.le_of_ble_eq_true rfl) (c_Rd_fail (d := d + 0) (sI (sI (sI (sI (sI (sI (sI (sI (sI w 109 ((g_Ma_min w (w.1 108 1) 300).toInt.toNat) a0) 110 ((g_Ma_min w (w.1 108 1) 300).toInt.toNat) b0) 111 ((g_Ma_min w (w.1 108 1) 300).toInt.toNat) (g_Ma_min w (w.1 108 1) 300)) 112 ((g_Ma_min w (w.1 108 1) 300).toInt.toNat) (g_Ma_min w (w.1 108 1) 300)) 113 ((g_Ma_min w (w.1 108 1) 300).toInt.toNat) (-1)) 114 ((g_Ma_min w (w.1 108 1) 300).toInt.toNat) (-1)) 88 ((g_Ma_min w (w.1 108 1) 300).toInt.toNat) 1) 89 ((g_Ma_min w (w.1 108 1) 300).toInt.toNat) 0) 108 1 ((g_Ma_min w (w.1 108 1) 300) + (1 : Int32)))  ) (fun v w_1 hq => ?_)
    obtain ⟨rfl, ew_1⟩ := hq
    try rw [← ew_1] at hs
    refine tm_go 1 (pc' := 110) (L' := [some (.ref 87), some (.int a0), some (.int b0), some (.int (g_Ma_min w (w.1 108 1) 300))]) (S' := [.int (g_Ma_min w (w.1 108 1) 300)]) (w' := w_1) rfl ?_
    exact tm_r rfl (⟨by unfold g_Rd_makeNode; subst ew_1; rw [if_neg h1], by unfold u_Rd_makeNode; subst ew_1; rw [if_neg h1]⟩)
def s_Rd_join (w : MW) (a0 : Int32) (b0 : Int32) (c0 : Int32) (e0 : Int32) : Prop := (if (w.1 87 9).toInt < 0 then (if ¬ c0.toInt = e0.toInt then (if ¬ a0.toInt = (42 : Int32).toInt then (if ¬ a0.toInt = (47 : Int32).toInt then True else (if c0.toInt = e0.toInt then (if ¬ e0.toInt = 0 then ((s_Rd_makeNode w a0 0) ∧ True) else ((s_Rd_makeNode w a0 0) ∧ True)) else (if ¬ e0.toInt = 0 then True else ((s_Rd_makeNode w a0 0) ∧ True)))) else (if c0.toInt = 0 then ((s_Rd_makeNode w a0 0) ∧ True) else (if ¬ e0.toInt = 0 then True else ((s_Rd_makeNode w a0 0) ∧ True)))) else (if ¬ a0.toInt = (42 : Int32).toInt then (if ¬ a0.toInt = (47 : Int32).toInt then ((s_Rd_makeNode w a0 0) ∧ True) else (if c0.toInt = e0.toInt then (if ¬ e0.toInt = 0 then ((s_Rd_makeNode w a0 0) ∧ True) else ((s_Rd_makeNode w a0 0) ∧ True)) else (if ¬ e0.toInt = 0 then True else ((s_Rd_makeNode w a0 0) ∧ True)))) else (if c0.toInt = 0 then ((s_Rd_makeNode w a0 0) ∧ True) else (if ¬ e0.toInt = 0 then True else ((s_Rd_makeNode w a0 0) ∧ True))))) else True)
def g_Rd_join (w : MW) (a0 : Int32) (b0 : Int32) (c0 : Int32) (e0 : Int32) : Int32 := (if (w.1 87 9).toInt < 0 then (if ¬ c0.toInt = e0.toInt then (if ¬ a0.toInt = (42 : Int32).toInt then (if ¬ a0.toInt = (47 : Int32).toInt then 0 else (if c0.toInt = e0.toInt then (if ¬ e0.toInt = 0 then 0 else c0) else (if ¬ e0.toInt = 0 then 0 else c0))) else (if c0.toInt = 0 then (g_Ma_max w c0 e0) else (if ¬ e0.toInt = 0 then 0 else (g_Ma_max w c0 e0)))) else (if ¬ a0.toInt = (42 : Int32).toInt then (if ¬ a0.toInt = (47 : Int32).toInt then c0 else (if c0.toInt = e0.toInt then (if ¬ e0.toInt = 0 then 0 else c0) else (if ¬ e0.toInt = 0 then 0 else c0))) else (if c0.toInt = 0 then (g_Ma_max w c0 e0) else (if ¬ e0.toInt = 0 then 0 else (g_Ma_max w c0 e0))))) else 0)
def u_Rd_join (w : MW) (a0 : Int32) (b0 : Int32) (c0 : Int32) (e0 : Int32) : MW := (if (w.1 87 9).toInt < 0 then (if ¬ c0.toInt = e0.toInt then (if ¬ a0.toInt = (42 : Int32).toInt then (if ¬ a0.toInt = (47 : Int32).toInt then (sI w 87 9 b0) else (if c0.toInt = e0.toInt then (if ¬ e0.toInt = 0 then (u_Rd_makeNode w a0 0) else (u_Rd_makeNode w a0 0)) else (if ¬ e0.toInt = 0 then (sI w 87 9 b0) else (u_Rd_makeNode w a0 0)))) else (if c0.toInt = 0 then (u_Rd_makeNode w a0 0) else (if ¬ e0.toInt = 0 then (sI w 87 9 b0) else (u_Rd_makeNode w a0 0)))) else (if ¬ a0.toInt = (42 : Int32).toInt then (if ¬ a0.toInt = (47 : Int32).toInt then (u_Rd_makeNode w a0 0) else (if c0.toInt = e0.toInt then (if ¬ e0.toInt = 0 then (u_Rd_makeNode w a0 0) else (u_Rd_makeNode w a0 0)) else (if ¬ e0.toInt = 0 then (sI w 87 9 b0) else (u_Rd_makeNode w a0 0)))) else (if c0.toInt = 0 then (u_Rd_makeNode w a0 0) else (if ¬ e0.toInt = 0 then (sI w 87 9 b0) else (u_Rd_makeNode w a0 0))))) else w)
theorem ur_Rd_join (w : MW) (a0 : Int32) (b0 : Int32) (c0 : Int32) (e0 : Int32) : (u_Rd_join w a0 b0 c0 e0).2.2 = w.2.2 := (ite_R (ite_R (ite_R (ite_R rfl (ite_R (ite_R (by simp only [sI_R, sJ_R, ur_Rd_makeNode]) (by simp only [sI_R, sJ_R, ur_Rd_makeNode])) (ite_R rfl (by simp only [sI_R, sJ_R, ur_Rd_makeNode])))) (ite_R (by simp only [sI_R, sJ_R, ur_Rd_makeNode]) (ite_R rfl (by simp only [sI_R, sJ_R, ur_Rd_makeNode])))) (ite_R (ite_R (by simp only [sI_R, sJ_R, ur_Rd_makeNode]) (ite_R (ite_R (by simp only [sI_R, sJ_R, ur_Rd_makeNode]) (by simp only [sI_R, sJ_R, ur_Rd_makeNode])) (ite_R rfl (by simp only [sI_R, sJ_R, ur_Rd_makeNode])))) (ite_R (by simp only [sI_R, sJ_R, ur_Rd_makeNode]) (ite_R rfl (by simp only [sI_R, sJ_R, ur_Rd_makeNode]))))) rfl)
set_option maxHeartbeats 4000000 in
set_option maxRecDepth 100000 in
theorem c_Rd_join {d : Nat} (w : MW) (a0 : Int32) (b0 : Int32) (c0 : Int32) (e0 : Int32)  (hs : s_Rd_join w a0 b0 c0 e0) : Tc (d + 2) 183 [.ref 87, .int a0, .int b0, .int c0, .int e0] w (fun v w1 => v = some (.int (g_Rd_join w a0 b0 c0 e0)) ∧ w1 = u_Rd_join w a0 b0 c0 e0) := by
  unfold s_Rd_join at hs
  refine tm_go 2 (pc' := 4) (L' := [some (.ref 87), some (.int a0), some (.int b0), some (.int c0), some (.int e0), none, none]) (S' := [.int (w.1 87 9)]) (w' := w) rfl ?_
  refine tm_i (p1 := 9) (p2 := 7) rfl (fun h1 => ?_) (fun h1 => ?_)
  · rw [if_pos h1] at hs
    refine tm_go 2 (pc' := 12) (L' := [some (.ref 87), some (.int a0), some (.int b0), some (.int c0), some (.int e0), none, none]) (S' := [.int e0, .int c0]) (w' := w) rfl ?_
    refine tm_i (p1 := 19) (p2 := 15) rfl (fun h2 => ?_) (fun h2 => ?_)
    · rw [if_pos h2] at hs
      refine tm_go 6 (pc' := 28) (L' := [some (.ref 87), some (.int a0), some (.int b0), some (.int c0), some (.int e0), some (.int 0), some (.int c0)]) (S' := [.int 42, .int a0]) (w' := w) rfl ?_
      refine tm_i (p1 := 58) (p2 := 31) rfl (fun h3 => ?_) (fun h3 => ?_)
      · rw [if_pos h3] at hs
        refine tm_go 2 (pc' := 61) (L' := [some (.ref 87), some (.int a0), some (.int b0), some (.int c0), some (.int e0), some (.int 0), some (.int c0)]) (S' := [.int 47, .int a0]) (w' := w) rfl ?_
        refine tm_i (p1 := 94) (p2 := 64) rfl (fun h4 => ?_) (fun h4 => ?_)
        · rw [if_pos h4] at hs
          refine tm_go 6 (pc' := 105) (L' := [some (.ref 87), some (.int a0), some (.int b0), some (.int c0), some (.int e0), some (.int 0), some (.int c0)]) (S' := [.int 0]) (w' := (sI w 87 9 b0)) rfl ?_
          exact tm_r rfl (⟨by unfold g_Rd_join; rw [if_pos h1, if_pos h2, if_pos h3, if_pos h4], by unfold u_Rd_join; rw [if_pos h1, if_pos h2, if_pos h3, if_pos h4]⟩)
        · rw [if_neg h4] at hs
          refine tm_go 2 (pc' := 67) (L' := [some (.ref 87), some (.int a0), some (.int b0), some (.int c0), some (.int e0), some (.int 0), some (.int c0)]) (S' := [.int e0, .int c0]) (w' := w) rfl ?_
          refine tm_i (p1 := 75) (p2 := 70) rfl (fun h6 => ?_) (fun h6 => ?_)
          · rw [if_pos h6] at hs
            refine tm_go 4 (pc' := 84) (L' := [some (.ref 87), some (.int a0), some (.int b0), some (.int c0), some (.int e0), some (.int 1), some (.int c0)]) (S' := [.int e0]) (w' := w) rfl ?_
            refine tm_i (p1 := 91) (p2 := 87) rfl (fun h7 => ?_) (fun h7 => ?_)
            · rw [if_pos h7] at hs
              refine tm_go 7 (pc' := 109) (L' := [some (.ref 87), some (.int a0), some (.int b0), some (.int c0), some (.int e0), some (.int 1), some (.int 0)]) (S' := [.int 0, .int a0, .ref 87]) (w' := w) rfl ?_
              obtain ⟨b1, hs⟩ := hs
              refine tm_c rfl (Nat.le_of_ble_eq_true rfl) (c_Rd_makeNode (d := d + 0) w a0 0  b1) (fun v w_1 hq => ?_)
              obtain ⟨rfl, ew_1⟩ := hq
              try rw [← ew_1] at hs
              refine tm_go 2 (pc' := 115) (L' := [some (.ref 87), some (.int a0), some (.int b0), some (.int c0), some (.int e0), some (.int 1), some (.int 0)]) (S' := [.int 0]) (w' := w_1) rfl ?_
              exact tm_r rfl (⟨by unfold g_Rd_join; subst ew_1; rw [if_pos h1, if_pos h2, if_pos h3, if_neg h4, if_pos h6, if_pos h7], by unfold u_Rd_join; subst ew_1; rw [if_pos h1, if_pos h2, if_pos h3, if_neg h4, if_pos h6, if_pos h7]⟩)
            · rw [if_neg h7] at hs
              refine tm_go 8 (pc' := 109) (L' := [some (.ref 87), some (.int a0), some (.int b0), some (.int c0), some (.int e0), some (.int 1), some (.int c0)]) (S' := [.int 0, .int a0, .ref 87]) (w' := w) rfl ?_
              obtain ⟨b2, hs⟩ := hs
              refine tm_c rfl (Nat.le_of_ble_eq_true rfl) (c_Rd_makeNode (d := d + 0) w a0 0  b2) (fun v w_2 hq => ?_)
              obtain ⟨rfl, ew_2⟩ := hq
              try rw [← ew_2] at hs
              refine tm_go 2 (pc' := 115) (L' := [some (.ref 87), some (.int a0), some (.int b0), some (.int c0), some (.int e0), some (.int 1), some (.int c0)]) (S' := [.int c0]) (w' := w_2) rfl ?_
              exact tm_r rfl (⟨by unfold g_Rd_join; subst ew_2; rw [if_pos h1, if_pos h2, if_pos h3, if_neg h4, if_pos h6, if_neg h7], by unfold u_Rd_join; subst ew_2; rw [if_pos h1, if_pos h2, if_pos h3, if_neg h4, if_pos h6, if_neg h7]⟩)
          · rw [if_neg h6] at hs
            refine tm_go 1 (pc' := 72) (L' := [some (.ref 87), some (.int a0), some (.int b0), some (.int c0), some (.int e0), some (.int 0), some (.int c0)]) (S' := [.int e0]) (w' := w) rfl ?_
            refine tm_i (p1 := 79) (p2 := 75) rfl (fun h10 => ?_) (fun h10 => ?_)
            · rw [if_pos h10] at hs
              refine tm_go 3 (pc' := 84) (L' := [some (.ref 87), some (.int a0), some (.int b0), some (.int c0), some (.int e0), some (.int 0), some (.int c0)]) (S' := [.int e0]) (w' := w) rfl ?_
              refine tm_i (p1 := 91) (p2 := 87) rfl (fun _ => ?_) (fun h => absurd h10 h)
              refine tm_go 8 (pc' := 105) (L' := [some (.ref 87), some (.int a0), some (.int b0), some (.int c0), some (.int e0), some (.int 0), some (.int 0)]) (S' := [.int 0]) (w' := (sI w 87 9 b0)) rfl ?_
              exact tm_r rfl (⟨by unfold g_Rd_join; rw [if_pos h1, if_pos h2, if_pos h3, if_neg h4, if_neg h6, if_pos h10], by unfold u_Rd_join; rw [if_pos h1, if_pos h2, if_pos h3, if_neg h4, if_neg h6, if_pos h10]⟩)
            · rw [if_neg h10] at hs
              refine tm_go 4 (pc' := 84) (L' := [some (.ref 87), some (.int a0), some (.int b0), some (.int c0), some (.int e0), some (.int 1), some (.int c0)]) (S' := [.int e0]) (w' := w) rfl ?_
              refine tm_i (p1 := 91) (p2 := 87) rfl (fun h => absurd h h10) (fun _ => ?_)
              refine tm_go 8 (pc' := 109) (L' := [some (.ref 87), some (.int a0), some (.int b0), some (.int c0), some (.int e0), some (.int 1), some (.int c0)]) (S' := [.int 0, .int a0, .ref 87]) (w' := w) rfl ?_
              obtain ⟨b3, hs⟩ := hs
              refine tm_c rfl (Nat.le_of_ble_eq_true rfl) (c_Rd_makeNode (d := d + 0) w a0 0  b3) (fun v w_3 hq => ?_)
              obtain ⟨rfl, ew_3⟩ := hq
              try rw [← ew_3] at hs
              refine tm_go 2 (pc' := 115) (L' := [some (.ref 87), some (.int a0), some (.int b0), some (.int c0), some (.int e0), some (.int 1), some (.int c0)]) (S' := [.int c0]) (w' := w_3) rfl ?_
              exact tm_r rfl (⟨by unfold g_Rd_join; subst ew_3; rw [if_pos h1, if_pos h2, if_pos h3, if_neg h4, if_neg h6, if_neg h10], by unfold u_Rd_join; subst ew_3; rw [if_pos h1, if_pos h2, if_pos h3, if_neg h4, if_neg h6, if_neg h10]⟩)
      · rw [if_neg h3] at hs
        refine tm_go 1 (pc' := 32) (L' := [some (.ref 87), some (.int a0), some (.int b0), some (.int c0), some (.int e0), some (.int 0), some (.int c0)]) (S' := [.int c0]) (w' := w) rfl ?_
        refine tm_i (p1 := 40) (p2 := 35) rfl (fun h15 => ?_) (fun h15 => ?_)
        · rw [if_pos h15] at hs
          refine tm_go 5 (pc' := 50) (L' := [some (.ref 87), some (.int a0), some (.int b0), some (.int c0), some (.int e0), some (.int 1), some (.int c0)]) (S' := [.int e0, .int c0]) (w' := w) rfl ?_
          refine tm_c rfl (Nat.le_of_ble_eq_true rfl) (c_Ma_max (d := d + 1) w c0 e0 ) (fun v w1 hq => ?_)
          obtain ⟨rfl, hw9⟩ := hq; rw [hw9]; clear hw9
          refine tm_go 7 (pc' := 109) (L' := [some (.ref 87), some (.int a0), some (.int b0), some (.int c0), some (.int e0), some (.int 1), some (.int (g_Ma_max w c0 e0))]) (S' := [.int 0, .int a0, .ref 87]) (w' := w) rfl ?_
          obtain ⟨b4, hs⟩ := hs
          refine tm_c rfl (Nat.le_of_ble_eq_true rfl) (c_Rd_makeNode (d := d + 0) w a0 0  b4) (fun v w_4 hq => ?_)
          obtain ⟨rfl, ew_4⟩ := hq
          try rw [← ew_4] at hs
          refine tm_go 2 (pc' := 115) (L' := [some (.ref 87), some (.int a0), some (.int b0), some (.int c0), some (.int e0), some (.int 1), some (.int (g_Ma_max w c0 e0))]) (S' := [.int (g_Ma_max w c0 e0)]) (w' := w_4) rfl ?_
          exact tm_r rfl (⟨by unfold g_Rd_join; subst ew_4; rw [if_pos h1, if_pos h2, if_neg h3, if_pos h15], by unfold u_Rd_join; subst ew_4; rw [if_pos h1, if_pos h2, if_neg h3, if_pos h15]⟩)
        · rw [if_neg h15] at hs
          refine tm_go 1 (pc' := 37) (L' := [some (.ref 87), some (.int a0), some (.int b0), some (.int c0), some (.int e0), some (.int 0), some (.int c0)]) (S' := [.int e0]) (w' := w) rfl ?_
          refine tm_i (p1 := 44) (p2 := 40) rfl (fun h17 => ?_) (fun h17 => ?_)
          · rw [if_pos h17] at hs
            refine tm_go 4 (pc' := 50) (L' := [some (.ref 87), some (.int a0), some (.int b0), some (.int c0), some (.int e0), some (.int 0), some (.int c0)]) (S' := [.int e0, .int c0]) (w' := w) rfl ?_
            refine tm_c rfl (Nat.le_of_ble_eq_true rfl) (c_Ma_max (d := d + 1) w c0 e0 ) (fun v w1 hq => ?_)
            obtain ⟨rfl, hw9⟩ := hq; rw [hw9]; clear hw9
            refine tm_go 8 (pc' := 105) (L' := [some (.ref 87), some (.int a0), some (.int b0), some (.int c0), some (.int e0), some (.int 0), some (.int (g_Ma_max w c0 e0))]) (S' := [.int 0]) (w' := (sI w 87 9 b0)) rfl ?_
            exact tm_r rfl (⟨by unfold g_Rd_join; rw [if_pos h1, if_pos h2, if_neg h3, if_neg h15, if_pos h17], by unfold u_Rd_join; rw [if_pos h1, if_pos h2, if_neg h3, if_neg h15, if_pos h17]⟩)
          · rw [if_neg h17] at hs
            refine tm_go 5 (pc' := 50) (L' := [some (.ref 87), some (.int a0), some (.int b0), some (.int c0), some (.int e0), some (.int 1), some (.int c0)]) (S' := [.int e0, .int c0]) (w' := w) rfl ?_
            refine tm_c rfl (Nat.le_of_ble_eq_true rfl) (c_Ma_max (d := d + 1) w c0 e0 ) (fun v w1 hq => ?_)
            obtain ⟨rfl, hw9⟩ := hq; rw [hw9]; clear hw9
            refine tm_go 7 (pc' := 109) (L' := [some (.ref 87), some (.int a0), some (.int b0), some (.int c0), some (.int e0), some (.int 1), some (.int (g_Ma_max w c0 e0))]) (S' := [.int 0, .int a0, .ref 87]) (w' := w) rfl ?_
            obtain ⟨b5, hs⟩ := hs
            refine tm_c rfl (Nat.le_of_ble_eq_true rfl) (c_Rd_makeNode (d := d + 0) w a0 0  b5) (fun v w_5 hq => ?_)
            obtain ⟨rfl, ew_5⟩ := hq
            try rw [← ew_5] at hs
            refine tm_go 2 (pc' := 115) (L' := [some (.ref 87), some (.int a0), some (.int b0), some (.int c0), some (.int e0), some (.int 1), some (.int (g_Ma_max w c0 e0))]) (S' := [.int (g_Ma_max w c0 e0)]) (w' := w_5) rfl ?_
            exact tm_r rfl (⟨by unfold g_Rd_join; subst ew_5; rw [if_pos h1, if_pos h2, if_neg h3, if_neg h15, if_neg h17], by unfold u_Rd_join; subst ew_5; rw [if_pos h1, if_pos h2, if_neg h3, if_neg h15, if_neg h17]⟩)
    · rw [if_neg h2] at hs
      refine tm_go 7 (pc' := 28) (L' := [some (.ref 87), some (.int a0), some (.int b0), some (.int c0), some (.int e0), some (.int 1), some (.int c0)]) (S' := [.int 42, .int a0]) (w' := w) rfl ?_
      refine tm_i (p1 := 58) (p2 := 31) rfl (fun h20 => ?_) (fun h20 => ?_)
      · rw [if_pos h20] at hs
        refine tm_go 2 (pc' := 61) (L' := [some (.ref 87), some (.int a0), some (.int b0), some (.int c0), some (.int e0), some (.int 1), some (.int c0)]) (S' := [.int 47, .int a0]) (w' := w) rfl ?_
        refine tm_i (p1 := 94) (p2 := 64) rfl (fun h21 => ?_) (fun h21 => ?_)
        · rw [if_pos h21] at hs
          refine tm_go 5 (pc' := 109) (L' := [some (.ref 87), some (.int a0), some (.int b0), some (.int c0), some (.int e0), some (.int 1), some (.int c0)]) (S' := [.int 0, .int a0, .ref 87]) (w' := w) rfl ?_
          obtain ⟨b6, hs⟩ := hs
          refine tm_c rfl (Nat.le_of_ble_eq_true rfl) (c_Rd_makeNode (d := d + 0) w a0 0  b6) (fun v w_6 hq => ?_)
          obtain ⟨rfl, ew_6⟩ := hq
          try rw [← ew_6] at hs
          refine tm_go 2 (pc' := 115) (L' := [some (.ref 87), some (.int a0), some (.int b0), some (.int c0), some (.int e0), some (.int 1), some (.int c0)]) (S' := [.int c0]) (w' := w_6) rfl ?_
          exact tm_r rfl (⟨by unfold g_Rd_join; subst ew_6; rw [if_pos h1, if_neg h2, if_pos h20, if_pos h21], by unfold u_Rd_join; subst ew_6; rw [if_pos h1, if_neg h2, if_pos h20, if_pos h21]⟩)
        · rw [if_neg h21] at hs
          refine tm_go 2 (pc' := 67) (L' := [some (.ref 87), some (.int a0), some (.int b0), some (.int c0), some (.int e0), some (.int 1), some (.int c0)]) (S' := [.int e0, .int c0]) (w' := w) rfl ?_
          refine tm_i (p1 := 75) (p2 := 70) rfl (fun h23 => ?_) (fun h23 => ?_)
          · rw [if_pos h23] at hs
            refine tm_go 4 (pc' := 84) (L' := [some (.ref 87), some (.int a0), some (.int b0), some (.int c0), some (.int e0), some (.int 1), some (.int c0)]) (S' := [.int e0]) (w' := w) rfl ?_
            refine tm_i (p1 := 91) (p2 := 87) rfl (fun h24 => ?_) (fun h24 => ?_)
            · rw [if_pos h24] at hs
              refine tm_go 7 (pc' := 109) (L' := [some (.ref 87), some (.int a0), some (.int b0), some (.int c0), some (.int e0), some (.int 1), some (.int 0)]) (S' := [.int 0, .int a0, .ref 87]) (w' := w) rfl ?_
              obtain ⟨b7, hs⟩ := hs
              refine tm_c rfl (Nat.le_of_ble_eq_true rfl) (c_Rd_makeNode (d := d + 0) w a0 0  b7) (fun v w_7 hq => ?_)
              obtain ⟨rfl, ew_7⟩ := hq
              try rw [← ew_7] at hs
              refine tm_go 2 (pc' := 115) (L' := [some (.ref 87), some (.int a0), some (.int b0), some (.int c0), some (.int e0), some (.int 1), some (.int 0)]) (S' := [.int 0]) (w' := w_7) rfl ?_
              exact tm_r rfl (⟨by unfold g_Rd_join; subst ew_7; rw [if_pos h1, if_neg h2, if_pos h20, if_neg h21, if_pos h23, if_pos h24], by unfold u_Rd_join; subst ew_7; rw [if_pos h1, if_neg h2, if_pos h20, if_neg h21, if_pos h23, if_pos h24]⟩)
            · rw [if_neg h24] at hs
              refine tm_go 8 (pc' := 109) (L' := [some (.ref 87), some (.int a0), some (.int b0), some (.int c0), some (.int e0), some (.int 1), some (.int c0)]) (S' := [.int 0, .int a0, .ref 87]) (w' := w) rfl ?_
              obtain ⟨b8, hs⟩ := hs
              refine tm_c rfl (Nat.le_of_ble_eq_true rfl) (c_Rd_makeNode (d := d + 0) w a0 0  b8) (fun v w_8 hq => ?_)
              obtain ⟨rfl, ew_8⟩ := hq
              try rw [← ew_8] at hs
              refine tm_go 2 (pc' := 115) (L' := [some (.ref 87), some (.int a0), some (.int b0), some (.int c0), some (.int e0), some (.int 1), some (.int c0)]) (S' := [.int c0]) (w' := w_8) rfl ?_
              exact tm_r rfl (⟨by unfold g_Rd_join; subst ew_8; rw [if_pos h1, if_neg h2, if_pos h20, if_neg h21, if_pos h23, if_neg h24], by unfold u_Rd_join; subst ew_8; rw [if_pos h1, if_neg h2, if_pos h20, if_neg h21, if_pos h23, if_neg h24]⟩)
          · rw [if_neg h23] at hs
            refine tm_go 1 (pc' := 72) (L' := [some (.ref 87), some (.int a0), some (.int b0), some (.int c0), some (.int e0), some (.int 1), some (.int c0)]) (S' := [.int e0]) (w' := w) rfl ?_
            refine tm_i (p1 := 79) (p2 := 75) rfl (fun h27 => ?_) (fun h27 => ?_)
            · rw [if_pos h27] at hs
              refine tm_go 3 (pc' := 84) (L' := [some (.ref 87), some (.int a0), some (.int b0), some (.int c0), some (.int e0), some (.int 0), some (.int c0)]) (S' := [.int e0]) (w' := w) rfl ?_
              refine tm_i (p1 := 91) (p2 := 87) rfl (fun _ => ?_) (fun h => absurd h27 h)
              refine tm_go 8 (pc' := 105) (L' := [some (.ref 87), some (.int a0), some (.int b0), some (.int c0), some (.int e0), some (.int 0), some (.int 0)]) (S' := [.int 0]) (w' := (sI w 87 9 b0)) rfl ?_
              exact tm_r rfl (⟨by unfold g_Rd_join; rw [if_pos h1, if_neg h2, if_pos h20, if_neg h21, if_neg h23, if_pos h27], by unfold u_Rd_join; rw [if_pos h1, if_neg h2, if_pos h20, if_neg h21, if_neg h23, if_pos h27]⟩)
            · rw [if_neg h27] at hs
              refine tm_go 4 (pc' := 84) (L' := [some (.ref 87), some (.int a0), some (.int b0), some (.int c0), some (.int e0), some (.int 1), some (.int c0)]) (S' := [.int e0]) (w' := w) rfl ?_
              refine tm_i (p1 := 91) (p2 := 87) rfl (fun h => absurd h h27) (fun _ => ?_)
              refine tm_go 8 (pc' := 109) (L' := [some (.ref 87), some (.int a0), some (.int b0), some (.int c0), some (.int e0), some (.int 1), some (.int c0)]) (S' := [.int 0, .int a0, .ref 87]) (w' := w) rfl ?_
              obtain ⟨b9, hs⟩ := hs
              refine tm_c rfl (Nat.le_of_ble_eq_true rfl) (c_Rd_makeNode (d := d + 0) w a0 0  b9) (fun v w_9 hq => ?_)
              obtain ⟨rfl, ew_9⟩ := hq
              try rw [← ew_9] at hs
              refine tm_go 2 (pc' := 115) (L' := [some (.ref 87), some (.int a0), some (.int b0), some (.int c0), some (.int e0), some (.int 1), some (.int c0)]) (S' := [.int c0]) (w' := w_9) rfl ?_
              exact tm_r rfl (⟨by unfold g_Rd_join; subst ew_9; rw [if_pos h1, if_neg h2, if_pos h20, if_neg h21, if_neg h23, if_neg h27], by unfold u_Rd_join; subst ew_9; rw [if_pos h1, if_neg h2, if_pos h20, if_neg h21, if_neg h23, if_neg h27]⟩)
      · rw [if_neg h20] at hs
        refine tm_go 1 (pc' := 32) (L' := [some (.ref 87), some (.int a0), some (.int b0), some (.int c0), some (.int e0), some (.int 1), some (.int c0)]) (S' := [.int c0]) (w' := w) rfl ?_
        refine tm_i (p1 := 40) (p2 := 35) rfl (fun h32 => ?_) (fun h32 => ?_)
        · rw [if_pos h32] at hs
          refine tm_go 5 (pc' := 50) (L' := [some (.ref 87), some (.int a0), some (.int b0), some (.int c0), some (.int e0), some (.int 1), some (.int c0)]) (S' := [.int e0, .int c0]) (w' := w) rfl ?_
          refine tm_c rfl (Nat.le_of_ble_eq_true rfl) (c_Ma_max (d := d + 1) w c0 e0 ) (fun v w1 hq => ?_)
          obtain ⟨rfl, hw9⟩ := hq; rw [hw9]; clear hw9
          refine tm_go 7 (pc' := 109) (L' := [some (.ref 87), some (.int a0), some (.int b0), some (.int c0), some (.int e0), some (.int 1), some (.int (g_Ma_max w c0 e0))]) (S' := [.int 0, .int a0, .ref 87]) (w' := w) rfl ?_
          obtain ⟨b10, hs⟩ := hs
          refine tm_c rfl (Nat.le_of_ble_eq_true rfl) (c_Rd_makeNode (d := d + 0) w a0 0  b10) (fun v w_10 hq => ?_)
          obtain ⟨rfl, ew_10⟩ := hq
          try rw [← ew_10] at hs
          refine tm_go 2 (pc' := 115) (L' := [some (.ref 87), some (.int a0), some (.int b0), some (.int c0), some (.int e0), some (.int 1), some (.int (g_Ma_max w c0 e0))]) (S' := [.int (g_Ma_max w c0 e0)]) (w' := w_10) rfl ?_
          exact tm_r rfl (⟨by unfold g_Rd_join; subst ew_10; rw [if_pos h1, if_neg h2, if_neg h20, if_pos h32], by unfold u_Rd_join; subst ew_10; rw [if_pos h1, if_neg h2, if_neg h20, if_pos h32]⟩)
        · rw [if_neg h32] at hs
          refine tm_go 1 (pc' := 37) (L' := [some (.ref 87), some (.int a0), some (.int b0), some (.int c0), some (.int e0), some (.int 1), some (.int c0)]) (S' := [.int e0]) (w' := w) rfl ?_
          refine tm_i (p1 := 44) (p2 := 40) rfl (fun h34 => ?_) (fun h34 => ?_)
          · rw [if_pos h34] at hs
            refine tm_go 4 (pc' := 50) (L' := [some (.ref 87), some (.int a0), some (.int b0), some (.int c0), some (.int e0), some (.int 0), some (.int c0)]) (S' := [.int e0, .int c0]) (w' := w) rfl ?_
            refine tm_c rfl (Nat.le_of_ble_eq_true rfl) (c_Ma_max (d := d + 1) w c0 e0 ) (fun v w1 hq => ?_)
            obtain ⟨rfl, hw9⟩ := hq; rw [hw9]; clear hw9
            refine tm_go 8 (pc' := 105) (L' := [some (.ref 87), some (.int a0), some (.int b0), some (.int c0), some (.int e0), some (.int 0), some (.int (g_Ma_max w c0 e0))]) (S' := [.int 0]) (w' := (sI w 87 9 b0)) rfl ?_
            exact tm_r rfl (⟨by unfold g_Rd_join; rw [if_pos h1, if_neg h2, if_neg h20, if_neg h32, if_pos h34], by unfold u_Rd_join; rw [if_pos h1, if_neg h2, if_neg h20, if_neg h32, if_pos h34]⟩)
          · rw [if_neg h34] at hs
            refine tm_go 5 (pc' := 50) (L' := [some (.ref 87), some (.int a0), some (.int b0), some (.int c0), some (.int e0), some (.int 1), some (.int c0)]) (S' := [.int e0, .int c0]) (w' := w) rfl ?_
            refine tm_c rfl (Nat.le_of_ble_eq_true rfl) (c_Ma_max (d := d + 1) w c0 e0 ) (fun v w1 hq => ?_)
            obtain ⟨rfl, hw9⟩ := hq; rw [hw9]; clear hw9
            refine tm_go 7 (pc' := 109) (L' := [some (.ref 87), some (.int a0), some (.int b0), some (.int c0), some (.int e0), some (.int 1), some (.int (g_Ma_max w c0 e0))]) (S' := [.int 0, .int a0, .ref 87]) (w' := w) rfl ?_
            obtain ⟨b11, hs⟩ := hs
            refine tm_c rfl (Nat.le_of_ble_eq_true rfl) (c_Rd_makeNode (d := d + 0) w a0 0  b11) (fun v w_11 hq => ?_)
            obtain ⟨rfl, ew_11⟩ := hq
            try rw [← ew_11] at hs
            refine tm_go 2 (pc' := 115) (L' := [some (.ref 87), some (.int a0), some (.int b0), some (.int c0), some (.int e0), some (.int 1), some (.int (g_Ma_max w c0 e0))]) (S' := [.int (g_Ma_max w c0 e0)]) (w' := w_11) rfl ?_
            exact tm_r rfl (⟨by unfold g_Rd_join; subst ew_11; rw [if_pos h1, if_neg h2, if_neg h20, if_neg h32, if_neg h34], by unfold u_Rd_join; subst ew_11; rw [if_pos h1, if_neg h2, if_neg h20, if_neg h32, if_neg h34]⟩)
  · rw [if_neg h1] at hs
    refine tm_go 1 (pc' := 8) (L' := [some (.ref 87), some (.int a0), some (.int b0), some (.int c0), some (.int e0), none, none]) (S' := [.int 0]) (w' := w) rfl ?_
    exact tm_r rfl (⟨by unfold g_Rd_join; rw [if_neg h1], by unfold u_Rd_join; rw [if_neg h1]⟩)
def s_Ru_begin (w : MW)  : Prop := ((s_Ru_enter (sI w 61 4 0) 0) ∧ True)
def u_Ru_begin (w : MW)  : MW := (u_Ru_enter (sI w 61 4 0) 0)
theorem ur_Ru_begin (w : MW)  : (u_Ru_begin w).2.2 = w.2.2 := (by unfold u_Ru_begin; simp only [sI_R, sJ_R, ur_Ru_enter])
set_option maxHeartbeats 4000000 in
set_option maxRecDepth 100000 in
theorem c_Ru_begin {d : Nat} (w : MW)   (hs : s_Ru_begin w) : Tc (d + 1) 205 [.ref 61] w (fun v w1 => v = none ∧ w1 = u_Ru_begin w) := by
  unfold s_Ru_begin at hs
  refine tm_go 5 (pc' := 7) (L' := [some (.ref 61)]) (S' := [.int 0, .ref 61]) (w' := (sI w 61 4 0)) rfl ?_
  obtain ⟨b1, hs⟩ := hs
  refine tm_c rfl (Nat.le_of_ble_eq_true rfl) (c_Ru_enter (d := d + 0) (sI w 61 4 0) 0  b1) (fun v w_1 hq => ?_)
  obtain ⟨rfl, ew_1⟩ := hq
  try rw [← ew_1] at hs
  exact tm_r rfl (⟨rfl, by unfold u_Ru_begin; subst ew_1; rfl⟩)
def s_Ru_rampOn (w : MW) (a0 : Int32) (b0 : Int64) : Prop := ((0 ≤ a0.toInt ∧ a0.toInt < 501) ∧ (if 0 ≤ (lg_cmp b0 (w.2.1 83 a0.toInt.toNat)).toInt then ((0 ≤ a0.toInt ∧ a0.toInt < 501) ∧ ((0 ≤ a0.toInt ∧ a0.toInt < 501) ∧ ((s_Ru_setValue w (w.1 77 a0.toInt.toNat) (w.2.1 85 a0.toInt.toNat)) ∧ True))) else ((0 ≤ a0.toInt ∧ a0.toInt < 501) ∧ (if 0 ≤ (lg_cmp (w.2.1 83 a0.toInt.toNat) 1).toInt then ((0 ≤ a0.toInt ∧ a0.toInt < 501) ∧ ((0 ≤ a0.toInt ∧ a0.toInt < 501) ∧ ((0 ≤ a0.toInt ∧ a0.toInt < 501) ∧ ((0 ≤ a0.toInt ∧ a0.toInt < 501) ∧ ((0 ≤ a0.toInt ∧ a0.toInt < 501) ∧ ((s_Ma_floorDiv w (((w.2.1 85 a0.toInt.toNat) - (w.2.1 84 a0.toInt.toNat)) * b0) (w.2.1 83 a0.toInt.toNat)) ∧ ((s_Ru_setValue w (w.1 77 a0.toInt.toNat) ((w.2.1 84 a0.toInt.toNat) + (g_Ma_floorDiv w (((w.2.1 85 a0.toInt.toNat) - (w.2.1 84 a0.toInt.toNat)) * b0) (w.2.1 83 a0.toInt.toNat)))) ∧ True))))))) else ((0 ≤ a0.toInt ∧ a0.toInt < 501) ∧ ((0 ≤ a0.toInt ∧ a0.toInt < 501) ∧ ((s_Ru_setValue w (w.1 77 a0.toInt.toNat) (w.2.1 85 a0.toInt.toNat)) ∧ True)))))))
def g_Ru_rampOn (w : MW) (a0 : Int32) (b0 : Int64) : Int32 := (if 0 ≤ (lg_cmp b0 (w.2.1 83 a0.toInt.toNat)).toInt then 1 else (if 0 ≤ (lg_cmp (w.2.1 83 a0.toInt.toNat) 1).toInt then 0 else 1))
def u_Ru_rampOn (w : MW) (a0 : Int32) (b0 : Int64) : MW := (if 0 ≤ (lg_cmp b0 (w.2.1 83 a0.toInt.toNat)).toInt then (u_Ru_setValue w (w.1 77 a0.toInt.toNat) (w.2.1 85 a0.toInt.toNat)) else (if 0 ≤ (lg_cmp (w.2.1 83 a0.toInt.toNat) 1).toInt then (u_Ru_setValue w (w.1 77 a0.toInt.toNat) ((w.2.1 84 a0.toInt.toNat) + (g_Ma_floorDiv w (((w.2.1 85 a0.toInt.toNat) - (w.2.1 84 a0.toInt.toNat)) * b0) (w.2.1 83 a0.toInt.toNat)))) else (u_Ru_setValue w (w.1 77 a0.toInt.toNat) (w.2.1 85 a0.toInt.toNat))))
theorem ur_Ru_rampOn (w : MW) (a0 : Int32) (b0 : Int64) : (u_Ru_rampOn w a0 b0).2.2 = w.2.2 := (ite_R (by simp only [sI_R, sJ_R, ur_Ru_setValue]) (ite_R (by simp only [sI_R, sJ_R, ur_Ru_setValue]) (by simp only [sI_R, sJ_R, ur_Ru_setValue])))
set_option maxHeartbeats 4000000 in
set_option maxRecDepth 100000 in
theorem c_Ru_rampOn {d : Nat} (w : MW) (a0 : Int32) (b0 : Int64)  (hs : s_Ru_rampOn w a0 b0) : Tc (d + 1) 226 [.ref 61, .int a0, .long b0] w (fun v w1 => v = some (.int (g_Ru_rampOn w a0 b0)) ∧ w1 = u_Ru_rampOn w a0 b0) := by
  unfold s_Ru_rampOn at hs
  refine tm_go 4 (pc' := 6) (L' := [some (.ref 61), some (.int a0), some (.long b0), none]) (S' := [.int a0, .ref 83, .long b0]) (w' := w) rfl ?_
  obtain ⟨b1, hs⟩ := hs
  refine tm_k (pc' := 7) (L' := [some (.ref 61), some (.int a0), some (.long b0), none]) (S' := [.long (w.2.1 83 a0.toInt.toNat), .long b0]) (w' := w) rfl b1 ?_
  refine tm_go 1 (pc' := 8) (L' := [some (.ref 61), some (.int a0), some (.long b0), none]) (S' := [.int (lg_cmp b0 (w.2.1 83 a0.toInt.toNat))]) (w' := w) rfl ?_
  refine tm_i (p1 := 22) (p2 := 11) rfl (fun h1 => ?_) (fun h1 => ?_)
  · rw [if_pos h1] at hs
    refine tm_go 4 (pc' := 28) (L' := [some (.ref 61), some (.int a0), some (.long b0), none]) (S' := [.int a0, .ref 77, .ref 61]) (w' := w) rfl ?_
    obtain ⟨b2, hs⟩ := hs
    refine tm_k (pc' := 29) (L' := [some (.ref 61), some (.int a0), some (.long b0), none]) (S' := [.int (w.1 77 a0.toInt.toNat), .ref 61]) (w' := w) rfl b2 ?_
    refine tm_go 3 (pc' := 34) (L' := [some (.ref 61), some (.int a0), some (.long b0), none]) (S' := [.int a0, .ref 85, .int (w.1 77 a0.toInt.toNat), .ref 61]) (w' := w) rfl ?_
    obtain ⟨b3, hs⟩ := hs
    refine tm_k (pc' := 35) (L' := [some (.ref 61), some (.int a0), some (.long b0), none]) (S' := [.long (w.2.1 85 a0.toInt.toNat), .int (w.1 77 a0.toInt.toNat), .ref 61]) (w' := w) rfl b3 ?_
    obtain ⟨b4, hs⟩ := hs
    refine tm_c rfl (Nat.le_of_ble_eq_true rfl) (c_Ru_setValue (d := d + 0) w (w.1 77 a0.toInt.toNat) (w.2.1 85 a0.toInt.toNat)  b4) (fun v w_1 hq => ?_)
    obtain ⟨rfl, ew_1⟩ := hq
    try rw [← ew_1] at hs
    refine tm_go 1 (pc' := 39) (L' := [some (.ref 61), some (.int a0), some (.long b0), none]) (S' := [.int 1]) (w' := w_1) rfl ?_
    exact tm_r rfl (⟨by unfold g_Ru_rampOn; subst ew_1; rw [if_pos h1], by unfold u_Ru_rampOn; subst ew_1; rw [if_pos h1]⟩)
  · rw [if_neg h1] at hs
    refine tm_go 3 (pc' := 16) (L' := [some (.ref 61), some (.int a0), some (.long b0), none]) (S' := [.int a0, .ref 83]) (w' := w) rfl ?_
    obtain ⟨b5, hs⟩ := hs
    refine tm_k (pc' := 17) (L' := [some (.ref 61), some (.int a0), some (.long b0), none]) (S' := [.long (w.2.1 83 a0.toInt.toNat)]) (w' := w) rfl b5 ?_
    refine tm_go 2 (pc' := 19) (L' := [some (.ref 61), some (.int a0), some (.long b0), none]) (S' := [.int (lg_cmp (w.2.1 83 a0.toInt.toNat) 1)]) (w' := w) rfl ?_
    refine tm_i (p1 := 40) (p2 := 22) rfl (fun h2 => ?_) (fun h2 => ?_)
    · rw [if_pos h2] at hs
      refine tm_go 4 (pc' := 46) (L' := [some (.ref 61), some (.int a0), some (.long b0), none]) (S' := [.int a0, .ref 77, .ref 61]) (w' := w) rfl ?_
      obtain ⟨b6, hs⟩ := hs
      refine tm_k (pc' := 47) (L' := [some (.ref 61), some (.int a0), some (.long b0), none]) (S' := [.int (w.1 77 a0.toInt.toNat), .ref 61]) (w' := w) rfl b6 ?_
      refine tm_go 3 (pc' := 52) (L' := [some (.ref 61), some (.int a0), some (.long b0), none]) (S' := [.int a0, .ref 84, .int (w.1 77 a0.toInt.toNat), .ref 61]) (w' := w) rfl ?_
      obtain ⟨b7, hs⟩ := hs
      refine tm_k (pc' := 53) (L' := [some (.ref 61), some (.int a0), some (.long b0), none]) (S' := [.long (w.2.1 84 a0.toInt.toNat), .int (w.1 77 a0.toInt.toNat), .ref 61]) (w' := w) rfl b7 ?_
      refine tm_go 3 (pc' := 58) (L' := [some (.ref 61), some (.int a0), some (.long b0), none]) (S' := [.int a0, .ref 85, .long (w.2.1 84 a0.toInt.toNat), .int (w.1 77 a0.toInt.toNat), .ref 61]) (w' := w) rfl ?_
      obtain ⟨b8, hs⟩ := hs
      refine tm_k (pc' := 59) (L' := [some (.ref 61), some (.int a0), some (.long b0), none]) (S' := [.long (w.2.1 85 a0.toInt.toNat), .long (w.2.1 84 a0.toInt.toNat), .int (w.1 77 a0.toInt.toNat), .ref 61]) (w' := w) rfl b8 ?_
      refine tm_go 3 (pc' := 64) (L' := [some (.ref 61), some (.int a0), some (.long b0), none]) (S' := [.int a0, .ref 84, .long (w.2.1 85 a0.toInt.toNat), .long (w.2.1 84 a0.toInt.toNat), .int (w.1 77 a0.toInt.toNat), .ref 61]) (w' := w) rfl ?_
      obtain ⟨b9, hs⟩ := hs
      refine tm_k (pc' := 65) (L' := [some (.ref 61), some (.int a0), some (.long b0), none]) (S' := [.long (w.2.1 84 a0.toInt.toNat), .long (w.2.1 85 a0.toInt.toNat), .long (w.2.1 84 a0.toInt.toNat), .int (w.1 77 a0.toInt.toNat), .ref 61]) (w' := w) rfl b9 ?_
      refine tm_go 6 (pc' := 73) (L' := [some (.ref 61), some (.int a0), some (.long b0), none]) (S' := [.int a0, .ref 83, .long (((w.2.1 85 a0.toInt.toNat) - (w.2.1 84 a0.toInt.toNat)) * b0), .long (w.2.1 84 a0.toInt.toNat), .int (w.1 77 a0.toInt.toNat), .ref 61]) (w' := w) rfl ?_
      obtain ⟨b10, hs⟩ := hs
      refine tm_k (pc' := 74) (L' := [some (.ref 61), some (.int a0), some (.long b0), none]) (S' := [.long (w.2.1 83 a0.toInt.toNat), .long (((w.2.1 85 a0.toInt.toNat) - (w.2.1 84 a0.toInt.toNat)) * b0), .long (w.2.1 84 a0.toInt.toNat), .int (w.1 77 a0.toInt.toNat), .ref 61]) (w' := w) rfl b10 ?_
      obtain ⟨b11, hs⟩ := hs
      refine tm_c rfl (Nat.le_of_ble_eq_true rfl) (c_Ma_floorDiv (d := d + 0) w (((w.2.1 85 a0.toInt.toNat) - (w.2.1 84 a0.toInt.toNat)) * b0) (w.2.1 83 a0.toInt.toNat)  b11) (fun v w1 hq => ?_)
      obtain ⟨rfl, hw9⟩ := hq; rw [hw9]; clear hw9
      refine tm_go 1 (pc' := 78) (L' := [some (.ref 61), some (.int a0), some (.long b0), none]) (S' := [.long ((w.2.1 84 a0.toInt.toNat) + (g_Ma_floorDiv w (((w.2.1 85 a0.toInt.toNat) - (w.2.1 84 a0.toInt.toNat)) * b0) (w.2.1 83 a0.toInt.toNat))), .int (w.1 77 a0.toInt.toNat), .ref 61]) (w' := w) rfl ?_
      obtain ⟨b12, hs⟩ := hs
      refine tm_c rfl (Nat.le_of_ble_eq_true rfl) (c_Ru_setValue (d := d + 0) w (w.1 77 a0.toInt.toNat) ((w.2.1 84 a0.toInt.toNat) + (g_Ma_floorDiv w (((w.2.1 85 a0.toInt.toNat) - (w.2.1 84 a0.toInt.toNat)) * b0) (w.2.1 83 a0.toInt.toNat)))  b12) (fun v w_2 hq => ?_)
      obtain ⟨rfl, ew_2⟩ := hq
      try rw [← ew_2] at hs
      refine tm_go 1 (pc' := 82) (L' := [some (.ref 61), some (.int a0), some (.long b0), none]) (S' := [.int 0]) (w' := w_2) rfl ?_
      exact tm_r rfl (⟨by unfold g_Ru_rampOn; subst ew_2; rw [if_neg h1, if_pos h2], by unfold u_Ru_rampOn; subst ew_2; rw [if_neg h1, if_pos h2]⟩)
    · rw [if_neg h2] at hs
      refine tm_go 4 (pc' := 28) (L' := [some (.ref 61), some (.int a0), some (.long b0), none]) (S' := [.int a0, .ref 77, .ref 61]) (w' := w) rfl ?_
      obtain ⟨b13, hs⟩ := hs
      refine tm_k (pc' := 29) (L' := [some (.ref 61), some (.int a0), some (.long b0), none]) (S' := [.int (w.1 77 a0.toInt.toNat), .ref 61]) (w' := w) rfl b13 ?_
      refine tm_go 3 (pc' := 34) (L' := [some (.ref 61), some (.int a0), some (.long b0), none]) (S' := [.int a0, .ref 85, .int (w.1 77 a0.toInt.toNat), .ref 61]) (w' := w) rfl ?_
      obtain ⟨b14, hs⟩ := hs
      refine tm_k (pc' := 35) (L' := [some (.ref 61), some (.int a0), some (.long b0), none]) (S' := [.long (w.2.1 85 a0.toInt.toNat), .int (w.1 77 a0.toInt.toNat), .ref 61]) (w' := w) rfl b14 ?_
      obtain ⟨b15, hs⟩ := hs
      refine tm_c rfl (Nat.le_of_ble_eq_true rfl) (c_Ru_setValue (d := d + 0) w (w.1 77 a0.toInt.toNat) (w.2.1 85 a0.toInt.toNat)  b15) (fun v w_3 hq => ?_)
      obtain ⟨rfl, ew_3⟩ := hq
      try rw [← ew_3] at hs
      refine tm_go 1 (pc' := 39) (L' := [some (.ref 61), some (.int a0), some (.long b0), none]) (S' := [.int 1]) (w' := w_3) rfl ?_
      exact tm_r rfl (⟨by unfold g_Ru_rampOn; subst ew_3; rw [if_neg h1, if_neg h2], by unfold u_Ru_rampOn; subst ew_3; rw [if_neg h1, if_neg h2]⟩)
def s_Sf_otherPasses (w : MW) (a0 : Int32) (b0 : Int32) : Prop := (((w.2.2 7 0) = some 8) ∧ ((0 ≤ a0.toInt ∧ a0.toInt < 20) ∧ (if (8 : Int32).toInt ≤ (w.1 9 a0.toInt.toNat).toInt then True else (if ¬ (w.1 9 a0.toInt.toNat).toInt = (4 : Int32).toInt then ((0 ≤ a0.toInt ∧ a0.toInt < 20) ∧ ((0 ≤ (((w.1 9 a0.toInt.toNat) * (10 : Int32)) + (w.1 16 a0.toInt.toNat)).toInt ∧ (((w.1 9 a0.toInt.toNat) * (10 : Int32)) + (w.1 16 a0.toInt.toNat)).toInt < 100) ∧ ((0 ≤ (((w.1 9 a0.toInt.toNat) * (10 : Int32)) + b0).toInt ∧ (((w.1 9 a0.toInt.toNat) * (10 : Int32)) + b0).toInt < 100) ∧ (((w.2.2 7 0) = some 8) ∧ ((0 ≤ a0.toInt ∧ a0.toInt < 20) ∧ ((0 ≤ (g_Ma_min w (w.1 11 a0.toInt.toNat) 4).toInt ∧ (g_Ma_min w (w.1 11 a0.toInt.toNat) 4).toInt < 5) ∧ (if ((((stT 1001).getD (((w.1 9 a0.toInt.toNat) * (10 : Int32)) + b0).toInt.toNat 0) &&& (((stT 1001).getD (((w.1 9 a0.toInt.toNat) * (10 : Int32)) + (w.1 16 a0.toInt.toNat)).toInt.toNat 0) ^^^ ((-1) : Int32))) &&& ((stT 1002).getD (g_Ma_min w (w.1 11 a0.toInt.toNat) 4).toInt.toNat 0)).toInt = 0 then True else True))))))) else (if ¬ b0.toInt = (1 : Int32).toInt then ((0 ≤ a0.toInt ∧ a0.toInt < 20) ∧ ((0 ≤ (((w.1 9 a0.toInt.toNat) * (10 : Int32)) + (w.1 16 a0.toInt.toNat)).toInt ∧ (((w.1 9 a0.toInt.toNat) * (10 : Int32)) + (w.1 16 a0.toInt.toNat)).toInt < 100) ∧ ((0 ≤ (((w.1 9 a0.toInt.toNat) * (10 : Int32)) + b0).toInt ∧ (((w.1 9 a0.toInt.toNat) * (10 : Int32)) + b0).toInt < 100) ∧ (((w.2.2 7 0) = some 8) ∧ ((0 ≤ a0.toInt ∧ a0.toInt < 20) ∧ ((0 ≤ (g_Ma_min w (w.1 11 a0.toInt.toNat) 4).toInt ∧ (g_Ma_min w (w.1 11 a0.toInt.toNat) 4).toInt < 5) ∧ (if ((((stT 1001).getD (((w.1 9 a0.toInt.toNat) * (10 : Int32)) + b0).toInt.toNat 0) &&& (((stT 1001).getD (((w.1 9 a0.toInt.toNat) * (10 : Int32)) + (w.1 16 a0.toInt.toNat)).toInt.toNat 0) ^^^ ((-1) : Int32))) &&& ((stT 1002).getD (g_Ma_min w (w.1 11 a0.toInt.toNat) 4).toInt.toNat 0)).toInt = 0 then True else True))))))) else True)))))
def g_Sf_otherPasses (w : MW) (a0 : Int32) (b0 : Int32) : Int32 := (if (8 : Int32).toInt ≤ (w.1 9 a0.toInt.toNat).toInt then 0 else (if ¬ (w.1 9 a0.toInt.toNat).toInt = (4 : Int32).toInt then (if ((((stT 1001).getD (((w.1 9 a0.toInt.toNat) * (10 : Int32)) + b0).toInt.toNat 0) &&& (((stT 1001).getD (((w.1 9 a0.toInt.toNat) * (10 : Int32)) + (w.1 16 a0.toInt.toNat)).toInt.toNat 0) ^^^ ((-1) : Int32))) &&& ((stT 1002).getD (g_Ma_min w (w.1 11 a0.toInt.toNat) 4).toInt.toNat 0)).toInt = 0 then 0 else ((stT 1001).getD (((w.1 9 a0.toInt.toNat) * (10 : Int32)) + b0).toInt.toNat 0)) else (if ¬ b0.toInt = (1 : Int32).toInt then (if ((((stT 1001).getD (((w.1 9 a0.toInt.toNat) * (10 : Int32)) + b0).toInt.toNat 0) &&& (((stT 1001).getD (((w.1 9 a0.toInt.toNat) * (10 : Int32)) + (w.1 16 a0.toInt.toNat)).toInt.toNat 0) ^^^ ((-1) : Int32))) &&& ((stT 1002).getD (g_Ma_min w (w.1 11 a0.toInt.toNat) 4).toInt.toNat 0)).toInt = 0 then 0 else ((stT 1001).getD (((w.1 9 a0.toInt.toNat) * (10 : Int32)) + b0).toInt.toNat 0)) else 0)))
set_option maxHeartbeats 4000000 in
set_option maxRecDepth 100000 in
theorem c_Sf_otherPasses {d : Nat} (w : MW) (a0 : Int32) (b0 : Int32)  (hs : s_Sf_otherPasses w a0 b0) : Tc (d + 1) 233 [.ref 42, .int a0, .int b0] w (fun v w1 => v = some (.int (g_Sf_otherPasses w a0 b0)) ∧ w1 = w) := by
  unfold s_Sf_otherPasses at hs
  refine tm_go 2 (pc' := 4) (L' := [some (.ref 42), some (.int a0), some (.int b0), none, none, none]) (S' := [.ref 7]) (w' := w) rfl ?_
  obtain ⟨b1, hs⟩ := hs
  refine tm_g (pc' := 7) (k := 7) (j := 0) rfl b1 ?_
  refine tm_go 2 (pc' := 11) (L' := [some (.ref 42), some (.int a0), some (.int b0), none, none, none]) (S' := [.int a0, .ref 9]) (w' := w) rfl ?_
  obtain ⟨b2, hs⟩ := hs
  refine tm_k (pc' := 12) (L' := [some (.ref 42), some (.int a0), some (.int b0), none, none, none]) (S' := [.int (w.1 9 a0.toInt.toNat)]) (w' := w) rfl b2 ?_
  refine tm_go 3 (pc' := 16) (L' := [some (.ref 42), some (.int a0), some (.int b0), some (.int (w.1 9 a0.toInt.toNat)), none, none]) (S' := [.int 8, .int (w.1 9 a0.toInt.toNat)]) (w' := w) rfl ?_
  refine tm_i (p1 := 29) (p2 := 19) rfl (fun h1 => ?_) (fun h1 => ?_)
  · rw [if_pos h1] at hs
    refine tm_go 1 (pc' := 30) (L' := [some (.ref 42), some (.int a0), some (.int b0), some (.int (w.1 9 a0.toInt.toNat)), none, none]) (S' := [.int 0]) (w' := w) rfl ?_
    exact tm_r rfl (⟨by unfold g_Sf_otherPasses; rw [if_pos h1], rfl⟩)
  · rw [if_neg h1] at hs
    refine tm_go 2 (pc' := 21) (L' := [some (.ref 42), some (.int a0), some (.int b0), some (.int (w.1 9 a0.toInt.toNat)), none, none]) (S' := [.int 4, .int (w.1 9 a0.toInt.toNat)]) (w' := w) rfl ?_
    refine tm_i (p1 := 31) (p2 := 24) rfl (fun h2 => ?_) (fun h2 => ?_)
    · rw [if_pos h2] at hs
      refine tm_go 8 (pc' := 46) (L' := [some (.ref 42), some (.int a0), some (.int b0), some (.int (w.1 9 a0.toInt.toNat)), none, none]) (S' := [.int a0, .ref 16, .int ((w.1 9 a0.toInt.toNat) * (10 : Int32)), .ref 1001]) (w' := w) rfl ?_
      obtain ⟨b3, hs⟩ := hs
      refine tm_k (pc' := 47) (L' := [some (.ref 42), some (.int a0), some (.int b0), some (.int (w.1 9 a0.toInt.toNat)), none, none]) (S' := [.int (w.1 16 a0.toInt.toNat), .int ((w.1 9 a0.toInt.toNat) * (10 : Int32)), .ref 1001]) (w' := w) rfl b3 ?_
      refine tm_go 1 (pc' := 48) (L' := [some (.ref 42), some (.int a0), some (.int b0), some (.int (w.1 9 a0.toInt.toNat)), none, none]) (S' := [.int (((w.1 9 a0.toInt.toNat) * (10 : Int32)) + (w.1 16 a0.toInt.toNat)), .ref 1001]) (w' := w) rfl ?_
      obtain ⟨b4, hs⟩ := hs
      refine tm_k (pc' := 49) (L' := [some (.ref 42), some (.int a0), some (.int b0), some (.int (w.1 9 a0.toInt.toNat)), none, none]) (S' := [.int ((stT 1001).getD (((w.1 9 a0.toInt.toNat) * (10 : Int32)) + (w.1 16 a0.toInt.toNat)).toInt.toNat 0)]) (w' := w) rfl b4 ?_
      refine tm_go 7 (pc' := 60) (L' := [some (.ref 42), some (.int a0), some (.int b0), some (.int (w.1 9 a0.toInt.toNat)), some (.int ((stT 1001).getD (((w.1 9 a0.toInt.toNat) * (10 : Int32)) + (w.1 16 a0.toInt.toNat)).toInt.toNat 0)), none]) (S' := [.int (((w.1 9 a0.toInt.toNat) * (10 : Int32)) + b0), .ref 1001]) (w' := w) rfl ?_
      obtain ⟨b5, hs⟩ := hs
      refine tm_k (pc' := 61) (L' := [some (.ref 42), some (.int a0), some (.int b0), some (.int (w.1 9 a0.toInt.toNat)), some (.int ((stT 1001).getD (((w.1 9 a0.toInt.toNat) * (10 : Int32)) + (w.1 16 a0.toInt.toNat)).toInt.toNat 0)), none]) (S' := [.int ((stT 1001).getD (((w.1 9 a0.toInt.toNat) * (10 : Int32)) + b0).toInt.toNat 0)]) (w' := w) rfl b5 ?_
      refine tm_go 9 (pc' := 77) (L' := [some (.ref 42), some (.int a0), some (.int b0), some (.int (w.1 9 a0.toInt.toNat)), some (.int ((stT 1001).getD (((w.1 9 a0.toInt.toNat) * (10 : Int32)) + (w.1 16 a0.toInt.toNat)).toInt.toNat 0)), some (.int ((stT 1001).getD (((w.1 9 a0.toInt.toNat) * (10 : Int32)) + b0).toInt.toNat 0))]) (S' := [.ref 7, .ref 1002, .int (((stT 1001).getD (((w.1 9 a0.toInt.toNat) * (10 : Int32)) + b0).toInt.toNat 0) &&& (((stT 1001).getD (((w.1 9 a0.toInt.toNat) * (10 : Int32)) + (w.1 16 a0.toInt.toNat)).toInt.toNat 0) ^^^ ((-1) : Int32)))]) (w' := w) rfl ?_
      obtain ⟨b6, hs⟩ := hs
      refine tm_g (pc' := 80) (k := 7) (j := 0) rfl b6 ?_
      refine tm_go 2 (pc' := 84) (L' := [some (.ref 42), some (.int a0), some (.int b0), some (.int (w.1 9 a0.toInt.toNat)), some (.int ((stT 1001).getD (((w.1 9 a0.toInt.toNat) * (10 : Int32)) + (w.1 16 a0.toInt.toNat)).toInt.toNat 0)), some (.int ((stT 1001).getD (((w.1 9 a0.toInt.toNat) * (10 : Int32)) + b0).toInt.toNat 0))]) (S' := [.int a0, .ref 11, .ref 1002, .int (((stT 1001).getD (((w.1 9 a0.toInt.toNat) * (10 : Int32)) + b0).toInt.toNat 0) &&& (((stT 1001).getD (((w.1 9 a0.toInt.toNat) * (10 : Int32)) + (w.1 16 a0.toInt.toNat)).toInt.toNat 0) ^^^ ((-1) : Int32)))]) (w' := w) rfl ?_
      obtain ⟨b7, hs⟩ := hs
      refine tm_k (pc' := 85) (L' := [some (.ref 42), some (.int a0), some (.int b0), some (.int (w.1 9 a0.toInt.toNat)), some (.int ((stT 1001).getD (((w.1 9 a0.toInt.toNat) * (10 : Int32)) + (w.1 16 a0.toInt.toNat)).toInt.toNat 0)), some (.int ((stT 1001).getD (((w.1 9 a0.toInt.toNat) * (10 : Int32)) + b0).toInt.toNat 0))]) (S' := [.int (w.1 11 a0.toInt.toNat), .ref 1002, .int (((stT 1001).getD (((w.1 9 a0.toInt.toNat) * (10 : Int32)) + b0).toInt.toNat 0) &&& (((stT 1001).getD (((w.1 9 a0.toInt.toNat) * (10 : Int32)) + (w.1 16 a0.toInt.toNat)).toInt.toNat 0) ^^^ ((-1) : Int32)))]) (w' := w) rfl b7 ?_
      refine tm_go 1 (pc' := 86) (L' := [some (.ref 42), some (.int a0), some (.int b0), some (.int (w.1 9 a0.toInt.toNat)), some (.int ((stT 1001).getD (((w.1 9 a0.toInt.toNat) * (10 : Int32)) + (w.1 16 a0.toInt.toNat)).toInt.toNat 0)), some (.int ((stT 1001).getD (((w.1 9 a0.toInt.toNat) * (10 : Int32)) + b0).toInt.toNat 0))]) (S' := [.int 4, .int (w.1 11 a0.toInt.toNat), .ref 1002, .int (((stT 1001).getD (((w.1 9 a0.toInt.toNat) * (10 : Int32)) + b0).toInt.toNat 0) &&& (((stT 1001).getD (((w.1 9 a0.toInt.toNat) * (10 : Int32)) + (w.1 16 a0.toInt.toNat)).toInt.toNat 0) ^^^ ((-1) : Int32)))]) (w' := w) rfl ?_
      refine tm_c rfl (Nat.le_of_ble_eq_true rfl) (c_Ma_min (d := d + 0) w (w.1 11 a0.toInt.toNat) 4 ) (fun v w1 hq => ?_)
      obtain ⟨rfl, hw9⟩ := hq; rw [hw9]; clear hw9
      obtain ⟨b8, hs⟩ := hs
      refine tm_k (pc' := 90) (L' := [some (.ref 42), some (.int a0), some (.int b0), some (.int (w.1 9 a0.toInt.toNat)), some (.int ((stT 1001).getD (((w.1 9 a0.toInt.toNat) * (10 : Int32)) + (w.1 16 a0.toInt.toNat)).toInt.toNat 0)), some (.int ((stT 1001).getD (((w.1 9 a0.toInt.toNat) * (10 : Int32)) + b0).toInt.toNat 0))]) (S' := [.int ((stT 1002).getD (g_Ma_min w (w.1 11 a0.toInt.toNat) 4).toInt.toNat 0), .int (((stT 1001).getD (((w.1 9 a0.toInt.toNat) * (10 : Int32)) + b0).toInt.toNat 0) &&& (((stT 1001).getD (((w.1 9 a0.toInt.toNat) * (10 : Int32)) + (w.1 16 a0.toInt.toNat)).toInt.toNat 0) ^^^ ((-1) : Int32)))]) (w' := w) rfl b8 ?_
      refine tm_go 1 (pc' := 91) (L' := [some (.ref 42), some (.int a0), some (.int b0), some (.int (w.1 9 a0.toInt.toNat)), some (.int ((stT 1001).getD (((w.1 9 a0.toInt.toNat) * (10 : Int32)) + (w.1 16 a0.toInt.toNat)).toInt.toNat 0)), some (.int ((stT 1001).getD (((w.1 9 a0.toInt.toNat) * (10 : Int32)) + b0).toInt.toNat 0))]) (S' := [.int ((((stT 1001).getD (((w.1 9 a0.toInt.toNat) * (10 : Int32)) + b0).toInt.toNat 0) &&& (((stT 1001).getD (((w.1 9 a0.toInt.toNat) * (10 : Int32)) + (w.1 16 a0.toInt.toNat)).toInt.toNat 0) ^^^ ((-1) : Int32))) &&& ((stT 1002).getD (g_Ma_min w (w.1 11 a0.toInt.toNat) 4).toInt.toNat 0))]) (w' := w) rfl ?_
      refine tm_i (p1 := 99) (p2 := 94) rfl (fun h3 => ?_) (fun h3 => ?_)
      · rw [if_pos h3] at hs
        refine tm_go 1 (pc' := 100) (L' := [some (.ref 42), some (.int a0), some (.int b0), some (.int (w.1 9 a0.toInt.toNat)), some (.int ((stT 1001).getD (((w.1 9 a0.toInt.toNat) * (10 : Int32)) + (w.1 16 a0.toInt.toNat)).toInt.toNat 0)), some (.int ((stT 1001).getD (((w.1 9 a0.toInt.toNat) * (10 : Int32)) + b0).toInt.toNat 0))]) (S' := [.int 0]) (w' := w) rfl ?_
        exact tm_r rfl (⟨by unfold g_Sf_otherPasses; rw [if_neg h1, if_pos h2, if_pos h3], rfl⟩)
      · rw [if_neg h3] at hs
        refine tm_go 2 (pc' := 100) (L' := [some (.ref 42), some (.int a0), some (.int b0), some (.int (w.1 9 a0.toInt.toNat)), some (.int ((stT 1001).getD (((w.1 9 a0.toInt.toNat) * (10 : Int32)) + (w.1 16 a0.toInt.toNat)).toInt.toNat 0)), some (.int ((stT 1001).getD (((w.1 9 a0.toInt.toNat) * (10 : Int32)) + b0).toInt.toNat 0))]) (S' := [.int ((stT 1001).getD (((w.1 9 a0.toInt.toNat) * (10 : Int32)) + b0).toInt.toNat 0)]) (w' := w) rfl ?_
        exact tm_r rfl (⟨by unfold g_Sf_otherPasses; rw [if_neg h1, if_pos h2, if_neg h3], rfl⟩)
    · rw [if_neg h2] at hs
      refine tm_go 2 (pc' := 26) (L' := [some (.ref 42), some (.int a0), some (.int b0), some (.int (w.1 9 a0.toInt.toNat)), none, none]) (S' := [.int 1, .int b0]) (w' := w) rfl ?_
      refine tm_i (p1 := 31) (p2 := 29) rfl (fun h4 => ?_) (fun h4 => ?_)
      · rw [if_pos h4] at hs
        refine tm_go 8 (pc' := 46) (L' := [some (.ref 42), some (.int a0), some (.int b0), some (.int (w.1 9 a0.toInt.toNat)), none, none]) (S' := [.int a0, .ref 16, .int ((w.1 9 a0.toInt.toNat) * (10 : Int32)), .ref 1001]) (w' := w) rfl ?_
        obtain ⟨b9, hs⟩ := hs
        refine tm_k (pc' := 47) (L' := [some (.ref 42), some (.int a0), some (.int b0), some (.int (w.1 9 a0.toInt.toNat)), none, none]) (S' := [.int (w.1 16 a0.toInt.toNat), .int ((w.1 9 a0.toInt.toNat) * (10 : Int32)), .ref 1001]) (w' := w) rfl b9 ?_
        refine tm_go 1 (pc' := 48) (L' := [some (.ref 42), some (.int a0), some (.int b0), some (.int (w.1 9 a0.toInt.toNat)), none, none]) (S' := [.int (((w.1 9 a0.toInt.toNat) * (10 : Int32)) + (w.1 16 a0.toInt.toNat)), .ref 1001]) (w' := w) rfl ?_
        obtain ⟨b10, hs⟩ := hs
        refine tm_k (pc' := 49) (L' := [some (.ref 42), some (.int a0), some (.int b0), some (.int (w.1 9 a0.toInt.toNat)), none, none]) (S' := [.int ((stT 1001).getD (((w.1 9 a0.toInt.toNat) * (10 : Int32)) + (w.1 16 a0.toInt.toNat)).toInt.toNat 0)]) (w' := w) rfl b10 ?_
        refine tm_go 7 (pc' := 60) (L' := [some (.ref 42), some (.int a0), some (.int b0), some (.int (w.1 9 a0.toInt.toNat)), some (.int ((stT 1001).getD (((w.1 9 a0.toInt.toNat) * (10 : Int32)) + (w.1 16 a0.toInt.toNat)).toInt.toNat 0)), none]) (S' := [.int (((w.1 9 a0.toInt.toNat) * (10 : Int32)) + b0), .ref 1001]) (w' := w) rfl ?_
        obtain ⟨b11, hs⟩ := hs
        refine tm_k (pc' := 61) (L' := [some (.ref 42), some (.int a0), some (.int b0), some (.int (w.1 9 a0.toInt.toNat)), some (.int ((stT 1001).getD (((w.1 9 a0.toInt.toNat) * (10 : Int32)) + (w.1 16 a0.toInt.toNat)).toInt.toNat 0)), none]) (S' := [.int ((stT 1001).getD (((w.1 9 a0.toInt.toNat) * (10 : Int32)) + b0).toInt.toNat 0)]) (w' := w) rfl b11 ?_
        refine tm_go 9 (pc' := 77) (L' := [some (.ref 42), some (.int a0), some (.int b0), some (.int (w.1 9 a0.toInt.toNat)), some (.int ((stT 1001).getD (((w.1 9 a0.toInt.toNat) * (10 : Int32)) + (w.1 16 a0.toInt.toNat)).toInt.toNat 0)), some (.int ((stT 1001).getD (((w.1 9 a0.toInt.toNat) * (10 : Int32)) + b0).toInt.toNat 0))]) (S' := [.ref 7, .ref 1002, .int (((stT 1001).getD (((w.1 9 a0.toInt.toNat) * (10 : Int32)) + b0).toInt.toNat 0) &&& (((stT 1001).getD (((w.1 9 a0.toInt.toNat) * (10 : Int32)) + (w.1 16 a0.toInt.toNat)).toInt.toNat 0) ^^^ ((-1) : Int32)))]) (w' := w) rfl ?_
        obtain ⟨b12, hs⟩ := hs
        refine tm_g (pc' := 80) (k := 7) (j := 0) rfl b12 ?_
        refine tm_go 2 (pc' := 84) (L' := [some (.ref 42), some (.int a0), some (.int b0), some (.int (w.1 9 a0.toInt.toNat)), some (.int ((stT 1001).getD (((w.1 9 a0.toInt.toNat) * (10 : Int32)) + (w.1 16 a0.toInt.toNat)).toInt.toNat 0)), some (.int ((stT 1001).getD (((w.1 9 a0.toInt.toNat) * (10 : Int32)) + b0).toInt.toNat 0))]) (S' := [.int a0, .ref 11, .ref 1002, .int (((stT 1001).getD (((w.1 9 a0.toInt.toNat) * (10 : Int32)) + b0).toInt.toNat 0) &&& (((stT 1001).getD (((w.1 9 a0.toInt.toNat) * (10 : Int32)) + (w.1 16 a0.toInt.toNat)).toInt.toNat 0) ^^^ ((-1) : Int32)))]) (w' := w) rfl ?_
        obtain ⟨b13, hs⟩ := hs
        refine tm_k (pc' := 85) (L' := [some (.ref 42), some (.int a0), some (.int b0), some (.int (w.1 9 a0.toInt.toNat)), some (.int ((stT 1001).getD (((w.1 9 a0.toInt.toNat) * (10 : Int32)) + (w.1 16 a0.toInt.toNat)).toInt.toNat 0)), some (.int ((stT 1001).getD (((w.1 9 a0.toInt.toNat) * (10 : Int32)) + b0).toInt.toNat 0))]) (S' := [.int (w.1 11 a0.toInt.toNat), .ref 1002, .int (((stT 1001).getD (((w.1 9 a0.toInt.toNat) * (10 : Int32)) + b0).toInt.toNat 0) &&& (((stT 1001).getD (((w.1 9 a0.toInt.toNat) * (10 : Int32)) + (w.1 16 a0.toInt.toNat)).toInt.toNat 0) ^^^ ((-1) : Int32)))]) (w' := w) rfl b13 ?_
        refine tm_go 1 (pc' := 86) (L' := [some (.ref 42), some (.int a0), some (.int b0), some (.int (w.1 9 a0.toInt.toNat)), some (.int ((stT 1001).getD (((w.1 9 a0.toInt.toNat) * (10 : Int32)) + (w.1 16 a0.toInt.toNat)).toInt.toNat 0)), some (.int ((stT 1001).getD (((w.1 9 a0.toInt.toNat) * (10 : Int32)) + b0).toInt.toNat 0))]) (S' := [.int 4, .int (w.1 11 a0.toInt.toNat), .ref 1002, .int (((stT 1001).getD (((w.1 9 a0.toInt.toNat) * (10 : Int32)) + b0).toInt.toNat 0) &&& (((stT 1001).getD (((w.1 9 a0.toInt.toNat) * (10 : Int32)) + (w.1 16 a0.toInt.toNat)).toInt.toNat 0) ^^^ ((-1) : Int32)))]) (w' := w) rfl ?_
        refine tm_c rfl (Nat.le_of_ble_eq_true rfl) (c_Ma_min (d := d + 0) w (w.1 11 a0.toInt.toNat) 4 ) (fun v w1 hq => ?_)
        obtain ⟨rfl, hw9⟩ := hq; rw [hw9]; clear hw9
        obtain ⟨b14, hs⟩ := hs
        refine tm_k (pc' := 90) (L' := [some (.ref 42), some (.int a0), some (.int b0), some (.int (w.1 9 a0.toInt.toNat)), some (.int ((stT 1001).getD (((w.1 9 a0.toInt.toNat) * (10 : Int32)) + (w.1 16 a0.toInt.toNat)).toInt.toNat 0)), some (.int ((stT 1001).getD (((w.1 9 a0.toInt.toNat) * (10 : Int32)) + b0).toInt.toNat 0))]) (S' := [.int ((stT 1002).getD (g_Ma_min w (w.1 11 a0.toInt.toNat) 4).toInt.toNat 0), .int (((stT 1001).getD (((w.1 9 a0.toInt.toNat) * (10 : Int32)) + b0).toInt.toNat 0) &&& (((stT 1001).getD (((w.1 9 a0.toInt.toNat) * (10 : Int32)) + (w.1 16 a0.toInt.toNat)).toInt.toNat 0) ^^^ ((-1) : Int32)))]) (w' := w) rfl b14 ?_
        refine tm_go 1 (pc' := 91) (L' := [some (.ref 42), some (.int a0), some (.int b0), some (.int (w.1 9 a0.toInt.toNat)), some (.int ((stT 1001).getD (((w.1 9 a0.toInt.toNat) * (10 : Int32)) + (w.1 16 a0.toInt.toNat)).toInt.toNat 0)), some (.int ((stT 1001).getD (((w.1 9 a0.toInt.toNat) * (10 : Int32)) + b0).toInt.toNat 0))]) (S' := [.int ((((stT 1001).getD (((w.1 9 a0.toInt.toNat) * (10 : Int32)) + b0).toInt.toNat 0) &&& (((stT 1001).getD (((w.1 9 a0.toInt.toNat) * (10 : Int32)) + (w.1 16 a0.toInt.toNat)).toInt.toNat 0) ^^^ ((-1) : Int32))) &&& ((stT 1002).getD (g_Ma_min w (w.1 11 a0.toInt.toNat) 4).toInt.toNat 0))]) (w' := w) rfl ?_
        refine tm_i (p1 := 99) (p2 := 94) rfl (fun h5 => ?_) (fun h5 => ?_)
        · rw [if_pos h5] at hs
          refine tm_go 1 (pc' := 100) (L' := [some (.ref 42), some (.int a0), some (.int b0), some (.int (w.1 9 a0.toInt.toNat)), some (.int ((stT 1001).getD (((w.1 9 a0.toInt.toNat) * (10 : Int32)) + (w.1 16 a0.toInt.toNat)).toInt.toNat 0)), some (.int ((stT 1001).getD (((w.1 9 a0.toInt.toNat) * (10 : Int32)) + b0).toInt.toNat 0))]) (S' := [.int 0]) (w' := w) rfl ?_
          exact tm_r rfl (⟨by unfold g_Sf_otherPasses; rw [if_neg h1, if_neg h2, if_pos h4, if_pos h5], rfl⟩)
        · rw [if_neg h5] at hs
          refine tm_go 2 (pc' := 100) (L' := [some (.ref 42), some (.int a0), some (.int b0), some (.int (w.1 9 a0.toInt.toNat)), some (.int ((stT 1001).getD (((w.1 9 a0.toInt.toNat) * (10 : Int32)) + (w.1 16 a0.toInt.toNat)).toInt.toNat 0)), some (.int ((stT 1001).getD (((w.1 9 a0.toInt.toNat) * (10 : Int32)) + b0).toInt.toNat 0))]) (S' := [.int ((stT 1001).getD (((w.1 9 a0.toInt.toNat) * (10 : Int32)) + b0).toInt.toNat 0)]) (w' := w) rfl ?_
          exact tm_r rfl (⟨by unfold g_Sf_otherPasses; rw [if_neg h1, if_neg h2, if_pos h4, if_neg h5], rfl⟩)
      · rw [if_neg h4] at hs
        refine tm_go 1 (pc' := 30) (L' := [some (.ref 42), some (.int a0), some (.int b0), some (.int (w.1 9 a0.toInt.toNat)), none, none]) (S' := [.int 0]) (w' := w) rfl ?_
        exact tm_r rfl (⟨by unfold g_Sf_otherPasses; rw [if_neg h1, if_neg h2, if_neg h4], rfl⟩)
set_option maxRecDepth 100000 in
theorem l_Mo_forget_2 {d : Nat} (w0 : MW) (x : Int32) (hx0 : 0 ≤ x.toInt) (hx1 : x.toInt < 44) : ∀ (n : Nat) (k : Int32)  (w : MW) (hk0 : 0 ≤ k.toInt) (hk1 : k.toInt ≤ 6) (hw2 : w.2 = w0.2) (hwo : ∀ a, a ≠ 174 → w.1 a = w0.1 a), (6 - k.toInt).toNat = n → Tm (d + 0) 57 2 [some (.ref 127), some (.int x), some (.int k)] [] w (fun v w1 => v = none ∧ w1.2 = w0.2 ∧ ∀ a, a ≠ 174 → w1.1 a = w0.1 a) := by
  intro n
  induction n using Nat.strongRecOn with
  | _ n ih =>
    intro k  w hk0 hk1 hw2 hwo hm
    subst hm
    refine tm_go 2 (pc' := 5) (L' := [some (.ref 127), some (.int x), some (.int k)]) (S' := [.int 6, .int k]) (w' := w) rfl ?_
    refine tm_i (p1 := 26) (p2 := 8) rfl (fun h1 => ?_) (fun h1 => ?_)
    · exact tm_r rfl (by exact ⟨rfl, hw2, hwo⟩)
    · refine tm_go 8 (pc' := 19) (L' := [some (.ref 127), some (.int x), some (.int k)]) (S' := [.int (-1), .int (((6 : Int32) * x) + k), .ref 174]) (w' := w) rfl ?_
      refine tm_k (pc' := 20) (L' := [some (.ref 127), some (.int x), some (.int k)]) (S' := []) (w' := (sI w 174 ((((6 : Int32) * x) + k).toInt.toNat) (-1))) rfl ⟨by (try simp only [Int32.reduceToInt] at *); have e9 := (ti_add2 (ti_mul2 (by decide : (6 : Int32).toInt = 6) (Eq.refl x.toInt) (by omega) (by omega)) (Eq.refl k.toInt) (by omega) (by omega)); omega, by (try simp only [Int32.reduceToInt] at *); have e9 := (ti_add2 (ti_mul2 (by decide : (6 : Int32).toInt = 6) (Eq.refl x.toInt) (by omega) (by omega)) (Eq.refl k.toInt) (by omega) (by omega)); omega⟩ ?_
      refine tm_go 2 (pc' := 2) (L' := [some (.ref 127), some (.int x), some (.int (k + 1))]) (S' := []) (w' := (sI w 174 ((((6 : Int32) * x) + k).toInt.toNat) (-1))) rfl ?_
      exact ih _ (by (try simp only [Int32.reduceToInt] at *); have e9 := (ti_add2 (Eq.refl k.toInt) (by decide : (1 : Int32).toInt = 1) (by omega) (by omega)); omega) (k + 1) (sI w 174 ((((6 : Int32) * x) + k).toInt.toNat) (-1)) (by (try simp only [Int32.reduceToInt] at *); have e9 := (ti_add2 (Eq.refl k.toInt) (by decide : (1 : Int32).toInt = 1) (by omega) (by omega)); omega) (by (try simp only [Int32.reduceToInt] at *); have e9 := (ti_add2 (Eq.refl k.toInt) (by decide : (1 : Int32).toInt = 1) (by omega) (by omega)); omega) (by exact hw2) (by exact fun a ha => by rw [show (sI w 174 _ _).1 a = w.1 a from if_neg ha]; exact hwo a ha) rfl
set_option maxRecDepth 100000 in
theorem c_Mo_forget {d : Nat} (w : MW) (x : Int32) (hx0 : 0 ≤ x.toInt) (hx1 : x.toInt < 44) : Tc (d + 0) 57 [.ref 127, .int x] w (fun v w1 => v = none ∧ w1.2 = w.2 ∧ ∀ a, a ≠ 174 → w1.1 a = w.1 a) := by
  refine tm_go 2 (pc' := 2) (L' := [some (.ref 127), some (.int x), some (.int 0)]) (S' := []) (w' := w) rfl ?_
  exact l_Mo_forget_2 w x hx0 hx1 _ 0 w (by decide) (by decide) (by rfl) (by exact fun a _ => rfl) rfl
