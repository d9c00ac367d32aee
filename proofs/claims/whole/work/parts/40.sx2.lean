def s_Pr_firstBlock (w : MW) (a0 : Int32) : Prop := ((0 ≤ a0.toInt ∧ a0.toInt < 301) ∧ (if ¬ (w.1 63 a0.toInt.toNat).toInt = (23 : Int32).toInt then ((0 ≤ a0.toInt ∧ a0.toInt < 301) ∧ True) else ((0 ≤ a0.toInt ∧ a0.toInt < 301) ∧ ((0 ≤ (w.1 64 a0.toInt.toNat).toInt ∧ (w.1 64 a0.toInt.toNat).toInt < 40) ∧ True))))
def g_Pr_firstBlock (w : MW) (a0 : Int32) : Int32 := (if ¬ (w.1 63 a0.toInt.toNat).toInt = (23 : Int32).toInt then (w.1 67 a0.toInt.toNat) else (w.1 73 ((w.1 64 a0.toInt.toNat).toInt.toNat)))
set_option maxHeartbeats 4000000 in
set_option maxRecDepth 100000 in
theorem c_Pr_firstBlock {d : Nat} (w : MW) (a0 : Int32)  (hs : s_Pr_firstBlock w a0) : Tc (d + 0) 158 [.ref 62, .int a0] w (fun v w1 => v = some (.int (g_Pr_firstBlock w a0)) ∧ w1 = w) := by
  unfold s_Pr_firstBlock at hs
  refine tm_go 3 (pc' := 5) (L' := [some (.ref 62), some (.int a0)]) (S' := [.int a0, .ref 63]) (w' := w) rfl ?_
  obtain ⟨b1, hs⟩ := hs
  refine tm_k (pc' := 6) (L' := [some (.ref 62), some (.int a0)]) (S' := [.int (w.1 63 a0.toInt.toNat)]) (w' := w) rfl b1 ?_
  refine tm_go 1 (pc' := 8) (L' := [some (.ref 62), some (.int a0)]) (S' := [.int 23, .int (w.1 63 a0.toInt.toNat)]) (w' := w) rfl ?_
  refine tm_i (p1 := 25) (p2 := 11) rfl (fun h1 => ?_) (fun h1 => ?_)
  · rw [if_pos h1] at hs
    refine tm_go 3 (pc' := 30) (L' := [some (.ref 62), some (.int a0)]) (S' := [.int a0, .ref 67]) (w' := w) rfl ?_
    obtain ⟨b2, hs⟩ := hs
    refine tm_k (pc' := 31) (L' := [some (.ref 62), some (.int a0)]) (S' := [.int (w.1 67 a0.toInt.toNat)]) (w' := w) rfl b2 ?_
    exact tm_r rfl (⟨by unfold g_Pr_firstBlock; rw [if_pos h1], rfl⟩)
  · rw [if_neg h1] at hs
    refine tm_go 5 (pc' := 20) (L' := [some (.ref 62), some (.int a0)]) (S' := [.int a0, .ref 64, .ref 73]) (w' := w) rfl ?_
    obtain ⟨b3, hs⟩ := hs
    refine tm_k (pc' := 21) (L' := [some (.ref 62), some (.int a0)]) (S' := [.int (w.1 64 a0.toInt.toNat), .ref 73]) (w' := w) rfl b3 ?_
    obtain ⟨b4, hs⟩ := hs
    refine tm_k (pc' := 22) (L' := [some (.ref 62), some (.int a0)]) (S' := [.int (w.1 73 ((w.1 64 a0.toInt.toNat).toInt.toNat))]) (w' := w) rfl b4 ?_
    refine tm_go 1 (pc' := 31) (L' := [some (.ref 62), some (.int a0)]) (S' := [.int (w.1 73 ((w.1 64 a0.toInt.toNat).toInt.toNat))]) (w' := w) rfl ?_
    exact tm_r rfl (⟨by unfold g_Pr_firstBlock; rw [if_neg h1], rfl⟩)
def u_Rd_fail (w : MW)  : MW := (if 0 ≤ (w.1 87 9).toInt then w else (sI w 87 9 (w.1 87 4)))
theorem ur_Rd_fail (w : MW)  : (u_Rd_fail w).2.2 = w.2.2 := (ite_R rfl rfl)
set_option maxHeartbeats 4000000 in
set_option maxRecDepth 100000 in
theorem c_Rd_fail {d : Nat} (w : MW)   : Tc (d + 0) 160 [.ref 87] w (fun v w1 => v = none ∧ w1 = u_Rd_fail w) := by
  refine tm_go 2 (pc' := 4) (L' := [some (.ref 87)]) (S' := [.int (w.1 87 9)]) (w' := w) rfl ?_
  refine tm_i (p1 := 15) (p2 := 7) rfl (fun h1 => ?_) (fun h1 => ?_)
  · exact tm_r rfl (⟨rfl, by unfold u_Rd_fail; rw [if_pos h1]⟩)
  · refine tm_go 4 (pc' := 15) (L' := [some (.ref 87)]) (S' := []) (w' := (sI w 87 9 (w.1 87 4))) rfl ?_
    exact tm_r rfl (⟨rfl, by unfold u_Rd_fail; rw [if_neg h1]⟩)
def u_Rd_refuseByte (w : MW) (a0 : Int32) : MW := (u_Rd_fail (sI (sI w 87 3 33) 87 4 a0))
theorem ur_Rd_refuseByte (w : MW) (a0 : Int32) : (u_Rd_refuseByte w a0).2.2 = w.2.2 := (by unfold u_Rd_refuseByte; simp only [sI_R, sJ_R, ur_Rd_fail])
set_option maxHeartbeats 4000000 in
set_option maxRecDepth 100000 in
theorem c_Rd_refuseByte {d : Nat} (w : MW) (a0 : Int32)  : Tc (d + 1) 162 [.ref 87, .int a0] w (fun v w1 => v = none ∧ w1 = u_Rd_refuseByte w a0) := by
  refine tm_go 7 (pc' := 12) (L' := [some (.ref 87), some (.int a0)]) (S' := [.ref 87]) (w' := (sI (sI w 87 3 33) 87 4 a0)) rfl ?_
  refine tm_c rfl (Nat.le_of_ble_eq_true rfl) (c_Rd_fail (d := d + 0) (sI (sI w 87 3 33) 87 4 a0)  ) (fun v w_1 hq => ?_)
  obtain ⟨rfl, ew_1⟩ := hq
  exact tm_r rfl (⟨rfl, by unfold u_Rd_refuseByte; subst ew_1; rfl⟩)
def g_Rd_isMark (w : MW) (a0 : Int32) : Int32 := (if a0.toInt = (123 : Int32).toInt then 1 else (if a0.toInt = (125 : Int32).toInt then 1 else (if a0.toInt = (40 : Int32).toInt then 1 else (if a0.toInt = (41 : Int32).toInt then 1 else (if a0.toInt = (59 : Int32).toInt then 1 else (if a0.toInt = (43 : Int32).toInt then 1 else (if a0.toInt = (45 : Int32).toInt then 1 else (if a0.toInt = (42 : Int32).toInt then 1 else (if a0.toInt = (47 : Int32).toInt then 1 else (if a0.toInt = (60 : Int32).toInt then 1 else (if a0.toInt = (61 : Int32).toInt then 1 else (if ¬ a0.toInt = (62 : Int32).toInt then 0 else 1))))))))))))
theorem z_Rd_isMark (w : MW) (a0 : Int32) : (g_Rd_isMark w a0).toInt = 0 ∨ (g_Rd_isMark w a0).toInt = 1 := (ite_Z (by decide) (ite_Z (by decide) (ite_Z (by decide) (ite_Z (by decide) (ite_Z (by decide) (ite_Z (by decide) (ite_Z (by decide) (ite_Z (by decide) (ite_Z (by decide) (ite_Z (by decide) (ite_Z (by decide) (ite_Z (by decide) (by decide)))))))))))))
set_option maxHeartbeats 4000000 in
set_option maxRecDepth 100000 in
theorem c_Rd_isMark {d : Nat} (w : MW) (a0 : Int32)  : Tc (d + 0) 163 [.int a0] w (fun v w1 => v = some (.int (g_Rd_isMark w a0)) ∧ w1 = w) := by
  refine tm_go 2 (pc' := 3) (L' := [some (.int a0)]) (S' := [.int 123, .int a0]) (w' := w) rfl ?_
  refine tm_i (p1 := 72) (p2 := 6) rfl (fun h1 => ?_) (fun h1 => ?_)
  · refine tm_go 2 (pc' := 77) (L' := [some (.int a0)]) (S' := [.int 1]) (w' := w) rfl ?_
    exact tm_r rfl (⟨by unfold g_Rd_isMark; rw [if_pos h1], rfl⟩)
  · refine tm_go 2 (pc' := 9) (L' := [some (.int a0)]) (S' := [.int 125, .int a0]) (w' := w) rfl ?_
    refine tm_i (p1 := 72) (p2 := 12) rfl (fun h2 => ?_) (fun h2 => ?_)
    · refine tm_go 2 (pc' := 77) (L' := [some (.int a0)]) (S' := [.int 1]) (w' := w) rfl ?_
      exact tm_r rfl (⟨by unfold g_Rd_isMark; rw [if_neg h1, if_pos h2], rfl⟩)
    · refine tm_go 2 (pc' := 15) (L' := [some (.int a0)]) (S' := [.int 40, .int a0]) (w' := w) rfl ?_
      refine tm_i (p1 := 72) (p2 := 18) rfl (fun h3 => ?_) (fun h3 => ?_)
      · refine tm_go 2 (pc' := 77) (L' := [some (.int a0)]) (S' := [.int 1]) (w' := w) rfl ?_
        exact tm_r rfl (⟨by unfold g_Rd_isMark; rw [if_neg h1, if_neg h2, if_pos h3], rfl⟩)
      · refine tm_go 2 (pc' := 21) (L' := [some (.int a0)]) (S' := [.int 41, .int a0]) (w' := w) rfl ?_
        refine tm_i (p1 := 72) (p2 := 24) rfl (fun h4 => ?_) (fun h4 => ?_)
        · refine tm_go 2 (pc' := 77) (L' := [some (.int a0)]) (S' := [.int 1]) (w' := w) rfl ?_
          exact tm_r rfl (⟨by unfold g_Rd_isMark; rw [if_neg h1, if_neg h2, if_neg h3, if_pos h4], rfl⟩)
        · refine tm_go 2 (pc' := 27) (L' := [some (.int a0)]) (S' := [.int 59, .int a0]) (w' := w) rfl ?_
          refine tm_i (p1 := 72) (p2 := 30) rfl (fun h5 => ?_) (fun h5 => ?_)
          · refine tm_go 2 (pc' := 77) (L' := [some (.int a0)]) (S' := [.int 1]) (w' := w) rfl ?_
            exact tm_r rfl (⟨by unfold g_Rd_isMark; rw [if_neg h1, if_neg h2, if_neg h3, if_neg h4, if_pos h5], rfl⟩)
          · refine tm_go 2 (pc' := 33) (L' := [some (.int a0)]) (S' := [.int 43, .int a0]) (w' := w) rfl ?_
            refine tm_i (p1 := 72) (p2 := 36) rfl (fun h6 => ?_) (fun h6 => ?_)
            · refine tm_go 2 (pc' := 77) (L' := [some (.int a0)]) (S' := [.int 1]) (w' := w) rfl ?_
              exact tm_r rfl (⟨by unfold g_Rd_isMark; rw [if_neg h1, if_neg h2, if_neg h3, if_neg h4, if_neg h5, if_pos h6], rfl⟩)
            · refine tm_go 2 (pc' := 39) (L' := [some (.int a0)]) (S' := [.int 45, .int a0]) (w' := w) rfl ?_
              refine tm_i (p1 := 72) (p2 := 42) rfl (fun h7 => ?_) (fun h7 => ?_)
              · refine tm_go 2 (pc' := 77) (L' := [some (.int a0)]) (S' := [.int 1]) (w' := w) rfl ?_
                exact tm_r rfl (⟨by unfold g_Rd_isMark; rw [if_neg h1, if_neg h2, if_neg h3, if_neg h4, if_neg h5, if_neg h6, if_pos h7], rfl⟩)
              · refine tm_go 2 (pc' := 45) (L' := [some (.int a0)]) (S' := [.int 42, .int a0]) (w' := w) rfl ?_
                refine tm_i (p1 := 72) (p2 := 48) rfl (fun h8 => ?_) (fun h8 => ?_)
                · refine tm_go 2 (pc' := 77) (L' := [some (.int a0)]) (S' := [.int 1]) (w' := w) rfl ?_
                  exact tm_r rfl (⟨by unfold g_Rd_isMark; rw [if_neg h1, if_neg h2, if_neg h3, if_neg h4, if_neg h5, if_neg h6, if_neg h7, if_pos h8], rfl⟩)
                · refine tm_go 2 (pc' := 51) (L' := [some (.int a0)]) (S' := [.int 47, .int a0]) (w' := w) rfl ?_
                  refine tm_i (p1 := 72) (p2 := 54) rfl (fun h9 => ?_) (fun h9 => ?_)
                  · refine tm_go 2 (pc' := 77) (L' := [some (.int a0)]) (S' := [.int 1]) (w' := w) rfl ?_
                    exact tm_r rfl (⟨by unfold g_Rd_isMark; rw [if_neg h1, if_neg h2, if_neg h3, if_neg h4, if_neg h5, if_neg h6, if_neg h7, if_neg h8, if_pos h9], rfl⟩)
                  · refine tm_go 2 (pc' := 57) (L' := [some (.int a0)]) (S' := [.int 60, .int a0]) (w' := w) rfl ?_
                    refine tm_i (p1 := 72) (p2 := 60) rfl (fun h10 => ?_) (fun h10 => ?_)
                    · refine tm_go 2 (pc' := 77) (L' := [some (.int a0)]) (S' := [.int 1]) (w' := w) rfl ?_
                      exact tm_r rfl (⟨by unfold g_Rd_isMark; rw [if_neg h1, if_neg h2, if_neg h3, if_neg h4, if_neg h5, if_neg h6, if_neg h7, if_neg h8, if_neg h9, if_pos h10], rfl⟩)
                    · refine tm_go 2 (pc' := 63) (L' := [some (.int a0)]) (S' := [.int 61, .int a0]) (w' := w) rfl ?_
                      refine tm_i (p1 := 72) (p2 := 66) rfl (fun h11 => ?_) (fun h11 => ?_)
                      · refine tm_go 2 (pc' := 77) (L' := [some (.int a0)]) (S' := [.int 1]) (w' := w) rfl ?_
                        exact tm_r rfl (⟨by unfold g_Rd_isMark; rw [if_neg h1, if_neg h2, if_neg h3, if_neg h4, if_neg h5, if_neg h6, if_neg h7, if_neg h8, if_neg h9, if_neg h10, if_pos h11], rfl⟩)
                      · refine tm_go 2 (pc' := 69) (L' := [some (.int a0)]) (S' := [.int 62, .int a0]) (w' := w) rfl ?_
                        refine tm_i (p1 := 76) (p2 := 72) rfl (fun h12 => ?_) (fun h12 => ?_)
                        · refine tm_go 1 (pc' := 77) (L' := [some (.int a0)]) (S' := [.int 0]) (w' := w) rfl ?_
                          exact tm_r rfl (⟨by unfold g_Rd_isMark; rw [if_neg h1, if_neg h2, if_neg h3, if_neg h4, if_neg h5, if_neg h6, if_neg h7, if_neg h8, if_neg h9, if_neg h10, if_neg h11, if_pos h12], rfl⟩)
                        · refine tm_go 2 (pc' := 77) (L' := [some (.int a0)]) (S' := [.int 1]) (w' := w) rfl ?_
                          exact tm_r rfl (⟨by unfold g_Rd_isMark; rw [if_neg h1, if_neg h2, if_neg h3, if_neg h4, if_neg h5, if_neg h6, if_neg h7, if_neg h8, if_neg h9, if_neg h10, if_neg h11, if_neg h12], rfl⟩)
def g_Rd_digitOf (w : MW) (a0 : Int32) : Int32 := (if a0.toInt < (97 : Int32).toInt then ((a0 - (48 : Int32)) + (27 : Int32)) else ((a0 - (97 : Int32)) + (1 : Int32)))
set_option maxHeartbeats 4000000 in
set_option maxRecDepth 100000 in
theorem c_Rd_digitOf {d : Nat} (w : MW) (a0 : Int32)  : Tc (d + 0) 165 [.int a0] w (fun v w1 => v = some (.int (g_Rd_digitOf w a0)) ∧ w1 = w) := by
  refine tm_go 2 (pc' := 3) (L' := [some (.int a0)]) (S' := [.int 97, .int a0]) (w' := w) rfl ?_
  refine tm_i (p1 := 15) (p2 := 6) rfl (fun h1 => ?_) (fun h1 => ?_)
  · refine tm_go 5 (pc' := 22) (L' := [some (.int a0)]) (S' := [.int ((a0 - (48 : Int32)) + (27 : Int32))]) (w' := w) rfl ?_
    exact tm_r rfl (⟨by unfold g_Rd_digitOf; rw [if_pos h1], rfl⟩)
  · refine tm_go 6 (pc' := 22) (L' := [some (.int a0)]) (S' := [.int ((a0 - (97 : Int32)) + (1 : Int32))]) (w' := w) rfl ?_
    exact tm_r rfl (⟨by unfold g_Rd_digitOf; rw [if_neg h1], rfl⟩)
def u_Rd_demand (w : MW) (a0 : Int32) (b0 : Int32) : MW := (if a0.toInt = b0.toInt then w else (u_Rd_fail w))
theorem ur_Rd_demand (w : MW) (a0 : Int32) (b0 : Int32) : (u_Rd_demand w a0 b0).2.2 = w.2.2 := (ite_R rfl (by simp only [sI_R, sJ_R, ur_Rd_fail]))
set_option maxHeartbeats 4000000 in
set_option maxRecDepth 100000 in
theorem c_Rd_demand {d : Nat} (w : MW) (a0 : Int32) (b0 : Int32)  : Tc (d + 1) 175 [.ref 87, .int a0, .int b0] w (fun v w1 => v = none ∧ w1 = u_Rd_demand w a0 b0) := by
  refine tm_go 2 (pc' := 2) (L' := [some (.ref 87), some (.int a0), some (.int b0)]) (S' := [.int b0, .int a0]) (w' := w) rfl ?_
  refine tm_i (p1 := 9) (p2 := 5) rfl (fun h1 => ?_) (fun h1 => ?_)
  · exact tm_r rfl (⟨rfl, by unfold u_Rd_demand; rw [if_pos h1]⟩)
  · refine tm_go 1 (pc' := 6) (L' := [some (.ref 87), some (.int a0), some (.int b0)]) (S' := [.ref 87]) (w' := w) rfl ?_
    refine tm_c rfl (Nat.le_of_ble_eq_true rfl) (c_Rd_fail (d := d + 0) w  ) (fun v w_1 hq => ?_)
    obtain ⟨rfl, ew_1⟩ := hq
    exact tm_r rfl (⟨rfl, by unfold u_Rd_demand; subst ew_1; rw [if_neg h1]⟩)
def s_Rd_giveRange (w : MW) (a0 : Int32) (b0 : Int32) (c0 : Int32) : Prop := (((w.2.2 87 1) = some 108) ∧ ((0 ≤ a0.toInt ∧ a0.toInt < 301) ∧ (((w.2.2 87 1) = some 108) ∧ ((0 ≤ a0.toInt ∧ a0.toInt < 301) ∧ True))))
def g_Rd_giveRange (w : MW) (a0 : Int32) (b0 : Int32) (c0 : Int32) : Int32 := a0
def u_Rd_giveRange (w : MW) (a0 : Int32) (b0 : Int32) (c0 : Int32) : MW := (sI (sI w 111 a0.toInt.toNat b0) 112 a0.toInt.toNat c0)
theorem ur_Rd_giveRange (w : MW) (a0 : Int32) (b0 : Int32) (c0 : Int32) : (u_Rd_giveRange w a0 b0 c0).2.2 = w.2.2 := rfl
set_option maxHeartbeats 4000000 in
set_option maxRecDepth 100000 in
theorem c_Rd_giveRange {d : Nat} (w : MW) (a0 : Int32) (b0 : Int32) (c0 : Int32)  (hs : s_Rd_giveRange w a0 b0 c0) : Tc (d + 0) 176 [.ref 87, .int a0, .int b0, .int c0] w (fun v w1 => v = some (.int (g_Rd_giveRange w a0 b0 c0)) ∧ w1 = u_Rd_giveRange w a0 b0 c0) := by
  unfold s_Rd_giveRange at hs
  refine tm_go 1 (pc' := 1) (L' := [some (.ref 87), some (.int a0), some (.int b0), some (.int c0)]) (S' := [.ref 87]) (w' := w) rfl ?_
  obtain ⟨b1, hs⟩ := hs
  refine tm_g (pc' := 4) (k := 87) (j := 1) rfl b1 ?_
  refine tm_go 3 (pc' := 9) (L' := [some (.ref 87), some (.int a0), some (.int b0), some (.int c0)]) (S' := [.int b0, .int a0, .ref 111]) (w' := w) rfl ?_
  obtain ⟨b2, hs⟩ := hs
  refine tm_k (pc' := 10) (L' := [some (.ref 87), some (.int a0), some (.int b0), some (.int c0)]) (S' := []) (w' := (sI w 111 a0.toInt.toNat b0)) rfl b2 ?_
  refine tm_go 1 (pc' := 11) (L' := [some (.ref 87), some (.int a0), some (.int b0), some (.int c0)]) (S' := [.ref 87]) (w' := (sI w 111 a0.toInt.toNat b0)) rfl ?_
  obtain ⟨b3, hs⟩ := hs
  refine tm_g (pc' := 14) (k := 87) (j := 1) rfl b3 ?_
  refine tm_go 3 (pc' := 19) (L' := [some (.ref 87), some (.int a0), some (.int b0), some (.int c0)]) (S' := [.int c0, .int a0, .ref 112]) (w' := (sI w 111 a0.toInt.toNat b0)) rfl ?_
  obtain ⟨b4, hs⟩ := hs
  refine tm_k (pc' := 20) (L' := [some (.ref 87), some (.int a0), some (.int b0), some (.int c0)]) (S' := []) (w' := (sI (sI w 111 a0.toInt.toNat b0) 112 a0.toInt.toNat c0)) rfl b4 ?_
  refine tm_go 1 (pc' := 21) (L' := [some (.ref 87), some (.int a0), some (.int b0), some (.int c0)]) (S' := [.int a0]) (w' := (sI (sI w 111 a0.toInt.toNat b0) 112 a0.toInt.toNat c0)) rfl ?_
  exact tm_r rfl (⟨by unfold g_Rd_giveRange; rfl, by unfold u_Rd_giveRange; rfl⟩)
def g_Rd_levelOf (w : MW) (a0 : Int32) : Int32 := (if a0.toInt = 42 then 2 else (if a0.toInt = 43 then 1 else (if a0.toInt = 44 then 3 else (if a0.toInt = 45 then 1 else (if a0.toInt = 46 then 3 else (if a0.toInt = 47 then 2 else (if a0.toInt = 48 then 3 else (if a0.toInt = 49 then 3 else (if a0.toInt = 50 then 3 else (if a0.toInt = 51 then 3 else (if a0.toInt = 52 then 3 else (if a0.toInt = 53 then 3 else (if a0.toInt = 54 then 3 else (if a0.toInt = 55 then 3 else (if a0.toInt = 56 then 3 else (if a0.toInt = 57 then 3 else (if a0.toInt = 58 then 3 else (if a0.toInt = 59 then 3 else (if a0.toInt = 60 then 0 else (if a0.toInt = 61 then 0 else (if a0.toInt = 62 then 0 else 3)))))))))))))))))))))
set_option maxHeartbeats 4000000 in
set_option maxRecDepth 100000 in
theorem c_Rd_levelOf {d : Nat} (w : MW) (a0 : Int32)  : Tc (d + 0) 182 [.int a0] w (fun v w1 => v = some (.int (g_Rd_levelOf w a0)) ∧ w1 = w) := by
  refine tm_go 1 (pc' := 1) (L' := [some (.int a0)]) (S' := [.int a0]) (w' := w) rfl ?_
  by_cases h1 : a0.toInt = 42
  · refine tm_tab (dflt := 106) (lo := 42) (ts := [104, 102, 106, 102, 106, 104, 106, 106, 106, 106, 106, 106, 106, 106, 106, 106, 106, 106, 100, 100, 100]) rfl (by rw [h1]; decide) (t := 104) (by rw [h1]; rfl) ?_
    refine tm_go 1 (pc' := 105) (L' := [some (.int a0)]) (S' := [.int 2]) (w' := w) rfl ?_
    exact tm_r rfl (⟨by unfold g_Rd_levelOf; rw [if_pos h1], rfl⟩)
  · by_cases h2 : a0.toInt = 43
    · refine tm_tab (dflt := 106) (lo := 42) (ts := [104, 102, 106, 102, 106, 104, 106, 106, 106, 106, 106, 106, 106, 106, 106, 106, 106, 106, 100, 100, 100]) rfl (by rw [h2]; decide) (t := 102) (by rw [h2]; rfl) ?_
      refine tm_go 1 (pc' := 103) (L' := [some (.int a0)]) (S' := [.int 1]) (w' := w) rfl ?_
      exact tm_r rfl (⟨by unfold g_Rd_levelOf; rw [if_neg h1, if_pos h2], rfl⟩)
    · by_cases h3 : a0.toInt = 44
      · refine tm_tab (dflt := 106) (lo := 42) (ts := [104, 102, 106, 102, 106, 104, 106, 106, 106, 106, 106, 106, 106, 106, 106, 106, 106, 106, 100, 100, 100]) rfl (by rw [h3]; decide) (t := 106) (by rw [h3]; rfl) ?_
        refine tm_go 1 (pc' := 107) (L' := [some (.int a0)]) (S' := [.int 3]) (w' := w) rfl ?_
        exact tm_r rfl (⟨by unfold g_Rd_levelOf; rw [if_neg h1, if_neg h2, if_pos h3], rfl⟩)
      · by_cases h4 : a0.toInt = 45
        · refine tm_tab (dflt := 106) (lo := 42) (ts := [104, 102, 106, 102, 106, 104, 106, 106, 106, 106, 106, 106, 106, 106, 106, 106, 106, 106, 100, 100, 100]) rfl (by rw [h4]; decide) (t := 102) (by rw [h4]; rfl) ?_
          refine tm_go 1 (pc' := 103) (L' := [some (.int a0)]) (S' := [.int 1]) (w' := w) rfl ?_
          exact tm_r rfl (⟨by unfold g_Rd_levelOf; rw [if_neg h1, if_neg h2, if_neg h3, if_pos h4], rfl⟩)
        · by_cases h5 : a0.toInt = 46
          · refine tm_tab (dflt := 106) (lo := 42) (ts := [104, 102, 106, 102, 106, 104, 106, 106, 106, 106, 106, 106, 106, 106, 106, 106, 106, 106, 100, 100, 100]) rfl (by rw [h5]; decide) (t := 106) (by rw [h5]; rfl) ?_
            refine tm_go 1 (pc' := 107) (L' := [some (.int a0)]) (S' := [.int 3]) (w' := w) rfl ?_
            exact tm_r rfl (⟨by unfold g_Rd_levelOf; rw [if_neg h1, if_neg h2, if_neg h3, if_neg h4, if_pos h5], rfl⟩)
          · by_cases h6 : a0.toInt = 47
            · refine tm_tab (dflt := 106) (lo := 42) (ts := [104, 102, 106, 102, 106, 104, 106, 106, 106, 106, 106, 106, 106, 106, 106, 106, 106, 106, 100, 100, 100]) rfl (by rw [h6]; decide) (t := 104) (by rw [h6]; rfl) ?_
              refine tm_go 1 (pc' := 105) (L' := [some (.int a0)]) (S' := [.int 2]) (w' := w) rfl ?_
              exact tm_r rfl (⟨by unfold g_Rd_levelOf; rw [if_neg h1, if_neg h2, if_neg h3, if_neg h4, if_neg h5, if_pos h6], rfl⟩)
            · by_cases h7 : a0.toInt = 48
              · refine tm_tab (dflt := 106) (lo := 42) (ts := [104, 102, 106, 102, 106, 104, 106, 106, 106, 106, 106, 106, 106, 106, 106, 106, 106, 106, 100, 100, 100]) rfl (by rw [h7]; decide) (t := 106) (by rw [h7]; rfl) ?_
                refine tm_go 1 (pc' := 107) (L' := [some (.int a0)]) (S' := [.int 3]) (w' := w) rfl ?_
                exact tm_r rfl (⟨by unfold g_Rd_levelOf; rw [if_neg h1, if_neg h2, if_neg h3, if_neg h4, if_neg h5, if_neg h6, if_pos h7], rfl⟩)
              · by_cases h8 : a0.toInt = 49
                · refine tm_tab (dflt := 106) (lo := 42) (ts := [104, 102, 106, 102, 106, 104, 106, 106, 106, 106, 106, 106, 106, 106, 106, 106, 106, 106, 100, 100, 100]) rfl (by rw [h8]; decide) (t := 106) (by rw [h8]; rfl) ?_
                  refine tm_go 1 (pc' := 107) (L' := [some (.int a0)]) (S' := [.int 3]) (w' := w) rfl ?_
                  exact tm_r rfl (⟨by unfold g_Rd_levelOf; rw [if_neg h1, if_neg h2, if_neg h3, if_neg h4, if_neg h5, if_neg h6, if_neg h7, if_pos h8], rfl⟩)
                · by_cases h9 : a0.toInt = 50
                  · refine tm_tab (dflt := 106) (lo := 42) (ts := [104, 102, 106, 102, 106, 104, 106, 106, 106, 106, 106, 106, 106, 106, 106, 106, 106, 106, 100, 100, 100]) rfl (by rw [h9]; decide) (t := 106) (by rw [h9]; rfl) ?_
                    refine tm_go 1 (pc' := 107) (L' := [some (.int a0)]) (S' := [.int 3]) (w' := w) rfl ?_
                    exact tm_r rfl (⟨by unfold g_Rd_levelOf; rw [if_neg h1, if_neg h2, if_neg h3, if_neg h4, if_neg h5, if_neg h6, if_neg h7, if_neg h8, if_pos h9], rfl⟩)
                  · by_cases h10 : a0.toInt = 51
                    · refine tm_tab (dflt := 106) (lo := 42) (ts := [104, 102, 106, 102, 106, 104, 106, 106, 106, 106, 106, 106, 106, 106, 106, 106, 106, 106, 100, 100, 100]) rfl (by rw [h10]; decide) (t := 106) (by rw [h10]; rfl) ?_
                      refine tm_go 1 (pc' := 107) (L' := [some (.int a0)]) (S' := [.int 3]) (w' := w) rfl ?_
                      exact tm_r rfl (⟨by unfold g_Rd_levelOf; rw [if_neg h1, if_neg h2, if_neg h3, if_neg h4, if_neg h5, if_neg h6, if_neg h7, if_neg h8, if_neg h9, if_pos h10], rfl⟩)
                    · by_cases h11 : a0.toInt = 52
                      · refine tm_tab (dflt := 106) (lo := 42) (ts := [104, 102, 106, 102, 106, 104, 106, 106, 106, 106, 106, 106, 106, 106, 106, 106, 106, 106, 100, 100, 100]) rfl (by rw [h11]; decide) (t := 106) (by rw [h11]; rfl) ?_
                        refine tm_go 1 (pc' := 107) (L' := [some (.int a0)]) (S' := [.int 3]) (w' := w) rfl ?_
                        exact tm_r rfl (⟨by unfold g_Rd_levelOf; rw [if_neg h1, if_neg h2, if_neg h3, if_neg h4, if_neg h5, if_neg h6, if_neg h7, if_neg h8, if_neg h9, if_neg h10, if_pos h11], rfl⟩)
                      · by_cases h12 : a0.toInt = 53
                        · refine tm_tab (dflt := 106) (lo := 42) (ts := [104, 102, 106, 102, 106, 104, 106, 106, 106, 106, 106, 106, 106, 106, 106, 106, 106, 106, 100, 100, 100]) rfl (by rw [h12]; decide) (t := 106) (by rw [h12]; rfl) ?_
                          refine tm_go 1 (pc' := 107) (L' := [some (.int a0)]) (S' := [.int 3]) (w' := w) rfl ?_
                          exact tm_r rfl (⟨by unfold g_Rd_levelOf; rw [if_neg h1, if_neg h2, if_neg h3, if_neg h4, if_neg h5, if_neg h6, if_neg h7, if_neg h8, if_neg h9, if_neg h10, if_neg h11, if_pos h12], rfl⟩)
                        · by_cases h13 : a0.toInt = 54
                          · refine tm_tab (dflt := 106) (lo := 42) (ts := [104, 102, 106, 102, 106, 104, 106, 106, 106, 106, 106, 106, 106, 106, 106, 106, 106, 106, 100, 100, 100]) rfl (by rw [h13]; decide) (t := 106) (by rw [h13]; rfl) ?_
                            refine tm_go 1 (pc' := 107) (L' := [some (.int a0)]) (S' := [.int 3]) (w' := w) rfl ?_
                            exact tm_r rfl (⟨by unfold g_Rd_levelOf; rw [if_neg h1, if_neg h2, if_neg h3, if_neg h4, if_neg h5, if_neg h6, if_neg h7, if_neg h8, if_neg h9, if_neg h10, if_neg h11, if_neg h12, if_pos h13], rfl⟩)
                          · by_cases h14 : a0.toInt = 55
                            · refine tm_tab (dflt := 106) (lo := 42) (ts := [104, 102, 106, 102, 106, 104, 106, 106, 106, 106, 106, 106, 106, 106, 106, 106, 106, 106, 100, 100, 100]) rfl (by rw [h14]; decide) (t := 106) (by rw [h14]; rfl) ?_
                              refine tm_go 1 (pc' := 107) (L' := [some (.int a0)]) (S' := [.int 3]) (w' := w) rfl ?_
                              exact tm_r rfl (⟨by unfold g_Rd_levelOf; rw [if_neg h1, if_neg h2, if_neg h3, if_neg h4, if_neg h5, if_neg h6, if_neg h7, if_neg h8, if_neg h9, if_neg h10, if_neg h11, if_neg h12, if_neg h13, if_pos h14], rfl⟩)
                            · by_cases h15 : a0.toInt = 56
                              · refine tm_tab (dflt := 106) (lo := 42) (ts := [104, 102, 106, 102, 106, 104, 106, 106, 106, 106, 106, 106, 106, 106, 106, 106, 106, 106, 100, 100, 100]) rfl (by rw [h15]; decide) (t := 106) (by rw [h15]; rfl) ?_
                                refine tm_go 1 (pc' := 107) (L' := [some (.int a0)]) (S' := [.int 3]) (w' := w) rfl ?_
                                exact tm_r rfl (⟨by unfold g_Rd_levelOf; rw [if_neg h1, if_neg h2, if_neg h3, if_neg h4, if_neg h5, if_neg h6, if_neg h7, if_neg h8, if_neg h9, if_neg h10, if_neg h11, if_neg h12, if_neg h13, if_neg h14, if_pos h15], rfl⟩)
                              · by_cases h16 : a0.toInt = 57
                                · refine tm_tab (dflt := 106) (lo := 42) (ts := [104, 102, 106, 102, 106, 104, 106, 106, 106, 106, 106, 106, 106, 106, 106, 106, 106, 106, 100, 100, 100]) rfl (by rw [h16]; decide) (t := 106) (by rw [h16]; rfl) ?_
                                  refine tm_go 1 (pc' := 107) (L' := [some (.int a0)]) (S' := [.int 3]) (w' := w) rfl ?_
                                  exact tm_r rfl (⟨by unfold g_Rd_levelOf; rw [if_neg h1, if_neg h2, if_neg h3, if_neg h4, if_neg h5, if_neg h6, if_neg h7, if_neg h8, if_neg h9, if_neg h10, if_neg h11, if_neg h12, if_neg h13, if_neg h14, if_neg h15, if_pos h16], rfl⟩)
                                · by_cases h17 : a0.toInt = 58
                                  · refine tm_tab (dflt := 106) (lo := 42) (ts := [104, 102, 106, 102, 106, 104, 106, 106, 106, 106, 106, 106, 106, 106, 106, 106, 106, 106, 100, 100, 100]) rfl (by rw [h17]; decide) (t := 106) (by rw [h17]; rfl) ?_
                                    refine tm_go 1 (pc' := 107) (L' := [some (.int a0)]) (S' := [.int 3]) (w' := w) rfl ?_
                                    exact tm_r rfl (⟨by unfold g_Rd_levelOf; rw [if_neg h1, if_neg h2, if_neg h3, if_neg h4, if_neg h5, if_neg h6, if_neg h7, if_neg h8, if_neg h9, if_neg h10, if_neg h11, if_neg h12, if_neg h13, if_neg h14, if_neg h15, if_neg h16, if_pos h17], rfl⟩)
                                  · by_cases h18 : a0.toInt = 59
                                    · refine tm_tab (dflt := 106) (lo := 42) (ts := [104, 102, 106, 102, 106, 104, 106, 106, 106, 106, 106, 106, 106, 106, 106, 106, 106, 106, 100, 100, 100]) rfl (by rw [h18]; decide) (t := 106) (by rw [h18]; rfl) ?_
                                      refine tm_go 1 (pc' := 107) (L' := [some (.int a0)]) (S' := [.int 3]) (w' := w) rfl ?_
                                      exact tm_r rfl (⟨by unfold g_Rd_levelOf; rw [if_neg h1, if_neg h2, if_neg h3, if_neg h4, if_neg h5, if_neg h6, if_neg h7, if_neg h8, if_neg h9, if_neg h10, if_neg h11, if_neg h12, if_neg h13, if_neg h14, if_neg h15, if_neg h16, if_neg h17, if_pos h18], rfl⟩)
                                    · by_cases h19 : a0.toInt = 60
                                      · refine tm_tab (dflt := 106) (lo := 42) (ts := [104, 102, 106, 102, 106, 104, 106, 106, 106, 106, 106, 106, 106, 106, 106, 106, 106, 106, 100, 100, 100]) rfl (by rw [h19]; decide) (t := 100) (by rw [h19]; rfl) ?_
                                        refine tm_go 1 (pc' := 101) (L' := [some (.int a0)]) (S' := [.int 0]) (w' := w) rfl ?_
                                        exact tm_r rfl (⟨by unfold g_Rd_levelOf; rw [if_neg h1, if_neg h2, if_neg h3, if_neg h4, if_neg h5, if_neg h6, if_neg h7, if_neg h8, if_neg h9, if_neg h10, if_neg h11, if_neg h12, if_neg h13, if_neg h14, if_neg h15, if_neg h16, if_neg h17, if_neg h18, if_pos h19], rfl⟩)
                                      · by_cases h20 : a0.toInt = 61
                                        · refine tm_tab (dflt := 106) (lo := 42) (ts := [104, 102, 106, 102, 106, 104, 106, 106, 106, 106, 106, 106, 106, 106, 106, 106, 106, 106, 100, 100, 100]) rfl (by rw [h20]; decide) (t := 100) (by rw [h20]; rfl) ?_
                                          refine tm_go 1 (pc' := 101) (L' := [some (.int a0)]) (S' := [.int 0]) (w' := w) rfl ?_
                                          exact tm_r rfl (⟨by unfold g_Rd_levelOf; rw [if_neg h1, if_neg h2, if_neg h3, if_neg h4, if_neg h5, if_neg h6, if_neg h7, if_neg h8, if_neg h9, if_neg h10, if_neg h11, if_neg h12, if_neg h13, if_neg h14, if_neg h15, if_neg h16, if_neg h17, if_neg h18, if_neg h19, if_pos h20], rfl⟩)
                                        · by_cases h21 : a0.toInt = 62
                                          · refine tm_tab (dflt := 106) (lo := 42) (ts := [104, 102, 106, 102, 106, 104, 106, 106, 106, 106, 106, 106, 106, 106, 106, 106, 106, 106, 100, 100, 100]) rfl (by rw [h21]; decide) (t := 100) (by rw [h21]; rfl) ?_
                                            refine tm_go 1 (pc' := 101) (L' := [some (.int a0)]) (S' := [.int 0]) (w' := w) rfl ?_
                                            exact tm_r rfl (⟨by unfold g_Rd_levelOf; rw [if_neg h1, if_neg h2, if_neg h3, if_neg h4, if_neg h5, if_neg h6, if_neg h7, if_neg h8, if_neg h9, if_neg h10, if_neg h11, if_neg h12, if_neg h13, if_neg h14, if_neg h15, if_neg h16, if_neg h17, if_neg h18, if_neg h19, if_neg h20, if_pos h21], rfl⟩)
                                          · refine tm_tad (dflt := 106) (lo := 42) (ts := [104, 102, 106, 102, 106, 104, 106, 106, 106, 106, 106, 106, 106, 106, 106, 106, 106, 106, 100, 100, 100]) rfl (by simp only [List.length_cons, List.length_nil]; omega) ?_
                                            refine tm_go 1 (pc' := 107) (L' := [some (.int a0)]) (S' := [.int 3]) (w' := w) rfl ?_
                                            exact tm_r rfl (⟨by unfold g_Rd_levelOf; rw [if_neg h1, if_neg h2, if_neg h3, if_neg h4, if_neg h5, if_neg h6, if_neg h7, if_neg h8, if_neg h9, if_neg h10, if_neg h11, if_neg h12, if_neg h13, if_neg h14, if_neg h15, if_neg h16, if_neg h17, if_neg h18, if_neg h19, if_neg h20, if_neg h21], rfl⟩)
def g_Ro_has (w : MW) (a0 : Int32) : Int32 := (if a0.toInt < (1 : Int32).toInt then 0 else (if (w.1 48 0).toInt < a0.toInt then 0 else 1))
theorem z_Ro_has (w : MW) (a0 : Int32) : (g_Ro_has w a0).toInt = 0 ∨ (g_Ro_has w a0).toInt = 1 := (ite_Z (by decide) (ite_Z (by decide) (by decide)))
set_option maxHeartbeats 4000000 in
set_option maxRecDepth 100000 in
theorem c_Ro_has {d : Nat} (w : MW) (a0 : Int32)  : Tc (d + 0) 185 [.ref 48, .int a0] w (fun v w1 => v = some (.int (g_Ro_has w a0)) ∧ w1 = w) := by
  refine tm_go 2 (pc' := 2) (L' := [some (.ref 48), some (.int a0)]) (S' := [.int 1, .int a0]) (w' := w) rfl ?_
  refine tm_i (p1 := 17) (p2 := 5) rfl (fun h1 => ?_) (fun h1 => ?_)
  · refine tm_go 1 (pc' := 18) (L' := [some (.ref 48), some (.int a0)]) (S' := [.int 0]) (w' := w) rfl ?_
    exact tm_r rfl (⟨by unfold g_Ro_has; rw [if_pos h1], rfl⟩)
  · refine tm_go 3 (pc' := 10) (L' := [some (.ref 48), some (.int a0)]) (S' := [.int (w.1 48 0), .int a0]) (w' := w) rfl ?_
    refine tm_i (p1 := 17) (p2 := 13) rfl (fun h2 => ?_) (fun h2 => ?_)
    · refine tm_go 1 (pc' := 18) (L' := [some (.ref 48), some (.int a0)]) (S' := [.int 0]) (w' := w) rfl ?_
      exact tm_r rfl (⟨by unfold g_Ro_has; rw [if_neg h1, if_pos h2], rfl⟩)
    · refine tm_go 2 (pc' := 18) (L' := [some (.ref 48), some (.int a0)]) (S' := [.int 1]) (w' := w) rfl ?_
      exact tm_r rfl (⟨by unfold g_Ro_has; rw [if_neg h1, if_neg h2], rfl⟩)
def g_Ro_isMark (w : MW) (a0 : Int32) : Int32 := (if a0.toInt = (40 : Int32).toInt then 1 else (if a0.toInt = (41 : Int32).toInt then 1 else (if ¬ a0.toInt = (59 : Int32).toInt then 0 else 1)))
theorem z_Ro_isMark (w : MW) (a0 : Int32) : (g_Ro_isMark w a0).toInt = 0 ∨ (g_Ro_isMark w a0).toInt = 1 := (ite_Z (by decide) (ite_Z (by decide) (ite_Z (by decide) (by decide))))
set_option maxHeartbeats 4000000 in
set_option maxRecDepth 100000 in
theorem c_Ro_isMark {d : Nat} (w : MW) (a0 : Int32)  : Tc (d + 0) 191 [.int a0] w (fun v w1 => v = some (.int (g_Ro_isMark w a0)) ∧ w1 = w) := by
  refine tm_go 2 (pc' := 3) (L' := [some (.int a0)]) (S' := [.int 40, .int a0]) (w' := w) rfl ?_
  refine tm_i (p1 := 18) (p2 := 6) rfl (fun h1 => ?_) (fun h1 => ?_)
  · refine tm_go 2 (pc' := 23) (L' := [some (.int a0)]) (S' := [.int 1]) (w' := w) rfl ?_
    exact tm_r rfl (⟨by unfold g_Ro_isMark; rw [if_pos h1], rfl⟩)
  · refine tm_go 2 (pc' := 9) (L' := [some (.int a0)]) (S' := [.int 41, .int a0]) (w' := w) rfl ?_
    refine tm_i (p1 := 18) (p2 := 12) rfl (fun h2 => ?_) (fun h2 => ?_)
    · refine tm_go 2 (pc' := 23) (L' := [some (.int a0)]) (S' := [.int 1]) (w' := w) rfl ?_
      exact tm_r rfl (⟨by unfold g_Ro_isMark; rw [if_neg h1, if_pos h2], rfl⟩)
    · refine tm_go 2 (pc' := 15) (L' := [some (.int a0)]) (S' := [.int 59, .int a0]) (w' := w) rfl ?_
      refine tm_i (p1 := 22) (p2 := 18) rfl (fun h3 => ?_) (fun h3 => ?_)
      · refine tm_go 1 (pc' := 23) (L' := [some (.int a0)]) (S' := [.int 0]) (w' := w) rfl ?_
        exact tm_r rfl (⟨by unfold g_Ro_isMark; rw [if_neg h1, if_neg h2, if_pos h3], rfl⟩)
      · refine tm_go 2 (pc' := 23) (L' := [some (.int a0)]) (S' := [.int 1]) (w' := w) rfl ?_
        exact tm_r rfl (⟨by unfold g_Ro_isMark; rw [if_neg h1, if_neg h2, if_neg h3], rfl⟩)
def u_Ro_fail (w : MW)  : MW := (if 0 ≤ (w.1 48 17).toInt then w else (sI w 48 17 (w.1 48 14)))
theorem ur_Ro_fail (w : MW)  : (u_Ro_fail w).2.2 = w.2.2 := (ite_R rfl rfl)
set_option maxHeartbeats 4000000 in
set_option maxRecDepth 100000 in
theorem c_Ro_fail {d : Nat} (w : MW)   : Tc (d + 0) 194 [.ref 48] w (fun v w1 => v = none ∧ w1 = u_Ro_fail w) := by
  refine tm_go 2 (pc' := 4) (L' := [some (.ref 48)]) (S' := [.int (w.1 48 17)]) (w' := w) rfl ?_
  refine tm_i (p1 := 15) (p2 := 7) rfl (fun h1 => ?_) (fun h1 => ?_)
  · exact tm_r rfl (⟨rfl, by unfold u_Ro_fail; rw [if_pos h1]⟩)
  · refine tm_go 4 (pc' := 15) (L' := [some (.ref 48)]) (S' := []) (w' := (sI w 48 17 (w.1 48 14))) rfl ?_
    exact tm_r rfl (⟨rfl, by unfold u_Ro_fail; rw [if_neg h1]⟩)
def s_Ro_put (w : MW) (a0 : Int32) : Prop := (if (1400 : Int32).toInt ≤ (w.1 48 10).toInt then True else ((0 ≤ (w.1 48 10).toInt ∧ (w.1 48 10).toInt < 1400) ∧ True))
def u_Ro_put (w : MW) (a0 : Int32) : MW := (if (1400 : Int32).toInt ≤ (w.1 48 10).toInt then w else (sI (sI w 56 ((w.1 48 10).toInt.toNat) a0) 48 10 ((w.1 48 10) + (1 : Int32))))
theorem ur_Ro_put (w : MW) (a0 : Int32) : (u_Ro_put w a0).2.2 = w.2.2 := (ite_R rfl rfl)
set_option maxHeartbeats 4000000 in
set_option maxRecDepth 100000 in
theorem c_Ro_put {d : Nat} (w : MW) (a0 : Int32)  (hs : s_Ro_put w a0) : Tc (d + 0) 201 [.ref 48, .int a0] w (fun v w1 => v = none ∧ w1 = u_Ro_put w a0) := by
  unfold s_Ro_put at hs
  refine tm_go 5 (pc' := 9) (L' := [some (.ref 48), some (.int a0)]) (S' := [.int 1400, .int (w.1 48 10)]) (w' := w) rfl ?_
  refine tm_i (p1 := 32) (p2 := 12) rfl (fun h1 => ?_) (fun h1 => ?_)
  · rw [if_pos h1] at hs
    exact tm_r rfl (⟨rfl, by unfold u_Ro_put; rw [if_pos h1]⟩)
  · rw [if_neg h1] at hs
    refine tm_go 5 (pc' := 21) (L' := [some (.ref 48), some (.int a0)]) (S' := [.int a0, .int (w.1 48 10), .ref 56]) (w' := w) rfl ?_
    obtain ⟨b1, hs⟩ := hs
    refine tm_k (pc' := 22) (L' := [some (.ref 48), some (.int a0)]) (S' := []) (w' := (sI w 56 ((w.1 48 10).toInt.toNat) a0)) rfl b1 ?_
    refine tm_go 6 (pc' := 32) (L' := [some (.ref 48), some (.int a0)]) (S' := []) (w' := (sI (sI w 56 ((w.1 48 10).toInt.toNat) a0) 48 10 ((w.1 48 10) + (1 : Int32)))) rfl ?_
    exact tm_r rfl (⟨rfl, by unfold u_Ro_put; rw [if_neg h1]⟩)
def g_Ru_isAlive (w : MW)  : Int32 := (if (w.1 61 4).toInt = 0 then 1 else (if ¬ (w.1 61 4).toInt = (2 : Int32).toInt then 0 else 1))
theorem z_Ru_isAlive (w : MW)  : (g_Ru_isAlive w).toInt = 0 ∨ (g_Ru_isAlive w).toInt = 1 := (ite_Z (by decide) (ite_Z (by decide) (by decide)))
set_option maxHeartbeats 4000000 in
set_option maxRecDepth 100000 in
theorem c_Ru_isAlive {d : Nat} (w : MW)   : Tc (d + 0) 202 [.ref 61] w (fun v w1 => v = some (.int (g_Ru_isAlive w)) ∧ w1 = w) := by
  refine tm_go 2 (pc' := 4) (L' := [some (.ref 61)]) (S' := [.int (w.1 61 4)]) (w' := w) rfl ?_
  refine tm_i (p1 := 15) (p2 := 7) rfl (fun h1 => ?_) (fun h1 => ?_)
  · refine tm_go 2 (pc' := 20) (L' := [some (.ref 61)]) (S' := [.int 1]) (w' := w) rfl ?_
    exact tm_r rfl (⟨by unfold g_Ru_isAlive; rw [if_pos h1], rfl⟩)
  · refine tm_go 3 (pc' := 12) (L' := [some (.ref 61)]) (S' := [.int 2, .int (w.1 61 4)]) (w' := w) rfl ?_
    refine tm_i (p1 := 19) (p2 := 15) rfl (fun h2 => ?_) (fun h2 => ?_)
    · refine tm_go 1 (pc' := 20) (L' := [some (.ref 61)]) (S' := [.int 0]) (w' := w) rfl ?_
      exact tm_r rfl (⟨by unfold g_Ru_isAlive; rw [if_neg h1, if_pos h2], rfl⟩)
    · refine tm_go 2 (pc' := 20) (L' := [some (.ref 61)]) (S' := [.int 1]) (w' := w) rfl ?_
      exact tm_r rfl (⟨by unfold g_Ru_isAlive; rw [if_neg h1, if_neg h2], rfl⟩)
def s_Ru_enter (w : MW) (a0 : Int32) : Prop := ((0 ≤ a0.toInt ∧ a0.toInt < 501) ∧ ((0 ≤ a0.toInt ∧ a0.toInt < 501) ∧ ((0 ≤ a0.toInt ∧ a0.toInt < 501) ∧ ((0 ≤ a0.toInt ∧ a0.toInt < 501) ∧ (if (w.1 78 a0.toInt.toNat).toInt < 0 then True else ((0 ≤ a0.toInt ∧ a0.toInt < 501) ∧ ((0 ≤ (w.1 78 a0.toInt.toNat).toInt ∧ (w.1 78 a0.toInt.toNat).toInt < 501) ∧ True)))))))
def u_Ru_enter (w : MW) (a0 : Int32) : MW := (if (w.1 78 a0.toInt.toNat).toInt < 0 then (sI (sI w 80 a0.toInt.toNat 1) 81 a0.toInt.toNat (w.1 78 a0.toInt.toNat)) else (sI (sI (sI w 80 a0.toInt.toNat 1) 81 a0.toInt.toNat (w.1 78 a0.toInt.toNat)) 80 ((w.1 78 a0.toInt.toNat).toInt.toNat) 0))
theorem ur_Ru_enter (w : MW) (a0 : Int32) : (u_Ru_enter w a0).2.2 = w.2.2 := (ite_R rfl rfl)
set_option maxHeartbeats 4000000 in
set_option maxRecDepth 100000 in
theorem c_Ru_enter {d : Nat} (w : MW) (a0 : Int32)  (hs : s_Ru_enter w a0) : Tc (d + 0) 206 [.ref 61, .int a0] w (fun v w1 => v = none ∧ w1 = u_Ru_enter w a0) := by
  unfold s_Ru_enter at hs
  refine tm_go 4 (pc' := 6) (L' := [some (.ref 61), some (.int a0)]) (S' := [.int 1, .int a0, .ref 80]) (w' := w) rfl ?_
  obtain ⟨b1, hs⟩ := hs
  refine tm_k (pc' := 7) (L' := [some (.ref 61), some (.int a0)]) (S' := []) (w' := (sI w 80 a0.toInt.toNat 1)) rfl b1 ?_
  refine tm_go 6 (pc' := 17) (L' := [some (.ref 61), some (.int a0)]) (S' := [.int a0, .ref 78, .int a0, .ref 81]) (w' := (sI w 80 a0.toInt.toNat 1)) rfl ?_
  obtain ⟨b2, hs⟩ := hs
  refine tm_k (pc' := 18) (L' := [some (.ref 61), some (.int a0)]) (S' := [.int (w.1 78 a0.toInt.toNat), .int a0, .ref 81]) (w' := (sI w 80 a0.toInt.toNat 1)) rfl b2 ?_
  obtain ⟨b3, hs⟩ := hs
  refine tm_k (pc' := 19) (L' := [some (.ref 61), some (.int a0)]) (S' := []) (w' := (sI (sI w 80 a0.toInt.toNat 1) 81 a0.toInt.toNat (w.1 78 a0.toInt.toNat))) rfl b3 ?_
  refine tm_go 3 (pc' := 24) (L' := [some (.ref 61), some (.int a0)]) (S' := [.int a0, .ref 78]) (w' := (sI (sI w 80 a0.toInt.toNat 1) 81 a0.toInt.toNat (w.1 78 a0.toInt.toNat))) rfl ?_
  obtain ⟨b4, hs⟩ := hs
  refine tm_k (pc' := 25) (L' := [some (.ref 61), some (.int a0)]) (S' := [.int (w.1 78 a0.toInt.toNat)]) (w' := (sI (sI w 80 a0.toInt.toNat 1) 81 a0.toInt.toNat (w.1 78 a0.toInt.toNat))) rfl b4 ?_
  refine tm_i (p1 := 40) (p2 := 28) rfl (fun h1 => ?_) (fun h1 => ?_)
  · rw [if_pos h1] at hs
    exact tm_r rfl (⟨rfl, by unfold u_Ru_enter; rw [if_pos h1]⟩)
  · rw [if_neg h1] at hs
    refine tm_go 5 (pc' := 37) (L' := [some (.ref 61), some (.int a0)]) (S' := [.int a0, .ref 78, .ref 80]) (w' := (sI (sI w 80 a0.toInt.toNat 1) 81 a0.toInt.toNat (w.1 78 a0.toInt.toNat))) rfl ?_
    obtain ⟨b5, hs⟩ := hs
    refine tm_k (pc' := 38) (L' := [some (.ref 61), some (.int a0)]) (S' := [.int (w.1 78 a0.toInt.toNat), .ref 80]) (w' := (sI (sI w 80 a0.toInt.toNat 1) 81 a0.toInt.toNat (w.1 78 a0.toInt.toNat))) rfl b5 ?_
    refine tm_go 1 (pc' := 39) (L' := [some (.ref 61), some (.int a0)]) (S' := [.int 0, .int (w.1 78 a0.toInt.toNat), .ref 80]) (w' := (sI (sI w 80 a0.toInt.toNat 1) 81 a0.toInt.toNat (w.1 78 a0.toInt.toNat))) rfl ?_
    obtain ⟨b6, hs⟩ := hs
    refine tm_k (pc' := 40) (L' := [some (.ref 61), some (.int a0)]) (S' := []) (w' := (sI (sI (sI w 80 a0.toInt.toNat 1) 81 a0.toInt.toNat (w.1 78 a0.toInt.toNat)) 80 ((w.1 78 a0.toInt.toNat).toInt.toNat) 0)) rfl b6 ?_
    exact tm_r rfl (⟨rfl, by unfold u_Ru_enter; rw [if_neg h1]⟩)
def g_Ru_isOver (w : MW)  : Int32 := (if (w.1 61 4).toInt = 0 then 0 else 1)
theorem z_Ru_isOver (w : MW)  : (g_Ru_isOver w).toInt = 0 ∨ (g_Ru_isOver w).toInt = 1 := (ite_Z (by decide) (by decide))
set_option maxHeartbeats 4000000 in
set_option maxRecDepth 100000 in
theorem c_Ru_isOver {d : Nat} (w : MW)   : Tc (d + 0) 208 [.ref 61] w (fun v w1 => v = some (.int (g_Ru_isOver w)) ∧ w1 = w) := by
  refine tm_go 2 (pc' := 4) (L' := [some (.ref 61)]) (S' := [.int (w.1 61 4)]) (w' := w) rfl ?_
  refine tm_i (p1 := 11) (p2 := 7) rfl (fun h1 => ?_) (fun h1 => ?_)
  · refine tm_go 1 (pc' := 12) (L' := [some (.ref 61)]) (S' := [.int 0]) (w' := w) rfl ?_
    exact tm_r rfl (⟨by unfold g_Ru_isOver; rw [if_pos h1], rfl⟩)
  · refine tm_go 2 (pc' := 12) (L' := [some (.ref 61)]) (S' := [.int 1]) (w' := w) rfl ?_
    exact tm_r rfl (⟨by unfold g_Ru_isOver; rw [if_neg h1], rfl⟩)
def s_Ru_fault (w : MW) (a0 : Int32) (b0 : Int32) : Prop := ((s_Al_add w (w.1 7 1) b0 a0) ∧ True)
def u_Ru_fault (w : MW) (a0 : Int32) (b0 : Int32) : MW := (sI (u_Al_add w (w.1 7 1) b0 a0) 61 4 2)
theorem ur_Ru_fault (w : MW) (a0 : Int32) (b0 : Int32) : (u_Ru_fault w a0 b0).2.2 = w.2.2 := (by unfold u_Ru_fault; simp only [sI_R, sJ_R, ur_Al_add])
set_option maxHeartbeats 4000000 in
set_option maxRecDepth 100000 in
theorem c_Ru_fault {d : Nat} (w : MW) (a0 : Int32) (b0 : Int32)  (hs : s_Ru_fault w a0 b0) : Tc (d + 1) 209 [.ref 61, .int a0, .int b0] w (fun v w1 => v = none ∧ w1 = u_Ru_fault w a0 b0) := by
  unfold s_Ru_fault at hs
  refine tm_go 7 (pc' := 13) (L' := [some (.ref 61), some (.int a0), some (.int b0)]) (S' := [.int a0, .int b0, .int (w.1 7 1), .ref 3]) (w' := w) rfl ?_
  obtain ⟨b1, hs⟩ := hs
  refine tm_c rfl (Nat.le_of_ble_eq_true rfl) (c_Al_add (d := d + 0) w (w.1 7 1) b0 a0  b1) (fun v w_1 hq => ?_)
  obtain ⟨rfl, ew_1⟩ := hq
  try rw [← ew_1] at hs
  refine tm_go 3 (pc' := 21) (L' := [some (.ref 61), some (.int a0), some (.int b0)]) (S' := []) (w' := (sI w_1 61 4 2)) rfl ?_
  exact tm_r rfl (⟨rfl, by unfold u_Ru_fault; subst ew_1; rfl⟩)
def s_Ru_choose (w : MW) (a0 : Int32) (b0 : Int32) : Prop := ((0 ≤ a0.toInt ∧ a0.toInt < 501) ∧ (if b0.toInt < 0 then True else ((0 ≤ b0.toInt ∧ b0.toInt < 501) ∧ True)))
def u_Ru_choose (w : MW) (a0 : Int32) (b0 : Int32) : MW := (if b0.toInt < 0 then (sI w 81 a0.toInt.toNat b0) else (sI (sI w 81 a0.toInt.toNat b0) 80 b0.toInt.toNat 0))
theorem ur_Ru_choose (w : MW) (a0 : Int32) (b0 : Int32) : (u_Ru_choose w a0 b0).2.2 = w.2.2 := (ite_R rfl rfl)
set_option maxHeartbeats 4000000 in
set_option maxRecDepth 100000 in
theorem c_Ru_choose {d : Nat} (w : MW) (a0 : Int32) (b0 : Int32)  (hs : s_Ru_choose w a0 b0) : Tc (d + 0) 212 [.ref 61, .int a0, .int b0] w (fun v w1 => v = none ∧ w1 = u_Ru_choose w a0 b0) := by
  unfold s_Ru_choose at hs
  refine tm_go 4 (pc' := 6) (L' := [some (.ref 61), some (.int a0), some (.int b0)]) (S' := [.int b0, .int a0, .ref 81]) (w' := w) rfl ?_
  obtain ⟨b1, hs⟩ := hs
  refine tm_k (pc' := 7) (L' := [some (.ref 61), some (.int a0), some (.int b0)]) (S' := []) (w' := (sI w 81 a0.toInt.toNat b0)) rfl b1 ?_
  refine tm_go 1 (pc' := 8) (L' := [some (.ref 61), some (.int a0), some (.int b0)]) (S' := [.int b0]) (w' := (sI w 81 a0.toInt.toNat b0)) rfl ?_
  refine tm_i (p1 := 18) (p2 := 11) rfl (fun h1 => ?_) (fun h1 => ?_)
  · rw [if_pos h1] at hs
    exact tm_r rfl (⟨rfl, by unfold u_Ru_choose; rw [if_pos h1]⟩)
  · rw [if_neg h1] at hs
    refine tm_go 4 (pc' := 17) (L' := [some (.ref 61), some (.int a0), some (.int b0)]) (S' := [.int 0, .int b0, .ref 80]) (w' := (sI w 81 a0.toInt.toNat b0)) rfl ?_
    obtain ⟨b2, hs⟩ := hs
    refine tm_k (pc' := 18) (L' := [some (.ref 61), some (.int a0), some (.int b0)]) (S' := []) (w' := (sI (sI w 81 a0.toInt.toNat b0) 80 b0.toInt.toNat 0)) rfl b2 ?_
    exact tm_r rfl (⟨rfl, by unfold u_Ru_choose; rw [if_neg h1]⟩)
def s_Ru_mayBegin (w : MW) (a0 : Int32) : Prop := (((w.2.2 61 3) = some 62) ∧ ((0 ≤ a0.toInt ∧ a0.toInt < 501) ∧ ((0 ≤ (w.1 77 a0.toInt.toNat).toInt ∧ (w.1 77 a0.toInt.toNat).toInt < 301) ∧ (if ¬ (w.1 63 ((w.1 77 a0.toInt.toNat).toInt.toNat)).toInt = (26 : Int32).toInt then (if (1000 : Int32).toInt ≤ (w.1 61 19).toInt then ((0 ≤ a0.toInt ∧ a0.toInt < 501) ∧ ((s_Ru_fault w 2 (w.1 77 a0.toInt.toNat)) ∧ True)) else True) else (if (1000 : Int32).toInt ≤ (w.1 61 19).toInt then ((0 ≤ a0.toInt ∧ a0.toInt < 501) ∧ ((s_Ru_fault w 2 (w.1 77 a0.toInt.toNat)) ∧ True)) else (if (w.1 61 20).toInt < (10 : Int32).toInt then True else ((0 ≤ a0.toInt ∧ a0.toInt < 501) ∧ ((s_Ru_fault w 2 (w.1 77 a0.toInt.toNat)) ∧ True))))))))
def g_Ru_mayBegin (w : MW) (a0 : Int32) : Int32 := (if ¬ (w.1 63 ((w.1 77 a0.toInt.toNat).toInt.toNat)).toInt = (26 : Int32).toInt then (if (1000 : Int32).toInt ≤ (w.1 61 19).toInt then 0 else 1) else (if (1000 : Int32).toInt ≤ (w.1 61 19).toInt then 0 else (if (w.1 61 20).toInt < (10 : Int32).toInt then 1 else 0)))
def u_Ru_mayBegin (w : MW) (a0 : Int32) : MW := (if ¬ (w.1 63 ((w.1 77 a0.toInt.toNat).toInt.toNat)).toInt = (26 : Int32).toInt then (if (1000 : Int32).toInt ≤ (w.1 61 19).toInt then (u_Ru_fault w 2 (w.1 77 a0.toInt.toNat)) else (sI (sI w 61 19 ((w.1 61 19) + (1 : Int32))) 61 20 ((w.1 61 20) + (0 : Int32)))) else (if (1000 : Int32).toInt ≤ (w.1 61 19).toInt then (u_Ru_fault w 2 (w.1 77 a0.toInt.toNat)) else (if (w.1 61 20).toInt < (10 : Int32).toInt then (sI (sI w 61 19 ((w.1 61 19) + (1 : Int32))) 61 20 ((w.1 61 20) + (1 : Int32))) else (u_Ru_fault w 2 (w.1 77 a0.toInt.toNat)))))
theorem ur_Ru_mayBegin (w : MW) (a0 : Int32) : (u_Ru_mayBegin w a0).2.2 = w.2.2 := (ite_R (ite_R (by simp only [sI_R, sJ_R, ur_Ru_fault]) rfl) (ite_R (by simp only [sI_R, sJ_R, ur_Ru_fault]) (ite_R rfl (by simp only [sI_R, sJ_R, ur_Ru_fault]))))
theorem z_Ru_mayBegin (w : MW) (a0 : Int32) : (g_Ru_mayBegin w a0).toInt = 0 ∨ (g_Ru_mayBegin w a0).toInt = 1 := (ite_Z (ite_Z (by decide) (by decide)) (ite_Z (by decide) (ite_Z (by decide) (by decide))))
set_option maxHeartbeats 4000000 in
set_option maxRecDepth 100000 in
theorem c_Ru_mayBegin {d : Nat} (w : MW) (a0 : Int32)  (hs : s_Ru_mayBegin w a0) : Tc (d + 2) 213 [.ref 61, .int a0] w (fun v w1 => v = some (.int (g_Ru_mayBegin w a0)) ∧ w1 = u_Ru_mayBegin w a0) := by
  unfold s_Ru_mayBegin at hs
  refine tm_go 1 (pc' := 1) (L' := [some (.ref 61), some (.int a0), none]) (S' := [.ref 61]) (w' := w) rfl ?_
  obtain ⟨b1, hs⟩ := hs
  refine tm_g (pc' := 4) (k := 61) (j := 3) rfl b1 ?_
  refine tm_go 4 (pc' := 12) (L' := [some (.ref 61), some (.int a0), none]) (S' := [.int a0, .ref 77, .ref 63]) (w' := w) rfl ?_
  obtain ⟨b2, hs⟩ := hs
  refine tm_k (pc' := 13) (L' := [some (.ref 61), some (.int a0), none]) (S' := [.int (w.1 77 a0.toInt.toNat), .ref 63]) (w' := w) rfl b2 ?_
  obtain ⟨b3, hs⟩ := hs
  refine tm_k (pc' := 14) (L' := [some (.ref 61), some (.int a0), none]) (S' := [.int (w.1 63 ((w.1 77 a0.toInt.toNat).toInt.toNat))]) (w' := w) rfl b3 ?_
  refine tm_go 1 (pc' := 16) (L' := [some (.ref 61), some (.int a0), none]) (S' := [.int 26, .int (w.1 63 ((w.1 77 a0.toInt.toNat).toInt.toNat))]) (w' := w) rfl ?_
  refine tm_i (p1 := 23) (p2 := 19) rfl (fun h1 => ?_) (fun h1 => ?_)
  · rw [if_pos h1] at hs
    refine tm_go 5 (pc' := 32) (L' := [some (.ref 61), some (.int a0), some (.int 0)]) (S' := [.int 1000, .int (w.1 61 19)]) (w' := w) rfl ?_
    refine tm_i (p1 := 48) (p2 := 35) rfl (fun h2 => ?_) (fun h2 => ?_)
    · rw [if_pos h2] at hs
      refine tm_go 5 (pc' := 55) (L' := [some (.ref 61), some (.int a0), some (.int 0)]) (S' := [.int a0, .ref 77, .int 2, .ref 61]) (w' := w) rfl ?_
      obtain ⟨b4, hs⟩ := hs
      refine tm_k (pc' := 56) (L' := [some (.ref 61), some (.int a0), some (.int 0)]) (S' := [.int (w.1 77 a0.toInt.toNat), .int 2, .ref 61]) (w' := w) rfl b4 ?_
      obtain ⟨b5, hs⟩ := hs
      refine tm_c rfl (Nat.le_of_ble_eq_true rfl) (c_Ru_fault (d := d + 0) w 2 (w.1 77 a0.toInt.toNat)  b5) (fun v w_1 hq => ?_)
      obtain ⟨rfl, ew_1⟩ := hq
      try rw [← ew_1] at hs
      refine tm_go 1 (pc' := 60) (L' := [some (.ref 61), some (.int a0), some (.int 0)]) (S' := [.int 0]) (w' := w_1) rfl ?_
      exact tm_r rfl (⟨by unfold g_Ru_mayBegin; subst ew_1; rw [if_pos h1, if_pos h2], by unfold u_Ru_mayBegin; subst ew_1; rw [if_pos h1, if_pos h2]⟩)
    · rw [if_neg h2] at hs
      refine tm_go 17 (pc' := 90) (L' := [some (.ref 61), some (.int a0), some (.int 0)]) (S' := [.int 1]) (w' := (sI (sI w 61 19 ((w.1 61 19) + (1 : Int32))) 61 20 ((w.1 61 20) + (0 : Int32)))) rfl ?_
      exact tm_r rfl (⟨by unfold g_Ru_mayBegin; rw [if_pos h1, if_neg h2], by unfold u_Ru_mayBegin; rw [if_pos h1, if_neg h2]⟩)
  · rw [if_neg h1] at hs
    refine tm_go 6 (pc' := 32) (L' := [some (.ref 61), some (.int a0), some (.int 1)]) (S' := [.int 1000, .int (w.1 61 19)]) (w' := w) rfl ?_
    refine tm_i (p1 := 48) (p2 := 35) rfl (fun h5 => ?_) (fun h5 => ?_)
    · rw [if_pos h5] at hs
      refine tm_go 5 (pc' := 55) (L' := [some (.ref 61), some (.int a0), some (.int 1)]) (S' := [.int a0, .ref 77, .int 2, .ref 61]) (w' := w) rfl ?_
      obtain ⟨b6, hs⟩ := hs
      refine tm_k (pc' := 56) (L' := [some (.ref 61), some (.int a0), some (.int 1)]) (S' := [.int (w.1 77 a0.toInt.toNat), .int 2, .ref 61]) (w' := w) rfl b6 ?_
      obtain ⟨b7, hs⟩ := hs
      refine tm_c rfl (Nat.le_of_ble_eq_true rfl) (c_Ru_fault (d := d + 0) w 2 (w.1 77 a0.toInt.toNat)  b7) (fun v w_2 hq => ?_)
      obtain ⟨rfl, ew_2⟩ := hq
      try rw [← ew_2] at hs
      refine tm_go 1 (pc' := 60) (L' := [some (.ref 61), some (.int a0), some (.int 1)]) (S' := [.int 0]) (w' := w_2) rfl ?_
      exact tm_r rfl (⟨by unfold g_Ru_mayBegin; subst ew_2; rw [if_neg h1, if_pos h5], by unfold u_Ru_mayBegin; subst ew_2; rw [if_neg h1, if_pos h5]⟩)
    · rw [if_neg h5] at hs
      refine tm_go 5 (pc' := 45) (L' := [some (.ref 61), some (.int a0), some (.int 1)]) (S' := [.int 10, .int (w.1 61 20)]) (w' := w) rfl ?_
      refine tm_i (p1 := 61) (p2 := 48) rfl (fun h7 => ?_) (fun h7 => ?_)
      · rw [if_pos h7] at hs
        refine tm_go 16 (pc' := 90) (L' := [some (.ref 61), some (.int a0), some (.int 1)]) (S' := [.int 1]) (w' := (sI (sI w 61 19 ((w.1 61 19) + (1 : Int32))) 61 20 ((w.1 61 20) + (1 : Int32)))) rfl ?_
        exact tm_r rfl (⟨by unfold g_Ru_mayBegin; rw [if_neg h1, if_neg h5, if_pos h7], by unfold u_Ru_mayBegin; rw [if_neg h1, if_neg h5, if_pos h7]⟩)
      · rw [if_neg h7] at hs
        refine tm_go 5 (pc' := 55) (L' := [some (.ref 61), some (.int a0), some (.int 1)]) (S' := [.int a0, .ref 77, .int 2, .ref 61]) (w' := w) rfl ?_
        obtain ⟨b8, hs⟩ := hs
        refine tm_k (pc' := 56) (L' := [some (.ref 61), some (.int a0), some (.int 1)]) (S' := [.int (w.1 77 a0.toInt.toNat), .int 2, .ref 61]) (w' := w) rfl b8 ?_
        obtain ⟨b9, hs⟩ := hs
        refine tm_c rfl (Nat.le_of_ble_eq_true rfl) (c_Ru_fault (d := d + 0) w 2 (w.1 77 a0.toInt.toNat)  b9) (fun v w_3 hq => ?_)
        obtain ⟨rfl, ew_3⟩ := hq
        try rw [← ew_3] at hs
        refine tm_go 1 (pc' := 60) (L' := [some (.ref 61), some (.int a0), some (.int 1)]) (S' := [.int 0]) (w' := w_3) rfl ?_
        exact tm_r rfl (⟨by unfold g_Ru_mayBegin; subst ew_3; rw [if_neg h1, if_neg h5, if_neg h7], by unfold u_Ru_mayBegin; subst ew_3; rw [if_neg h1, if_neg h5, if_neg h7]⟩)
def s_Ru_stand (w : MW) (a0 : Int32) : Prop := ((0 ≤ a0.toInt ∧ a0.toInt < 501) ∧ ((0 ≤ a0.toInt ∧ a0.toInt < 501) ∧ True))
def g_Ru_stand (w : MW) (a0 : Int32) : Int32 := 0
def u_Ru_stand (w : MW) (a0 : Int32) : MW := (sI (sI w 80 a0.toInt.toNat 1) 81 a0.toInt.toNat (-1))
theorem ur_Ru_stand (w : MW) (a0 : Int32) : (u_Ru_stand w a0).2.2 = w.2.2 := rfl
set_option maxHeartbeats 4000000 in
set_option maxRecDepth 100000 in
theorem c_Ru_stand {d : Nat} (w : MW) (a0 : Int32)  (hs : s_Ru_stand w a0) : Tc (d + 0) 219 [.ref 61, .int a0] w (fun v w1 => v = some (.int (g_Ru_stand w a0)) ∧ w1 = u_Ru_stand w a0) := by
  unfold s_Ru_stand at hs
  refine tm_go 4 (pc' := 6) (L' := [some (.ref 61), some (.int a0)]) (S' := [.int 1, .int a0, .ref 80]) (w' := w) rfl ?_
  obtain ⟨b1, hs⟩ := hs
  refine tm_k (pc' := 7) (L' := [some (.ref 61), some (.int a0)]) (S' := []) (w' := (sI w 80 a0.toInt.toNat 1)) rfl b1 ?_
  refine tm_go 4 (pc' := 13) (L' := [some (.ref 61), some (.int a0)]) (S' := [.int (-1), .int a0, .ref 81]) (w' := (sI w 80 a0.toInt.toNat 1)) rfl ?_
  obtain ⟨b2, hs⟩ := hs
  refine tm_k (pc' := 14) (L' := [some (.ref 61), some (.int a0)]) (S' := []) (w' := (sI (sI w 80 a0.toInt.toNat 1) 81 a0.toInt.toNat (-1))) rfl b2 ?_
  refine tm_go 1 (pc' := 15) (L' := [some (.ref 61), some (.int a0)]) (S' := [.int 0]) (w' := (sI (sI w 80 a0.toInt.toNat 1) 81 a0.toInt.toNat (-1))) rfl ?_
  exact tm_r rfl (⟨by unfold g_Ru_stand; rfl, by unfold u_Ru_stand; rfl⟩)
def s_Ru_goInside (w : MW) (a0 : Int32) (b0 : Int32) : Prop := ((0 ≤ a0.toInt ∧ a0.toInt < 501) ∧ ((s_Ru_choose (sI w 80 a0.toInt.toNat 1) a0 b0) ∧ True))
def g_Ru_goInside (w : MW) (a0 : Int32) (b0 : Int32) : Int32 := 2
def u_Ru_goInside (w : MW) (a0 : Int32) (b0 : Int32) : MW := (u_Ru_choose (sI w 80 a0.toInt.toNat 1) a0 b0)
theorem ur_Ru_goInside (w : MW) (a0 : Int32) (b0 : Int32) : (u_Ru_goInside w a0 b0).2.2 = w.2.2 := (by unfold u_Ru_goInside; simp only [sI_R, sJ_R, ur_Ru_choose])
set_option maxHeartbeats 4000000 in
set_option maxRecDepth 100000 in
theorem c_Ru_goInside {d : Nat} (w : MW) (a0 : Int32) (b0 : Int32)  (hs : s_Ru_goInside w a0 b0) : Tc (d + 1) 220 [.ref 61, .int a0, .int b0] w (fun v w1 => v = some (.int (g_Ru_goInside w a0 b0)) ∧ w1 = u_Ru_goInside w a0 b0) := by
  unfold s_Ru_goInside at hs
  refine tm_go 4 (pc' := 6) (L' := [some (.ref 61), some (.int a0), some (.int b0)]) (S' := [.int 1, .int a0, .ref 80]) (w' := w) rfl ?_
  obtain ⟨b1, hs⟩ := hs
  refine tm_k (pc' := 7) (L' := [some (.ref 61), some (.int a0), some (.int b0)]) (S' := []) (w' := (sI w 80 a0.toInt.toNat 1)) rfl b1 ?_
  refine tm_go 3 (pc' := 10) (L' := [some (.ref 61), some (.int a0), some (.int b0)]) (S' := [.int b0, .int a0, .ref 61]) (w' := (sI w 80 a0.toInt.toNat 1)) rfl ?_
  obtain ⟨b2, hs⟩ := hs
  refine tm_c rfl (Nat.le_of_ble_eq_true rfl) (c_Ru_choose (d := d + 0) (sI w 80 a0.toInt.toNat 1) a0 b0  b2) (fun v w_1 hq => ?_)
  obtain ⟨rfl, ew_1⟩ := hq
  try rw [← ew_1] at hs
  refine tm_go 1 (pc' := 14) (L' := [some (.ref 61), some (.int a0), some (.int b0)]) (S' := [.int 2]) (w' := w_1) rfl ?_
  exact tm_r rfl (⟨by unfold g_Ru_goInside; subst ew_1; rfl, by unfold u_Ru_goInside; subst ew_1; rfl⟩)
def s_Ru_setValue (w : MW) (a0 : Int32) (b0 : Int64) : Prop := (((w.2.2 61 3) = some 62) ∧ (((w.2.2 61 3) = some 62) ∧ ((0 ≤ a0.toInt ∧ a0.toInt < 301) ∧ ((0 ≤ (w.1 64 a0.toInt.toNat).toInt ∧ (w.1 64 a0.toInt.toNat).toInt < 40) ∧ True))))
def u_Ru_setValue (w : MW) (a0 : Int32) (b0 : Int64) : MW := (sJ w 74 ((w.1 64 a0.toInt.toNat).toInt.toNat) b0)
theorem ur_Ru_setValue (w : MW) (a0 : Int32) (b0 : Int64) : (u_Ru_setValue w a0 b0).2.2 = w.2.2 := rfl
set_option maxHeartbeats 4000000 in
set_option maxRecDepth 100000 in
theorem c_Ru_setValue {d : Nat} (w : MW) (a0 : Int32) (b0 : Int64)  (hs : s_Ru_setValue w a0 b0) : Tc (d + 0) 223 [.ref 61, .int a0, .long b0] w (fun v w1 => v = none ∧ w1 = u_Ru_setValue w a0 b0) := by
  unfold s_Ru_setValue at hs
  refine tm_go 1 (pc' := 1) (L' := [some (.ref 61), some (.int a0), some (.long b0), none]) (S' := [.ref 61]) (w' := w) rfl ?_
  obtain ⟨b1, hs⟩ := hs
  refine tm_g (pc' := 4) (k := 61) (j := 3) rfl b1 ?_
  refine tm_go 2 (pc' := 8) (L' := [some (.ref 61), some (.int a0), some (.long b0), none]) (S' := [.ref 61, .ref 74]) (w' := w) rfl ?_
  obtain ⟨b2, hs⟩ := hs
  refine tm_g (pc' := 11) (k := 61) (j := 3) rfl b2 ?_
  refine tm_go 2 (pc' := 15) (L' := [some (.ref 61), some (.int a0), some (.long b0), none]) (S' := [.int a0, .ref 64, .ref 74]) (w' := w) rfl ?_
  obtain ⟨b3, hs⟩ := hs
  refine tm_k (pc' := 16) (L' := [some (.ref 61), some (.int a0), some (.long b0), none]) (S' := [.int (w.1 64 a0.toInt.toNat), .ref 74]) (w' := w) rfl b3 ?_
  refine tm_go 1 (pc' := 17) (L' := [some (.ref 61), some (.int a0), some (.long b0), none]) (S' := [.long b0, .int (w.1 64 a0.toInt.toNat), .ref 74]) (w' := w) rfl ?_
  obtain ⟨b4, hs⟩ := hs
  refine tm_k (pc' := 18) (L' := [some (.ref 61), some (.int a0), some (.long b0), none]) (S' := []) (w' := (sJ w 74 ((w.1 64 a0.toInt.toNat).toInt.toNat) b0)) rfl b4 ?_
  exact tm_r rfl (⟨rfl, by unfold u_Ru_setValue; rfl⟩)
def s_Ru_apply (w : MW) (a0 : Int32) (b0 : Int64) (c0 : Int64) : Prop := (if a0.toInt = 42 then True else (if a0.toInt = 43 then True else (if a0.toInt = 44 then (if (lg_cmp b0 c0).toInt ≤ 0 then True else True) else (if a0.toInt = 45 then True else (if a0.toInt = 46 then (if (lg_cmp b0 c0).toInt ≤ 0 then True else True) else (if a0.toInt = 47 then (if ¬ (lg_cmp c0 0).toInt = 0 then ((¬ c0.toInt = 0) ∧ True) else True) else (if a0.toInt = 48 then (if (lg_cmp b0 c0).toInt ≤ 0 then True else True) else (if a0.toInt = 49 then (if (lg_cmp b0 c0).toInt ≤ 0 then True else True) else (if a0.toInt = 50 then (if (lg_cmp b0 c0).toInt ≤ 0 then True else True) else (if a0.toInt = 51 then (if (lg_cmp b0 c0).toInt ≤ 0 then True else True) else (if a0.toInt = 52 then (if (lg_cmp b0 c0).toInt ≤ 0 then True else True) else (if a0.toInt = 53 then (if (lg_cmp b0 c0).toInt ≤ 0 then True else True) else (if a0.toInt = 54 then (if (lg_cmp b0 c0).toInt ≤ 0 then True else True) else (if a0.toInt = 55 then (if (lg_cmp b0 c0).toInt ≤ 0 then True else True) else (if a0.toInt = 56 then (if (lg_cmp b0 c0).toInt ≤ 0 then True else True) else (if a0.toInt = 57 then (if (lg_cmp b0 c0).toInt ≤ 0 then True else True) else (if a0.toInt = 58 then (if (lg_cmp b0 c0).toInt ≤ 0 then True else True) else (if a0.toInt = 59 then (if (lg_cmp b0 c0).toInt ≤ 0 then True else True) else (if a0.toInt = 60 then (if 0 ≤ (lg_cmp b0 c0).toInt then True else True) else (if a0.toInt = 61 then (if ¬ (lg_cmp b0 c0).toInt = 0 then True else True) else (if (lg_cmp b0 c0).toInt ≤ 0 then True else True)))))))))))))))))))))
def g_Ru_apply (w : MW) (a0 : Int32) (b0 : Int64) (c0 : Int64) : Int64 := (if a0.toInt = 42 then ((b0 * c0) / 1000) else (if a0.toInt = 43 then (b0 + c0) else (if a0.toInt = 44 then (if (lg_cmp b0 c0).toInt ≤ 0 then 0 else 1000) else (if a0.toInt = 45 then (b0 - c0) else (if a0.toInt = 46 then (if (lg_cmp b0 c0).toInt ≤ 0 then 0 else 1000) else (if a0.toInt = 47 then (if ¬ (lg_cmp c0 0).toInt = 0 then ((b0 * (1000 : Int64)) / c0) else 0) else (if a0.toInt = 48 then (if (lg_cmp b0 c0).toInt ≤ 0 then 0 else 1000) else (if a0.toInt = 49 then (if (lg_cmp b0 c0).toInt ≤ 0 then 0 else 1000) else (if a0.toInt = 50 then (if (lg_cmp b0 c0).toInt ≤ 0 then 0 else 1000) else (if a0.toInt = 51 then (if (lg_cmp b0 c0).toInt ≤ 0 then 0 else 1000) else (if a0.toInt = 52 then (if (lg_cmp b0 c0).toInt ≤ 0 then 0 else 1000) else (if a0.toInt = 53 then (if (lg_cmp b0 c0).toInt ≤ 0 then 0 else 1000) else (if a0.toInt = 54 then (if (lg_cmp b0 c0).toInt ≤ 0 then 0 else 1000) else (if a0.toInt = 55 then (if (lg_cmp b0 c0).toInt ≤ 0 then 0 else 1000) else (if a0.toInt = 56 then (if (lg_cmp b0 c0).toInt ≤ 0 then 0 else 1000) else (if a0.toInt = 57 then (if (lg_cmp b0 c0).toInt ≤ 0 then 0 else 1000) else (if a0.toInt = 58 then (if (lg_cmp b0 c0).toInt ≤ 0 then 0 else 1000) else (if a0.toInt = 59 then (if (lg_cmp b0 c0).toInt ≤ 0 then 0 else 1000) else (if a0.toInt = 60 then (if 0 ≤ (lg_cmp b0 c0).toInt then 0 else 1000) else (if a0.toInt = 61 then (if ¬ (lg_cmp b0 c0).toInt = 0 then 0 else 1000) else (if (lg_cmp b0 c0).toInt ≤ 0 then 0 else 1000)))))))))))))))))))))
set_option maxHeartbeats 4000000 in
set_option maxRecDepth 100000 in
theorem c_Ru_apply {d : Nat} (w : MW) (a0 : Int32) (b0 : Int64) (c0 : Int64)  (hs : s_Ru_apply w a0 b0 c0) : Tc (d + 0) 228 [.int a0, .long b0, .long c0] w (fun v w1 => v = some (.long (g_Ru_apply w a0 b0 c0)) ∧ w1 = w) := by
  unfold s_Ru_apply at hs
  refine tm_go 1 (pc' := 1) (L' := [some (.int a0), some (.long b0), none, some (.long c0), none]) (S' := [.int a0]) (w' := w) rfl ?_
  by_cases h1 : a0.toInt = 42
  · rw [if_pos h1] at hs
    refine tm_tab (dflt := 158) (lo := 42) (ts := [104, 96, 158, 100, 158, 112, 158, 158, 158, 158, 158, 158, 158, 158, 158, 158, 158, 158, 130, 144]) rfl (by rw [h1]; decide) (t := 104) (by rw [h1]; rfl) ?_
    refine tm_go 5 (pc' := 111) (L' := [some (.int a0), some (.long b0), none, some (.long c0), none]) (S' := [.long ((b0 * c0) / 1000)]) (w' := w) rfl ?_
    exact tm_r rfl (⟨by unfold g_Ru_apply; rw [if_pos h1], rfl⟩)
  · rw [if_neg h1] at hs
    by_cases h2 : a0.toInt = 43
    · rw [if_pos h2] at hs
      refine tm_tab (dflt := 158) (lo := 42) (ts := [104, 96, 158, 100, 158, 112, 158, 158, 158, 158, 158, 158, 158, 158, 158, 158, 158, 158, 130, 144]) rfl (by rw [h2]; decide) (t := 96) (by rw [h2]; rfl) ?_
      refine tm_go 3 (pc' := 99) (L' := [some (.int a0), some (.long b0), none, some (.long c0), none]) (S' := [.long (b0 + c0)]) (w' := w) rfl ?_
      exact tm_r rfl (⟨by unfold g_Ru_apply; rw [if_neg h1, if_pos h2], rfl⟩)
    · rw [if_neg h2] at hs
      by_cases h3 : a0.toInt = 44
      · rw [if_pos h3] at hs
        refine tm_tab (dflt := 158) (lo := 42) (ts := [104, 96, 158, 100, 158, 112, 158, 158, 158, 158, 158, 158, 158, 158, 158, 158, 158, 158, 130, 144]) rfl (by rw [h3]; decide) (t := 158) (by rw [h3]; rfl) ?_
        refine tm_go 3 (pc' := 161) (L' := [some (.int a0), some (.long b0), none, some (.long c0), none]) (S' := [.int (lg_cmp b0 c0)]) (w' := w) rfl ?_
        refine tm_i (p1 := 170) (p2 := 164) rfl (fun h4 => ?_) (fun h4 => ?_)
        · rw [if_pos h4] at hs
          refine tm_go 1 (pc' := 171) (L' := [some (.int a0), some (.long b0), none, some (.long c0), none]) (S' := [.long 0]) (w' := w) rfl ?_
          exact tm_r rfl (⟨by unfold g_Ru_apply; rw [if_neg h1, if_neg h2, if_pos h3, if_pos h4], rfl⟩)
        · rw [if_neg h4] at hs
          refine tm_go 2 (pc' := 171) (L' := [some (.int a0), some (.long b0), none, some (.long c0), none]) (S' := [.long 1000]) (w' := w) rfl ?_
          exact tm_r rfl (⟨by unfold g_Ru_apply; rw [if_neg h1, if_neg h2, if_pos h3, if_neg h4], rfl⟩)
      · rw [if_neg h3] at hs
        by_cases h5 : a0.toInt = 45
        · rw [if_pos h5] at hs
          refine tm_tab (dflt := 158) (lo := 42) (ts := [104, 96, 158, 100, 158, 112, 158, 158, 158, 158, 158, 158, 158, 158, 158, 158, 158, 158, 130, 144]) rfl (by rw [h5]; decide) (t := 100) (by rw [h5]; rfl) ?_
          refine tm_go 3 (pc' := 103) (L' := [some (.int a0), some (.long b0), none, some (.long c0), none]) (S' := [.long (b0 - c0)]) (w' := w) rfl ?_
          exact tm_r rfl (⟨by unfold g_Ru_apply; rw [if_neg h1, if_neg h2, if_neg h3, if_pos h5], rfl⟩)
        · rw [if_neg h5] at hs
          by_cases h6 : a0.toInt = 46
          · rw [if_pos h6] at hs
            refine tm_tab (dflt := 158) (lo := 42) (ts := [104, 96, 158, 100, 158, 112, 158, 158, 158, 158, 158, 158, 158, 158, 158, 158, 158, 158, 130, 144]) rfl (by rw [h6]; decide) (t := 158) (by rw [h6]; rfl) ?_
            refine tm_go 3 (pc' := 161) (L' := [some (.int a0), some (.long b0), none, some (.long c0), none]) (S' := [.int (lg_cmp b0 c0)]) (w' := w) rfl ?_
            refine tm_i (p1 := 170) (p2 := 164) rfl (fun h7 => ?_) (fun h7 => ?_)
            · rw [if_pos h7] at hs
              refine tm_go 1 (pc' := 171) (L' := [some (.int a0), some (.long b0), none, some (.long c0), none]) (S' := [.long 0]) (w' := w) rfl ?_
              exact tm_r rfl (⟨by unfold g_Ru_apply; rw [if_neg h1, if_neg h2, if_neg h3, if_neg h5, if_pos h6, if_pos h7], rfl⟩)
            · rw [if_neg h7] at hs
              refine tm_go 2 (pc' := 171) (L' := [some (.int a0), some (.long b0), none, some (.long c0), none]) (S' := [.long 1000]) (w' := w) rfl ?_
              exact tm_r rfl (⟨by unfold g_Ru_apply; rw [if_neg h1, if_neg h2, if_neg h3, if_neg h5, if_pos h6, if_neg h7], rfl⟩)
          · rw [if_neg h6] at hs
            by_cases h8 : a0.toInt = 47
            · rw [if_pos h8] at hs
              refine tm_tab (dflt := 158) (lo := 42) (ts := [104, 96, 158, 100, 158, 112, 158, 158, 158, 158, 158, 158, 158, 158, 158, 158, 158, 158, 130, 144]) rfl (by rw [h8]; decide) (t := 112) (by rw [h8]; rfl) ?_
              refine tm_go 3 (pc' := 115) (L' := [some (.int a0), some (.long b0), none, some (.long c0), none]) (S' := [.int (lg_cmp c0 0)]) (w' := w) rfl ?_
              refine tm_i (p1 := 122) (p2 := 118) rfl (fun h9 => ?_) (fun h9 => ?_)
              · rw [if_pos h9] at hs
                refine tm_go 4 (pc' := 128) (L' := [some (.int a0), some (.long b0), none, some (.long c0), none]) (S' := [.long c0, .long (b0 * (1000 : Int64))]) (w' := w) rfl ?_
                obtain ⟨b1, hs⟩ := hs
                refine tm_k (pc' := 129) (L' := [some (.int a0), some (.long b0), none, some (.long c0), none]) (S' := [.long ((b0 * (1000 : Int64)) / c0)]) (w' := w) rfl b1 ?_
                exact tm_r rfl (⟨by unfold g_Ru_apply; rw [if_neg h1, if_neg h2, if_neg h3, if_neg h5, if_neg h6, if_pos h8, if_pos h9], rfl⟩)
              · rw [if_neg h9] at hs
                refine tm_go 2 (pc' := 129) (L' := [some (.int a0), some (.long b0), none, some (.long c0), none]) (S' := [.long 0]) (w' := w) rfl ?_
                exact tm_r rfl (⟨by unfold g_Ru_apply; rw [if_neg h1, if_neg h2, if_neg h3, if_neg h5, if_neg h6, if_pos h8, if_neg h9], rfl⟩)
            · rw [if_neg h8] at hs
              by_cases h10 : a0.toInt = 48
              · rw [if_pos h10] at hs
                refine tm_tab (dflt := 158) (lo := 42) (ts := [104, 96, 158, 100, 158, 112, 158, 158, 158, 158, 158, 158, 158, 158, 158, 158, 158, 158, 130, 144]) rfl (by rw [h10]; decide) (t := 158) (by rw [h10]; rfl) ?_
                refine tm_go 3 (pc' := 161) (L' := [some (.int a0), some (.long b0), none, some (.long c0), none]) (S' := [.int (lg_cmp b0 c0)]) (w' := w) rfl ?_
                refine tm_i (p1 := 170) (p2 := 164) rfl (fun h11 => ?_) (fun h11 => ?_)
                · rw [if_pos h11] at hs
                  refine tm_go 1 (pc' := 171) (L' := [some (.int a0), some (.long b0), none, some (.long c0), none]) (S' := [.long 0]) (w' := w) rfl ?_
                  exact tm_r rfl (⟨by unfold g_Ru_apply; rw [if_neg h1, if_neg h2, if_neg h3, if_neg h5, if_neg h6, if_neg h8, if_pos h10, if_pos h11], rfl⟩)
                · rw [if_neg h11] at hs
                  refine tm_go 2 (pc' := 171) (L' := [some (.int a0), some (.long b0), none, some (.long c0), none]) (S' := [.long 1000]) (w' := w) rfl ?_
                  exact tm_r rfl (⟨by unfold g_Ru_apply; rw [if_neg h1, if_neg h2, if_neg h3, if_neg h5, if_neg h6, if_neg h8, if_pos h10, if_neg h11], rfl⟩)
              · rw [if_neg h10] at hs
                by_cases h12 : a0.toInt = 49
                · rw [if_pos h12] at hs
                  refine tm_tab (dflt := 158) (lo := 42) (ts := [104, 96, 158, 100, 158, 112, 158, 158, 158, 158, 158, 158, 158, 158, 158, 158, 158, 158, 130, 144]) rfl (by rw [h12]; decide) (t := 158) (by rw [h12]; rfl) ?_
                  refine tm_go 3 (pc' := 161) (L' := [some (.int a0), some (.long b0), none, some (.long c0), none]) (S' := [.int (lg_cmp b0 c0)]) (w' := w) rfl ?_
                  refine tm_i (p1 := 170) (p2 := 164) rfl (fun h13 => ?_) (fun h13 => ?_)
                  · rw [if_pos h13] at hs
                    refine tm_go 1 (pc' := 171) (L' := [some (.int a0), some (.long b0), none, some (.long c0), none]) (S' := [.long 0]) (w' := w) rfl ?_
                    exact tm_r rfl (⟨by unfold g_Ru_apply; rw [if_neg h1, if_neg h2, if_neg h3, if_neg h5, if_neg h6, if_neg h8, if_neg h10, if_pos h12, if_pos h13], rfl⟩)
                  · rw [if_neg h13] at hs
                    refine tm_go 2 (pc' := 171) (L' := [some (.int a0), some (.long b0), none, some (.long c0), none]) (S' := [.long 1000]) (w' := w) rfl ?_
                    exact tm_r rfl (⟨by unfold g_Ru_apply; rw [if_neg h1, if_neg h2, if_neg h3, if_neg h5, if_neg h6, if_neg h8, if_neg h10, if_pos h12, if_neg h13], rfl⟩)
                · rw [if_neg h12] at hs
                  by_cases h14 : a0.toInt = 50
                  · rw [if_pos h14] at hs
                    refine tm_tab (dflt := 158) (lo := 42) (ts := [104, 96, 158, 100, 158, 112, 158, 158, 158, 158, 158, 158, 158, 158, 158, 158, 158, 158, 130, 144]) rfl (by rw [h14]; decide) (t := 158) (by rw [h14]; rfl) ?_
                    refine tm_go 3 (pc' := 161) (L' := [some (.int a0), some (.long b0), none, some (.long c0), none]) (S' := [.int (lg_cmp b0 c0)]) (w' := w) rfl ?_
                    refine tm_i (p1 := 170) (p2 := 164) rfl (fun h15 => ?_) (fun h15 => ?_)
                    · rw [if_pos h15] at hs
                      refine tm_go 1 (pc' := 171) (L' := [some (.int a0), some (.long b0), none, some (.long c0), none]) (S' := [.long 0]) (w' := w) rfl ?_
                      exact tm_r rfl (⟨by unfold g_Ru_apply; rw [if_neg h1, if_neg h2, if_neg h3, if_neg h5, if_neg h6, if_neg h8, if_neg h10, if_neg h12, if_pos h14, if_pos h15], rfl⟩)
                    · rw [if_neg h15] at hs
                      refine tm_go 2 (pc' := 171) (L' := [some (.int a0), some (.long b0), none, some (.long c0), none]) (S' := [.long 1000]) (w' := w) rfl ?_
                      exact tm_r rfl (⟨by unfold g_Ru_apply; rw [if_neg h1, if_neg h2, if_neg h3, if_neg h5, if_neg h6, if_neg h8, if_neg h10, if_neg h12, if_pos h14, if_neg h15], rfl⟩)
                  · rw [if_neg h14] at hs
                    by_cases h16 : a0.toInt = 51
                    · rw [if_pos h16] at hs
                      refine tm_tab (dflt := 158) (lo := 42) (ts := [104, 96, 158, 100, 158, 112, 158, 158, 158, 158, 158, 158, 158, 158, 158, 158, 158, 158, 130, 144]) rfl (by rw [h16]; decide) (t := 158) (by rw [h16]; rfl) ?_
                      refine tm_go 3 (pc' := 161) (L' := [some (.int a0), some (.long b0), none, some (.long c0), none]) (S' := [.int (lg_cmp b0 c0)]) (w' := w) rfl ?_
                      refine tm_i (p1 := 170) (p2 := 164) rfl (fun h17 => ?_) (fun h17 => ?_)
                      · rw [if_pos h17] at hs
                        refine tm_go 1 (pc' := 171) (L' := [some (.int a0), some (.long b0), none, some (.long c0), none]) (S' := [.long 0]) (w' := w) rfl ?_
                        exact tm_r rfl (⟨by unfold g_Ru_apply; rw [if_neg h1, if_neg h2, if_neg h3, if_neg h5, if_neg h6, if_neg h8, if_neg h10, if_neg h12, if_neg h14, if_pos h16, if_pos h17], rfl⟩)
                      · rw [if_neg h17] at hs
                        refine tm_go 2 (pc' := 171) (L' := [some (.int a0), some (.long b0), none, some (.long c0), none]) (S' := [.long 1000]) (w' := w) rfl ?_
                        exact tm_r rfl (⟨by unfold g_Ru_apply; rw [if_neg h1, if_neg h2, if_neg h3, if_neg h5, if_neg h6, if_neg h8, if_neg h10, if_neg h12, if_neg h14, if_pos h16, if_neg h17], rfl⟩)
                    · rw [if_neg h16] at hs
                      by_cases h18 : a0.toInt = 52
                      · rw [if_pos h18] at hs
                        refine tm_tab (dflt := 158) (lo := 42) (ts := [104, 96, 158, 100, 158, 112, 158, 158, 158, 158, 158, 158, 158, 158, 158, 158, 158, 158, 130, 144]) rfl (by rw [h18]; decide) (t := 158) (by rw [h18]; rfl) ?_
                        refine tm_go 3 (pc' := 161) (L' := [some (.int a0), some (.long b0), none, some (.long c0), none]) (S' := [.int (lg_cmp b0 c0)]) (w' := w) rfl ?_
                        refine tm_i (p1 := 170) (p2 := 164) rfl (fun h19 => ?_) (fun h19 => ?_)
                        · rw [if_pos h19] at hs
                          refine tm_go 1 (pc' := 171) (L' := [some (.int a0), some (.long b0), none, some (.long c0), none]) (S' := [.long 0]) (w' := w) rfl ?_
                          exact tm_r rfl (⟨by unfold g_Ru_apply; rw [if_neg h1, if_neg h2, if_neg h3, if_neg h5, if_neg h6, if_neg h8, if_neg h10, if_neg h12, if_neg h14, if_neg h16, if_pos h18, if_pos h19], rfl⟩)
                        · rw [if_neg h19] at hs
                          refine tm_go 2 (pc' := 171) (L' := [some (.int a0), some (.long b0), none, some (.long c0), none]) (S' := [.long 1000]) (w' := w) rfl ?_
                          exact tm_r rfl (⟨by unfold g_Ru_apply; rw [if_neg h1, if_neg h2, if_neg h3, if_neg h5, if_neg h6, if_neg h8, if_neg h10, if_neg h12, if_neg h14, if_neg h16, if_pos h18, if_neg h19], rfl⟩)
                      · rw [if_neg h18] at hs
                        by_cases h20 : a0.toInt = 53
                        · rw [if_pos h20] at hs
                          refine tm_tab (dflt := 158) (lo := 42) (ts := [104, 96, 158, 100, 158, 112, 158, 158, 158, 158, 158, 158, 158, 158, 158, 158, 158, 158, 130, 144]) rfl (by rw [h20]; decide) (t := 158) (by rw [h20]; rfl) ?_
                          refine tm_go 3 (pc' := 161) (L' := [some (.int a0), some (.long b0), none, some (.long c0), none]) (S' := [.int (lg_cmp b0 c0)]) (w' := w) rfl ?_
                          refine tm_i (p1 := 170) (p2 := 164) rfl (fun h21 => ?_) (fun h21 => ?_)
                          · rw [if_pos h21] at hs
                            refine tm_go 1 (pc' := 171) (L' := [some (.int a0), some (.long b0), none, some (.long c0), none]) (S' := [.long 0]) (w' := w) rfl ?_
                            exact tm_r rfl (⟨by unfold g_Ru_apply; rw [if_neg h1, if_neg h2, if_neg h3, if_neg h5, if_neg h6, if_neg h8, if_neg h10, if_neg h12, if_neg h14, if_neg h16, if_neg h18, if_pos h20, if_pos h21], rfl⟩)
                          · rw [if_neg h21] at hs
                            refine tm_go 2 (pc' := 171) (L' := [some (.int a0), some (.long b0), none, some (.long c0), none]) (S' := [.long 1000]) (w' := w) rfl ?_
                            exact tm_r rfl (⟨by unfold g_Ru_apply; rw [if_neg h1, if_neg h2, if_neg h3, if_neg h5, if_neg h6, if_neg h8, if_neg h10, if_neg h12, if_neg h14, if_neg h16, if_neg h18, if_pos h20, if_neg h21], rfl⟩)
                        · rw [if_neg h20] at hs
                          by_cases h22 : a0.toInt = 54
                          · rw [if_pos h22] at hs
                            refine tm_tab (dflt := 158) (lo := 42) (ts := [104, 96, 158, 100, 158, 112, 158, 158, 158, 158, 158, 158, 158, 158, 158, 158, 158, 158, 130, 144]) rfl (by rw [h22]; decide) (t := 158) (by rw [h22]; rfl) ?_
                            refine tm_go 3 (pc' := 161) (L' := [some (.int a0), some (.long b0), none, some (.long c0), none]) (S' := [.int (lg_cmp b0 c0)]) (w' := w) rfl ?_
                            refine tm_i (p1 := 170) (p2 := 164) rfl (fun h23 => ?_) (fun h23 => ?_)
                            · rw [if_pos h23] at hs
                              refine tm_go 1 (pc' := 171) (L' := [some (.int a0), some (.long b0), none, some (.long c0), none]) (S' := [.long 0]) (w' := w) rfl ?_
                              exact tm_r rfl (⟨by unfold g_Ru_apply; rw [if_neg h1, if_neg h2, if_neg h3, if_neg h5, if_neg h6, if_neg h8, if_neg h10, if_neg h12, if_neg h14, if_neg h16, if_neg h18, if_neg h20, if_pos h22, if_pos h23], rfl⟩)
                            · rw [if_neg h23] at hs
                              refine tm_go 2 (pc' := 171) (L' := [some (.int a0), some (.long b0), none, some (.long c0), none]) (S' := [.long 1000]) (w' := w) rfl ?_
                              exact tm_r rfl (⟨by unfold g_Ru_apply; rw [if_neg h1, if_neg h2, if_neg h3, if_neg h5, if_neg h6, if_neg h8, if_neg h10, if_neg h12, if_neg h14, if_neg h16, if_neg h18, if_neg h20, if_pos h22, if_neg h23], rfl⟩)
                          · rw [if_neg h22] at hs
                            by_cases h24 : a0.toInt = 55
                            · rw [if_pos h24] at hs
                              refine tm_tab (dflt := 158) (lo := 42) (ts := [104, 96, 158, 100, 158, 112, 158, 158, 158, 158, 158, 158, 158, 158, 158, 158, 158, 158, 130, 144]) rfl (by rw [h24]; decide) (t := 158) (by rw [h24]; rfl) ?_
                              refine tm_go 3 (pc' := 161) (L' := [some (.int a0), some (.long b0), none, some (.long c0), none]) (S' := [.int (lg_cmp b0 c0)]) (w' := w) rfl ?_
                              refine tm_i (p1 := 170) (p2 := 164) rfl (fun h25 => ?_) (fun h25 => ?_)
                              · rw [if_pos h25] at hs
                                refine tm_go 1 (pc' := 171) (L' := [some (.int a0), some (.long b0), none, some (.long c0), none]) (S' := [.long 0]) (w' := w) rfl ?_
                                exact tm_r rfl (⟨by unfold g_Ru_apply; rw [if_neg h1, if_neg h2, if_neg h3, if_neg h5, if_neg h6, if_neg h8, if_neg h10, if_neg h12, if_neg h14, if_neg h16, if_neg h18, if_neg h20, if_neg h22, if_pos h24, if_pos h25], rfl⟩)
                              · rw [if_neg h25] at hs
                                refine tm_go 2 (pc' := 171) (L' := [some (.int a0), some (.long b0), none, some (.long c0), none]) (S' := [.long 1000]) (w' := w) rfl ?_
                                exact tm_r rfl (⟨by unfold g_Ru_apply; rw [if_neg h1, if_neg h2, if_neg h3, if_neg h5, if_neg h6, if_neg h8, if_neg h10, if_neg h12, if_neg h14, if_neg h16, if_neg h18, if_neg h20, if_neg h22, if_pos h24, if_neg h25], rfl⟩)
                            · rw [if_neg h24] at hs
                              by_cases h26 : a0.toInt = 56
                              · rw [if_pos h26] at hs
                                refine tm_tab (dflt := 158) (lo := 42) (ts := [104, 96, 158, 100, 158, 112, 158, 158, 158, 158, 158, 158, 158, 158, 158, 158, 158, 158, 130, 144]) rfl (by rw [h26]; decide) (t := 158) (by rw [h26]; rfl) ?_
                                refine tm_go 3 (pc' := 161) (L' := [some (.int a0), some (.long b0), none, some (.long c0), none]) (S' := [.int (lg_cmp b0 c0)]) (w' := w) rfl ?_
                                refine tm_i (p1 := 170) (p2 := 164) rfl (fun h27 => ?_) (fun h27 => ?_)
                                · rw [if_pos h27] at hs
                                  refine tm_go 1 (pc' := 171) (L' := [some (.int a0), some (.long b0), none, some (.long c0), none]) (S' := [.long 0]) (w' := w) rfl ?_
                                  exact tm_r rfl (⟨by unfold g_Ru_apply; rw [if_neg h1, if_neg h2, if_neg h3, if_neg h5, if_neg h6, if_neg h8, if_neg h10, if_neg h12, if_neg h14, if_neg h16, if_neg h18, if_neg h20, if_neg h22, if_neg h24, if_pos h26, if_pos h27], rfl⟩)
                                · rw [if_neg h27] at hs
                                  refine tm_go 2 (pc' := 171) (L' := [some (.int a0), some (.long b0), none, some (.long c0), none]) (S' := [.long 1000]) (w' := w) rfl ?_
                                  exact tm_r rfl (⟨by unfold g_Ru_apply; rw [if_neg h1, if_neg h2, if_neg h3, if_neg h5, if_neg h6, if_neg h8, if_neg h10, if_neg h12, if_neg h14, if_neg h16, if_neg h18, if_neg h20, if_neg h22, if_neg h24, if_pos h26, if_neg h27], rfl⟩)
                              · rw [if_neg h26] at hs
                                by_cases h28 : a0.toInt = 57
                                · rw [if_pos h28] at hs
                                  refine tm_tab (dflt := 158) (lo := 42) (ts := [104, 96, 158, 100, 158, 112, 158, 158, 158, 158, 158, 158, 158, 158, 158, 158, 158, 158, 130, 144]) rfl (by rw [h28]; decide) (t := 158) (by rw [h28]; rfl) ?_
                                  refine tm_go 3 (pc' := 161) (L' := [some (.int a0), some (.long b0), none, some (.long c0), none]) (S' := [.int (lg_cmp b0 c0)]) (w' := w) rfl ?_
                                  refine tm_i (p1 := 170) (p2 := 164) rfl (fun h29 => ?_) (fun h29 => ?_)
                                  · rw [if_pos h29] at hs
                                    refine tm_go 1 (pc' := 171) (L' := [some (.int a0), some (.long b0), none, some (.long c0), none]) (S' := [.long 0]) (w' := w) rfl ?_
                                    exact tm_r rfl (⟨by unfold g_Ru_apply; rw [if_neg h1, if_neg h2, if_neg h3, if_neg h5, if_neg h6, if_neg h8, if_neg h10, if_neg h12, if_neg h14, if_neg h16, if_neg h18, if_neg h20, if_neg h22, if_neg h24, if_neg h26, if_pos h28, if_pos h29], rfl⟩)
                                  · rw [if_neg h29] at hs
                                    refine tm_go 2 (pc' := 171) (L' := [some (.int a0), some (.long b0), none, some (.long c0), none]) (S' := [.long 1000]) (w' := w) rfl ?_
                                    exact tm_r rfl (⟨by unfold g_Ru_apply; rw [if_neg h1, if_neg h2, if_neg h3, if_neg h5, if_neg h6, if_neg h8, if_neg h10, if_neg h12, if_neg h14, if_neg h16, if_neg h18, if_neg h20, if_neg h22, if_neg h24, if_neg h26, if_pos h28, if_neg h29], rfl⟩)
                                · rw [if_neg h28] at hs
                                  by_cases h30 : a0.toInt = 58
                                  · rw [if_pos h30] at hs
                                    refine tm_tab (dflt := 158) (lo := 42) (ts := [104, 96, 158, 100, 158, 112, 158, 158, 158, 158, 158, 158, 158, 158, 158, 158, 158, 158, 130, 144]) rfl (by rw [h30]; decide) (t := 158) (by rw [h30]; rfl) ?_
                                    refine tm_go 3 (pc' := 161) (L' := [some (.int a0), some (.long b0), none, some (.long c0), none]) (S' := [.int (lg_cmp b0 c0)]) (w' := w) rfl ?_
                                    refine tm_i (p1 := 170) (p2 := 164) rfl (fun h31 => ?_) (fun h31 => ?_)
                                    · rw [if_pos h31] at hs
                                      refine tm_go 1 (pc' := 171) (L' := [some (.int a0), some (.long b0), none, some (.long c0), none]) (S' := [.long 0]) (w' := w) rfl ?_
                                      exact tm_r rfl (⟨by unfold g_Ru_apply; rw [if_neg h1, if_neg h2, if_neg h3, if_neg h5, if_neg h6, if_neg h8, if_neg h10, if_neg h12, if_neg h14, if_neg h16, if_neg h18, if_neg h20, if_neg h22, if_neg h24, if_neg h26, if_neg h28, if_pos h30, if_pos h31], rfl⟩)
                                    · rw [if_neg h31] at hs
                                      refine tm_go 2 (pc' := 171) (L' := [some (.int a0), some (.long b0), none, some (.long c0), none]) (S' := [.long 1000]) (w' := w) rfl ?_
                                      exact tm_r rfl (⟨by unfold g_Ru_apply; rw [if_neg h1, if_neg h2, if_neg h3, if_neg h5, if_neg h6, if_neg h8, if_neg h10, if_neg h12, if_neg h14, if_neg h16, if_neg h18, if_neg h20, if_neg h22, if_neg h24, if_neg h26, if_neg h28, if_pos h30, if_neg h31], rfl⟩)
                                  · rw [if_neg h30] at hs
                                    by_cases h32 : a0.toInt = 59
                                    · rw [if_pos h32] at hs
                                      refine tm_tab (dflt := 158) (lo := 42) (ts := [104, 96, 158, 100, 158, 112, 158, 158, 158, 158, 158, 158, 158, 158, 158, 158, 158, 158, 130, 144]) rfl (by rw [h32]; decide) (t := 158) (by rw [h32]; rfl) ?_
                                      refine tm_go 3 (pc' := 161) (L' := [some (.int a0), some (.long b0), none, some (.long c0), none]) (S' := [.int (lg_cmp b0 c0)]) (w' := w) rfl ?_
                                      refine tm_i (p1 := 170) (p2 := 164) rfl (fun h33 => ?_) (fun h33 => ?_)
                                      · rw [if_pos h33] at hs
                                        refine tm_go 1 (pc' := 171) (L' := [some (.int a0), some (.long b0), none, some (.long c0), none]) (S' := [.long 0]) (w' := w) rfl ?_
                                        exact tm_r rfl (⟨by unfold g_Ru_apply; rw [if_neg h1, if_neg h2, if_neg h3, if_neg h5, if_neg h6, if_neg h8, if_neg h10, if_neg h12, if_neg h14, if_neg h16, if_neg h18, if_neg h20, if_neg h22, if_neg h24, if_neg h26, if_neg h28, if_neg h30, if_pos h32, if_pos h33], rfl⟩)
                                      · rw [if_neg h33] at hs
                                        refine tm_go 2 (pc' := 171) (L' := [some (.int a0), some (.long b0), none, some (.long c0), none]) (S' := [.long 1000]) (w' := w) rfl ?_
                                        exact tm_r rfl (⟨by unfold g_Ru_apply; rw [if_neg h1, if_neg h2, if_neg h3, if_neg h5, if_neg h6, if_neg h8, if_neg h10, if_neg h12, if_neg h14, if_neg h16, if_neg h18, if_neg h20, if_neg h22, if_neg h24, if_neg h26, if_neg h28, if_neg h30, if_pos h32, if_neg h33], rfl⟩)
                                    · rw [if_neg h32] at hs
                                      by_cases h34 : a0.toInt = 60
                                      · rw [if_pos h34] at hs
                                        refine tm_tab (dflt := 158) (lo := 42) (ts := [104, 96, 158, 100, 158, 112, 158, 158, 158, 158, 158, 158, 158, 158, 158, 158, 158, 158, 130, 144]) rfl (by rw [h34]; decide) (t := 130) (by rw [h34]; rfl) ?_
                                        refine tm_go 3 (pc' := 133) (L' := [some (.int a0), some (.long b0), none, some (.long c0), none]) (S' := [.int (lg_cmp b0 c0)]) (w' := w) rfl ?_
                                        refine tm_i (p1 := 142) (p2 := 136) rfl (fun h35 => ?_) (fun h35 => ?_)
                                        · rw [if_pos h35] at hs
                                          refine tm_go 1 (pc' := 143) (L' := [some (.int a0), some (.long b0), none, some (.long c0), none]) (S' := [.long 0]) (w' := w) rfl ?_
                                          exact tm_r rfl (⟨by unfold g_Ru_apply; rw [if_neg h1, if_neg h2, if_neg h3, if_neg h5, if_neg h6, if_neg h8, if_neg h10, if_neg h12, if_neg h14, if_neg h16, if_neg h18, if_neg h20, if_neg h22, if_neg h24, if_neg h26, if_neg h28, if_neg h30, if_neg h32, if_pos h34, if_pos h35], rfl⟩)
                                        · rw [if_neg h35] at hs
                                          refine tm_go 2 (pc' := 143) (L' := [some (.int a0), some (.long b0), none, some (.long c0), none]) (S' := [.long 1000]) (w' := w) rfl ?_
                                          exact tm_r rfl (⟨by unfold g_Ru_apply; rw [if_neg h1, if_neg h2, if_neg h3, if_neg h5, if_neg h6, if_neg h8, if_neg h10, if_neg h12, if_neg h14, if_neg h16, if_neg h18, if_neg h20, if_neg h22, if_neg h24, if_neg h26, if_neg h28, if_neg h30, if_neg h32, if_pos h34, if_neg h35], rfl⟩)
                                      · rw [if_neg h34] at hs
                                        by_cases h36 : a0.toInt = 61
                                        · rw [if_pos h36] at hs
                                          refine tm_tab (dflt := 158) (lo := 42) (ts := [104, 96, 158, 100, 158, 112, 158, 158, 158, 158, 158, 158, 158, 158, 158, 158, 158, 158, 130, 144]) rfl (by rw [h36]; decide) (t := 144) (by rw [h36]; rfl) ?_
                                          refine tm_go 3 (pc' := 147) (L' := [some (.int a0), some (.long b0), none, some (.long c0), none]) (S' := [.int (lg_cmp b0 c0)]) (w' := w) rfl ?_
                                          refine tm_i (p1 := 156) (p2 := 150) rfl (fun h37 => ?_) (fun h37 => ?_)
                                          · rw [if_pos h37] at hs
                                            refine tm_go 1 (pc' := 157) (L' := [some (.int a0), some (.long b0), none, some (.long c0), none]) (S' := [.long 0]) (w' := w) rfl ?_
                                            exact tm_r rfl (⟨by unfold g_Ru_apply; rw [if_neg h1, if_neg h2, if_neg h3, if_neg h5, if_neg h6, if_neg h8, if_neg h10, if_neg h12, if_neg h14, if_neg h16, if_neg h18, if_neg h20, if_neg h22, if_neg h24, if_neg h26, if_neg h28, if_neg h30, if_neg h32, if_neg h34, if_pos h36, if_pos h37], rfl⟩)
                                          · rw [if_neg h37] at hs
                                            refine tm_go 2 (pc' := 157) (L' := [some (.int a0), some (.long b0), none, some (.long c0), none]) (S' := [.long 1000]) (w' := w) rfl ?_
                                            exact tm_r rfl (⟨by unfold g_Ru_apply; rw [if_neg h1, if_neg h2, if_neg h3, if_neg h5, if_neg h6, if_neg h8, if_neg h10, if_neg h12, if_neg h14, if_neg h16, if_neg h18, if_neg h20, if_neg h22, if_neg h24, if_neg h26, if_neg h28, if_neg h30, if_neg h32, if_neg h34, if_pos h36, if_neg h37], rfl⟩)
                                        · rw [if_neg h36] at hs
                                          refine tm_tad (dflt := 158) (lo := 42) (ts := [104, 96, 158, 100, 158, 112, 158, 158, 158, 158, 158, 158, 158, 158, 158, 158, 158, 158, 130, 144]) rfl (by simp only [List.length_cons, List.length_nil]; omega) ?_
                                          refine tm_go 3 (pc' := 161) (L' := [some (.int a0), some (.long b0), none, some (.long c0), none]) (S' := [.int (lg_cmp b0 c0)]) (w' := w) rfl ?_
                                          refine tm_i (p1 := 170) (p2 := 164) rfl (fun h38 => ?_) (fun h38 => ?_)
                                          · rw [if_pos h38] at hs
                                            refine tm_go 1 (pc' := 171) (L' := [some (.int a0), some (.long b0), none, some (.long c0), none]) (S' := [.long 0]) (w' := w) rfl ?_
                                            exact tm_r rfl (⟨by unfold g_Ru_apply; rw [if_neg h1, if_neg h2, if_neg h3, if_neg h5, if_neg h6, if_neg h8, if_neg h10, if_neg h12, if_neg h14, if_neg h16, if_neg h18, if_neg h20, if_neg h22, if_neg h24, if_neg h26, if_neg h28, if_neg h30, if_neg h32, if_neg h34, if_neg h36, if_pos h38], rfl⟩)
                                          · rw [if_neg h38] at hs
                                            refine tm_go 2 (pc' := 171) (L' := [some (.int a0), some (.long b0), none, some (.long c0), none]) (S' := [.long 1000]) (w' := w) rfl ?_
                                            exact tm_r rfl (⟨by unfold g_Ru_apply; rw [if_neg h1, if_neg h2, if_neg h3, if_neg h5, if_neg h6, if_neg h8, if_neg h10, if_neg h12, if_neg h14, if_neg h16, if_neg h18, if_neg h20, if_neg h22, if_neg h24, if_neg h26, if_neg h28, if_neg h30, if_neg h32, if_neg h34, if_neg h36, if_neg h38], rfl⟩)
def s_St_isTank (w : MW) (a0 : Int32) : Prop := (if a0.toInt < 0 then True else (((w.2.2 7 0) = some 8) ∧ (if (w.1 8 0).toInt ≤ a0.toInt then True else (((w.2.2 7 0) = some 8) ∧ ((0 ≤ a0.toInt ∧ a0.toInt < 20) ∧ (if ¬ (w.1 9 a0.toInt.toNat).toInt = (9 : Int32).toInt then True else True))))))
def g_St_isTank (w : MW) (a0 : Int32) : Int32 := (if a0.toInt < 0 then 0 else (if (w.1 8 0).toInt ≤ a0.toInt then 0 else (if ¬ (w.1 9 a0.toInt.toNat).toInt = (9 : Int32).toInt then 0 else 1)))
theorem z_St_isTank (w : MW) (a0 : Int32) : (g_St_isTank w a0).toInt = 0 ∨ (g_St_isTank w a0).toInt = 1 := (ite_Z (by decide) (ite_Z (by decide) (ite_Z (by decide) (by decide))))
set_option maxHeartbeats 4000000 in
set_option maxRecDepth 100000 in
theorem c_St_isTank {d : Nat} (w : MW) (a0 : Int32)  (hs : s_St_isTank w a0) : Tc (d + 0) 238 [.ref 7, .int a0] w (fun v w1 => v = some (.int (g_St_isTank w a0)) ∧ w1 = w) := by
  unfold s_St_isTank at hs
  refine tm_go 1 (pc' := 1) (L' := [some (.ref 7), some (.int a0)]) (S' := [.int a0]) (w' := w) rfl ?_
  refine tm_i (p1 := 33) (p2 := 4) rfl (fun h1 => ?_) (fun h1 => ?_)
  · rw [if_pos h1] at hs
    refine tm_go 1 (pc' := 34) (L' := [some (.ref 7), some (.int a0)]) (S' := [.int 0]) (w' := w) rfl ?_
    exact tm_r rfl (⟨by unfold g_St_isTank; rw [if_pos h1], rfl⟩)
  · rw [if_neg h1] at hs
    refine tm_go 2 (pc' := 6) (L' := [some (.ref 7), some (.int a0)]) (S' := [.ref 7, .int a0]) (w' := w) rfl ?_
    obtain ⟨b1, hs⟩ := hs
    refine tm_g (pc' := 9) (k := 7) (j := 0) rfl b1 ?_
    refine tm_go 1 (pc' := 12) (L' := [some (.ref 7), some (.int a0)]) (S' := [.int (w.1 8 0), .int a0]) (w' := w) rfl ?_
    refine tm_i (p1 := 33) (p2 := 15) rfl (fun h2 => ?_) (fun h2 => ?_)
    · rw [if_pos h2] at hs
      refine tm_go 1 (pc' := 34) (L' := [some (.ref 7), some (.int a0)]) (S' := [.int 0]) (w' := w) rfl ?_
      exact tm_r rfl (⟨by unfold g_St_isTank; rw [if_neg h1, if_pos h2], rfl⟩)
    · rw [if_neg h2] at hs
      refine tm_go 1 (pc' := 16) (L' := [some (.ref 7), some (.int a0)]) (S' := [.ref 7]) (w' := w) rfl ?_
      obtain ⟨b2, hs⟩ := hs
      refine tm_g (pc' := 19) (k := 7) (j := 0) rfl b2 ?_
      refine tm_go 2 (pc' := 23) (L' := [some (.ref 7), some (.int a0)]) (S' := [.int a0, .ref 9]) (w' := w) rfl ?_
      obtain ⟨b3, hs⟩ := hs
      refine tm_k (pc' := 24) (L' := [some (.ref 7), some (.int a0)]) (S' := [.int (w.1 9 a0.toInt.toNat)]) (w' := w) rfl b3 ?_
      refine tm_go 1 (pc' := 26) (L' := [some (.ref 7), some (.int a0)]) (S' := [.int 9, .int (w.1 9 a0.toInt.toNat)]) (w' := w) rfl ?_
      refine tm_i (p1 := 33) (p2 := 29) rfl (fun h3 => ?_) (fun h3 => ?_)
      · rw [if_pos h3] at hs
        refine tm_go 1 (pc' := 34) (L' := [some (.ref 7), some (.int a0)]) (S' := [.int 0]) (w' := w) rfl ?_
        exact tm_r rfl (⟨by unfold g_St_isTank; rw [if_neg h1, if_neg h2, if_pos h3], rfl⟩)
      · rw [if_neg h3] at hs
        refine tm_go 2 (pc' := 34) (L' := [some (.ref 7), some (.int a0)]) (S' := [.int 1]) (w' := w) rfl ?_
        exact tm_r rfl (⟨by unfold g_St_isTank; rw [if_neg h1, if_neg h2, if_neg h3], rfl⟩)
def s_St_isValve (w : MW) (a0 : Int32) : Prop := (if a0.toInt < 0 then True else (((w.2.2 7 0) = some 8) ∧ (if (w.1 8 0).toInt ≤ a0.toInt then True else (((w.2.2 7 0) = some 8) ∧ ((0 ≤ a0.toInt ∧ a0.toInt < 20) ∧ (if (8 : Int32).toInt ≤ (w.1 9 a0.toInt.toNat).toInt then True else True))))))
def g_St_isValve (w : MW) (a0 : Int32) : Int32 := (if a0.toInt < 0 then 0 else (if (w.1 8 0).toInt ≤ a0.toInt then 0 else (if (8 : Int32).toInt ≤ (w.1 9 a0.toInt.toNat).toInt then 0 else 1)))
theorem z_St_isValve (w : MW) (a0 : Int32) : (g_St_isValve w a0).toInt = 0 ∨ (g_St_isValve w a0).toInt = 1 := (ite_Z (by decide) (ite_Z (by decide) (ite_Z (by decide) (by decide))))
set_option maxHeartbeats 4000000 in
set_option maxRecDepth 100000 in
theorem c_St_isValve {d : Nat} (w : MW) (a0 : Int32)  (hs : s_St_isValve w a0) : Tc (d + 0) 239 [.ref 7, .int a0] w (fun v w1 => v = some (.int (g_St_isValve w a0)) ∧ w1 = w) := by
  unfold s_St_isValve at hs
  refine tm_go 1 (pc' := 1) (L' := [some (.ref 7), some (.int a0)]) (S' := [.int a0]) (w' := w) rfl ?_
  refine tm_i (p1 := 33) (p2 := 4) rfl (fun h1 => ?_) (fun h1 => ?_)
  · rw [if_pos h1] at hs
    refine tm_go 1 (pc' := 34) (L' := [some (.ref 7), some (.int a0)]) (S' := [.int 0]) (w' := w) rfl ?_
    exact tm_r rfl (⟨by unfold g_St_isValve; rw [if_pos h1], rfl⟩)
  · rw [if_neg h1] at hs
    refine tm_go 2 (pc' := 6) (L' := [some (.ref 7), some (.int a0)]) (S' := [.ref 7, .int a0]) (w' := w) rfl ?_
    obtain ⟨b1, hs⟩ := hs
    refine tm_g (pc' := 9) (k := 7) (j := 0) rfl b1 ?_
    refine tm_go 1 (pc' := 12) (L' := [some (.ref 7), some (.int a0)]) (S' := [.int (w.1 8 0), .int a0]) (w' := w) rfl ?_
    refine tm_i (p1 := 33) (p2 := 15) rfl (fun h2 => ?_) (fun h2 => ?_)
    · rw [if_pos h2] at hs
      refine tm_go 1 (pc' := 34) (L' := [some (.ref 7), some (.int a0)]) (S' := [.int 0]) (w' := w) rfl ?_
      exact tm_r rfl (⟨by unfold g_St_isValve; rw [if_neg h1, if_pos h2], rfl⟩)
    · rw [if_neg h2] at hs
      refine tm_go 1 (pc' := 16) (L' := [some (.ref 7), some (.int a0)]) (S' := [.ref 7]) (w' := w) rfl ?_
      obtain ⟨b2, hs⟩ := hs
      refine tm_g (pc' := 19) (k := 7) (j := 0) rfl b2 ?_
      refine tm_go 2 (pc' := 23) (L' := [some (.ref 7), some (.int a0)]) (S' := [.int a0, .ref 9]) (w' := w) rfl ?_
      obtain ⟨b3, hs⟩ := hs
      refine tm_k (pc' := 24) (L' := [some (.ref 7), some (.int a0)]) (S' := [.int (w.1 9 a0.toInt.toNat)]) (w' := w) rfl b3 ?_
      refine tm_go 1 (pc' := 26) (L' := [some (.ref 7), some (.int a0)]) (S' := [.int 8, .int (w.1 9 a0.toInt.toNat)]) (w' := w) rfl ?_
      refine tm_i (p1 := 33) (p2 := 29) rfl (fun h3 => ?_) (fun h3 => ?_)
      · rw [if_pos h3] at hs
        refine tm_go 1 (pc' := 34) (L' := [some (.ref 7), some (.int a0)]) (S' := [.int 0]) (w' := w) rfl ?_
        exact tm_r rfl (⟨by unfold g_St_isValve; rw [if_neg h1, if_neg h2, if_pos h3], rfl⟩)
      · rw [if_neg h3] at hs
        refine tm_go 2 (pc' := 34) (L' := [some (.ref 7), some (.int a0)]) (S' := [.int 1]) (w' := w) rfl ?_
        exact tm_r rfl (⟨by unfold g_St_isValve; rw [if_neg h1, if_neg h2, if_neg h3], rfl⟩)
def s_St_isPipe (w : MW) (a0 : Int32) : Prop := (((w.2.2 7 0) = some 8) ∧ (if a0.toInt < (w.1 8 0).toInt then True else (((w.2.2 7 0) = some 8) ∧ (((w.2.2 7 0) = some 8) ∧ (if ((w.1 8 0) + (w.1 8 1)).toInt ≤ a0.toInt then True else True)))))
def g_St_isPipe (w : MW) (a0 : Int32) : Int32 := (if a0.toInt < (w.1 8 0).toInt then 0 else (if ((w.1 8 0) + (w.1 8 1)).toInt ≤ a0.toInt then 0 else 1))
theorem z_St_isPipe (w : MW) (a0 : Int32) : (g_St_isPipe w a0).toInt = 0 ∨ (g_St_isPipe w a0).toInt = 1 := (ite_Z (by decide) (ite_Z (by decide) (by decide)))
set_option maxHeartbeats 4000000 in
set_option maxRecDepth 100000 in
theorem c_St_isPipe {d : Nat} (w : MW) (a0 : Int32)  (hs : s_St_isPipe w a0) : Tc (d + 0) 240 [.ref 7, .int a0] w (fun v w1 => v = some (.int (g_St_isPipe w a0)) ∧ w1 = w) := by
  unfold s_St_isPipe at hs
  refine tm_go 2 (pc' := 2) (L' := [some (.ref 7), some (.int a0)]) (S' := [.ref 7, .int a0]) (w' := w) rfl ?_
  obtain ⟨b1, hs⟩ := hs
  refine tm_g (pc' := 5) (k := 7) (j := 0) rfl b1 ?_
  refine tm_go 1 (pc' := 8) (L' := [some (.ref 7), some (.int a0)]) (S' := [.int (w.1 8 0), .int a0]) (w' := w) rfl ?_
  refine tm_i (p1 := 34) (p2 := 11) rfl (fun h1 => ?_) (fun h1 => ?_)
  · rw [if_pos h1] at hs
    refine tm_go 1 (pc' := 35) (L' := [some (.ref 7), some (.int a0)]) (S' := [.int 0]) (w' := w) rfl ?_
    exact tm_r rfl (⟨by unfold g_St_isPipe; rw [if_pos h1], rfl⟩)
  · rw [if_neg h1] at hs
    refine tm_go 2 (pc' := 13) (L' := [some (.ref 7), some (.int a0)]) (S' := [.ref 7, .int a0]) (w' := w) rfl ?_
    obtain ⟨b2, hs⟩ := hs
    refine tm_g (pc' := 16) (k := 7) (j := 0) rfl b2 ?_
    refine tm_go 2 (pc' := 20) (L' := [some (.ref 7), some (.int a0)]) (S' := [.ref 7, .int (w.1 8 0), .int a0]) (w' := w) rfl ?_
    obtain ⟨b3, hs⟩ := hs
    refine tm_g (pc' := 23) (k := 7) (j := 0) rfl b3 ?_
    refine tm_go 2 (pc' := 27) (L' := [some (.ref 7), some (.int a0)]) (S' := [.int ((w.1 8 0) + (w.1 8 1)), .int a0]) (w' := w) rfl ?_
    refine tm_i (p1 := 34) (p2 := 30) rfl (fun h2 => ?_) (fun h2 => ?_)
    · rw [if_pos h2] at hs
      refine tm_go 1 (pc' := 35) (L' := [some (.ref 7), some (.int a0)]) (S' := [.int 0]) (w' := w) rfl ?_
      exact tm_r rfl (⟨by unfold g_St_isPipe; rw [if_neg h1, if_pos h2], rfl⟩)
    · rw [if_neg h2] at hs
      refine tm_go 2 (pc' := 35) (L' := [some (.ref 7), some (.int a0)]) (S' := [.int 1]) (w' := w) rfl ?_
      exact tm_r rfl (⟨by unfold g_St_isPipe; rw [if_neg h1, if_neg h2], rfl⟩)
def s_St_isHolder (w : MW) (a0 : Int32) : Prop := ((s_St_isTank w a0) ∧ (if ¬ (g_St_isTank w a0).toInt = 0 then True else ((s_St_isPipe w a0) ∧ (if (g_St_isPipe w a0).toInt = 0 then True else True))))
def g_St_isHolder (w : MW) (a0 : Int32) : Int32 := (if ¬ (g_St_isTank w a0).toInt = 0 then 1 else (if (g_St_isPipe w a0).toInt = 0 then 0 else 1))
theorem z_St_isHolder (w : MW) (a0 : Int32) : (g_St_isHolder w a0).toInt = 0 ∨ (g_St_isHolder w a0).toInt = 1 := (ite_Z (by decide) (ite_Z (by decide) (by decide)))
set_option maxHeartbeats 4000000 in
set_option maxRecDepth 100000 in
theorem c_St_isHolder {d : Nat} (w : MW) (a0 : Int32)  (hs : s_St_isHolder w a0) : Tc (d + 1) 241 [.ref 7, .int a0] w (fun v w1 => v = some (.int (g_St_isHolder w a0)) ∧ w1 = w) := by
  unfold s_St_isHolder at hs
  refine tm_go 2 (pc' := 2) (L' := [some (.ref 7), some (.int a0)]) (S' := [.int a0, .ref 7]) (w' := w) rfl ?_
  obtain ⟨b1, hs⟩ := hs
  refine tm_c rfl (Nat.le_of_ble_eq_true rfl) (c_St_isTank (d := d + 0) w a0  b1) (fun v w1 hq => ?_)
  obtain ⟨rfl, hw9⟩ := hq; rw [hw9]; clear hw9
  refine tm_i (p1 := 16) (p2 := 8) rfl (fun h1 => ?_) (fun h1 => ?_)
  · rw [if_pos h1] at hs
    refine tm_go 2 (pc' := 21) (L' := [some (.ref 7), some (.int a0)]) (S' := [.int 1]) (w' := w) rfl ?_
    exact tm_r rfl (⟨by unfold g_St_isHolder; rw [if_pos h1], rfl⟩)
  · rw [if_neg h1] at hs
    refine tm_go 2 (pc' := 10) (L' := [some (.ref 7), some (.int a0)]) (S' := [.int a0, .ref 7]) (w' := w) rfl ?_
    obtain ⟨b2, hs⟩ := hs
    refine tm_c rfl (Nat.le_of_ble_eq_true rfl) (c_St_isPipe (d := d + 0) w a0  b2) (fun v w1 hq => ?_)
    obtain ⟨rfl, hw9⟩ := hq; rw [hw9]; clear hw9
    refine tm_i (p1 := 20) (p2 := 16) rfl (fun h2 => ?_) (fun h2 => ?_)
    · rw [if_pos h2] at hs
      refine tm_go 1 (pc' := 21) (L' := [some (.ref 7), some (.int a0)]) (S' := [.int 0]) (w' := w) rfl ?_
      exact tm_r rfl (⟨by unfold g_St_isHolder; rw [if_neg h1, if_pos h2], rfl⟩)
    · rw [if_neg h2] at hs
      refine tm_go 2 (pc' := 21) (L' := [some (.ref 7), some (.int a0)]) (S' := [.int 1]) (w' := w) rfl ?_
      exact tm_r rfl (⟨by unfold g_St_isHolder; rw [if_neg h1, if_neg h2], rfl⟩)
def s_St_mayMeet (w : MW) (a0 : Int32) (b0 : Int32) : Prop := ((0 ≤ a0.toInt ∧ a0.toInt < 15) ∧ (if (((w.1 22 a0.toInt.toNat) >>> (b0 &&& 31)) &&& (1 : Int32)).toInt = 0 then True else True))
def g_St_mayMeet (w : MW) (a0 : Int32) (b0 : Int32) : Int32 := (if (((w.1 22 a0.toInt.toNat) >>> (b0 &&& 31)) &&& (1 : Int32)).toInt = 0 then 0 else 1)
theorem z_St_mayMeet (w : MW) (a0 : Int32) (b0 : Int32) : (g_St_mayMeet w a0 b0).toInt = 0 ∨ (g_St_mayMeet w a0 b0).toInt = 1 := (ite_Z (by decide) (by decide))
set_option maxHeartbeats 4000000 in
set_option maxRecDepth 100000 in
theorem c_St_mayMeet {d : Nat} (w : MW) (a0 : Int32) (b0 : Int32)  (hs : s_St_mayMeet w a0 b0) : Tc (d + 0) 242 [.ref 7, .int a0, .int b0] w (fun v w1 => v = some (.int (g_St_mayMeet w a0 b0)) ∧ w1 = w) := by
  unfold s_St_mayMeet at hs
  refine tm_go 3 (pc' := 5) (L' := [some (.ref 7), some (.int a0), some (.int b0)]) (S' := [.int a0, .ref 22]) (w' := w) rfl ?_
  obtain ⟨b1, hs⟩ := hs
  refine tm_k (pc' := 6) (L' := [some (.ref 7), some (.int a0), some (.int b0)]) (S' := [.int (w.1 22 a0.toInt.toNat)]) (w' := w) rfl b1 ?_
  refine tm_go 4 (pc' := 10) (L' := [some (.ref 7), some (.int a0), some (.int b0)]) (S' := [.int (((w.1 22 a0.toInt.toNat) >>> (b0 &&& 31)) &&& (1 : Int32))]) (w' := w) rfl ?_
  refine tm_i (p1 := 17) (p2 := 13) rfl (fun h1 => ?_) (fun h1 => ?_)
  · rw [if_pos h1] at hs
    refine tm_go 1 (pc' := 18) (L' := [some (.ref 7), some (.int a0), some (.int b0)]) (S' := [.int 0]) (w' := w) rfl ?_
    exact tm_r rfl (⟨by unfold g_St_mayMeet; rw [if_pos h1], rfl⟩)
  · rw [if_neg h1] at hs
    refine tm_go 2 (pc' := 18) (L' := [some (.ref 7), some (.int a0), some (.int b0)]) (S' := [.int 1]) (w' := w) rfl ?_
    exact tm_r rfl (⟨by unfold g_St_mayMeet; rw [if_neg h1], rfl⟩)
def s_St_cleanSpace (w : MW) (a0 : Int32) (b0 : Int32) : Prop := ((0 ≤ ((a0 * (6 : Int32)) + b0).toInt ∧ ((a0 * (6 : Int32)) + b0).toInt < 264) ∧ True)
def u_St_cleanSpace (w : MW) (a0 : Int32) (b0 : Int32) : MW := (sI w 23 (((a0 * (6 : Int32)) + b0).toInt.toNat) (w.1 7 1))
theorem ur_St_cleanSpace (w : MW) (a0 : Int32) (b0 : Int32) : (u_St_cleanSpace w a0 b0).2.2 = w.2.2 := rfl
set_option maxHeartbeats 4000000 in
set_option maxRecDepth 100000 in
theorem c_St_cleanSpace {d : Nat} (w : MW) (a0 : Int32) (b0 : Int32)  (hs : s_St_cleanSpace w a0 b0) : Tc (d + 0) 246 [.ref 7, .int a0, .int b0] w (fun v w1 => v = none ∧ w1 = u_St_cleanSpace w a0 b0) := by
  unfold s_St_cleanSpace at hs
  refine tm_go 9 (pc' := 14) (L' := [some (.ref 7), some (.int a0), some (.int b0)]) (S' := [.int (w.1 7 1), .int ((a0 * (6 : Int32)) + b0), .ref 23]) (w' := w) rfl ?_
  obtain ⟨b1, hs⟩ := hs
  refine tm_k (pc' := 15) (L' := [some (.ref 7), some (.int a0), some (.int b0)]) (S' := []) (w' := (sI w 23 (((a0 * (6 : Int32)) + b0).toInt.toNat) (w.1 7 1))) rfl b1 ?_
  exact tm_r rfl (⟨rfl, by unfold u_St_cleanSpace; rfl⟩)
def s_St_leavingCell (w : MW) (a0 : Int32) (b0 : Int32) : Prop := (((w.2.2 7 0) = some 8) ∧ ((0 ≤ a0.toInt ∧ a0.toInt < 24) ∧ (if b0.toInt = 0 then ((0 ≤ a0.toInt ∧ a0.toInt < 24) ∧ True) else (if (w.1 12 a0.toInt.toNat).toInt ≤ 0 then ((0 ≤ a0.toInt ∧ a0.toInt < 24) ∧ True) else ((0 ≤ a0.toInt ∧ a0.toInt < 24) ∧ ((¬ (w.1 12 a0.toInt.toNat).toInt = 0) ∧ True))))))
def g_St_leavingCell (w : MW) (a0 : Int32) (b0 : Int32) : Int32 := (if b0.toInt = 0 then (w.1 21 a0.toInt.toNat) else (if (w.1 12 a0.toInt.toNat).toInt ≤ 0 then (w.1 21 a0.toInt.toNat) else ((((w.1 21 a0.toInt.toNat) + (w.1 12 a0.toInt.toNat)) - (1 : Int32)) - (((w.1 21 a0.toInt.toNat) + (w.1 12 a0.toInt.toNat)) - (1 : Int32)) / (w.1 12 a0.toInt.toNat) * (w.1 12 a0.toInt.toNat))))
set_option maxHeartbeats 4000000 in
set_option maxRecDepth 100000 in
theorem c_St_leavingCell {d : Nat} (w : MW) (a0 : Int32) (b0 : Int32)  (hs : s_St_leavingCell w a0 b0) : Tc (d + 0) 251 [.ref 7, .int a0, .int b0] w (fun v w1 => v = some (.int (g_St_leavingCell w a0 b0)) ∧ w1 = w) := by
  unfold s_St_leavingCell at hs
  refine tm_go 1 (pc' := 1) (L' := [some (.ref 7), some (.int a0), some (.int b0), none]) (S' := [.ref 7]) (w' := w) rfl ?_
  obtain ⟨b1, hs⟩ := hs
  refine tm_g (pc' := 4) (k := 7) (j := 0) rfl b1 ?_
  refine tm_go 2 (pc' := 8) (L' := [some (.ref 7), some (.int a0), some (.int b0), none]) (S' := [.int a0, .ref 12]) (w' := w) rfl ?_
  obtain ⟨b2, hs⟩ := hs
  refine tm_k (pc' := 9) (L' := [some (.ref 7), some (.int a0), some (.int b0), none]) (S' := [.int (w.1 12 a0.toInt.toNat)]) (w' := w) rfl b2 ?_
  refine tm_go 2 (pc' := 11) (L' := [some (.ref 7), some (.int a0), some (.int b0), some (.int (w.1 12 a0.toInt.toNat))]) (S' := [.int b0]) (w' := w) rfl ?_
  refine tm_i (p1 := 33) (p2 := 14) rfl (fun h1 => ?_) (fun h1 => ?_)
  · rw [if_pos h1] at hs
    refine tm_go 3 (pc' := 38) (L' := [some (.ref 7), some (.int a0), some (.int b0), some (.int (w.1 12 a0.toInt.toNat))]) (S' := [.int a0, .ref 21]) (w' := w) rfl ?_
    obtain ⟨b3, hs⟩ := hs
    refine tm_k (pc' := 39) (L' := [some (.ref 7), some (.int a0), some (.int b0), some (.int (w.1 12 a0.toInt.toNat))]) (S' := [.int (w.1 21 a0.toInt.toNat)]) (w' := w) rfl b3 ?_
    exact tm_r rfl (⟨by unfold g_St_leavingCell; rw [if_pos h1], rfl⟩)
  · rw [if_neg h1] at hs
    refine tm_go 1 (pc' := 15) (L' := [some (.ref 7), some (.int a0), some (.int b0), some (.int (w.1 12 a0.toInt.toNat))]) (S' := [.int (w.1 12 a0.toInt.toNat)]) (w' := w) rfl ?_
    refine tm_i (p1 := 33) (p2 := 18) rfl (fun h2 => ?_) (fun h2 => ?_)
    · rw [if_pos h2] at hs
      refine tm_go 3 (pc' := 38) (L' := [some (.ref 7), some (.int a0), some (.int b0), some (.int (w.1 12 a0.toInt.toNat))]) (S' := [.int a0, .ref 21]) (w' := w) rfl ?_
      obtain ⟨b4, hs⟩ := hs
      refine tm_k (pc' := 39) (L' := [some (.ref 7), some (.int a0), some (.int b0), some (.int (w.1 12 a0.toInt.toNat))]) (S' := [.int (w.1 21 a0.toInt.toNat)]) (w' := w) rfl b4 ?_
      exact tm_r rfl (⟨by unfold g_St_leavingCell; rw [if_neg h1, if_pos h2], rfl⟩)
    · rw [if_neg h2] at hs
      refine tm_go 3 (pc' := 23) (L' := [some (.ref 7), some (.int a0), some (.int b0), some (.int (w.1 12 a0.toInt.toNat))]) (S' := [.int a0, .ref 21]) (w' := w) rfl ?_
      obtain ⟨b5, hs⟩ := hs
      refine tm_k (pc' := 24) (L' := [some (.ref 7), some (.int a0), some (.int b0), some (.int (w.1 12 a0.toInt.toNat))]) (S' := [.int (w.1 21 a0.toInt.toNat)]) (w' := w) rfl b5 ?_
      refine tm_go 5 (pc' := 29) (L' := [some (.ref 7), some (.int a0), some (.int b0), some (.int (w.1 12 a0.toInt.toNat))]) (S' := [.int (w.1 12 a0.toInt.toNat), .int (((w.1 21 a0.toInt.toNat) + (w.1 12 a0.toInt.toNat)) - (1 : Int32))]) (w' := w) rfl ?_
      obtain ⟨b6, hs⟩ := hs
      refine tm_k (pc' := 30) (L' := [some (.ref 7), some (.int a0), some (.int b0), some (.int (w.1 12 a0.toInt.toNat))]) (S' := [.int ((((w.1 21 a0.toInt.toNat) + (w.1 12 a0.toInt.toNat)) - (1 : Int32)) - (((w.1 21 a0.toInt.toNat) + (w.1 12 a0.toInt.toNat)) - (1 : Int32)) / (w.1 12 a0.toInt.toNat) * (w.1 12 a0.toInt.toNat))]) (w' := w) rfl b6 ?_
      refine tm_go 1 (pc' := 39) (L' := [some (.ref 7), some (.int a0), some (.int b0), some (.int (w.1 12 a0.toInt.toNat))]) (S' := [.int ((((w.1 21 a0.toInt.toNat) + (w.1 12 a0.toInt.toNat)) - (1 : Int32)) - (((w.1 21 a0.toInt.toNat) + (w.1 12 a0.toInt.toNat)) - (1 : Int32)) / (w.1 12 a0.toInt.toNat) * (w.1 12 a0.toInt.toNat))]) (w' := w) rfl ?_
      exact tm_r rfl (⟨by unfold g_St_leavingCell; rw [if_neg h1, if_neg h2], rfl⟩)
def s_St_isFull (w : MW) (a0 : Int32) (b0 : Int32) : Prop := ((0 ≤ ((a0 * (4 : Int32)) + (b0 >>> ((6 : Int32) &&& 31))).toInt ∧ ((a0 * (4 : Int32)) + (b0 >>> ((6 : Int32) &&& 31))).toInt < 96) ∧ (if (lg_cmp ((((w.2.1 20 (((a0 * (4 : Int32)) + (b0 >>> ((6 : Int32) &&& 31))).toInt.toNat)).toUInt64 >>> ((b0 &&& (63 : Int32)).toInt64.toUInt64 &&& Int64.toUInt64 63)).toInt64) &&& (1 : Int64)) 0).toInt = 0 then True else True))
def g_St_isFull (w : MW) (a0 : Int32) (b0 : Int32) : Int32 := (if (lg_cmp ((((w.2.1 20 (((a0 * (4 : Int32)) + (b0 >>> ((6 : Int32) &&& 31))).toInt.toNat)).toUInt64 >>> ((b0 &&& (63 : Int32)).toInt64.toUInt64 &&& Int64.toUInt64 63)).toInt64) &&& (1 : Int64)) 0).toInt = 0 then 0 else 1)
theorem z_St_isFull (w : MW) (a0 : Int32) (b0 : Int32) : (g_St_isFull w a0 b0).toInt = 0 ∨ (g_St_isFull w a0 b0).toInt = 1 := (ite_Z (by decide) (by decide))
set_option maxHeartbeats 4000000 in
set_option maxRecDepth 100000 in
theorem c_St_isFull {d : Nat} (w : MW) (a0 : Int32) (b0 : Int32)  (hs : s_St_isFull w a0 b0) : Tc (d + 0) 252 [.ref 7, .int a0, .int b0] w (fun v w1 => v = some (.int (g_St_isFull w a0 b0)) ∧ w1 = w) := by
  unfold s_St_isFull at hs
  refine tm_go 9 (pc' := 12) (L' := [some (.ref 7), some (.int a0), some (.int b0)]) (S' := [.int ((a0 * (4 : Int32)) + (b0 >>> ((6 : Int32) &&& 31))), .ref 20]) (w' := w) rfl ?_
  obtain ⟨b1, hs⟩ := hs
  refine tm_k (pc' := 13) (L' := [some (.ref 7), some (.int a0), some (.int b0)]) (S' := [.long (w.2.1 20 (((a0 * (4 : Int32)) + (b0 >>> ((6 : Int32) &&& 31))).toInt.toNat))]) (w' := w) rfl b1 ?_
  refine tm_go 8 (pc' := 22) (L' := [some (.ref 7), some (.int a0), some (.int b0)]) (S' := [.int (lg_cmp ((((w.2.1 20 (((a0 * (4 : Int32)) + (b0 >>> ((6 : Int32) &&& 31))).toInt.toNat)).toUInt64 >>> ((b0 &&& (63 : Int32)).toInt64.toUInt64 &&& Int64.toUInt64 63)).toInt64) &&& (1 : Int64)) 0)]) (w' := w) rfl ?_
  refine tm_i (p1 := 29) (p2 := 25) rfl (fun h1 => ?_) (fun h1 => ?_)
  · rw [if_pos h1] at hs
    refine tm_go 1 (pc' := 30) (L' := [some (.ref 7), some (.int a0), some (.int b0)]) (S' := [.int 0]) (w' := w) rfl ?_
    exact tm_r rfl (⟨by unfold g_St_isFull; rw [if_pos h1], rfl⟩)
  · rw [if_neg h1] at hs
    refine tm_go 2 (pc' := 30) (L' := [some (.ref 7), some (.int a0), some (.int b0)]) (S' := [.int 1]) (w' := w) rfl ?_
    exact tm_r rfl (⟨by unfold g_St_isFull; rw [if_neg h1], rfl⟩)
def s_St_wouldLeave (w : MW) (a0 : Int32) (b0 : Int32) : Prop := ((s_St_leavingCell w a0 b0) ∧ ((s_St_isFull w a0 (g_St_leavingCell w a0 b0)) ∧ True))
def g_St_wouldLeave (w : MW) (a0 : Int32) (b0 : Int32) : Int32 := (g_St_isFull w a0 (g_St_leavingCell w a0 b0))
theorem z_St_wouldLeave (w : MW) (a0 : Int32) (b0 : Int32) : (g_St_wouldLeave w a0 b0).toInt = 0 ∨ (g_St_wouldLeave w a0 b0).toInt = 1 := (z_St_isFull w a0 (g_St_leavingCell w a0 b0))
set_option maxHeartbeats 4000000 in
set_option maxRecDepth 100000 in
theorem c_St_wouldLeave {d : Nat} (w : MW) (a0 : Int32) (b0 : Int32)  (hs : s_St_wouldLeave w a0 b0) : Tc (d + 1) 253 [.ref 7, .int a0, .int b0] w (fun v w1 => v = some (.int (g_St_wouldLeave w a0 b0)) ∧ w1 = w) := by
  unfold s_St_wouldLeave at hs
  refine tm_go 5 (pc' := 5) (L' := [some (.ref 7), some (.int a0), some (.int b0)]) (S' := [.int b0, .int a0, .ref 7, .int a0, .ref 7]) (w' := w) rfl ?_
  obtain ⟨b1, hs⟩ := hs
  refine tm_c rfl (Nat.le_of_ble_eq_true rfl) (c_St_leavingCell (d := d + 0) w a0 b0  b1) (fun v w1 hq => ?_)
  obtain ⟨rfl, hw9⟩ := hq; rw [hw9]; clear hw9
  obtain ⟨b2, hs⟩ := hs
  refine tm_c rfl (Nat.le_of_ble_eq_true rfl) (c_St_isFull (d := d + 0) w a0 (g_St_leavingCell w a0 b0)  b2) (fun v w1 hq => ?_)
  obtain ⟨rfl, hw9⟩ := hq; rw [hw9]; clear hw9
  exact tm_rk rfl (by exact z_St_isFull w a0 (g_St_leavingCell w a0 b0)) (⟨by unfold g_St_wouldLeave; rfl, rfl⟩)
def g_Tp_hasRoom (w : MW)  : Int32 := (if ((4 : Int32) * (1005 : Int32)).toInt < ((w.1 1 1) + (20 : Int32)).toInt then 0 else 1)
theorem z_Tp_hasRoom (w : MW)  : (g_Tp_hasRoom w).toInt = 0 ∨ (g_Tp_hasRoom w).toInt = 1 := (ite_Z (by decide) (by decide))
set_option maxHeartbeats 4000000 in
set_option maxRecDepth 100000 in
theorem c_Tp_hasRoom {d : Nat} (w : MW)   : Tc (d + 0) 255 [.ref 1] w (fun v w1 => v = some (.int (g_Tp_hasRoom w)) ∧ w1 = w) := by
  refine tm_go 9 (pc' := 14) (L' := [some (.ref 1)]) (S' := [.int ((4 : Int32) * (1005 : Int32)), .int ((w.1 1 1) + (20 : Int32))]) (w' := w) rfl ?_
  refine tm_i (p1 := 21) (p2 := 17) rfl (fun h1 => ?_) (fun h1 => ?_)
  · refine tm_go 1 (pc' := 22) (L' := [some (.ref 1)]) (S' := [.int 0]) (w' := w) rfl ?_
    exact tm_r rfl (⟨by unfold g_Tp_hasRoom; rw [if_pos h1], rfl⟩)
  · refine tm_go 2 (pc' := 22) (L' := [some (.ref 1)]) (S' := [.int 1]) (w' := w) rfl ?_
    exact tm_r rfl (⟨by unfold g_Tp_hasRoom; rw [if_neg h1], rfl⟩)
