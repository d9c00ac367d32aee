def s_Bh_feed (w : MW) (a0 : Int32) (b0 : Int32) (c0 : Int32) (e0 : Int32) (f0 : Int32) : Prop := (if ¬ (g_Tp_hasRoom w).toInt = 0 then ((s_Tp_put w a0) ∧ ((s_Tp_put (u_Tp_put w a0) b0) ∧ ((s_Tp_put (u_Tp_put (u_Tp_put w a0) b0) c0) ∧ ((s_Tp_put (u_Tp_put (u_Tp_put (u_Tp_put w a0) b0) c0) e0) ∧ ((s_Tp_put (u_Tp_put (u_Tp_put (u_Tp_put (u_Tp_put w a0) b0) c0) e0) f0) ∧ True))))) else True)
def g_Bh_feed (w : MW) (a0 : Int32) (b0 : Int32) (c0 : Int32) (e0 : Int32) (f0 : Int32) : Int32 := (if ¬ (g_Tp_hasRoom w).toInt = 0 then ((u_Tp_put (u_Tp_put (u_Tp_put (u_Tp_put (u_Tp_put w a0) b0) c0) e0) f0).1 1 1) else (-2))
def u_Bh_feed (w : MW) (a0 : Int32) (b0 : Int32) (c0 : Int32) (e0 : Int32) (f0 : Int32) : MW := (if ¬ (g_Tp_hasRoom w).toInt = 0 then (u_Tp_put (u_Tp_put (u_Tp_put (u_Tp_put (u_Tp_put w a0) b0) c0) e0) f0) else w)
theorem ur_Bh_feed (w : MW) (a0 : Int32) (b0 : Int32) (c0 : Int32) (e0 : Int32) (f0 : Int32) : (u_Bh_feed w a0 b0 c0 e0 f0).2.2 = w.2.2 := (ite_R (by simp only [sI_R, sJ_R, ur_Tp_put]) rfl)
set_option maxHeartbeats 4000000 in
set_option maxRecDepth 100000 in
theorem c_Bh_feed {d : Nat} (w : MW) (a0 : Int32) (b0 : Int32) (c0 : Int32) (e0 : Int32) (f0 : Int32)  (hs : s_Bh_feed w a0 b0 c0 e0 f0) : Tc (d + 1) 0 [.ref 0, .int a0, .int b0, .int c0, .int e0, .int f0] w (fun v w1 => v = some (.int (g_Bh_feed w a0 b0 c0 e0 f0)) ∧ w1 = u_Bh_feed w a0 b0 c0 e0 f0) := by
  unfold s_Bh_feed at hs
  refine tm_go 2 (pc' := 4) (L' := [some (.ref 0), some (.int a0), some (.int b0), some (.int c0), some (.int e0), some (.int f0)]) (S' := [.ref 1]) (w' := w) rfl ?_
  refine tm_c rfl (Nat.le_of_ble_eq_true rfl) (c_Tp_hasRoom (d := d + 0) w  ) (fun v w1 hq => ?_)
  obtain ⟨rfl, hw9⟩ := hq; rw [hw9]; clear hw9
  refine tm_i (p1 := 13) (p2 := 10) rfl (fun h1 => ?_) (fun h1 => ?_)
  · rw [if_pos h1] at hs
    refine tm_go 3 (pc' := 18) (L' := [some (.ref 0), some (.int a0), some (.int b0), some (.int c0), some (.int e0), some (.int f0)]) (S' := [.int a0, .ref 1]) (w' := w) rfl ?_
    obtain ⟨b1, hs⟩ := hs
    refine tm_c rfl (Nat.le_of_ble_eq_true rfl) (c_Tp_put (d := d + 0) w a0  b1) (fun v w_1 hq => ?_)
    obtain ⟨rfl, ew_1⟩ := hq
    try rw [← ew_1] at hs
    refine tm_go 3 (pc' := 26) (L' := [some (.ref 0), some (.int a0), some (.int b0), some (.int c0), some (.int e0), some (.int f0)]) (S' := [.int b0, .ref 1]) (w' := w_1) rfl ?_
    obtain ⟨b2, hs⟩ := hs
    refine tm_c rfl (Nat.le_of_ble_eq_true rfl) (c_Tp_put (d := d + 0) w_1 b0  b2) (fun v w_2 hq => ?_)
    obtain ⟨rfl, ew_2⟩ := hq
    try rw [← ew_2] at hs
    refine tm_go 3 (pc' := 34) (L' := [some (.ref 0), some (.int a0), some (.int b0), some (.int c0), some (.int e0), some (.int f0)]) (S' := [.int c0, .ref 1]) (w' := w_2) rfl ?_
    obtain ⟨b3, hs⟩ := hs
    refine tm_c rfl (Nat.le_of_ble_eq_true rfl) (c_Tp_put (d := d + 0) w_2 c0  b3) (fun v w_3 hq => ?_)
    obtain ⟨rfl, ew_3⟩ := hq
    try rw [← ew_3] at hs
    refine tm_go 3 (pc' := 43) (L' := [some (.ref 0), some (.int a0), some (.int b0), some (.int c0), some (.int e0), some (.int f0)]) (S' := [.int e0, .ref 1]) (w' := w_3) rfl ?_
    obtain ⟨b4, hs⟩ := hs
    refine tm_c rfl (Nat.le_of_ble_eq_true rfl) (c_Tp_put (d := d + 0) w_3 e0  b4) (fun v w_4 hq => ?_)
    obtain ⟨rfl, ew_4⟩ := hq
    try rw [← ew_4] at hs
    refine tm_go 3 (pc' := 52) (L' := [some (.ref 0), some (.int a0), some (.int b0), some (.int c0), some (.int e0), some (.int f0)]) (S' := [.int f0, .ref 1]) (w' := w_4) rfl ?_
    obtain ⟨b5, hs⟩ := hs
    refine tm_c rfl (Nat.le_of_ble_eq_true rfl) (c_Tp_put (d := d + 0) w_4 f0  b5) (fun v w_5 hq => ?_)
    obtain ⟨rfl, ew_5⟩ := hq
    try rw [← ew_5] at hs
    refine tm_go 3 (pc' := 62) (L' := [some (.ref 0), some (.int a0), some (.int b0), some (.int c0), some (.int e0), some (.int f0)]) (S' := [.int (w_5.1 1 1)]) (w' := w_5) rfl ?_
    exact tm_r rfl (⟨by unfold g_Bh_feed; subst ew_5; subst ew_4; subst ew_3; subst ew_2; subst ew_1; rw [if_pos h1], by unfold u_Bh_feed; subst ew_5; subst ew_4; subst ew_3; subst ew_2; subst ew_1; rw [if_pos h1]⟩)
  · rw [if_neg h1] at hs
    refine tm_go 1 (pc' := 12) (L' := [some (.ref 0), some (.int a0), some (.int b0), some (.int c0), some (.int e0), some (.int f0)]) (S' := [.int (-2)]) (w' := w) rfl ?_
    exact tm_r rfl (⟨by unfold g_Bh_feed; rw [if_neg h1], by unfold u_Bh_feed; rw [if_neg h1]⟩)
