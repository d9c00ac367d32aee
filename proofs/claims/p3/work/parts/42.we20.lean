set_option maxHeartbeats 4000000 in
set_option maxRecDepth 100000 in
theorem tx_Mo_answer_22 {d : Nat} {y22_1 : Int64} {ys22_0 : Int32} {z3 : Option Value} {w : MW} {Q : Int32 → MW → Prop} (hs : q_Mo_answer_22 y22_1 ys22_0 w Q) : Tm (d + 512) 119 22 [some (.ref 127), some (.long y22_1), none, z3] [.int ys22_0] w (RZ Q) := by
  unfold q_Mo_answer_22 at hs
  refine tm_go 3 (pc' := 25) (L' := [some (.ref 127), some (.long y22_1), none, some (.int ys22_0)]) (S' := [.int (-1), .int ys22_0]) (w' := w) rfl ?_
  refine tm_i (p1 := 30) (p2 := 28) rfl (fun h2 => ?_) (fun h2 => ?_)
  · replace hs := hs.1 h2
    refine tm_go 4 (pc' := 36) (L' := [some (.ref 127), some (.long y22_1), none, some (.int ys22_0)]) (S' := [.int 1, .int ys22_0, .ref 211]) (w' := w) rfl ?_
    obtain ⟨b3, hs⟩ := hs
    refine tm_k (pc' := 37) (L' := [some (.ref 127), some (.long y22_1), none, some (.int ys22_0)]) (S' := []) (w' := (sI w 211 ys22_0.toInt.toNat (vp_nar .boolean (1 : Int32)))) rfl b3 ?_
    refine tm_go 10 (pc' := 57) (L' := [some (.ref 127), some (.long y22_1), none, some (.int ys22_0)]) (S' := [.int ys22_0, .ref 207, .ref 129, .ref 132, .ref 206]) (w' := (sI w 211 ys22_0.toInt.toNat (vp_nar .boolean (1 : Int32)))) rfl ?_
    obtain ⟨b4, hs⟩ := hs
    refine tm_k (pc' := 58) (L' := [some (.ref 127), some (.long y22_1), none, some (.int ys22_0)]) (S' := [.int (w.1 207 ys22_0.toInt.toNat), .ref 129, .ref 132, .ref 206]) (w' := (sI w 211 ys22_0.toInt.toNat (vp_nar .boolean (1 : Int32)))) rfl b4 ?_
    refine tm_c rfl (Nat.le_of_ble_eq_true rfl) (dm_Tx_node1 (d := d + 511) hs) (fun v w5 hq => ?_)
    obtain ⟨r5, rfl, hs⟩ := hq
    obtain ⟨b6, hs⟩ := hs
    refine tm_k (pc' := 62) (L' := [some (.ref 127), some (.long y22_1), none, some (.int ys22_0)]) (S' := [.long (w5.2.1 132 r5.toInt.toNat), .ref 206]) (w' := w5) rfl b6 ?_
    refine tm_go 2 (pc' := 64) (L' := [some (.ref 127), some (.long y22_1), none, some (.int ys22_0)]) (S' := [.long y22_1, .int (Int64.toInt32 (w5.2.1 132 r5.toInt.toNat)), .ref 206]) (w' := w5) rfl ?_
    obtain ⟨b7, hs⟩ := hs
    refine tm_k (pc' := 65) (L' := [some (.ref 127), some (.long y22_1), none, some (.int ys22_0)]) (S' := []) (w' := (sJ w5 206 ((Int64.toInt32 (w5.2.1 132 r5.toInt.toNat)).toInt.toNat) y22_1)) rfl b7 ?_
    refine tm_go 1 (pc' := 66) (L' := [some (.ref 127), some (.long y22_1), none, some (.int ys22_0)]) (S' := [.int 1]) (w' := (sJ w5 206 ((Int64.toInt32 (w5.2.1 132 r5.toInt.toNat)).toInt.toNat) y22_1)) rfl ?_
    exact tm_r rfl ⟨_, rfl, by decide, hs⟩
  · replace hs := hs.2 h2
    refine tm_go 1 (pc' := 29) (L' := [some (.ref 127), some (.long y22_1), none, some (.int ys22_0)]) (S' := [.int 0]) (w' := w) rfl ?_
    exact tm_r rfl ⟨_, rfl, by decide, hs⟩
set_option maxHeartbeats 4000000 in
set_option maxRecDepth 100000 in
theorem dm_Mo_answer {d : Nat} {w : MW} {a0 : Int64} {Q : Int32 → MW → Prop} (hs : p_Mo_answer w a0 Q) : Tc (d + 512) 119 [.ref 127, .long a0] w (RZ Q) := by
  unfold p_Mo_answer at hs
  refine tm_go 5 (pc' := 9) (L' := [some (.ref 127), some (.long a0), none, none]) (S' := [.int (w.1 127 59)]) (w' := (sI w 127 77 0)) rfl ?_
  refine tm_i (p1 := 21) (p2 := 12) rfl (fun h1 => ?_) (fun h1 => ?_)
  · replace hs := hs.1 h1
    refine tm_go 1 (pc' := 22) (L' := [some (.ref 127), some (.long a0), none, none]) (S' := [.int (-1)]) (w' := (sI w 127 77 0)) rfl ?_
    exact tx_Mo_answer_22 hs 
  · replace hs := hs.2 h1
    refine tm_go 3 (pc' := 15) (L' := [some (.ref 127), some (.long a0), none, none]) (S' := [.int 1, .int 0, .ref 127]) (w' := (sI w 127 77 0)) rfl ?_
    refine tm_c rfl (Nat.le_of_ble_eq_true rfl) (dm_Mo_stillAt (d := d + 0) hs) (fun v w8 hq => ?_)
    obtain ⟨r8, rfl, hs⟩ := hq
    refine tm_go 1 (pc' := 22) (L' := [some (.ref 127), some (.long a0), none, none]) (S' := [.int r8]) (w' := w8) rfl ?_
    exact tx_Mo_answer_22 hs 
set_option maxHeartbeats 4000000 in
set_option maxRecDepth 100000 in
theorem tx_Mo_hold_24 {d : Nat} {y24_1 : Int32}  {w : MW} {Q : Int32 → MW → Prop} (hs : q_Mo_hold_24 y24_1 w Q) : Tm (d + 3) 120 24 [some (.ref 127), some (.int y24_1)] [] w (RZ Q) := by
  unfold q_Mo_hold_24 at hs
  refine tm_go 2 (pc' := 26) (L' := [some (.ref 127), some (.int y24_1)]) (S' := [.int y24_1, .ref 127]) (w' := w) rfl ?_
  refine tm_i (p1 := 33) (p2 := 29) rfl (fun h3 => ?_) (fun h3 => ?_)
  · replace hs := hs.1 h3
    refine tm_go 3 (pc' := 38) (L' := [some (.ref 127), some (.int y24_1)]) (S' := [.int y24_1]) (w' := (sI w 127 59 0)) rfl ?_
    refine tm_i (p1 := 45) (p2 := 41) rfl (fun _ => ?_) (fun h => absurd h3 h)
    refine tm_go 1 (pc' := 46) (L' := [some (.ref 127), some (.int y24_1)]) (S' := [.int 1]) (w' := (sI w 127 59 0)) rfl ?_
    exact tm_r rfl ⟨_, rfl, by decide, hs⟩
  · replace hs := hs.2 h3
    refine tm_go 4 (pc' := 38) (L' := [some (.ref 127), some (.int y24_1)]) (S' := [.int y24_1]) (w' := (sI w 127 59 2)) rfl ?_
    refine tm_i (p1 := 45) (p2 := 41) rfl (fun h => absurd h h3) (fun _ => ?_)
    refine tm_go 1 (pc' := 42) (L' := [some (.ref 127), some (.int y24_1)]) (S' := [.ref 127]) (w' := (sI w 127 59 2)) rfl ?_
    refine tm_c rfl (Nat.le_of_ble_eq_true rfl) (dm_Mo_closeAll (d := d + 0) hs) (fun v w6 hq => ?_)
    obtain ⟨rfl, hs⟩ := hq
    refine tm_go 1 (pc' := 46) (L' := [some (.ref 127), some (.int y24_1)]) (S' := [.int 1]) (w' := w6) rfl ?_
    exact tm_r rfl ⟨_, rfl, by decide, hs⟩
set_option maxHeartbeats 4000000 in
set_option maxRecDepth 100000 in
theorem dm_Mo_hold {d : Nat} {w : MW} {a0 : Int32} {Q : Int32 → MW → Prop} (hs : p_Mo_hold w a0 Q) : Tc (d + 3) 120 [.ref 127, .int a0] w (RZ Q) := by
  unfold p_Mo_hold at hs
  refine tm_go 1 (pc' := 1) (L' := [some (.ref 127), some (.int a0)]) (S' := [.int a0]) (w' := w) rfl ?_
  refine tm_i (p1 := 14) (p2 := 4) rfl (fun h1 => ?_) (fun h1 => ?_)
  · replace hs := hs.1 h1
    refine tm_go 3 (pc' := 19) (L' := [some (.ref 127), some (.int a0)]) (S' := [.int 2, .int (w.1 127 59)]) (w' := w) rfl ?_
    refine tm_i (p1 := 24) (p2 := 22) rfl (fun h2 => ?_) (fun h2 => ?_)
    · replace hs := hs.1 h2
      exact tx_Mo_hold_24 hs 
    · replace hs := hs.2 h2
      refine tm_go 1 (pc' := 23) (L' := [some (.ref 127), some (.int a0)]) (S' := [.int 0]) (w' := w) rfl ?_
      exact tm_r rfl ⟨_, rfl, by decide, hs⟩
  · replace hs := hs.2 h1
    refine tm_go 2 (pc' := 8) (L' := [some (.ref 127), some (.int a0)]) (S' := [.int (w.1 127 59)]) (w' := w) rfl ?_
    refine tm_i (p1 := 24) (p2 := 11) rfl (fun h7 => ?_) (fun h7 => ?_)
    · replace hs := hs.1 h7
      exact tx_Mo_hold_24 hs 
    · replace hs := hs.2 h7
      refine tm_go 2 (pc' := 23) (L' := [some (.ref 127), some (.int a0)]) (S' := [.int 0]) (w' := w) rfl ?_
      exact tm_r rfl ⟨_, rfl, by decide, hs⟩
set_option maxHeartbeats 4000000 in
set_option maxRecDepth 100000 in
theorem dm_Mo_stop {d : Nat} {w : MW} {Q : Int32 → MW → Prop} (hs : p_Mo_stop w Q) : Tc (d + 3) 121 [.ref 127] w (RZ Q) := by
  unfold p_Mo_stop at hs
  refine tm_go 2 (pc' := 4) (L' := [some (.ref 127)]) (S' := [.int (w.1 127 59)]) (w' := w) rfl ?_
  refine tm_i (p1 := 17) (p2 := 7) rfl (fun h1 => ?_) (fun h1 => ?_)
  · replace hs := hs.1 h1
    refine tm_go 4 (pc' := 23) (L' := [some (.ref 127)]) (S' := [.ref 127]) (w' := (sI w 127 59 3)) rfl ?_
    refine tm_c rfl (Nat.le_of_ble_eq_true rfl) (dm_Mo_closeAll (d := d + 0) hs) (fun v w2 hq => ?_)
    obtain ⟨rfl, hs⟩ := hq
    refine tm_go 1 (pc' := 27) (L' := [some (.ref 127)]) (S' := [.int 1]) (w' := w2) rfl ?_
    exact tm_r rfl ⟨_, rfl, by decide, hs⟩
  · replace hs := hs.2 h1
    refine tm_go 3 (pc' := 12) (L' := [some (.ref 127)]) (S' := [.int 2, .int (w.1 127 59)]) (w' := w) rfl ?_
    refine tm_i (p1 := 17) (p2 := 15) rfl (fun h3 => ?_) (fun h3 => ?_)
    · replace hs := hs.1 h3
      refine tm_go 4 (pc' := 23) (L' := [some (.ref 127)]) (S' := [.ref 127]) (w' := (sI w 127 59 3)) rfl ?_
      refine tm_c rfl (Nat.le_of_ble_eq_true rfl) (dm_Mo_closeAll (d := d + 0) hs) (fun v w4 hq => ?_)
      obtain ⟨rfl, hs⟩ := hq
      refine tm_go 1 (pc' := 27) (L' := [some (.ref 127)]) (S' := [.int 1]) (w' := w4) rfl ?_
      exact tm_r rfl ⟨_, rfl, by decide, hs⟩
    · replace hs := hs.2 h3
      refine tm_go 1 (pc' := 16) (L' := [some (.ref 127)]) (S' := [.int 0]) (w' := w) rfl ?_
      exact tm_r rfl ⟨_, rfl, by decide, hs⟩
set_option maxHeartbeats 4000000 in
set_option maxRecDepth 100000 in
theorem dm_Mo_state {d : Nat} {w : MW} {Q : Int32 → MW → Prop} (hs : p_Mo_state w Q) : Tc (d + 0) 122 [.ref 127] w (RI Q) := by
  unfold p_Mo_state at hs
  refine tm_go 2 (pc' := 4) (L' := [some (.ref 127)]) (S' := [.int (w.1 127 59)]) (w' := w) rfl ?_
  exact tm_r rfl ⟨_, rfl, hs⟩
set_option maxHeartbeats 4000000 in
set_option maxRecDepth 100000 in
theorem tx_Mo_still_24 {d : Nat} {z1 : Option Value} {z2 : Option Value} {w : MW} {Q : Int32 → MW → Prop} (hs : q_Mo_still_24  w Q) : Tm (d + 512) 123 24 [some (.ref 127), z1, z2] [] w (RI Q) := by
  unfold q_Mo_still_24 at hs
  refine tm_go 3 (pc' := 27) (L' := [some (.ref 127), z1, z2]) (S' := [.int 0, .int 0, .ref 127]) (w' := w) rfl ?_
  refine tm_c rfl (Nat.le_of_ble_eq_true rfl) (dm_Mo_stillAt (d := d + 0) hs) (fun v w3 hq => ?_)
  obtain ⟨r3, rfl, hs⟩ := hq
  refine tm_go 4 (pc' := 37) (L' := [some (.ref 127), (ksl z1), some (.int r3)]) (S' := [.int (-1), .int r3]) (w' := w3) rfl ?_
  refine tm_i (p1 := 44) (p2 := 40) rfl (fun h4 => ?_) (fun h4 => ?_)
  · replace hs := hs.1 h4
    refine tm_go 3 (pc' := 49) (L' := [some (.ref 127), (ksl z1), some (.int r3)]) (S' := [.int r3, .ref 207]) (w' := w3) rfl ?_
    obtain ⟨b5, hs⟩ := hs
    refine tm_k (pc' := 50) (L' := [some (.ref 127), (ksl z1), some (.int r3)]) (S' := [.int (w3.1 207 r3.toInt.toNat)]) (w' := w3) rfl b5 ?_
    exact tm_r rfl ⟨_, rfl, hs⟩
  · replace hs := hs.2 h4
    refine tm_go 2 (pc' := 50) (L' := [some (.ref 127), (ksl z1), some (.int r3)]) (S' := [.int (-1)]) (w' := w3) rfl ?_
    exact tm_r rfl ⟨_, rfl, hs⟩
set_option maxHeartbeats 4000000 in
set_option maxRecDepth 100000 in
theorem dm_Mo_still {d : Nat} {w : MW} {a0 : Int32} {Q : Int32 → MW → Prop} (hs : p_Mo_still w a0 Q) : Tc (d + 512) 123 [.ref 127, .int a0] w (RI Q) := by
  unfold p_Mo_still at hs
  refine tm_go 4 (pc' := 6) (L' := [some (.ref 127), some (.int a0), none]) (S' := [.int a0]) (w' := (sI w 127 77 a0)) rfl ?_
  refine tm_i (p1 := 33) (p2 := 9) rfl (fun h1 => ?_) (fun h1 => ?_)
  · replace hs := hs.1 h1
    refine tm_go 7 (pc' := 50) (L' := [some (.ref 127), some (.int a0), some (.int (-1))]) (S' := [.int (-1)]) (w' := (sI w 127 77 a0)) rfl ?_
    exact tm_r rfl ⟨_, rfl, hs⟩
  · replace hs := hs.2 h1
    refine tm_go 2 (pc' := 13) (L' := [some (.ref 127), some (.int a0), none]) (S' := [.int (w.1 127 59)]) (w' := (sI w 127 77 a0)) rfl ?_
    refine tm_i (p1 := 24) (p2 := 16) rfl (fun h2 => ?_) (fun h2 => ?_)
    · replace hs := hs.1 h2
      exact tx_Mo_still_24 hs 
    · replace hs := hs.2 h2
      refine tm_go 3 (pc' := 21) (L' := [some (.ref 127), some (.int a0), none]) (S' := [.int 2, .int (w.1 127 59)]) (w' := (sI w 127 77 a0)) rfl ?_
      refine tm_i (p1 := 33) (p2 := 24) rfl (fun h6 => ?_) (fun h6 => ?_)
      · replace hs := hs.1 h6
        refine tm_go 7 (pc' := 50) (L' := [some (.ref 127), some (.int a0), some (.int (-1))]) (S' := [.int (-1)]) (w' := (sI w 127 77 a0)) rfl ?_
        exact tm_r rfl ⟨_, rfl, hs⟩
      · replace hs := hs.2 h6
        exact tx_Mo_still_24 hs 
set_option maxHeartbeats 4000000 in
set_option maxRecDepth 100000 in
theorem dm_Mo_alarm {d : Nat} {w : MW} {a0 : Int32} {b0 : Int32} {Q : Int32 → MW → Prop} (hs : p_Mo_alarm w a0 b0 Q) : Tc (d + 0) 124 [.ref 127, .int a0, .int b0] w (RI Q) := by
  unfold p_Mo_alarm at hs
  refine tm_go 1 (pc' := 1) (L' := [some (.ref 127), some (.int a0), some (.int b0)]) (S' := [.int a0]) (w' := w) rfl ?_
  refine tm_i (p1 := 12) (p2 := 4) rfl (fun h1 => ?_) (fun h1 => ?_)
  · replace hs := hs.1 h1
    refine tm_go 1 (pc' := 13) (L' := [some (.ref 127), some (.int a0), some (.int b0)]) (S' := [.int (-1)]) (w' := w) rfl ?_
    exact tm_r rfl ⟨_, rfl, hs⟩
  · replace hs := hs.2 h1
    refine tm_go 3 (pc' := 9) (L' := [some (.ref 127), some (.int a0), some (.int b0)]) (S' := [.int (w.1 127 79), .int a0]) (w' := w) rfl ?_
    refine tm_i (p1 := 14) (p2 := 12) rfl (fun h2 => ?_) (fun h2 => ?_)
    · replace hs := hs.1 h2
      refine tm_go 1 (pc' := 15) (L' := [some (.ref 127), some (.int a0), some (.int b0)]) (S' := [.int b0]) (w' := w) rfl ?_
      refine tm_i (p1 := 27) (p2 := 18) rfl (fun h3 => ?_) (fun h3 => ?_)
      · replace hs := hs.1 h3
        refine tm_go 2 (pc' := 29) (L' := [some (.ref 127), some (.int a0), some (.int b0)]) (S' := [.int 1, .int b0]) (w' := w) rfl ?_
        refine tm_i (p1 := 41) (p2 := 32) rfl (fun h4 => ?_) (fun h4 => ?_)
        · replace hs := hs.1 h4
          refine tm_go 2 (pc' := 43) (L' := [some (.ref 127), some (.int a0), some (.int b0)]) (S' := [.int 2, .int b0]) (w' := w) rfl ?_
          refine tm_i (p1 := 55) (p2 := 46) rfl (fun h5 => ?_) (fun h5 => ?_)
          · replace hs := hs.1 h5
            refine tm_go 1 (pc' := 56) (L' := [some (.ref 127), some (.int a0), some (.int b0)]) (S' := [.int (-1)]) (w' := w) rfl ?_
            exact tm_r rfl ⟨_, rfl, hs⟩
          · replace hs := hs.2 h5
            refine tm_go 3 (pc' := 51) (L' := [some (.ref 127), some (.int a0), some (.int b0)]) (S' := [.int a0, .ref 220]) (w' := w) rfl ?_
            obtain ⟨b6, hs⟩ := hs
            refine tm_k (pc' := 52) (L' := [some (.ref 127), some (.int a0), some (.int b0)]) (S' := [.int (w.1 220 a0.toInt.toNat)]) (w' := w) rfl b6 ?_
            refine tm_go 1 (pc' := 56) (L' := [some (.ref 127), some (.int a0), some (.int b0)]) (S' := [.int (w.1 220 a0.toInt.toNat)]) (w' := w) rfl ?_
            exact tm_r rfl ⟨_, rfl, hs⟩
        · replace hs := hs.2 h4
          refine tm_go 3 (pc' := 37) (L' := [some (.ref 127), some (.int a0), some (.int b0)]) (S' := [.int a0, .ref 219]) (w' := w) rfl ?_
          obtain ⟨b7, hs⟩ := hs
          refine tm_k (pc' := 38) (L' := [some (.ref 127), some (.int a0), some (.int b0)]) (S' := [.int (w.1 219 a0.toInt.toNat)]) (w' := w) rfl b7 ?_
          refine tm_go 1 (pc' := 56) (L' := [some (.ref 127), some (.int a0), some (.int b0)]) (S' := [.int (w.1 219 a0.toInt.toNat)]) (w' := w) rfl ?_
          exact tm_r rfl ⟨_, rfl, hs⟩
      · replace hs := hs.2 h3
        refine tm_go 3 (pc' := 23) (L' := [some (.ref 127), some (.int a0), some (.int b0)]) (S' := [.int a0, .ref 218]) (w' := w) rfl ?_
        obtain ⟨b8, hs⟩ := hs
        refine tm_k (pc' := 24) (L' := [some (.ref 127), some (.int a0), some (.int b0)]) (S' := [.int (w.1 218 a0.toInt.toNat)]) (w' := w) rfl b8 ?_
        refine tm_go 1 (pc' := 56) (L' := [some (.ref 127), some (.int a0), some (.int b0)]) (S' := [.int (w.1 218 a0.toInt.toNat)]) (w' := w) rfl ?_
        exact tm_r rfl ⟨_, rfl, hs⟩
    · replace hs := hs.2 h2
      refine tm_go 1 (pc' := 13) (L' := [some (.ref 127), some (.int a0), some (.int b0)]) (S' := [.int (-1)]) (w' := w) rfl ?_
      exact tm_r rfl ⟨_, rfl, hs⟩
set_option maxHeartbeats 4000000 in
set_option maxRecDepth 100000 in
theorem dm_Mo_second {d : Nat} {w : MW} {Q : Int32 → MW → Prop} (hs : p_Mo_second w Q) : Tc (d + 0) 125 [.ref 127] w (RI Q) := by
  unfold p_Mo_second at hs
  refine tm_go 2 (pc' := 4) (L' := [some (.ref 127)]) (S' := [.int (w.1 127 78)]) (w' := w) rfl ?_
  exact tm_r rfl ⟨_, rfl, hs⟩
