set_option maxHeartbeats 4000000 in
set_option maxRecDepth 100000 in
theorem dm_Rd_demand {d : Nat} {w : MW} {a0 : Int32} {b0 : Int32} {Q : MW → Prop} (hs : p_Rd_demand w a0 b0 Q) : Tc (d + 1) 175 [.ref 87, .int a0, .int b0] w (RV Q) := by
  unfold p_Rd_demand at hs
  refine tm_go 2 (pc' := 2) (L' := [some (.ref 87), some (.int a0), some (.int b0)]) (S' := [.int b0, .int a0]) (w' := w) rfl ?_
  refine tm_i (p1 := 9) (p2 := 5) rfl (fun h1 => ?_) (fun h1 => ?_)
  · replace hs := hs.1 h1
    exact tm_r rfl ⟨rfl, hs⟩
  · replace hs := hs.2 h1
    refine tm_go 1 (pc' := 6) (L' := [some (.ref 87), some (.int a0), some (.int b0)]) (S' := [.ref 87]) (w' := w) rfl ?_
    refine tm_c rfl (Nat.le_of_ble_eq_true rfl) (dm_Rd_fail (d := d + 0) hs) (fun v w2 hq => ?_)
    obtain ⟨rfl, hs⟩ := hq
    exact tm_r rfl ⟨rfl, hs⟩
set_option maxHeartbeats 4000000 in
set_option maxRecDepth 100000 in
theorem dm_Rd_giveRange {d : Nat} {w : MW} {a0 : Int32} {b0 : Int32} {c0 : Int32} {Q : Int32 → MW → Prop} (hs : p_Rd_giveRange w a0 b0 c0 Q) : Tc (d + 0) 176 [.ref 87, .int a0, .int b0, .int c0] w (RI Q) := by
  unfold p_Rd_giveRange at hs
  refine tm_go 1 (pc' := 1) (L' := [some (.ref 87), some (.int a0), some (.int b0), some (.int c0)]) (S' := [.ref 87]) (w' := w) rfl ?_
  obtain ⟨b1, hs⟩ := hs
  refine tm_g (pc' := 4) (k := 87) (j := 1) rfl b1 ?_
  refine tm_go 3 (pc' := 9) (L' := [some (.ref 87), some (.int a0), some (.int b0), some (.int c0)]) (S' := [.int b0, .int a0, .ref 111]) (w' := w) rfl ?_
  obtain ⟨b2, hs⟩ := hs
  refine tm_k (pc' := 10) (L' := [some (.ref 87), some (.int a0), some (.int b0), some (.int c0)]) (S' := []) (w' := (sI w 111 a0.toInt.toNat b0)) rfl b2 ?_
  refine tm_go 1 (pc' := 11) (L' := [some (.ref 87), some (.int a0), some (.int b0), some (.int c0)]) (S' := [.ref 87]) (w' := (sI w 111 a0.toInt.toNat b0)) rfl ?_
  obtain ⟨b3, hs⟩ := hs
  refine tm_g (pc' := 14) (k := 87) (j := 1) rfl b3 ?_
  refine tm_go 3 (pc' := 19) (L' := [some (.ref 87), some (.int a0), some (.int b0), some (.int c0)]) (S' := [.int c0, .int a0, .ref 112]) (w' := (sI w 111 a0.toInt.toNat b0)) rfl ?_
  obtain ⟨b4, hs⟩ := hs
  refine tm_k (pc' := 20) (L' := [some (.ref 87), some (.int a0), some (.int b0), some (.int c0)]) (S' := []) (w' := (sI (sI w 111 a0.toInt.toNat b0) 112 a0.toInt.toNat c0)) rfl b4 ?_
  refine tm_go 1 (pc' := 21) (L' := [some (.ref 87), some (.int a0), some (.int b0), some (.int c0)]) (S' := [.int a0]) (w' := (sI (sI w 111 a0.toInt.toNat b0) 112 a0.toInt.toNat c0)) rfl ?_
  exact tm_r rfl ⟨_, rfl, hs⟩
set_option maxHeartbeats 4000000 in
set_option maxRecDepth 100000 in
theorem tx_Rd_join_94 {d : Nat} {y94_1 : Int32} {y94_2 : Int32} {y94_5 : Int32} {y94_6 : Int32} {z3 : Option Value} {z4 : Option Value} {w : MW} {Q : Int32 → MW → Prop} (hs : q_Rd_join_94 y94_1 y94_2 y94_5 y94_6 w Q) : Tm (d + 2) 183 94 [some (.ref 87), some (.int y94_1), some (.int y94_2), z3, z4, some (.int y94_5), some (.int y94_6)] [] w (RI Q) := by
  unfold q_Rd_join_94 at hs
  refine tm_go 1 (pc' := 96) (L' := [some (.ref 87), some (.int y94_1), some (.int y94_2), z3, z4, some (.int y94_5), some (.int y94_6)]) (S' := [.int y94_5]) (w' := w) rfl ?_
  refine tm_i (p1 := 106) (p2 := 99) rfl (fun h5 => ?_) (fun h5 => ?_)
  · replace hs := hs.1 h5
    refine tm_go 3 (pc' := 109) (L' := [some (.ref 87), some (.int y94_1), some (.int y94_2), z3, z4, some (.int y94_5), some (.int y94_6)]) (S' := [.int 0, .int y94_1, .ref 87]) (w' := w) rfl ?_
    refine tm_c rfl (Nat.le_of_ble_eq_true rfl) (dm_Rd_makeNode (d := d + 0) hs) (fun v w6 hq => ?_)
    obtain ⟨r6, rfl, hs⟩ := hq
    refine tm_go 2 (pc' := 115) (L' := [some (.ref 87), some (.int y94_1), some (.int y94_2), z3, z4, some (.int y94_5), some (.int y94_6)]) (S' := [.int y94_6]) (w' := w6) rfl ?_
    exact tm_r rfl ⟨_, rfl, hs⟩
  · replace hs := hs.2 h5
    refine tm_go 4 (pc' := 105) (L' := [some (.ref 87), some (.int y94_1), some (.int y94_2), z3, z4, some (.int y94_5), some (.int y94_6)]) (S' := [.int 0]) (w' := (sI w 87 9 y94_2)) rfl ?_
    exact tm_r rfl ⟨_, rfl, hs⟩
set_option maxHeartbeats 4000000 in
set_option maxRecDepth 100000 in
theorem tx_Rd_join_20 {d : Nat} {y20_1 : Int32} {y20_2 : Int32} {y20_3 : Int32} {y20_4 : Int32} {ys20_0 : Int32} {z5 : Option Value} {z6 : Option Value} {w : MW} {Q : Int32 → MW → Prop} (hs : q_Rd_join_20 y20_1 y20_2 y20_3 y20_4 ys20_0 w Q) : Tm (d + 2) 183 20 [some (.ref 87), some (.int y20_1), some (.int y20_2), some (.int y20_3), some (.int y20_4), z5, z6] [.int ys20_0] w (RI Q) := by
  unfold q_Rd_join_20 at hs
  refine tm_go 5 (pc' := 28) (L' := [some (.ref 87), some (.int y20_1), some (.int y20_2), some (.int y20_3), some (.int y20_4), some (.int ys20_0), some (.int y20_3)]) (S' := [.int 42, .int y20_1]) (w' := w) rfl ?_
  refine tm_i (p1 := 58) (p2 := 31) rfl (fun h3 => ?_) (fun h3 => ?_)
  · replace hs := hs.1 h3
    refine tm_go 2 (pc' := 61) (L' := [some (.ref 87), some (.int y20_1), some (.int y20_2), some (.int y20_3), some (.int y20_4), some (.int ys20_0), some (.int y20_3)]) (S' := [.int 47, .int y20_1]) (w' := w) rfl ?_
    refine tm_i (p1 := 94) (p2 := 64) rfl (fun h4 => ?_) (fun h4 => ?_)
    · replace hs := hs.1 h4
      exact tx_Rd_join_94 hs 
    · replace hs := hs.2 h4
      refine tm_go 2 (pc' := 67) (L' := [some (.ref 87), some (.int y20_1), some (.int y20_2), some (.int y20_3), some (.int y20_4), some (.int ys20_0), some (.int y20_3)]) (S' := [.int y20_4, .int y20_3]) (w' := w) rfl ?_
      refine tm_i (p1 := 75) (p2 := 70) rfl (fun h7 => ?_) (fun h7 => ?_)
      · replace hs := hs.1 h7
        refine tm_go 4 (pc' := 84) (L' := [some (.ref 87), some (.int y20_1), some (.int y20_2), some (.int y20_3), some (.int y20_4), some (.int 1), some (.int y20_3)]) (S' := [.int y20_4]) (w' := w) rfl ?_
        refine tm_i (p1 := 91) (p2 := 87) rfl (fun h8 => ?_) (fun h8 => ?_)
        · replace hs := hs.1 h8
          refine tm_go 2 (pc' := 94) (L' := [some (.ref 87), some (.int y20_1), some (.int y20_2), some (.int y20_3), some (.int y20_4), some (.int 1), some (.int 0)]) (S' := []) (w' := w) rfl ?_
          exact tx_Rd_join_94 hs 
        · replace hs := hs.2 h8
          refine tm_go 3 (pc' := 94) (L' := [some (.ref 87), some (.int y20_1), some (.int y20_2), some (.int y20_3), some (.int y20_4), some (.int 1), some (.int y20_3)]) (S' := []) (w' := w) rfl ?_
          exact tx_Rd_join_94 hs 
      · replace hs := hs.2 h7
        refine tm_go 1 (pc' := 72) (L' := [some (.ref 87), some (.int y20_1), some (.int y20_2), some (.int y20_3), some (.int y20_4), some (.int ys20_0), some (.int y20_3)]) (S' := [.int y20_4]) (w' := w) rfl ?_
        refine tm_i (p1 := 79) (p2 := 75) rfl (fun h9 => ?_) (fun h9 => ?_)
        · replace hs := hs.1 h9
          refine tm_go 3 (pc' := 84) (L' := [some (.ref 87), some (.int y20_1), some (.int y20_2), some (.int y20_3), some (.int y20_4), some (.int 0), some (.int y20_3)]) (S' := [.int y20_4]) (w' := w) rfl ?_
          refine tm_i (p1 := 91) (p2 := 87) rfl (fun _ => ?_) (fun h => absurd h9 h)
          refine tm_go 2 (pc' := 94) (L' := [some (.ref 87), some (.int y20_1), some (.int y20_2), some (.int y20_3), some (.int y20_4), some (.int 0), some (.int 0)]) (S' := []) (w' := w) rfl ?_
          exact tx_Rd_join_94 hs 
        · replace hs := hs.2 h9
          refine tm_go 4 (pc' := 84) (L' := [some (.ref 87), some (.int y20_1), some (.int y20_2), some (.int y20_3), some (.int y20_4), some (.int 1), some (.int y20_3)]) (S' := [.int y20_4]) (w' := w) rfl ?_
          refine tm_i (p1 := 91) (p2 := 87) rfl (fun h => absurd h h9) (fun _ => ?_)
          refine tm_go 3 (pc' := 94) (L' := [some (.ref 87), some (.int y20_1), some (.int y20_2), some (.int y20_3), some (.int y20_4), some (.int 1), some (.int y20_3)]) (S' := []) (w' := w) rfl ?_
          exact tx_Rd_join_94 hs 
  · replace hs := hs.2 h3
    refine tm_go 1 (pc' := 32) (L' := [some (.ref 87), some (.int y20_1), some (.int y20_2), some (.int y20_3), some (.int y20_4), some (.int ys20_0), some (.int y20_3)]) (S' := [.int y20_3]) (w' := w) rfl ?_
    refine tm_i (p1 := 40) (p2 := 35) rfl (fun h12 => ?_) (fun h12 => ?_)
    · replace hs := hs.1 h12
      refine tm_go 5 (pc' := 50) (L' := [some (.ref 87), some (.int y20_1), some (.int y20_2), some (.int y20_3), some (.int y20_4), some (.int 1), some (.int y20_3)]) (S' := [.int y20_4, .int y20_3]) (w' := w) rfl ?_
      refine tm_c rfl (Nat.le_of_ble_eq_true rfl) (dm_Ma_max (d := d + 1) hs) (fun v w13 hq => ?_)
      obtain ⟨r13, rfl, hs⟩ := hq
      refine tm_go 2 (pc' := 94) (L' := [some (.ref 87), some (.int y20_1), some (.int y20_2), some (.int y20_3), some (.int y20_4), some (.int 1), some (.int r13)]) (S' := []) (w' := w13) rfl ?_
      exact tx_Rd_join_94 hs 
    · replace hs := hs.2 h12
      refine tm_go 1 (pc' := 37) (L' := [some (.ref 87), some (.int y20_1), some (.int y20_2), some (.int y20_3), some (.int y20_4), some (.int ys20_0), some (.int y20_3)]) (S' := [.int y20_4]) (w' := w) rfl ?_
      refine tm_i (p1 := 44) (p2 := 40) rfl (fun h14 => ?_) (fun h14 => ?_)
      · replace hs := hs.1 h14
        refine tm_go 4 (pc' := 50) (L' := [some (.ref 87), some (.int y20_1), some (.int y20_2), some (.int y20_3), some (.int y20_4), some (.int 0), some (.int y20_3)]) (S' := [.int y20_4, .int y20_3]) (w' := w) rfl ?_
        refine tm_c rfl (Nat.le_of_ble_eq_true rfl) (dm_Ma_max (d := d + 1) hs) (fun v w15 hq => ?_)
        obtain ⟨r15, rfl, hs⟩ := hq
        refine tm_go 2 (pc' := 94) (L' := [some (.ref 87), some (.int y20_1), some (.int y20_2), some (.int y20_3), some (.int y20_4), some (.int 0), some (.int r15)]) (S' := []) (w' := w15) rfl ?_
        exact tx_Rd_join_94 hs 
      · replace hs := hs.2 h14
        refine tm_go 5 (pc' := 50) (L' := [some (.ref 87), some (.int y20_1), some (.int y20_2), some (.int y20_3), some (.int y20_4), some (.int 1), some (.int y20_3)]) (S' := [.int y20_4, .int y20_3]) (w' := w) rfl ?_
        refine tm_c rfl (Nat.le_of_ble_eq_true rfl) (dm_Ma_max (d := d + 1) hs) (fun v w16 hq => ?_)
        obtain ⟨r16, rfl, hs⟩ := hq
        refine tm_go 2 (pc' := 94) (L' := [some (.ref 87), some (.int y20_1), some (.int y20_2), some (.int y20_3), some (.int y20_4), some (.int 1), some (.int r16)]) (S' := []) (w' := w16) rfl ?_
        exact tx_Rd_join_94 hs 
set_option maxHeartbeats 4000000 in
set_option maxRecDepth 100000 in
theorem dm_Rd_join {d : Nat} {w : MW} {a0 : Int32} {b0 : Int32} {c0 : Int32} {e0 : Int32} {Q : Int32 → MW → Prop} (hs : p_Rd_join w a0 b0 c0 e0 Q) : Tc (d + 2) 183 [.ref 87, .int a0, .int b0, .int c0, .int e0] w (RI Q) := by
  unfold p_Rd_join at hs
  refine tm_go 2 (pc' := 4) (L' := [some (.ref 87), some (.int a0), some (.int b0), some (.int c0), some (.int e0), none, none]) (S' := [.int (w.1 87 9)]) (w' := w) rfl ?_
  refine tm_i (p1 := 9) (p2 := 7) rfl (fun h1 => ?_) (fun h1 => ?_)
  · replace hs := hs.1 h1
    refine tm_go 2 (pc' := 12) (L' := [some (.ref 87), some (.int a0), some (.int b0), some (.int c0), some (.int e0), none, none]) (S' := [.int e0, .int c0]) (w' := w) rfl ?_
    refine tm_i (p1 := 19) (p2 := 15) rfl (fun h2 => ?_) (fun h2 => ?_)
    · replace hs := hs.1 h2
      refine tm_go 1 (pc' := 20) (L' := [some (.ref 87), some (.int a0), some (.int b0), some (.int c0), some (.int e0), none, none]) (S' := [.int 0]) (w' := w) rfl ?_
      exact tx_Rd_join_20 hs 
    · replace hs := hs.2 h2
      refine tm_go 2 (pc' := 20) (L' := [some (.ref 87), some (.int a0), some (.int b0), some (.int c0), some (.int e0), none, none]) (S' := [.int 1]) (w' := w) rfl ?_
      exact tx_Rd_join_20 hs 
  · replace hs := hs.2 h1
    refine tm_go 1 (pc' := 8) (L' := [some (.ref 87), some (.int a0), some (.int b0), some (.int c0), some (.int e0), none, none]) (S' := [.int 0]) (w' := w) rfl ?_
    exact tm_r rfl ⟨_, rfl, hs⟩
set_option maxHeartbeats 4000000 in
set_option maxRecDepth 100000 in
theorem dm_Rd_levelOf {d : Nat} {w : MW} {a0 : Int32} {Q : Int32 → MW → Prop} (hs : p_Rd_levelOf w a0 Q) : Tc (d + 0) 182 [.int a0] w (RI Q) := by
  unfold p_Rd_levelOf at hs
  refine tm_go 1 (pc' := 1) (L' := [some (.int a0)]) (S' := [.int a0]) (w' := w) rfl ?_
  by_cases h1 : a0.toInt = 42
  · replace hs := hs.1 h1
    refine tm_tab (dflt := 106) (lo := 42) (ts := [104, 102, 106, 102, 106, 104, 106, 106, 106, 106, 106, 106, 106, 106, 106, 106, 106, 106, 100, 100, 100]) rfl (by rw [h1]; decide) (t := 104) (by rw [h1]; rfl) ?_
    refine tm_go 1 (pc' := 105) (L' := [some (.int a0)]) (S' := [.int 2]) (w' := w) rfl ?_
    exact tm_r rfl ⟨_, rfl, hs⟩
  · replace hs := hs.2 h1
    by_cases h2 : a0.toInt = 43
    · replace hs := hs.1 h2
      refine tm_tab (dflt := 106) (lo := 42) (ts := [104, 102, 106, 102, 106, 104, 106, 106, 106, 106, 106, 106, 106, 106, 106, 106, 106, 106, 100, 100, 100]) rfl (by rw [h2]; decide) (t := 102) (by rw [h2]; rfl) ?_
      refine tm_go 1 (pc' := 103) (L' := [some (.int a0)]) (S' := [.int 1]) (w' := w) rfl ?_
      exact tm_r rfl ⟨_, rfl, hs⟩
    · replace hs := hs.2 h2
      by_cases h3 : a0.toInt = 44
      · replace hs := hs.1 h3
        refine tm_tab (dflt := 106) (lo := 42) (ts := [104, 102, 106, 102, 106, 104, 106, 106, 106, 106, 106, 106, 106, 106, 106, 106, 106, 106, 100, 100, 100]) rfl (by rw [h3]; decide) (t := 106) (by rw [h3]; rfl) ?_
        refine tm_go 1 (pc' := 107) (L' := [some (.int a0)]) (S' := [.int 3]) (w' := w) rfl ?_
        exact tm_r rfl ⟨_, rfl, hs⟩
      · replace hs := hs.2 h3
        by_cases h4 : a0.toInt = 45
        · replace hs := hs.1 h4
          refine tm_tab (dflt := 106) (lo := 42) (ts := [104, 102, 106, 102, 106, 104, 106, 106, 106, 106, 106, 106, 106, 106, 106, 106, 106, 106, 100, 100, 100]) rfl (by rw [h4]; decide) (t := 102) (by rw [h4]; rfl) ?_
          refine tm_go 1 (pc' := 103) (L' := [some (.int a0)]) (S' := [.int 1]) (w' := w) rfl ?_
          exact tm_r rfl ⟨_, rfl, hs⟩
        · replace hs := hs.2 h4
          by_cases h5 : a0.toInt = 46
          · replace hs := hs.1 h5
            refine tm_tab (dflt := 106) (lo := 42) (ts := [104, 102, 106, 102, 106, 104, 106, 106, 106, 106, 106, 106, 106, 106, 106, 106, 106, 106, 100, 100, 100]) rfl (by rw [h5]; decide) (t := 106) (by rw [h5]; rfl) ?_
            refine tm_go 1 (pc' := 107) (L' := [some (.int a0)]) (S' := [.int 3]) (w' := w) rfl ?_
            exact tm_r rfl ⟨_, rfl, hs⟩
          · replace hs := hs.2 h5
            by_cases h6 : a0.toInt = 47
            · replace hs := hs.1 h6
              refine tm_tab (dflt := 106) (lo := 42) (ts := [104, 102, 106, 102, 106, 104, 106, 106, 106, 106, 106, 106, 106, 106, 106, 106, 106, 106, 100, 100, 100]) rfl (by rw [h6]; decide) (t := 104) (by rw [h6]; rfl) ?_
              refine tm_go 1 (pc' := 105) (L' := [some (.int a0)]) (S' := [.int 2]) (w' := w) rfl ?_
              exact tm_r rfl ⟨_, rfl, hs⟩
            · replace hs := hs.2 h6
              by_cases h7 : a0.toInt = 48
              · replace hs := hs.1 h7
                refine tm_tab (dflt := 106) (lo := 42) (ts := [104, 102, 106, 102, 106, 104, 106, 106, 106, 106, 106, 106, 106, 106, 106, 106, 106, 106, 100, 100, 100]) rfl (by rw [h7]; decide) (t := 106) (by rw [h7]; rfl) ?_
                refine tm_go 1 (pc' := 107) (L' := [some (.int a0)]) (S' := [.int 3]) (w' := w) rfl ?_
                exact tm_r rfl ⟨_, rfl, hs⟩
              · replace hs := hs.2 h7
                by_cases h8 : a0.toInt = 49
                · replace hs := hs.1 h8
                  refine tm_tab (dflt := 106) (lo := 42) (ts := [104, 102, 106, 102, 106, 104, 106, 106, 106, 106, 106, 106, 106, 106, 106, 106, 106, 106, 100, 100, 100]) rfl (by rw [h8]; decide) (t := 106) (by rw [h8]; rfl) ?_
                  refine tm_go 1 (pc' := 107) (L' := [some (.int a0)]) (S' := [.int 3]) (w' := w) rfl ?_
                  exact tm_r rfl ⟨_, rfl, hs⟩
                · replace hs := hs.2 h8
                  by_cases h9 : a0.toInt = 50
                  · replace hs := hs.1 h9
                    refine tm_tab (dflt := 106) (lo := 42) (ts := [104, 102, 106, 102, 106, 104, 106, 106, 106, 106, 106, 106, 106, 106, 106, 106, 106, 106, 100, 100, 100]) rfl (by rw [h9]; decide) (t := 106) (by rw [h9]; rfl) ?_
                    refine tm_go 1 (pc' := 107) (L' := [some (.int a0)]) (S' := [.int 3]) (w' := w) rfl ?_
                    exact tm_r rfl ⟨_, rfl, hs⟩
                  · replace hs := hs.2 h9
                    by_cases h10 : a0.toInt = 51
                    · replace hs := hs.1 h10
                      refine tm_tab (dflt := 106) (lo := 42) (ts := [104, 102, 106, 102, 106, 104, 106, 106, 106, 106, 106, 106, 106, 106, 106, 106, 106, 106, 100, 100, 100]) rfl (by rw [h10]; decide) (t := 106) (by rw [h10]; rfl) ?_
                      refine tm_go 1 (pc' := 107) (L' := [some (.int a0)]) (S' := [.int 3]) (w' := w) rfl ?_
                      exact tm_r rfl ⟨_, rfl, hs⟩
                    · replace hs := hs.2 h10
                      by_cases h11 : a0.toInt = 52
                      · replace hs := hs.1 h11
                        refine tm_tab (dflt := 106) (lo := 42) (ts := [104, 102, 106, 102, 106, 104, 106, 106, 106, 106, 106, 106, 106, 106, 106, 106, 106, 106, 100, 100, 100]) rfl (by rw [h11]; decide) (t := 106) (by rw [h11]; rfl) ?_
                        refine tm_go 1 (pc' := 107) (L' := [some (.int a0)]) (S' := [.int 3]) (w' := w) rfl ?_
                        exact tm_r rfl ⟨_, rfl, hs⟩
                      · replace hs := hs.2 h11
                        by_cases h12 : a0.toInt = 53
                        · replace hs := hs.1 h12
                          refine tm_tab (dflt := 106) (lo := 42) (ts := [104, 102, 106, 102, 106, 104, 106, 106, 106, 106, 106, 106, 106, 106, 106, 106, 106, 106, 100, 100, 100]) rfl (by rw [h12]; decide) (t := 106) (by rw [h12]; rfl) ?_
                          refine tm_go 1 (pc' := 107) (L' := [some (.int a0)]) (S' := [.int 3]) (w' := w) rfl ?_
                          exact tm_r rfl ⟨_, rfl, hs⟩
                        · replace hs := hs.2 h12
                          by_cases h13 : a0.toInt = 54
                          · replace hs := hs.1 h13
                            refine tm_tab (dflt := 106) (lo := 42) (ts := [104, 102, 106, 102, 106, 104, 106, 106, 106, 106, 106, 106, 106, 106, 106, 106, 106, 106, 100, 100, 100]) rfl (by rw [h13]; decide) (t := 106) (by rw [h13]; rfl) ?_
                            refine tm_go 1 (pc' := 107) (L' := [some (.int a0)]) (S' := [.int 3]) (w' := w) rfl ?_
                            exact tm_r rfl ⟨_, rfl, hs⟩
                          · replace hs := hs.2 h13
                            by_cases h14 : a0.toInt = 55
                            · replace hs := hs.1 h14
                              refine tm_tab (dflt := 106) (lo := 42) (ts := [104, 102, 106, 102, 106, 104, 106, 106, 106, 106, 106, 106, 106, 106, 106, 106, 106, 106, 100, 100, 100]) rfl (by rw [h14]; decide) (t := 106) (by rw [h14]; rfl) ?_
                              refine tm_go 1 (pc' := 107) (L' := [some (.int a0)]) (S' := [.int 3]) (w' := w) rfl ?_
                              exact tm_r rfl ⟨_, rfl, hs⟩
                            · replace hs := hs.2 h14
                              by_cases h15 : a0.toInt = 56
                              · replace hs := hs.1 h15
                                refine tm_tab (dflt := 106) (lo := 42) (ts := [104, 102, 106, 102, 106, 104, 106, 106, 106, 106, 106, 106, 106, 106, 106, 106, 106, 106, 100, 100, 100]) rfl (by rw [h15]; decide) (t := 106) (by rw [h15]; rfl) ?_
                                refine tm_go 1 (pc' := 107) (L' := [some (.int a0)]) (S' := [.int 3]) (w' := w) rfl ?_
                                exact tm_r rfl ⟨_, rfl, hs⟩
                              · replace hs := hs.2 h15
                                by_cases h16 : a0.toInt = 57
                                · replace hs := hs.1 h16
                                  refine tm_tab (dflt := 106) (lo := 42) (ts := [104, 102, 106, 102, 106, 104, 106, 106, 106, 106, 106, 106, 106, 106, 106, 106, 106, 106, 100, 100, 100]) rfl (by rw [h16]; decide) (t := 106) (by rw [h16]; rfl) ?_
                                  refine tm_go 1 (pc' := 107) (L' := [some (.int a0)]) (S' := [.int 3]) (w' := w) rfl ?_
                                  exact tm_r rfl ⟨_, rfl, hs⟩
                                · replace hs := hs.2 h16
                                  by_cases h17 : a0.toInt = 58
                                  · replace hs := hs.1 h17
                                    refine tm_tab (dflt := 106) (lo := 42) (ts := [104, 102, 106, 102, 106, 104, 106, 106, 106, 106, 106, 106, 106, 106, 106, 106, 106, 106, 100, 100, 100]) rfl (by rw [h17]; decide) (t := 106) (by rw [h17]; rfl) ?_
                                    refine tm_go 1 (pc' := 107) (L' := [some (.int a0)]) (S' := [.int 3]) (w' := w) rfl ?_
                                    exact tm_r rfl ⟨_, rfl, hs⟩
                                  · replace hs := hs.2 h17
                                    by_cases h18 : a0.toInt = 59
                                    · replace hs := hs.1 h18
                                      refine tm_tab (dflt := 106) (lo := 42) (ts := [104, 102, 106, 102, 106, 104, 106, 106, 106, 106, 106, 106, 106, 106, 106, 106, 106, 106, 100, 100, 100]) rfl (by rw [h18]; decide) (t := 106) (by rw [h18]; rfl) ?_
                                      refine tm_go 1 (pc' := 107) (L' := [some (.int a0)]) (S' := [.int 3]) (w' := w) rfl ?_
                                      exact tm_r rfl ⟨_, rfl, hs⟩
                                    · replace hs := hs.2 h18
                                      by_cases h19 : a0.toInt = 60
                                      · replace hs := hs.1 h19
                                        refine tm_tab (dflt := 106) (lo := 42) (ts := [104, 102, 106, 102, 106, 104, 106, 106, 106, 106, 106, 106, 106, 106, 106, 106, 106, 106, 100, 100, 100]) rfl (by rw [h19]; decide) (t := 100) (by rw [h19]; rfl) ?_
                                        refine tm_go 1 (pc' := 101) (L' := [some (.int a0)]) (S' := [.int 0]) (w' := w) rfl ?_
                                        exact tm_r rfl ⟨_, rfl, hs⟩
                                      · replace hs := hs.2 h19
                                        by_cases h20 : a0.toInt = 61
                                        · replace hs := hs.1 h20
                                          refine tm_tab (dflt := 106) (lo := 42) (ts := [104, 102, 106, 102, 106, 104, 106, 106, 106, 106, 106, 106, 106, 106, 106, 106, 106, 106, 100, 100, 100]) rfl (by rw [h20]; decide) (t := 100) (by rw [h20]; rfl) ?_
                                          refine tm_go 1 (pc' := 101) (L' := [some (.int a0)]) (S' := [.int 0]) (w' := w) rfl ?_
                                          exact tm_r rfl ⟨_, rfl, hs⟩
                                        · replace hs := hs.2 h20
                                          by_cases h21 : a0.toInt = 62
                                          · replace hs := hs.1 h21
                                            refine tm_tab (dflt := 106) (lo := 42) (ts := [104, 102, 106, 102, 106, 104, 106, 106, 106, 106, 106, 106, 106, 106, 106, 106, 106, 106, 100, 100, 100]) rfl (by rw [h21]; decide) (t := 100) (by rw [h21]; rfl) ?_
                                            refine tm_go 1 (pc' := 101) (L' := [some (.int a0)]) (S' := [.int 0]) (w' := w) rfl ?_
                                            exact tm_r rfl ⟨_, rfl, hs⟩
                                          · replace hs := hs.2 h21
                                            refine tm_tad (dflt := 106) (lo := 42) (ts := [104, 102, 106, 102, 106, 104, 106, 106, 106, 106, 106, 106, 106, 106, 106, 106, 106, 106, 100, 100, 100]) rfl (by simp only [List.length_cons, List.length_nil]; omega) ?_
                                            refine tm_go 1 (pc' := 107) (L' := [some (.int a0)]) (S' := [.int 3]) (w' := w) rfl ?_
                                            exact tm_r rfl ⟨_, rfl, hs⟩
set_option maxHeartbeats 4000000 in
set_option maxRecDepth 100000 in
theorem tx_Pr_finds108_2 {d : Nat} {x2_1 : Int64} {E : MW → Prop} {Q : Int32 → MW → Prop} (n : Nat) : ∀ (x2_3 : Int32)   (w : MW), q_Pr_finds108_2 x2_1 E Q n x2_3 w → (∀  (v0 : Option Value) (v1 : Option Value) (v2 : Option Value) (v3 : Option Value) (w : MW), E  w → Tm (d + 0) 152 29 [v0, v1, v2, v3] [] w (RI Q)) → Tm (d + 0) 152 2 [some (.ref 108), some (.long x2_1), none, some (.int x2_3)] [] w (RI Q) := by
  induction n with
  | zero => intro x2_3  w hs; rw [q_Pr_finds108_2.eq_1] at hs; exact hs.elim
  | succ n ih =>
    intro x2_3  w hs hE
    rw [q_Pr_finds108_2.eq_2] at hs
    refine tm_go 3 (pc' := 7) (L' := [some (.ref 108), some (.long x2_1), none, some (.int x2_3)]) (S' := [.int (w.1 108 10), .int x2_3]) (w' := w) rfl ?_
    refine tm_i (p1 := 29) (p2 := 10) rfl (fun h1 => ?_) (fun h1 => ?_)
    · replace hs := hs.1 h1
      exact hE _ _ _ _ _ hs
    · replace hs := hs.2 h1
      refine tm_go 3 (pc' := 15) (L' := [some (.ref 108), some (.long x2_1), none, some (.int x2_3)]) (S' := [.int x2_3, .ref 116]) (w' := w) rfl ?_
      obtain ⟨b2, hs⟩ := hs
      refine tm_k (pc' := 16) (L' := [some (.ref 108), some (.long x2_1), none, some (.int x2_3)]) (S' := [.long (w.2.1 116 x2_3.toInt.toNat)]) (w' := w) rfl b2 ?_
      refine tm_go 2 (pc' := 18) (L' := [some (.ref 108), some (.long x2_1), none, some (.int x2_3)]) (S' := [.int (lg_cmp (w.2.1 116 x2_3.toInt.toNat) x2_1)]) (w' := w) rfl ?_
      refine tm_i (p1 := 23) (p2 := 21) rfl (fun h3 => ?_) (fun h3 => ?_)
      · replace hs := hs.1 h3
        refine tm_go 2 (pc' := 2) (L' := [some (.ref 108), some (.long x2_1), none, some (.int (x2_3 + (1 : Int32)))]) (S' := []) (w' := w) rfl ?_
        exact ih _ _ hs hE
      · replace hs := hs.2 h3
        refine tm_go 1 (pc' := 22) (L' := [some (.ref 108), some (.long x2_1), none, some (.int x2_3)]) (S' := [.int x2_3]) (w' := w) rfl ?_
        exact tm_r rfl ⟨_, rfl, hs⟩
set_option maxHeartbeats 4000000 in
set_option maxRecDepth 100000 in
theorem dm_Pr_finds108 {d : Nat} {w : MW} {a0 : Int64} {Q : Int32 → MW → Prop} (hs : p_Pr_finds108 w a0 Q) : Tc (d + 0) 152 [.ref 108, .long a0] w (RI Q) := by
  unfold p_Pr_finds108 at hs
  refine tm_go 2 (pc' := 2) (L' := [some (.ref 108), some (.long a0), none, some (.int 0)]) (S' := []) (w' := w) rfl ?_
  refine tx_Pr_finds108_2 FU _ _ hs (fun  z4_0 z4_1 z4_2 z4_3 w4 hs => ?_)
  refine tm_go 1 (pc' := 30) (L' := [z4_0, z4_1, z4_2, z4_3]) (S' := [.int (-1)]) (w' := w4) rfl ?_
  exact tm_r rfl ⟨_, rfl, hs⟩
set_option maxHeartbeats 4000000 in
set_option maxRecDepth 100000 in
theorem dm_Pr_hasValues108 {d : Nat} {w : MW} {a0 : Int32} {Q : Int32 → MW → Prop} (hs : p_Pr_hasValues108 w a0 Q) : Tc (d + 0) 154 [.ref 108, .int a0] w (RZ Q) := by
  unfold p_Pr_hasValues108 at hs
  refine tm_go 1 (pc' := 1) (L' := [some (.ref 108), some (.int a0)]) (S' := [.int a0]) (w' := w) rfl ?_
  refine tm_i (p1 := 27) (p2 := 4) rfl (fun h1 => ?_) (fun h1 => ?_)
  · replace hs := hs.1 h1
    refine tm_go 1 (pc' := 28) (L' := [some (.ref 108), some (.int a0)]) (S' := [.int 0]) (w' := w) rfl ?_
    exact tm_r rfl ⟨_, rfl, by decide, hs⟩
  · replace hs := hs.2 h1
    refine tm_go 3 (pc' := 9) (L' := [some (.ref 108), some (.int a0)]) (S' := [.int (w.1 108 10), .int a0]) (w' := w) rfl ?_
    refine tm_i (p1 := 27) (p2 := 12) rfl (fun h2 => ?_) (fun h2 => ?_)
    · replace hs := hs.1 h2
      refine tm_go 1 (pc' := 28) (L' := [some (.ref 108), some (.int a0)]) (S' := [.int 0]) (w' := w) rfl ?_
      exact tm_r rfl ⟨_, rfl, by decide, hs⟩
    · replace hs := hs.2 h2
      refine tm_go 3 (pc' := 17) (L' := [some (.ref 108), some (.int a0)]) (S' := [.int a0, .ref 117]) (w' := w) rfl ?_
      obtain ⟨b3, hs⟩ := hs
      refine tm_k (pc' := 18) (L' := [some (.ref 108), some (.int a0)]) (S' := [.int (w.1 117 a0.toInt.toNat)]) (w' := w) rfl b3 ?_
      refine tm_go 1 (pc' := 20) (L' := [some (.ref 108), some (.int a0)]) (S' := [.int 10, .int (w.1 117 a0.toInt.toNat)]) (w' := w) rfl ?_
      refine tm_i (p1 := 27) (p2 := 23) rfl (fun h4 => ?_) (fun h4 => ?_)
      · replace hs := hs.1 h4
        refine tm_go 1 (pc' := 28) (L' := [some (.ref 108), some (.int a0)]) (S' := [.int 0]) (w' := w) rfl ?_
        exact tm_r rfl ⟨_, rfl, by decide, hs⟩
      · replace hs := hs.2 h4
        refine tm_go 2 (pc' := 28) (L' := [some (.ref 108), some (.int a0)]) (S' := [.int 1]) (w' := w) rfl ?_
        exact tm_r rfl ⟨_, rfl, by decide, hs⟩
set_option maxHeartbeats 4000000 in
set_option maxRecDepth 100000 in
theorem tx_Rd_readFactor_284 {d : Nat} {r_Rd_readFactor : MW → (Int32 → MW → Prop) → Prop} {r_Rd_readLevel : MW → Int32 → (Int32 → MW → Prop) → Prop} (hr_Rd_readFactor : ∀ (w : MW) (Q : Int32 → MW → Prop), r_Rd_readFactor w Q → Tc (d + 2) 184 [.ref 87] w (RI Q)) (hr_Rd_readLevel : ∀ (w : MW) (a0 : Int32) (Q : Int32 → MW → Prop), r_Rd_readLevel w a0 Q → Tc (d + 2) 181 [.ref 87, .int a0] w (RI Q)) {y284_1 : Int32} {ys284_0 : Int32} {z2 : Option Value} {z3 : Option Value} {z4 : Option Value} {z5 : Option Value} {z6 : Option Value} {w : MW} {Q : Int32 → MW → Prop} (hs : q_Rd_readFactor_284 r_Rd_readFactor r_Rd_readLevel y284_1 ys284_0 w Q) : Tm (d + 3) 184 284 [some (.ref 87), some (.int y284_1), z2, z3, z4, z5, z6] [.int ys284_0] w (RI Q) := by
  unfold q_Rd_readFactor_284 at hs
  refine tm_go 3 (pc' := 289) (L' := [some (.ref 87), some (.int y284_1), z2, z3, z4, (ksl z5), some (.int ys284_0)]) (S' := [.int 45, .int y284_1]) (w' := w) rfl ?_
  refine tm_i (p1 := 303) (p2 := 292) rfl (fun h12 => ?_) (fun h12 => ?_)
  · replace hs := hs.1 h12
    refine tm_go 3 (pc' := 309) (L' := [some (.ref 87), some (.int y284_1), z2, z3, z4, (ksl z5), some (.int ys284_0)]) (S' := [.int 41, .int (w.1 87 3)]) (w' := w) rfl ?_
    refine tm_i (p1 := 319) (p2 := 312) rfl (fun h13 => ?_) (fun h13 => ?_)
    · replace hs := hs.1 h13
      refine tm_go 1 (pc' := 320) (L' := [some (.ref 87), some (.int y284_1), z2, z3, z4, (ksl z5), some (.int ys284_0)]) (S' := [.ref 87]) (w' := w) rfl ?_
      refine tm_c rfl (Nat.le_of_ble_eq_true rfl) (dm_Rd_fail (d := d + 2) hs) (fun v w14 hq => ?_)
      obtain ⟨rfl, hs⟩ := hq
      refine tm_go 7 (pc' := 335) (L' := [some (.ref 87), some (.int y284_1), z2, z3, z4, (ksl z5), some (.int ys284_0)]) (S' := [.int ys284_0]) (w' := (sI w14 87 8 ((w14.1 87 8) - (1 : Int32)))) rfl ?_
      exact tm_r rfl ⟨_, rfl, hs⟩
    · replace hs := hs.2 h13
      refine tm_go 1 (pc' := 313) (L' := [some (.ref 87), some (.int y284_1), z2, z3, z4, (ksl z5), some (.int ys284_0)]) (S' := [.ref 87]) (w' := w) rfl ?_
      refine tm_c rfl (Nat.le_of_ble_eq_true rfl) (dm_Rd_nextWord (d := d + 0) hs) (fun v w15 hq => ?_)
      obtain ⟨rfl, hs⟩ := hq
      refine tm_go 8 (pc' := 335) (L' := [some (.ref 87), some (.int y284_1), z2, z3, z4, (ksl z5), some (.int ys284_0)]) (S' := [.int ys284_0]) (w' := (sI w15 87 8 ((w15.1 87 8) - (1 : Int32)))) rfl ?_
      exact tm_r rfl ⟨_, rfl, hs⟩
  · replace hs := hs.2 h12
    refine tm_go 3 (pc' := 296) (L' := [some (.ref 87), some (.int y284_1), z2, z3, z4, (ksl z5), some (.int ys284_0)]) (S' := [.int 0, .int 34, .ref 87]) (w' := w) rfl ?_
    refine tm_c rfl (Nat.le_of_ble_eq_true rfl) (dm_Rd_makeNode (d := d + 1) hs) (fun v w16 hq => ?_)
    obtain ⟨r16, rfl, hs⟩ := hq
    refine tm_go 9 (pc' := 335) (L' := [some (.ref 87), some (.int y284_1), z2, z3, z4, (ksl z5), some (.int ys284_0)]) (S' := [.int ys284_0]) (w' := (sI w16 87 8 ((w16.1 87 8) - (1 : Int32)))) rfl ?_
    exact tm_r rfl ⟨_, rfl, hs⟩
set_option maxHeartbeats 4000000 in
set_option maxRecDepth 100000 in
theorem tx_Rd_readFactor_201 {d : Nat} {r_Rd_readFactor : MW → (Int32 → MW → Prop) → Prop} {r_Rd_readLevel : MW → Int32 → (Int32 → MW → Prop) → Prop} (hr_Rd_readFactor : ∀ (w : MW) (Q : Int32 → MW → Prop), r_Rd_readFactor w Q → Tc (d + 2) 184 [.ref 87] w (RI Q)) (hr_Rd_readLevel : ∀ (w : MW) (a0 : Int32) (Q : Int32 → MW → Prop), r_Rd_readLevel w a0 Q → Tc (d + 2) 181 [.ref 87, .int a0] w (RI Q)) {y201_4 : Int64} {ys201_0 : Int32} {z1 : Option Value} {z2 : Option Value} {z3 : Option Value} {z6 : Option Value} {w : MW} {Q : Int32 → MW → Prop} (hs : q_Rd_readFactor_201 r_Rd_readFactor r_Rd_readLevel y201_4 ys201_0 w Q) : Tm (d + 3) 184 201 [some (.ref 87), z1, z2, z3, some (.long y201_4), none, z6] [.int ys201_0] w (RI Q) := by
  unfold q_Rd_readFactor_201 at hs
  refine tm_go 2 (pc' := 205) (L' := [some (.ref 87), z1, z2, z3, some (.long y201_4), none, some (.int ys201_0)]) (S' := [.int ys201_0]) (w' := w) rfl ?_
  refine tm_i (p1 := 212) (p2 := 208) rfl (fun h25 => ?_) (fun h25 => ?_)
  · replace hs := hs.1 h25
    refine tm_go 1 (pc' := 213) (L' := [some (.ref 87), z1, z2, z3, some (.long y201_4), none, some (.int ys201_0)]) (S' := [.ref 87]) (w' := w) rfl ?_
    obtain ⟨b26, hs⟩ := hs
    refine tm_g (pc' := 216) (k := 87) (j := 1) rfl b26 ?_
    refine tm_go 4 (pc' := 223) (L' := [some (.ref 87), z1, z2, z3, some (.long y201_4), none, some (.int ys201_0)]) (S' := [.int 0, .int 31, .ref 87, .ref 115]) (w' := w) rfl ?_
    refine tm_c rfl (Nat.le_of_ble_eq_true rfl) (dm_Rd_makeNode (d := d + 1) hs) (fun v w27 hq => ?_)
    obtain ⟨r27, rfl, hs⟩ := hq
    refine tm_go 1 (pc' := 228) (L' := [some (.ref 87), z1, z2, z3, some (.long y201_4), none, some (.int ys201_0)]) (S' := [.long y201_4, .int r27, .ref 115]) (w' := w27) rfl ?_
    obtain ⟨b28, hs⟩ := hs
    refine tm_k (pc' := 229) (L' := [some (.ref 87), z1, z2, z3, some (.long y201_4), none, some (.int ys201_0)]) (S' := []) (w' := (sJ w27 115 r27.toInt.toNat y201_4)) rfl b28 ?_
    refine tm_go 1 (pc' := 231) (L' := [some (.ref 87), z1, z2, z3, some (.long y201_4), none, some (.int ys201_0)]) (S' := [.int ys201_0]) (w' := (sJ w27 115 r27.toInt.toNat y201_4)) rfl ?_
    exact tm_r rfl ⟨_, rfl, hs⟩
  · replace hs := hs.2 h25
    refine tm_go 1 (pc' := 209) (L' := [some (.ref 87), z1, z2, z3, some (.long y201_4), none, some (.int ys201_0)]) (S' := [.ref 87]) (w' := w) rfl ?_
    refine tm_c rfl (Nat.le_of_ble_eq_true rfl) (dm_Rd_nextWord (d := d + 0) hs) (fun v w29 hq => ?_)
    obtain ⟨rfl, hs⟩ := hq
    refine tm_go 1 (pc' := 213) (L' := [some (.ref 87), z1, z2, z3, some (.long y201_4), none, some (.int ys201_0)]) (S' := [.ref 87]) (w' := w29) rfl ?_
    obtain ⟨b30, hs⟩ := hs
    refine tm_g (pc' := 216) (k := 87) (j := 1) rfl b30 ?_
    refine tm_go 4 (pc' := 223) (L' := [some (.ref 87), z1, z2, z3, some (.long y201_4), none, some (.int ys201_0)]) (S' := [.int 0, .int 31, .ref 87, .ref 115]) (w' := w29) rfl ?_
    refine tm_c rfl (Nat.le_of_ble_eq_true rfl) (dm_Rd_makeNode (d := d + 1) hs) (fun v w31 hq => ?_)
    obtain ⟨r31, rfl, hs⟩ := hq
    refine tm_go 1 (pc' := 228) (L' := [some (.ref 87), z1, z2, z3, some (.long y201_4), none, some (.int ys201_0)]) (S' := [.long y201_4, .int r31, .ref 115]) (w' := w31) rfl ?_
    obtain ⟨b32, hs⟩ := hs
    refine tm_k (pc' := 229) (L' := [some (.ref 87), z1, z2, z3, some (.long y201_4), none, some (.int ys201_0)]) (S' := []) (w' := (sJ w31 115 r31.toInt.toNat y201_4)) rfl b32 ?_
    refine tm_go 1 (pc' := 231) (L' := [some (.ref 87), z1, z2, z3, some (.long y201_4), none, some (.int ys201_0)]) (S' := [.int ys201_0]) (w' := (sJ w31 115 r31.toInt.toNat y201_4)) rfl ?_
    exact tm_r rfl ⟨_, rfl, hs⟩
set_option maxHeartbeats 4000000 in
set_option maxRecDepth 100000 in
theorem tx_Rd_readFactor_137 {d : Nat} {r_Rd_readFactor : MW → (Int32 → MW → Prop) → Prop} {r_Rd_readLevel : MW → Int32 → (Int32 → MW → Prop) → Prop} (hr_Rd_readFactor : ∀ (w : MW) (Q : Int32 → MW → Prop), r_Rd_readFactor w Q → Tc (d + 2) 184 [.ref 87] w (RI Q)) (hr_Rd_readLevel : ∀ (w : MW) (a0 : Int32) (Q : Int32 → MW → Prop), r_Rd_readLevel w a0 Q → Tc (d + 2) 181 [.ref 87, .int a0] w (RI Q)) {ys137_0 : Int64} {ys137_1 : Int64} {z1 : Option Value} {z2 : Option Value} {z3 : Option Value} {z4 : Option Value} {z5 : Option Value} {z6 : Option Value} {w : MW} {Q : Int32 → MW → Prop} (hs : q_Rd_readFactor_137 r_Rd_readFactor r_Rd_readLevel ys137_0 ys137_1 w Q) : Tm (d + 3) 184 137 [some (.ref 87), z1, z2, z3, z4, z5, z6] [.long ys137_0, .long ys137_1] w (RI Q) := by
  unfold q_Rd_readFactor_137 at hs
  refine tm_go 5 (pc' := 146) (L' := [some (.ref 87), z1, z2, (ksl z3), some (.long (ys137_1 * ys137_0)), none, z6]) (S' := [.int (lg_cmp (ys137_1 * ys137_0) (999999999999 : Int64))]) (w' := w) rfl ?_
  refine tm_i (p1 := 155) (p2 := 149) rfl (fun h23 => ?_) (fun h23 => ?_)
  · replace hs := hs.1 h23
    refine tm_go 3 (pc' := 161) (L' := [some (.ref 87), z1, z2, (ksl z3), some (.long (ys137_1 * ys137_0)), none, z6]) (S' := [.int 6, .int (w.1 87 3)]) (w' := w) rfl ?_
    refine tm_i (p1 := 173) (p2 := 164) rfl (fun h24 => ?_) (fun h24 => ?_)
    · replace hs := hs.1 h24
      refine tm_go 2 (pc' := 201) (L' := [some (.ref 87), z1, z2, (ksl z3), some (.long (ys137_1 * ys137_0)), none, z6]) (S' := [.int 3]) (w' := w) rfl ?_
      exact tx_Rd_readFactor_201 hr_Rd_readFactor hr_Rd_readLevel hs 
    · replace hs := hs.2 h24
      refine tm_go 3 (pc' := 170) (L' := [some (.ref 87), z1, z2, (ksl z3), some (.long (ys137_1 * ys137_0)), none, z6]) (S' := [.int 7, .int (w.1 87 3)]) (w' := w) rfl ?_
      refine tm_i (p1 := 177) (p2 := 173) rfl (fun h33 => ?_) (fun h33 => ?_)
      · replace hs := hs.1 h33
        refine tm_go 3 (pc' := 182) (L' := [some (.ref 87), z1, z2, (ksl z3), some (.long (ys137_1 * ys137_0)), none, z6]) (S' := [.int 1, .int (w.1 87 3)]) (w' := w) rfl ?_
        refine tm_i (p1 := 200) (p2 := 185) rfl (fun h34 => ?_) (fun h34 => ?_)
        · replace hs := hs.1 h34
          refine tm_go 1 (pc' := 201) (L' := [some (.ref 87), z1, z2, (ksl z3), some (.long (ys137_1 * ys137_0)), none, z6]) (S' := [.int 0]) (w' := w) rfl ?_
          exact tx_Rd_readFactor_201 hr_Rd_readFactor hr_Rd_readLevel hs 
        · replace hs := hs.2 h34
          refine tm_go 3 (pc' := 190) (L' := [some (.ref 87), z1, z2, (ksl z3), some (.long (ys137_1 * ys137_0)), none, z6]) (S' := [.int 5, .int (w.1 87 3)]) (w' := w) rfl ?_
          refine tm_i (p1 := 200) (p2 := 193) rfl (fun h35 => ?_) (fun h35 => ?_)
          · replace hs := hs.1 h35
            refine tm_go 1 (pc' := 201) (L' := [some (.ref 87), z1, z2, (ksl z3), some (.long (ys137_1 * ys137_0)), none, z6]) (S' := [.int 0]) (w' := w) rfl ?_
            exact tx_Rd_readFactor_201 hr_Rd_readFactor hr_Rd_readLevel hs 
          · replace hs := hs.2 h35
            refine tm_go 3 (pc' := 201) (L' := [some (.ref 87), z1, z2, (ksl z3), some (.long (ys137_1 * ys137_0)), none, z6]) (S' := [.int (w.1 87 3)]) (w' := w) rfl ?_
            exact tx_Rd_readFactor_201 hr_Rd_readFactor hr_Rd_readLevel hs 
      · replace hs := hs.2 h33
        refine tm_go 2 (pc' := 201) (L' := [some (.ref 87), z1, z2, (ksl z3), some (.long (ys137_1 * ys137_0)), none, z6]) (S' := [.int 3]) (w' := w) rfl ?_
        exact tx_Rd_readFactor_201 hr_Rd_readFactor hr_Rd_readLevel hs 
  · replace hs := hs.2 h23
    refine tm_go 1 (pc' := 150) (L' := [some (.ref 87), z1, z2, (ksl z3), some (.long (ys137_1 * ys137_0)), none, z6]) (S' := [.ref 87]) (w' := w) rfl ?_
    refine tm_c rfl (Nat.le_of_ble_eq_true rfl) (dm_Rd_fail (d := d + 2) hs) (fun v w36 hq => ?_)
    obtain ⟨rfl, hs⟩ := hq
    refine tm_go 1 (pc' := 154) (L' := [some (.ref 87), z1, z2, (ksl z3), some (.long (ys137_1 * ys137_0)), none, z6]) (S' := [.int 0]) (w' := w36) rfl ?_
    exact tm_r rfl ⟨_, rfl, hs⟩
set_option maxHeartbeats 4000000 in
set_option maxRecDepth 100000 in
theorem tx_Rd_readFactor_88 {d : Nat} {r_Rd_readFactor : MW → (Int32 → MW → Prop) → Prop} {r_Rd_readLevel : MW → Int32 → (Int32 → MW → Prop) → Prop} (hr_Rd_readFactor : ∀ (w : MW) (Q : Int32 → MW → Prop), r_Rd_readFactor w Q → Tc (d + 2) 184 [.ref 87] w (RI Q)) (hr_Rd_readLevel : ∀ (w : MW) (a0 : Int32) (Q : Int32 → MW → Prop), r_Rd_readLevel w a0 Q → Tc (d + 2) 181 [.ref 87, .int a0] w (RI Q)) {y88_1 : Int32} {y88_2 : Int32} {z3 : Option Value} {z4 : Option Value} {z5 : Option Value} {z6 : Option Value} {w : MW} {Q : Int32 → MW → Prop} (hs : q_Rd_readFactor_88 r_Rd_readFactor r_Rd_readLevel y88_1 y88_2 w Q) : Tm (d + 3) 184 88 [some (.ref 87), some (.int y88_1), some (.int y88_2), z3, z4, z5, z6] [] w (RI Q) := by
  unfold q_Rd_readFactor_88 at hs
  refine tm_go 4 (pc' := 95) (L' := [some (.ref 87), some (.int y88_1), some (.int y88_2), (ksl z3), some (.long (w.2.1 87 6)), none, z6]) (S' := [.ref 87]) (w' := w) rfl ?_
  refine tm_c rfl (Nat.le_of_ble_eq_true rfl) (dm_Rd_nextWord (d := d + 0) hs) (fun v w7 hq => ?_)
  obtain ⟨rfl, hs⟩ := hq
  refine tm_go 2 (pc' := 101) (L' := [some (.ref 87), some (.int y88_1), some (.int y88_2), (ksl z3), some (.long (w.2.1 87 6)), none, z6]) (S' := [.int 31, .int y88_1]) (w' := w7) rfl ?_
  refine tm_i (p1 := 232) (p2 := 104) rfl (fun h8 => ?_) (fun h8 => ?_)
  · replace hs := hs.1 h8
    refine tm_go 2 (pc' := 235) (L' := [some (.ref 87), some (.int y88_1), some (.int y88_2), (ksl z3), some (.long (w.2.1 87 6)), none, z6]) (S' := [.int 30, .int y88_1]) (w' := w7) rfl ?_
    refine tm_i (p1 := 256) (p2 := 238) rfl (fun h9 => ?_) (fun h9 => ?_)
    · replace hs := hs.1 h9
      refine tm_go 8 (pc' := 269) (L' := [some (.ref 87), some (.int y88_1), some (.int y88_2), (ksl z3), some (.long (w.2.1 87 6)), none, z6]) (S' := [.int 45, .int y88_1]) (w' := (sI w7 87 8 ((w7.1 87 8) + (1 : Int32)))) rfl ?_
      refine tm_i (p1 := 279) (p2 := 272) rfl (fun h10 => ?_) (fun h10 => ?_)
      · replace hs := hs.1 h10
        refine tm_go 2 (pc' := 281) (L' := [some (.ref 87), some (.int y88_1), some (.int y88_2), (ksl z3), some (.long (w.2.1 87 6)), none, z6]) (S' := [.int 1, .ref 87]) (w' := (sI w7 87 8 ((w7.1 87 8) + (1 : Int32)))) rfl ?_
        refine tm_c rfl (Nat.le_of_ble_eq_true rfl) (hr_Rd_readLevel _ _ _ hs) (fun v w11 hq => ?_)
        obtain ⟨r11, rfl, hs⟩ := hq
        exact tx_Rd_readFactor_284 hr_Rd_readFactor hr_Rd_readLevel hs 
      · replace hs := hs.2 h10
        refine tm_go 1 (pc' := 273) (L' := [some (.ref 87), some (.int y88_1), some (.int y88_2), (ksl z3), some (.long (w.2.1 87 6)), none, z6]) (S' := [.ref 87]) (w' := (sI w7 87 8 ((w7.1 87 8) + (1 : Int32)))) rfl ?_
        refine tm_c rfl (Nat.le_of_ble_eq_true rfl) (hr_Rd_readFactor _ _ hs) (fun v w17 hq => ?_)
        obtain ⟨r17, rfl, hs⟩ := hq
        refine tm_go 1 (pc' := 284) (L' := [some (.ref 87), some (.int y88_1), some (.int y88_2), (ksl z3), some (.long (w.2.1 87 6)), none, z6]) (S' := [.int r17]) (w' := w17) rfl ?_
        exact tx_Rd_readFactor_284 hr_Rd_readFactor hr_Rd_readLevel hs 
    · replace hs := hs.2 h9
      refine tm_go 3 (pc' := 242) (L' := [some (.ref 87), some (.int y88_1), some (.int y88_2), (ksl z3), some (.long (w.2.1 87 6)), none, z6]) (S' := [.int y88_2, .int 30, .ref 87]) (w' := w7) rfl ?_
      refine tm_c rfl (Nat.le_of_ble_eq_true rfl) (dm_Rd_makeNode (d := d + 1) hs) (fun v w18 hq => ?_)
      obtain ⟨r18, rfl, hs⟩ := hq
      refine tm_go 2 (pc' := 247) (L' := [some (.ref 87), some (.int y88_1), some (.int y88_2), (ksl z3), some (.long (w.2.1 87 6)), none, z6]) (S' := [.ref 87]) (w' := w18) rfl ?_
      obtain ⟨b19, hs⟩ := hs
      refine tm_g (pc' := 250) (k := 87) (j := 1) rfl b19 ?_
      refine tm_go 2 (pc' := 254) (L' := [some (.ref 87), some (.int y88_1), some (.int y88_2), (ksl z3), some (.long (w.2.1 87 6)), none, z6]) (S' := [.int y88_2, .ref 118]) (w' := w18) rfl ?_
      obtain ⟨b20, hs⟩ := hs
      refine tm_k (pc' := 255) (L' := [some (.ref 87), some (.int y88_1), some (.int y88_2), (ksl z3), some (.long (w.2.1 87 6)), none, z6]) (S' := [.int (w18.1 118 y88_2.toInt.toNat)]) (w' := w18) rfl b20 ?_
      exact tm_r rfl ⟨_, rfl, hs⟩
  · replace hs := hs.2 h8
    refine tm_go 4 (pc' := 112) (L' := [some (.ref 87), some (.int y88_1), some (.int y88_2), (ksl z3), some (.long (w.2.1 87 6)), none, z6]) (S' := [.int 6, .int (w7.1 87 3), .long (w.2.1 87 6)]) (w' := w7) rfl ?_
    refine tm_i (p1 := 121) (p2 := 115) rfl (fun h21 => ?_) (fun h21 => ?_)
    · replace hs := hs.1 h21
      refine tm_go 3 (pc' := 127) (L' := [some (.ref 87), some (.int y88_1), some (.int y88_2), (ksl z3), some (.long (w.2.1 87 6)), none, z6]) (S' := [.int 7, .int (w7.1 87 3), .long (w.2.1 87 6)]) (w' := w7) rfl ?_
      refine tm_i (p1 := 136) (p2 := 130) rfl (fun h22 => ?_) (fun h22 => ?_)
      · replace hs := hs.1 h22
        refine tm_go 1 (pc' := 137) (L' := [some (.ref 87), some (.int y88_1), some (.int y88_2), (ksl z3), some (.long (w.2.1 87 6)), none, z6]) (S' := [.long 1, .long (w.2.1 87 6)]) (w' := w7) rfl ?_
        exact tx_Rd_readFactor_137 hr_Rd_readFactor hr_Rd_readLevel hs 
      · replace hs := hs.2 h22
        refine tm_go 2 (pc' := 137) (L' := [some (.ref 87), some (.int y88_1), some (.int y88_2), (ksl z3), some (.long (w.2.1 87 6)), none, z6]) (S' := [.long 3600, .long (w.2.1 87 6)]) (w' := w7) rfl ?_
        exact tx_Rd_readFactor_137 hr_Rd_readFactor hr_Rd_readLevel hs 
    · replace hs := hs.2 h21
      refine tm_go 2 (pc' := 137) (L' := [some (.ref 87), some (.int y88_1), some (.int y88_2), (ksl z3), some (.long (w.2.1 87 6)), none, z6]) (S' := [.long 60, .long (w.2.1 87 6)]) (w' := w7) rfl ?_
      exact tx_Rd_readFactor_137 hr_Rd_readFactor hr_Rd_readLevel hs 
set_option maxHeartbeats 4000000 in
set_option maxRecDepth 100000 in
theorem tx_Rd_readFactor_53 {d : Nat} {r_Rd_readFactor : MW → (Int32 → MW → Prop) → Prop} {r_Rd_readLevel : MW → Int32 → (Int32 → MW → Prop) → Prop} (hr_Rd_readFactor : ∀ (w : MW) (Q : Int32 → MW → Prop), r_Rd_readFactor w Q → Tc (d + 2) 184 [.ref 87] w (RI Q)) (hr_Rd_readLevel : ∀ (w : MW) (a0 : Int32) (Q : Int32 → MW → Prop), r_Rd_readLevel w a0 Q → Tc (d + 2) 181 [.ref 87, .int a0] w (RI Q)) {y53_1 : Int32} {y53_2 : Int32} {ys53_0 : Int32} {z3 : Option Value} {z4 : Option Value} {z5 : Option Value} {z6 : Option Value} {w : MW} {Q : Int32 → MW → Prop} (hs : q_Rd_readFactor_53 r_Rd_readFactor r_Rd_readLevel y53_1 y53_2 ys53_0 w Q) : Tm (d + 3) 184 53 [some (.ref 87), some (.int y53_1), some (.int y53_2), z3, z4, z5, z6] [.int ys53_0] w (RI Q) := by
  unfold q_Rd_readFactor_53 at hs
  refine tm_go 3 (pc' := 58) (L' := [some (.ref 87), some (.int y53_1), some (.int y53_2), some (.int ys53_0), z4, z5, z6]) (S' := [.int (w.1 87 9)]) (w' := w) rfl ?_
  refine tm_i (p1 := 82) (p2 := 61) rfl (fun h4 => ?_) (fun h4 => ?_)
  · replace hs := hs.1 h4
    refine tm_go 1 (pc' := 83) (L' := [some (.ref 87), some (.int y53_1), some (.int y53_2), some (.int ys53_0), z4, z5, z6]) (S' := [.ref 87]) (w' := w) rfl ?_
    refine tm_c rfl (Nat.le_of_ble_eq_true rfl) (dm_Rd_fail (d := d + 2) hs) (fun v w5 hq => ?_)
    obtain ⟨rfl, hs⟩ := hq
    refine tm_go 1 (pc' := 87) (L' := [some (.ref 87), some (.int y53_1), some (.int y53_2), some (.int ys53_0), z4, z5, z6]) (S' := [.int 0]) (w' := w5) rfl ?_
    exact tm_r rfl ⟨_, rfl, hs⟩
  · replace hs := hs.2 h4
    refine tm_go 2 (pc' := 64) (L' := [some (.ref 87), some (.int y53_1), some (.int y53_2), some (.int ys53_0), z4, z5, z6]) (S' := [.int 31, .int y53_1]) (w' := w) rfl ?_
    refine tm_i (p1 := 88) (p2 := 67) rfl (fun h6 => ?_) (fun h6 => ?_)
    · replace hs := hs.1 h6
      exact tx_Rd_readFactor_88 hr_Rd_readFactor hr_Rd_readLevel hs 
    · replace hs := hs.2 h6
      refine tm_go 1 (pc' := 68) (L' := [some (.ref 87), some (.int y53_1), some (.int y53_2), some (.int ys53_0), z4, z5, z6]) (S' := [.int ys53_0]) (w' := w) rfl ?_
      refine tm_i (p1 := 88) (p2 := 71) rfl (fun h37 => ?_) (fun h37 => ?_)
      · replace hs := hs.1 h37
        exact tx_Rd_readFactor_88 hr_Rd_readFactor hr_Rd_readLevel hs 
      · replace hs := hs.2 h37
        refine tm_go 1 (pc' := 72) (L' := [some (.ref 87), some (.int y53_1), some (.int y53_2), some (.int ys53_0), z4, z5, z6]) (S' := [.ref 87]) (w' := w) rfl ?_
        obtain ⟨b38, hs⟩ := hs
        refine tm_g (pc' := 75) (k := 87) (j := 1) rfl b38 ?_
        refine tm_go 1 (pc' := 76) (L' := [some (.ref 87), some (.int y53_1), some (.int y53_2), some (.int ys53_0), z4, z5, z6]) (S' := [.int y53_2, .ref 108]) (w' := w) rfl ?_
        refine tm_c rfl (Nat.le_of_ble_eq_true rfl) (dm_Pr_hasValues108 (d := d + 2) hs) (fun v w39 hq => ?_)
        obtain ⟨r39, rfl, hz39, hs⟩ := hq
        refine tm_i (p1 := 88) (p2 := 82) rfl (fun h40 => ?_) (fun h40 => ?_)
        · replace hs := hs.1 h40
          exact tx_Rd_readFactor_88 hr_Rd_readFactor hr_Rd_readLevel hs 
        · replace hs := hs.2 h40
          refine tm_go 1 (pc' := 83) (L' := [some (.ref 87), some (.int y53_1), some (.int y53_2), some (.int ys53_0), z4, z5, z6]) (S' := [.ref 87]) (w' := w39) rfl ?_
          refine tm_c rfl (Nat.le_of_ble_eq_true rfl) (dm_Rd_fail (d := d + 2) hs) (fun v w41 hq => ?_)
          obtain ⟨rfl, hs⟩ := hq
          refine tm_go 1 (pc' := 87) (L' := [some (.ref 87), some (.int y53_1), some (.int y53_2), some (.int ys53_0), z4, z5, z6]) (S' := [.int 0]) (w' := w41) rfl ?_
          exact tm_r rfl ⟨_, rfl, hs⟩
set_option maxHeartbeats 4000000 in
set_option maxRecDepth 100000 in
theorem tx_Rd_readFactor_26 {d : Nat} {r_Rd_readFactor : MW → (Int32 → MW → Prop) → Prop} {r_Rd_readLevel : MW → Int32 → (Int32 → MW → Prop) → Prop} (hr_Rd_readFactor : ∀ (w : MW) (Q : Int32 → MW → Prop), r_Rd_readFactor w Q → Tc (d + 2) 184 [.ref 87] w (RI Q)) (hr_Rd_readLevel : ∀ (w : MW) (a0 : Int32) (Q : Int32 → MW → Prop), r_Rd_readLevel w a0 Q → Tc (d + 2) 181 [.ref 87, .int a0] w (RI Q)) {y26_1 : Int32} {ys26_0 : Int32} {z2 : Option Value} {z3 : Option Value} {z4 : Option Value} {z5 : Option Value} {z6 : Option Value} {w : MW} {Q : Int32 → MW → Prop} (hs : q_Rd_readFactor_26 r_Rd_readFactor r_Rd_readLevel y26_1 ys26_0 w Q) : Tm (d + 3) 184 26 [some (.ref 87), some (.int y26_1), z2, z3, z4, z5, z6] [.int ys26_0] w (RI Q) := by
  unfold q_Rd_readFactor_26 at hs
  refine tm_go 3 (pc' := 30) (L' := [some (.ref 87), some (.int y26_1), some (.int ys26_0), z3, z4, z5, z6]) (S' := [.int 40, .int y26_1]) (w' := w) rfl ?_
  refine tm_i (p1 := 39) (p2 := 33) rfl (fun h2 => ?_) (fun h2 => ?_)
  · replace hs := hs.1 h2
    refine tm_go 3 (pc' := 45) (L' := [some (.ref 87), some (.int y26_1), some (.int ys26_0), z3, z4, z5, z6]) (S' := [.int 20, .int (w.1 87 8)]) (w' := w) rfl ?_
    refine tm_i (p1 := 52) (p2 := 48) rfl (fun h3 => ?_) (fun h3 => ?_)
    · replace hs := hs.1 h3
      refine tm_go 1 (pc' := 53) (L' := [some (.ref 87), some (.int y26_1), some (.int ys26_0), z3, z4, z5, z6]) (S' := [.int 0]) (w' := w) rfl ?_
      exact tx_Rd_readFactor_53 hr_Rd_readFactor hr_Rd_readLevel hs 
    · replace hs := hs.2 h3
      refine tm_go 2 (pc' := 53) (L' := [some (.ref 87), some (.int y26_1), some (.int ys26_0), z3, z4, z5, z6]) (S' := [.int 1]) (w' := w) rfl ?_
      exact tx_Rd_readFactor_53 hr_Rd_readFactor hr_Rd_readLevel hs 
  · replace hs := hs.2 h2
    refine tm_go 2 (pc' := 36) (L' := [some (.ref 87), some (.int y26_1), some (.int ys26_0), z3, z4, z5, z6]) (S' := [.int 45, .int y26_1]) (w' := w) rfl ?_
    refine tm_i (p1 := 52) (p2 := 39) rfl (fun h42 => ?_) (fun h42 => ?_)
    · replace hs := hs.1 h42
      refine tm_go 1 (pc' := 53) (L' := [some (.ref 87), some (.int y26_1), some (.int ys26_0), z3, z4, z5, z6]) (S' := [.int 0]) (w' := w) rfl ?_
      exact tx_Rd_readFactor_53 hr_Rd_readFactor hr_Rd_readLevel hs 
    · replace hs := hs.2 h42
      refine tm_go 3 (pc' := 45) (L' := [some (.ref 87), some (.int y26_1), some (.int ys26_0), z3, z4, z5, z6]) (S' := [.int 20, .int (w.1 87 8)]) (w' := w) rfl ?_
      refine tm_i (p1 := 52) (p2 := 48) rfl (fun h43 => ?_) (fun h43 => ?_)
      · replace hs := hs.1 h43
        refine tm_go 1 (pc' := 53) (L' := [some (.ref 87), some (.int y26_1), some (.int ys26_0), z3, z4, z5, z6]) (S' := [.int 0]) (w' := w) rfl ?_
        exact tx_Rd_readFactor_53 hr_Rd_readFactor hr_Rd_readLevel hs 
      · replace hs := hs.2 h43
        refine tm_go 2 (pc' := 53) (L' := [some (.ref 87), some (.int y26_1), some (.int ys26_0), z3, z4, z5, z6]) (S' := [.int 1]) (w' := w) rfl ?_
        exact tx_Rd_readFactor_53 hr_Rd_readFactor hr_Rd_readLevel hs 
set_option maxHeartbeats 4000000 in
set_option maxRecDepth 100000 in
theorem dmb_Rd_readFactor {d : Nat} {r_Rd_readFactor : MW → (Int32 → MW → Prop) → Prop} {r_Rd_readLevel : MW → Int32 → (Int32 → MW → Prop) → Prop} (hr_Rd_readFactor : ∀ (w : MW) (Q : Int32 → MW → Prop), r_Rd_readFactor w Q → Tc (d + 2) 184 [.ref 87] w (RI Q)) (hr_Rd_readLevel : ∀ (w : MW) (a0 : Int32) (Q : Int32 → MW → Prop), r_Rd_readLevel w a0 Q → Tc (d + 2) 181 [.ref 87, .int a0] w (RI Q)) {w : MW} {Q : Int32 → MW → Prop} (hs : pb_Rd_readFactor r_Rd_readFactor r_Rd_readLevel w Q) : Tc (d + 3) 184 [.ref 87] w (RI Q) := by
  unfold pb_Rd_readFactor at hs
  refine tm_go 5 (pc' := 8) (L' := [some (.ref 87), some (.int (w.1 87 3)), none, none, none, none, none]) (S' := [.int 30, .int (w.1 87 3)]) (w' := w) rfl ?_
  refine tm_i (p1 := 25) (p2 := 11) rfl (fun h1 => ?_) (fun h1 => ?_)
  · replace hs := hs.1 h1
    refine tm_go 1 (pc' := 26) (L' := [some (.ref 87), some (.int (w.1 87 3)), none, none, none, none, none]) (S' := [.int (-1)]) (w' := w) rfl ?_
    exact tx_Rd_readFactor_26 hr_Rd_readFactor hr_Rd_readLevel hs 
  · replace hs := hs.2 h1
    refine tm_go 1 (pc' := 12) (L' := [some (.ref 87), some (.int (w.1 87 3)), none, none, none, none, none]) (S' := [.ref 87]) (w' := w) rfl ?_
    obtain ⟨b44, hs⟩ := hs
    refine tm_g (pc' := 15) (k := 87) (j := 1) rfl b44 ?_
    refine tm_go 2 (pc' := 19) (L' := [some (.ref 87), some (.int (w.1 87 3)), none, none, none, none, none]) (S' := [.long (w.2.1 87 5), .ref 108]) (w' := w) rfl ?_
    refine tm_c rfl (Nat.le_of_ble_eq_true rfl) (dm_Pr_finds108 (d := d + 2) hs) (fun v w45 hq => ?_)
    obtain ⟨r45, rfl, hs⟩ := hq
    refine tm_go 1 (pc' := 26) (L' := [some (.ref 87), some (.int (w.1 87 3)), none, none, none, none, none]) (S' := [.int r45]) (w' := w45) rfl ?_
    exact tx_Rd_readFactor_26 hr_Rd_readFactor hr_Rd_readLevel hs 
set_option maxHeartbeats 4000000 in
set_option maxRecDepth 100000 in
theorem tx_Rd_readLevel_38 {d : Nat} {r_Rd_readFactor : MW → (Int32 → MW → Prop) → Prop} {r_Rd_readLevel : MW → Int32 → (Int32 → MW → Prop) → Prop} (hr_Rd_readFactor : ∀ (w : MW) (Q : Int32 → MW → Prop), r_Rd_readFactor w Q → Tc (d + 2) 184 [.ref 87] w (RI Q)) (hr_Rd_readLevel : ∀ (w : MW) (a0 : Int32) (Q : Int32 → MW → Prop), r_Rd_readLevel w a0 Q → Tc (d + 2) 181 [.ref 87, .int a0] w (RI Q)) {x38_1 : Int32} {x38_2 : Int32} {x38_4 : Int32} {E : Int32 → Int32 → MW → Prop} {Q : Int32 → MW → Prop} (n : Nat) : ∀ (x38_3 : Int32) (x38_5 : Int32)  (z6 : Option Value) (z7 : Option Value) (z8 : Option Value) (w : MW), q_Rd_readLevel_38 r_Rd_readFactor r_Rd_readLevel x38_1 x38_2 x38_4 E Q n x38_3 x38_5 w → (∀ (e38_3 : Int32) (e38_5 : Int32)  (v2 : Option Value) (v4 : Option Value) (v6 : Option Value) (v7 : Option Value) (v8 : Option Value) (w : MW), E e38_3 e38_5 w → Tm (d + 3) 181 116 [some (.ref 87), some (.int x38_1), v2, some (.int e38_3), v4, some (.int e38_5), v6, v7, v8] [] w (RI Q)) → Tm (d + 3) 181 38 [some (.ref 87), some (.int x38_1), some (.int x38_2), some (.int x38_3), some (.int x38_4), some (.int x38_5), z6, z7, z8] [] w (RI Q) := by
  induction n with
  | zero => intro x38_3 x38_5 z6 z7 z8 w hs; rw [q_Rd_readLevel_38.eq_1] at hs; exact hs.elim
  | succ n ih =>
    intro x38_3 x38_5 z6 z7 z8 w hs hE
    rw [q_Rd_readLevel_38.eq_2] at hs
    refine tm_go 2 (pc' := 42) (L' := [some (.ref 87), some (.int x38_1), some (.int x38_2), some (.int x38_3), some (.int x38_4), some (.int x38_5), z6, z7, z8]) (S' := [.int x38_4, .int x38_5]) (w' := w) rfl ?_
    refine tm_i (p1 := 116) (p2 := 45) rfl (fun h4 => ?_) (fun h4 => ?_)
    · replace hs := hs.1 h4
      exact hE _ _ _ _ _ _ _ _ hs
    · replace hs := hs.2 h4
      refine tm_go 2 (pc' := 49) (L' := [some (.ref 87), some (.int x38_1), some (.int x38_2), some (.int x38_3), some (.int x38_4), some (.int x38_5), z6, z7, z8]) (S' := [.int (w.1 87 9)]) (w' := w) rfl ?_
      refine tm_i (p1 := 116) (p2 := 52) rfl (fun h5 => ?_) (fun h5 => ?_)
      · replace hs := hs.1 h5
        exact hE _ _ _ _ _ _ _ _ hs
      · replace hs := hs.2 h5
        refine tm_go 2 (pc' := 56) (L' := [some (.ref 87), some (.int x38_1), some (.int x38_2), some (.int x38_3), some (.int x38_4), some (.int x38_5), z6, z7, z8]) (S' := [.int (w.1 87 3)]) (w' := w) rfl ?_
        refine tm_c rfl (Nat.le_of_ble_eq_true rfl) (dm_Rd_levelOf (d := d + 2) hs) (fun v w6 hq => ?_)
        obtain ⟨r6, rfl, hs⟩ := hq
        refine tm_go 1 (pc' := 60) (L' := [some (.ref 87), some (.int x38_1), some (.int x38_2), some (.int x38_3), some (.int x38_4), some (.int x38_5), z6, z7, z8]) (S' := [.int x38_1, .int r6]) (w' := w6) rfl ?_
        refine tm_i (p1 := 116) (p2 := 63) rfl (fun h7 => ?_) (fun h7 => ?_)
        · replace hs := hs.1 h7
          exact hE _ _ _ _ _ _ _ _ hs
        · replace hs := hs.2 h7
          refine tm_go 7 (pc' := 76) (L' := [some (.ref 87), some (.int x38_1), some (.int x38_2), some (.int x38_3), some (.int x38_4), some (.int x38_5), some (.int (w6.1 87 3)), some (.int (w6.1 87 4)), z8]) (S' := [.ref 87]) (w' := w6) rfl ?_
          refine tm_c rfl (Nat.le_of_ble_eq_true rfl) (dm_Rd_nextWord (d := d + 0) hs) (fun v w8 hq => ?_)
          obtain ⟨rfl, hs⟩ := hq
          refine tm_go 2 (pc' := 81) (L' := [some (.ref 87), some (.int x38_1), some (.int x38_2), some (.int x38_3), some (.int x38_4), some (.int x38_5), some (.int (w6.1 87 3)), some (.int (w6.1 87 4)), z8]) (S' := [.int 3, .int x38_2]) (w' := w8) rfl ?_
          refine tm_i (p1 := 92) (p2 := 84) rfl (fun h9 => ?_) (fun h9 => ?_)
          · replace hs := hs.1 h9
            refine tm_go 1 (pc' := 93) (L' := [some (.ref 87), some (.int x38_1), some (.int x38_2), some (.int x38_3), some (.int x38_4), some (.int x38_5), some (.int (w6.1 87 3)), some (.int (w6.1 87 4)), z8]) (S' := [.ref 87]) (w' := w8) rfl ?_
            refine tm_c rfl (Nat.le_of_ble_eq_true rfl) (hr_Rd_readFactor _ _ hs) (fun v w10 hq => ?_)
            obtain ⟨r10, rfl, hs⟩ := hq
            refine tm_go 6 (pc' := 106) (L' := [some (.ref 87), some (.int x38_1), some (.int x38_2), some (.int x38_3), some (.int x38_4), some (.int x38_5), some (.int (w6.1 87 3)), some (.int (w6.1 87 4)), some (.int r10)]) (S' := [.int r10, .int x38_3, .int (w6.1 87 4), .int (w6.1 87 3), .ref 87]) (w' := w10) rfl ?_
            refine tm_c rfl (Nat.le_of_ble_eq_true rfl) (dm_Rd_join (d := d + 0) hs) (fun v w11 hq => ?_)
            obtain ⟨r11, rfl, hs⟩ := hq
            refine tm_go 3 (pc' := 38) (L' := [some (.ref 87), some (.int x38_1), some (.int x38_2), some (.int r11), some (.int x38_4), some (.int (x38_5 + (1 : Int32))), some (.int (w6.1 87 3)), some (.int (w6.1 87 4)), some (.int r10)]) (S' := []) (w' := w11) rfl ?_
            exact ih _ _ _ _ _ _ hs hE
          · replace hs := hs.2 h9
            refine tm_go 2 (pc' := 86) (L' := [some (.ref 87), some (.int x38_1), some (.int x38_2), some (.int x38_3), some (.int x38_4), some (.int x38_5), some (.int (w6.1 87 3)), some (.int (w6.1 87 4)), z8]) (S' := [.int x38_2, .ref 87]) (w' := w8) rfl ?_
            refine tm_c rfl (Nat.le_of_ble_eq_true rfl) (hr_Rd_readLevel _ _ _ hs) (fun v w12 hq => ?_)
            obtain ⟨r12, rfl, hs⟩ := hq
            refine tm_go 7 (pc' := 106) (L' := [some (.ref 87), some (.int x38_1), some (.int x38_2), some (.int x38_3), some (.int x38_4), some (.int x38_5), some (.int (w6.1 87 3)), some (.int (w6.1 87 4)), some (.int r12)]) (S' := [.int r12, .int x38_3, .int (w6.1 87 4), .int (w6.1 87 3), .ref 87]) (w' := w12) rfl ?_
            refine tm_c rfl (Nat.le_of_ble_eq_true rfl) (dm_Rd_join (d := d + 0) hs) (fun v w13 hq => ?_)
            obtain ⟨r13, rfl, hs⟩ := hq
            refine tm_go 3 (pc' := 38) (L' := [some (.ref 87), some (.int x38_1), some (.int x38_2), some (.int r13), some (.int x38_4), some (.int (x38_5 + (1 : Int32))), some (.int (w6.1 87 3)), some (.int (w6.1 87 4)), some (.int r12)]) (S' := []) (w' := w13) rfl ?_
            exact ih _ _ _ _ _ _ hs hE
set_option maxHeartbeats 4000000 in
set_option maxRecDepth 100000 in
theorem tx_Rd_readLevel_33 {d : Nat} {r_Rd_readFactor : MW → (Int32 → MW → Prop) → Prop} {r_Rd_readLevel : MW → Int32 → (Int32 → MW → Prop) → Prop} (hr_Rd_readFactor : ∀ (w : MW) (Q : Int32 → MW → Prop), r_Rd_readFactor w Q → Tc (d + 2) 184 [.ref 87] w (RI Q)) (hr_Rd_readLevel : ∀ (w : MW) (a0 : Int32) (Q : Int32 → MW → Prop), r_Rd_readLevel w a0 Q → Tc (d + 2) 181 [.ref 87, .int a0] w (RI Q)) {y33_1 : Int32} {y33_2 : Int32} {y33_3 : Int32} {ys33_0 : Int32} {z4 : Option Value} {z5 : Option Value} {z6 : Option Value} {z7 : Option Value} {z8 : Option Value} {w : MW} {Q : Int32 → MW → Prop} (hs : q_Rd_readLevel_33 r_Rd_readFactor r_Rd_readLevel y33_1 y33_2 y33_3 ys33_0 w Q) : Tm (d + 3) 181 33 [some (.ref 87), some (.int y33_1), some (.int y33_2), some (.int y33_3), z4, z5, z6, z7, z8] [.int ys33_0] w (RI Q) := by
  unfold q_Rd_readLevel_33 at hs
  refine tm_go 3 (pc' := 38) (L' := [some (.ref 87), some (.int y33_1), some (.int y33_2), some (.int y33_3), some (.int ys33_0), some (.int 0), z6, z7, z8]) (S' := []) (w' := w) rfl ?_
  refine tx_Rd_readLevel_38 hr_Rd_readFactor hr_Rd_readLevel FU _ _ _ _ _ _ hs (fun e38_3_14 e38_5_14 z14_2 z14_4 z14_6 z14_7 z14_8 w14 hs => ?_)
  refine tm_go 1 (pc' := 117) (L' := [some (.ref 87), some (.int y33_1), z14_2, some (.int e38_3_14), z14_4, some (.int e38_5_14), z14_6, z14_7, z14_8]) (S' := [.int y33_1]) (w' := w14) rfl ?_
  refine tm_i (p1 := 129) (p2 := 120) rfl (fun h15 => ?_) (fun h15 => ?_)
  · replace hs := hs.1 h15
    refine tm_go 1 (pc' := 130) (L' := [some (.ref 87), some (.int y33_1), z14_2, some (.int e38_3_14), z14_4, some (.int e38_5_14), z14_6, z14_7, z14_8]) (S' := [.int e38_3_14]) (w' := w14) rfl ?_
    exact tm_r rfl ⟨_, rfl, hs⟩
  · replace hs := hs.2 h15
    refine tm_go 1 (pc' := 122) (L' := [some (.ref 87), some (.int y33_1), z14_2, some (.int e38_3_14), z14_4, some (.int e38_5_14), z14_6, z14_7, z14_8]) (S' := [.int e38_5_14]) (w' := w14) rfl ?_
    refine tm_i (p1 := 129) (p2 := 125) rfl (fun h16 => ?_) (fun h16 => ?_)
    · replace hs := hs.1 h16
      refine tm_go 1 (pc' := 130) (L' := [some (.ref 87), some (.int y33_1), z14_2, some (.int e38_3_14), z14_4, some (.int e38_5_14), z14_6, z14_7, z14_8]) (S' := [.int e38_3_14]) (w' := w14) rfl ?_
      exact tm_r rfl ⟨_, rfl, hs⟩
    · replace hs := hs.2 h16
      refine tm_go 1 (pc' := 126) (L' := [some (.ref 87), some (.int y33_1), z14_2, some (.int e38_3_14), z14_4, some (.int e38_5_14), z14_6, z14_7, z14_8]) (S' := [.ref 87]) (w' := w14) rfl ?_
      refine tm_c rfl (Nat.le_of_ble_eq_true rfl) (dm_Rd_fail (d := d + 2) hs) (fun v w17 hq => ?_)
      obtain ⟨rfl, hs⟩ := hq
      refine tm_go 1 (pc' := 130) (L' := [some (.ref 87), some (.int y33_1), z14_2, some (.int e38_3_14), z14_4, some (.int e38_5_14), z14_6, z14_7, z14_8]) (S' := [.int e38_3_14]) (w' := w17) rfl ?_
      exact tm_r rfl ⟨_, rfl, hs⟩
set_option maxHeartbeats 4000000 in
set_option maxRecDepth 100000 in
theorem dmb_Rd_readLevel {d : Nat} {r_Rd_readFactor : MW → (Int32 → MW → Prop) → Prop} {r_Rd_readLevel : MW → Int32 → (Int32 → MW → Prop) → Prop} (hr_Rd_readFactor : ∀ (w : MW) (Q : Int32 → MW → Prop), r_Rd_readFactor w Q → Tc (d + 2) 184 [.ref 87] w (RI Q)) (hr_Rd_readLevel : ∀ (w : MW) (a0 : Int32) (Q : Int32 → MW → Prop), r_Rd_readLevel w a0 Q → Tc (d + 2) 181 [.ref 87, .int a0] w (RI Q)) {w : MW} {a0 : Int32} {Q : Int32 → MW → Prop} (hs : pb_Rd_readLevel r_Rd_readFactor r_Rd_readLevel w a0 Q) : Tc (d + 3) 181 [.ref 87, .int a0] w (RI Q) := by
  unfold pb_Rd_readLevel at hs
  refine tm_go 6 (pc' := 6) (L' := [some (.ref 87), some (.int a0), some (.int (a0 + (1 : Int32))), none, none, none, none, none, none]) (S' := [.int 3, .int (a0 + (1 : Int32))]) (w' := w) rfl ?_
  refine tm_i (p1 := 17) (p2 := 9) rfl (fun h1 => ?_) (fun h1 => ?_)
  · replace hs := hs.1 h1
    refine tm_go 1 (pc' := 18) (L' := [some (.ref 87), some (.int a0), some (.int (a0 + (1 : Int32))), none, none, none, none, none, none]) (S' := [.ref 87]) (w' := w) rfl ?_
    refine tm_c rfl (Nat.le_of_ble_eq_true rfl) (hr_Rd_readFactor _ _ hs) (fun v w2 hq => ?_)
    obtain ⟨r2, rfl, hs⟩ := hq
    refine tm_go 2 (pc' := 23) (L' := [some (.ref 87), some (.int a0), some (.int (a0 + (1 : Int32))), some (.int r2), none, none, none, none, none]) (S' := [.int a0]) (w' := w2) rfl ?_
    refine tm_i (p1 := 30) (p2 := 26) rfl (fun h3 => ?_) (fun h3 => ?_)
    · replace hs := hs.1 h3
      refine tm_go 1 (pc' := 33) (L' := [some (.ref 87), some (.int a0), some (.int (a0 + (1 : Int32))), some (.int r2), none, none, none, none, none]) (S' := [.int 4000]) (w' := w2) rfl ?_
      exact tx_Rd_readLevel_33 hr_Rd_readFactor hr_Rd_readLevel hs 
    · replace hs := hs.2 h3
      refine tm_go 2 (pc' := 33) (L' := [some (.ref 87), some (.int a0), some (.int (a0 + (1 : Int32))), some (.int r2), none, none, none, none, none]) (S' := [.int 1]) (w' := w2) rfl ?_
      exact tx_Rd_readLevel_33 hr_Rd_readFactor hr_Rd_readLevel hs 
  · replace hs := hs.2 h1
    refine tm_go 2 (pc' := 11) (L' := [some (.ref 87), some (.int a0), some (.int (a0 + (1 : Int32))), none, none, none, none, none, none]) (S' := [.int (a0 + (1 : Int32)), .ref 87]) (w' := w) rfl ?_
    refine tm_c rfl (Nat.le_of_ble_eq_true rfl) (hr_Rd_readLevel _ _ _ hs) (fun v w18 hq => ?_)
    obtain ⟨r18, rfl, hs⟩ := hq
    refine tm_go 3 (pc' := 23) (L' := [some (.ref 87), some (.int a0), some (.int (a0 + (1 : Int32))), some (.int r18), none, none, none, none, none]) (S' := [.int a0]) (w' := w18) rfl ?_
    refine tm_i (p1 := 30) (p2 := 26) rfl (fun h19 => ?_) (fun h19 => ?_)
    · replace hs := hs.1 h19
      refine tm_go 1 (pc' := 33) (L' := [some (.ref 87), some (.int a0), some (.int (a0 + (1 : Int32))), some (.int r18), none, none, none, none, none]) (S' := [.int 4000]) (w' := w18) rfl ?_
      exact tx_Rd_readLevel_33 hr_Rd_readFactor hr_Rd_readLevel hs 
    · replace hs := hs.2 h19
      refine tm_go 2 (pc' := 33) (L' := [some (.ref 87), some (.int a0), some (.int (a0 + (1 : Int32))), some (.int r18), none, none, none, none, none]) (S' := [.int 1]) (w' := w18) rfl ?_
      exact tx_Rd_readLevel_33 hr_Rd_readFactor hr_Rd_readLevel hs 
theorem da_Rd_readFactor (n : Nat) : (∀ (w : MW) (Q : Int32 → MW → Prop), pn_Rd_readFactor n w Q → Tc (n + 2) 184 [.ref 87] w (RI Q)) ∧ (∀ (w : MW) (a0 : Int32) (Q : Int32 → MW → Prop), pn_Rd_readLevel n w a0 Q → Tc (n + 2) 181 [.ref 87, .int a0] w (RI Q)) := by
  induction n with
  | zero => exact ⟨fun _ _ h => h.elim, fun _ _ _ h => h.elim⟩
  | succ n ih =>
    obtain ⟨h0, h1⟩ := ih
    exact ⟨fun _ _ h => (dmb_Rd_readFactor (d := n) h0 h1 h).le (by omega), fun _ _ _ h => (dmb_Rd_readLevel (d := n) h0 h1 h).le (by omega)⟩
theorem dm_Rd_readFactor {d : Nat} {w : MW} {Q : Int32 → MW → Prop} (hs : p_Rd_readFactor w Q) : Tc (d + 402) 184 [.ref 87] w (RI Q) := ((da_Rd_readFactor 400).1 _ _ hs).le (by omega)
theorem dm_Rd_readLevel {d : Nat} {w : MW} {a0 : Int32} {Q : Int32 → MW → Prop} (hs : p_Rd_readLevel w a0 Q) : Tc (d + 402) 181 [.ref 87, .int a0] w (RI Q) := ((da_Rd_readFactor 400).2 _ _ _ hs).le (by omega)
set_option maxHeartbeats 4000000 in
set_option maxRecDepth 100000 in
theorem dm_Rd_take {d : Nat} {w : MW} {a0 : Int32} {Q : MW → Prop} (hs : p_Rd_take w a0 Q) : Tc (d + 3) 167 [.ref 87, .int a0] w (RV Q) := by
  unfold p_Rd_take at hs
  refine tm_go 2 (pc' := 4) (L' := [some (.ref 87), some (.int a0)]) (S' := [.int (w.1 87 9)]) (w' := w) rfl ?_
  refine tm_i (p1 := 15) (p2 := 7) rfl (fun h1 => ?_) (fun h1 => ?_)
  · replace hs := hs.1 h1
    refine tm_go 1 (pc' := 16) (L' := [some (.ref 87), some (.int a0)]) (S' := [.ref 87]) (w' := w) rfl ?_
    refine tm_c rfl (Nat.le_of_ble_eq_true rfl) (dm_Rd_fail (d := d + 2) hs) (fun v w2 hq => ?_)
    obtain ⟨rfl, hs⟩ := hq
    exact tm_r rfl ⟨rfl, hs⟩
  · replace hs := hs.2 h1
    refine tm_go 3 (pc' := 12) (L' := [some (.ref 87), some (.int a0)]) (S' := [.int a0, .int (w.1 87 3)]) (w' := w) rfl ?_
    refine tm_i (p1 := 20) (p2 := 15) rfl (fun h3 => ?_) (fun h3 => ?_)
    · replace hs := hs.1 h3
      refine tm_go 1 (pc' := 21) (L' := [some (.ref 87), some (.int a0)]) (S' := [.ref 87]) (w' := w) rfl ?_
      refine tm_c rfl (Nat.le_of_ble_eq_true rfl) (dm_Rd_nextWord (d := d + 0) hs) (fun v w4 hq => ?_)
      obtain ⟨rfl, hs⟩ := hq
      exact tm_r rfl ⟨rfl, hs⟩
    · replace hs := hs.2 h3
      refine tm_go 1 (pc' := 16) (L' := [some (.ref 87), some (.int a0)]) (S' := [.ref 87]) (w' := w) rfl ?_
      refine tm_c rfl (Nat.le_of_ble_eq_true rfl) (dm_Rd_fail (d := d + 2) hs) (fun v w5 hq => ?_)
      obtain ⟨rfl, hs⟩ := hq
      exact tm_r rfl ⟨rfl, hs⟩
set_option maxHeartbeats 4000000 in
set_option maxRecDepth 100000 in
theorem tx_Rd_takeName_31 {d : Nat} {y31_1 : Int32} {ys31_0 : Int32} {z2 : Option Value} {w : MW} {Q : Int32 → MW → Prop} (hs : q_Rd_takeName_31 y31_1 ys31_0 w Q) : Tm (d + 3) 171 31 [some (.ref 87), some (.int y31_1), z2] [.int ys31_0] w (RI Q) := by
  unfold q_Rd_takeName_31 at hs
  refine tm_go 2 (pc' := 33) (L' := [some (.ref 87), some (.int y31_1), some (.int ys31_0)]) (S' := [.int ys31_0]) (w' := w) rfl ?_
  refine tm_i (p1 := 49) (p2 := 36) rfl (fun h2 => ?_) (fun h2 => ?_)
  · replace hs := hs.1 h2
    refine tm_go 1 (pc' := 50) (L' := [some (.ref 87), some (.int y31_1), some (.int ys31_0)]) (S' := [.ref 87]) (w' := w) rfl ?_
    refine tm_c rfl (Nat.le_of_ble_eq_true rfl) (dm_Rd_fail (d := d + 2) hs) (fun v w3 hq => ?_)
    obtain ⟨rfl, hs⟩ := hq
    refine tm_go 1 (pc' := 54) (L' := [some (.ref 87), some (.int y31_1), some (.int ys31_0)]) (S' := [.int (-1)]) (w' := w3) rfl ?_
    exact tm_r rfl ⟨_, rfl, hs⟩
  · replace hs := hs.2 h2
    refine tm_go 1 (pc' := 37) (L' := [some (.ref 87), some (.int y31_1), some (.int ys31_0)]) (S' := [.ref 87]) (w' := w) rfl ?_
    obtain ⟨b4, hs⟩ := hs
    refine tm_g (pc' := 40) (k := 87) (j := 1) rfl b4 ?_
    refine tm_go 2 (pc' := 44) (L' := [some (.ref 87), some (.int y31_1), some (.int ys31_0)]) (S' := [.int ys31_0, .ref 117]) (w' := w) rfl ?_
    obtain ⟨b5, hs⟩ := hs
    refine tm_k (pc' := 45) (L' := [some (.ref 87), some (.int y31_1), some (.int ys31_0)]) (S' := [.int (w.1 117 ys31_0.toInt.toNat)]) (w' := w) rfl b5 ?_
    refine tm_go 1 (pc' := 46) (L' := [some (.ref 87), some (.int y31_1), some (.int ys31_0)]) (S' := [.int y31_1, .int (w.1 117 ys31_0.toInt.toNat)]) (w' := w) rfl ?_
    refine tm_i (p1 := 55) (p2 := 49) rfl (fun h6 => ?_) (fun h6 => ?_)
    · replace hs := hs.1 h6
      refine tm_go 1 (pc' := 56) (L' := [some (.ref 87), some (.int y31_1), some (.int ys31_0)]) (S' := [.ref 87]) (w' := w) rfl ?_
      refine tm_c rfl (Nat.le_of_ble_eq_true rfl) (dm_Rd_nextWord (d := d + 0) hs) (fun v w7 hq => ?_)
      obtain ⟨rfl, hs⟩ := hq
      refine tm_go 1 (pc' := 60) (L' := [some (.ref 87), some (.int y31_1), some (.int ys31_0)]) (S' := [.int ys31_0]) (w' := w7) rfl ?_
      exact tm_r rfl ⟨_, rfl, hs⟩
    · replace hs := hs.2 h6
      refine tm_go 1 (pc' := 50) (L' := [some (.ref 87), some (.int y31_1), some (.int ys31_0)]) (S' := [.ref 87]) (w' := w) rfl ?_
      refine tm_c rfl (Nat.le_of_ble_eq_true rfl) (dm_Rd_fail (d := d + 2) hs) (fun v w8 hq => ?_)
      obtain ⟨rfl, hs⟩ := hq
      refine tm_go 1 (pc' := 54) (L' := [some (.ref 87), some (.int y31_1), some (.int ys31_0)]) (S' := [.int (-1)]) (w' := w8) rfl ?_
      exact tm_r rfl ⟨_, rfl, hs⟩
set_option maxHeartbeats 4000000 in
set_option maxRecDepth 100000 in
theorem dm_Rd_takeName {d : Nat} {w : MW} {a0 : Int32} {Q : Int32 → MW → Prop} (hs : p_Rd_takeName w a0 Q) : Tc (d + 3) 171 [.ref 87, .int a0] w (RI Q) := by
  unfold p_Rd_takeName at hs
  refine tm_go 2 (pc' := 4) (L' := [some (.ref 87), some (.int a0), none]) (S' := [.int (w.1 87 9)]) (w' := w) rfl ?_
  refine tm_i (p1 := 30) (p2 := 7) rfl (fun h1 => ?_) (fun h1 => ?_)
  · replace hs := hs.1 h1
    refine tm_go 1 (pc' := 31) (L' := [some (.ref 87), some (.int a0), none]) (S' := [.int (-1)]) (w' := w) rfl ?_
    exact tx_Rd_takeName_31 hs 
  · replace hs := hs.2 h1
    refine tm_go 3 (pc' := 13) (L' := [some (.ref 87), some (.int a0), none]) (S' := [.int 30, .int (w.1 87 3)]) (w' := w) rfl ?_
    refine tm_i (p1 := 30) (p2 := 16) rfl (fun h9 => ?_) (fun h9 => ?_)
    · replace hs := hs.1 h9
      refine tm_go 1 (pc' := 31) (L' := [some (.ref 87), some (.int a0), none]) (S' := [.int (-1)]) (w' := w) rfl ?_
      exact tx_Rd_takeName_31 hs 
    · replace hs := hs.2 h9
      refine tm_go 1 (pc' := 17) (L' := [some (.ref 87), some (.int a0), none]) (S' := [.ref 87]) (w' := w) rfl ?_
      obtain ⟨b10, hs⟩ := hs
      refine tm_g (pc' := 20) (k := 87) (j := 1) rfl b10 ?_
      refine tm_go 2 (pc' := 24) (L' := [some (.ref 87), some (.int a0), none]) (S' := [.long (w.2.1 87 5), .ref 108]) (w' := w) rfl ?_
      refine tm_c rfl (Nat.le_of_ble_eq_true rfl) (dm_Pr_finds108 (d := d + 2) hs) (fun v w11 hq => ?_)
      obtain ⟨r11, rfl, hs⟩ := hq
      refine tm_go 1 (pc' := 31) (L' := [some (.ref 87), some (.int a0), none]) (S' := [.int r11]) (w' := w11) rfl ?_
      exact tx_Rd_takeName_31 hs 
set_option maxHeartbeats 4000000 in
set_option maxRecDepth 100000 in
theorem tx_Rd_readChange_38 {d : Nat} {y38_1 : Int32} {y38_2 : Int32} {y38_3 : Int32} {ys38_0 : Int32} {ys38_1 : Int32} {z4 : Option Value} {w : MW} {Q : Int32 → MW → Prop} (hs : q_Rd_readChange_38 y38_1 y38_2 y38_3 ys38_0 ys38_1 w Q) : Tm (d + 403) 174 38 [some (.ref 87), some (.int y38_1), some (.int y38_2), some (.int y38_3), z4] [.int ys38_0, .int ys38_1, .ref 87] w (RI Q) := by
  unfold q_Rd_readChange_38 at hs
  refine tm_c rfl (Nat.le_of_ble_eq_true rfl) (dm_Rd_demand (d := d + 401) hs) (fun v w7 hq => ?_)
  obtain ⟨rfl, hs⟩ := hq
  refine tm_go 1 (pc' := 42) (L' := [some (.ref 87), some (.int y38_1), some (.int y38_2), some (.int y38_3), z4]) (S' := [.ref 87]) (w' := w7) rfl ?_
  obtain ⟨b8, hs⟩ := hs
  refine tm_g (pc' := 45) (k := 87) (j := 1) rfl b8 ?_
  refine tm_go 4 (pc' := 53) (L' := [some (.ref 87), some (.int y38_1), some (.int y38_2), some (.int y38_3), some (.int (w7.1 108 1))]) (S' := [.int 14, .int y38_1]) (w' := w7) rfl ?_
  refine tm_i (p1 := 72) (p2 := 56) rfl (fun h9 => ?_) (fun h9 => ?_)
  · replace hs := hs.1 h9
    refine tm_go 2 (pc' := 75) (L' := [some (.ref 87), some (.int y38_1), some (.int y38_2), some (.int y38_3), some (.int (w7.1 108 1))]) (S' := [.int 59, .ref 87]) (w' := w7) rfl ?_
    refine tm_c rfl (Nat.le_of_ble_eq_true rfl) (dm_Rd_take (d := d + 399) hs) (fun v w10 hq => ?_)
    obtain ⟨rfl, hs⟩ := hq
    refine tm_go 4 (pc' := 82) (L' := [some (.ref 87), some (.int y38_1), some (.int y38_2), some (.int y38_3), some (.int (w7.1 108 1))]) (S' := [.int y38_2, .int y38_1, .ref 87, .ref 87]) (w' := w10) rfl ?_
    refine tm_c rfl (Nat.le_of_ble_eq_true rfl) (dm_Rd_makeNode (d := d + 401) hs) (fun v w11 hq => ?_)
    obtain ⟨r11, rfl, hs⟩ := hq
    refine tm_go 2 (pc' := 88) (L' := [some (.ref 87), some (.int y38_1), some (.int y38_2), some (.int y38_3), some (.int (w7.1 108 1))]) (S' := [.int (w7.1 108 1), .int y38_3, .int r11, .ref 87]) (w' := w11) rfl ?_
    refine tm_c rfl (Nat.le_of_ble_eq_true rfl) (dm_Rd_giveRange (d := d + 402) hs) (fun v w12 hq => ?_)
    obtain ⟨r12, rfl, hs⟩ := hq
    exact tm_r rfl ⟨_, rfl, hs⟩
  · replace hs := hs.2 h9
    refine tm_go 2 (pc' := 59) (L' := [some (.ref 87), some (.int y38_1), some (.int y38_2), some (.int y38_3), some (.int (w7.1 108 1))]) (S' := [.int 15, .ref 87]) (w' := w7) rfl ?_
    refine tm_c rfl (Nat.le_of_ble_eq_true rfl) (dm_Rd_take (d := d + 399) hs) (fun v w13 hq => ?_)
    obtain ⟨rfl, hs⟩ := hq
    refine tm_go 3 (pc' := 65) (L' := [some (.ref 87), some (.int y38_1), some (.int y38_2), some (.int y38_3), some (.int (w7.1 108 1))]) (S' := [.int 1, .ref 87, .ref 87]) (w' := w13) rfl ?_
    refine tm_c rfl (Nat.le_of_ble_eq_true rfl) (dm_Rd_readLevel (d := d + 0) hs) (fun v w14 hq => ?_)
    obtain ⟨r14, rfl, hs⟩ := hq
    refine tm_go 1 (pc' := 69) (L' := [some (.ref 87), some (.int y38_1), some (.int y38_2), some (.int y38_3), some (.int (w7.1 108 1))]) (S' := [.int 3, .int r14, .ref 87]) (w' := w14) rfl ?_
    refine tm_c rfl (Nat.le_of_ble_eq_true rfl) (dm_Rd_demand (d := d + 401) hs) (fun v w15 hq => ?_)
    obtain ⟨rfl, hs⟩ := hq
    refine tm_go 2 (pc' := 75) (L' := [some (.ref 87), some (.int y38_1), some (.int y38_2), some (.int y38_3), some (.int (w7.1 108 1))]) (S' := [.int 59, .ref 87]) (w' := w15) rfl ?_
    refine tm_c rfl (Nat.le_of_ble_eq_true rfl) (dm_Rd_take (d := d + 399) hs) (fun v w16 hq => ?_)
    obtain ⟨rfl, hs⟩ := hq
    refine tm_go 4 (pc' := 82) (L' := [some (.ref 87), some (.int y38_1), some (.int y38_2), some (.int y38_3), some (.int (w7.1 108 1))]) (S' := [.int y38_2, .int y38_1, .ref 87, .ref 87]) (w' := w16) rfl ?_
    refine tm_c rfl (Nat.le_of_ble_eq_true rfl) (dm_Rd_makeNode (d := d + 401) hs) (fun v w17 hq => ?_)
    obtain ⟨r17, rfl, hs⟩ := hq
    refine tm_go 2 (pc' := 88) (L' := [some (.ref 87), some (.int y38_1), some (.int y38_2), some (.int y38_3), some (.int (w7.1 108 1))]) (S' := [.int (w7.1 108 1), .int y38_3, .int r17, .ref 87]) (w' := w17) rfl ?_
    refine tm_c rfl (Nat.le_of_ble_eq_true rfl) (dm_Rd_giveRange (d := d + 402) hs) (fun v w18 hq => ?_)
    obtain ⟨r18, rfl, hs⟩ := hq
    exact tm_r rfl ⟨_, rfl, hs⟩
set_option maxHeartbeats 4000000 in
set_option maxRecDepth 100000 in
theorem dm_Rd_readChange {d : Nat} {w : MW} {a0 : Int32} {Q : Int32 → MW → Prop} (hs : p_Rd_readChange w a0 Q) : Tc (d + 403) 174 [.ref 87, .int a0] w (RI Q) := by
  unfold p_Rd_readChange at hs
  refine tm_go 2 (pc' := 3) (L' := [some (.ref 87), some (.int a0), none, none, none]) (S' := [.int 9, .ref 87]) (w' := w) rfl ?_
  refine tm_c rfl (Nat.le_of_ble_eq_true rfl) (dm_Rd_takeName (d := d + 399) hs) (fun v w1 hq => ?_)
  obtain ⟨r1, rfl, hs⟩ := hq
  refine tm_go 2 (pc' := 8) (L' := [some (.ref 87), some (.int a0), some (.int r1), none, none]) (S' := [.ref 87]) (w' := w1) rfl ?_
  obtain ⟨b2, hs⟩ := hs
  refine tm_g (pc' := 11) (k := 87) (j := 1) rfl b2 ?_
  refine tm_go 5 (pc' := 18) (L' := [some (.ref 87), some (.int a0), some (.int r1), some (.int (w1.1 108 1)), none]) (S' := [.int 1, .ref 87, .ref 87]) (w' := w1) rfl ?_
  refine tm_c rfl (Nat.le_of_ble_eq_true rfl) (dm_Rd_readLevel (d := d + 0) hs) (fun v w3 hq => ?_)
  obtain ⟨r3, rfl, hs⟩ := hq
  refine tm_go 1 (pc' := 22) (L' := [some (.ref 87), some (.int a0), some (.int r1), some (.int (w1.1 108 1)), none]) (S' := [.int r1, .int r3, .ref 87]) (w' := w3) rfl ?_
  refine tm_i (p1 := 29) (p2 := 25) rfl (fun h4 => ?_) (fun h4 => ?_)
  · replace hs := hs.1 h4
    refine tm_go 1 (pc' := 30) (L' := [some (.ref 87), some (.int a0), some (.int r1), some (.int (w1.1 108 1)), none]) (S' := [.ref 87, .int r3, .ref 87]) (w' := w3) rfl ?_
    obtain ⟨b5, hs⟩ := hs
    refine tm_g (pc' := 33) (k := 87) (j := 1) rfl b5 ?_
    refine tm_go 2 (pc' := 37) (L' := [some (.ref 87), some (.int a0), some (.int r1), some (.int (w1.1 108 1)), none]) (S' := [.int r1, .ref 118, .int r3, .ref 87]) (w' := w3) rfl ?_
    obtain ⟨b6, hs⟩ := hs
    refine tm_k (pc' := 38) (L' := [some (.ref 87), some (.int a0), some (.int r1), some (.int (w1.1 108 1)), none]) (S' := [.int (w3.1 118 r1.toInt.toNat), .int r3, .ref 87]) (w' := w3) rfl b6 ?_
    exact tx_Rd_readChange_38 hs 
  · replace hs := hs.2 h4
    refine tm_go 2 (pc' := 38) (L' := [some (.ref 87), some (.int a0), some (.int r1), some (.int (w1.1 108 1)), none]) (S' := [.int 0, .int r3, .ref 87]) (w' := w3) rfl ?_
    exact tx_Rd_readChange_38 hs 
set_option maxHeartbeats 4000000 in
set_option maxRecDepth 100000 in
theorem tx_Rd_readPause_33 {d : Nat} {y33_1 : Int32} {y33_2 : Int32} {z3 : Option Value} {w : MW} {Q : Int32 → MW → Prop} (hs : q_Rd_readPause_33 y33_1 y33_2 w Q) : Tm (d + 403) 177 33 [some (.ref 87), some (.int y33_1), some (.int y33_2), z3] [] w (RI Q) := by
  unfold q_Rd_readPause_33 at hs
  refine tm_go 1 (pc' := 34) (L' := [some (.ref 87), some (.int y33_1), some (.int y33_2), z3]) (S' := [.ref 87]) (w' := w) rfl ?_
  obtain ⟨b4, hs⟩ := hs
  refine tm_g (pc' := 37) (k := 87) (j := 1) rfl b4 ?_
  refine tm_go 4 (pc' := 44) (L' := [some (.ref 87), some (.int y33_1), some (.int y33_2), some (.int (w.1 108 1))]) (S' := [.int 59, .ref 87]) (w' := w) rfl ?_
  refine tm_c rfl (Nat.le_of_ble_eq_true rfl) (dm_Rd_take (d := d + 399) hs) (fun v w5 hq => ?_)
  obtain ⟨rfl, hs⟩ := hq
  refine tm_go 4 (pc' := 51) (L' := [some (.ref 87), some (.int y33_1), some (.int y33_2), some (.int (w.1 108 1))]) (S' := [.int 0, .int y33_1, .ref 87, .ref 87]) (w' := w5) rfl ?_
  refine tm_c rfl (Nat.le_of_ble_eq_true rfl) (dm_Rd_makeNode (d := d + 401) hs) (fun v w6 hq => ?_)
  obtain ⟨r6, rfl, hs⟩ := hq
  refine tm_go 2 (pc' := 56) (L' := [some (.ref 87), some (.int y33_1), some (.int y33_2), some (.int (w.1 108 1))]) (S' := [.int (w.1 108 1), .int y33_2, .int r6, .ref 87]) (w' := w6) rfl ?_
  refine tm_c rfl (Nat.le_of_ble_eq_true rfl) (dm_Rd_giveRange (d := d + 402) hs) (fun v w7 hq => ?_)
  obtain ⟨r7, rfl, hs⟩ := hq
  exact tm_r rfl ⟨_, rfl, hs⟩
set_option maxHeartbeats 4000000 in
set_option maxRecDepth 100000 in
theorem dm_Rd_readPause {d : Nat} {w : MW} {a0 : Int32} {Q : Int32 → MW → Prop} (hs : p_Rd_readPause w a0 Q) : Tc (d + 403) 177 [.ref 87, .int a0] w (RI Q) := by
  unfold p_Rd_readPause at hs
  refine tm_go 1 (pc' := 1) (L' := [some (.ref 87), some (.int a0), none, none]) (S' := [.ref 87]) (w' := w) rfl ?_
  obtain ⟨b1, hs⟩ := hs
  refine tm_g (pc' := 4) (k := 87) (j := 1) rfl b1 ?_
  refine tm_go 4 (pc' := 11) (L' := [some (.ref 87), some (.int a0), some (.int (w.1 108 1)), none]) (S' := [.int 12, .int a0]) (w' := w) rfl ?_
  refine tm_i (p1 := 27) (p2 := 14) rfl (fun h2 => ?_) (fun h2 => ?_)
  · replace hs := hs.1 h2
    refine tm_go 2 (pc' := 29) (L' := [some (.ref 87), some (.int a0), some (.int (w.1 108 1)), none]) (S' := [.int 0, .ref 87]) (w' := w) rfl ?_
    refine tm_c rfl (Nat.le_of_ble_eq_true rfl) (dm_Rd_readLevel (d := d + 0) hs) (fun v w3 hq => ?_)
    obtain ⟨r3, rfl, hs⟩ := hq
    refine tm_go 1 (pc' := 33) (L' := [some (.ref 87), some (.int a0), some (.int (w.1 108 1)), none]) (S' := []) (w' := w3) rfl ?_
    exact tx_Rd_readPause_33 hs 
  · replace hs := hs.2 h2
    refine tm_go 3 (pc' := 17) (L' := [some (.ref 87), some (.int a0), some (.int (w.1 108 1)), none]) (S' := [.int 1, .ref 87, .ref 87]) (w' := w) rfl ?_
    refine tm_c rfl (Nat.le_of_ble_eq_true rfl) (dm_Rd_readLevel (d := d + 0) hs) (fun v w8 hq => ?_)
    obtain ⟨r8, rfl, hs⟩ := hq
    refine tm_go 1 (pc' := 21) (L' := [some (.ref 87), some (.int a0), some (.int (w.1 108 1)), none]) (S' := [.int 3, .int r8, .ref 87]) (w' := w8) rfl ?_
    refine tm_c rfl (Nat.le_of_ble_eq_true rfl) (dm_Rd_demand (d := d + 401) hs) (fun v w9 hq => ?_)
    obtain ⟨rfl, hs⟩ := hq
    refine tm_go 1 (pc' := 33) (L' := [some (.ref 87), some (.int a0), some (.int (w.1 108 1)), none]) (S' := []) (w' := w9) rfl ?_
    exact tx_Rd_readPause_33 hs 
set_option maxHeartbeats 4000000 in
set_option maxRecDepth 100000 in
theorem tx_Rd_readShort_87 {d : Nat} {y87_1 : Int32} {y87_2 : Int32} {z3 : Option Value} {w : MW} {Q : Int32 → MW → Prop} (hs : q_Rd_readShort_87 y87_1 y87_2 w Q) : Tm (d + 4) 180 87 [some (.ref 87), some (.int y87_1), some (.int y87_2), z3] [] w (RI Q) := by
  unfold q_Rd_readShort_87 at hs
  refine tm_go 2 (pc' := 90) (L' := [some (.ref 87), some (.int y87_1), some (.int y87_2), z3]) (S' := [.int 59, .ref 87]) (w' := w) rfl ?_
  refine tm_c rfl (Nat.le_of_ble_eq_true rfl) (dm_Rd_take (d := d + 0) hs) (fun v w4 hq => ?_)
  obtain ⟨rfl, hs⟩ := hq
  refine tm_go 3 (pc' := 96) (L' := [some (.ref 87), some (.int y87_1), some (.int y87_2), z3]) (S' := [.int y87_2, .int y87_1, .ref 87]) (w' := w4) rfl ?_
  refine tm_c rfl (Nat.le_of_ble_eq_true rfl) (dm_Rd_makeNode (d := d + 2) hs) (fun v w5 hq => ?_)
  obtain ⟨r5, rfl, hs⟩ := hq
  refine tm_go 3 (pc' := 103) (L' := [some (.ref 87), some (.int y87_1), some (.int y87_2), some (.int r5)]) (S' := [.int 23, .int y87_1]) (w' := w5) rfl ?_
  refine tm_i (p1 := 158) (p2 := 106) rfl (fun h6 => ?_) (fun h6 => ?_)
  · replace hs := hs.1 h6
    refine tm_go 1 (pc' := 159) (L' := [some (.ref 87), some (.int y87_1), some (.int y87_2), some (.int r5)]) (S' := [.int r5]) (w' := w5) rfl ?_
    exact tm_r rfl ⟨_, rfl, hs⟩
  · replace hs := hs.2 h6
    refine tm_go 1 (pc' := 107) (L' := [some (.ref 87), some (.int y87_1), some (.int y87_2), some (.int r5)]) (S' := [.int y87_2]) (w' := w5) rfl ?_
    refine tm_i (p1 := 158) (p2 := 110) rfl (fun h7 => ?_) (fun h7 => ?_)
    · replace hs := hs.1 h7
      refine tm_go 1 (pc' := 159) (L' := [some (.ref 87), some (.int y87_1), some (.int y87_2), some (.int r5)]) (S' := [.int r5]) (w' := w5) rfl ?_
      exact tm_r rfl ⟨_, rfl, hs⟩
    · replace hs := hs.2 h7
      refine tm_go 7 (pc' := 121) (L' := [some (.ref 87), some (.int y87_1), some (.int y87_2), some (.int r5)]) (S' := [.ref 87, .ref 88, .int 1, .int r5, .ref 88]) (w' := w5) rfl ?_
      obtain ⟨b8, hs⟩ := hs
      refine tm_g (pc' := 124) (k := 87) (j := 1) rfl b8 ?_
      refine tm_go 2 (pc' := 128) (L' := [some (.ref 87), some (.int y87_1), some (.int y87_2), some (.int r5)]) (S' := [.int y87_2, .ref 119, .ref 88, .int 1, .int r5, .ref 88]) (w' := w5) rfl ?_
      obtain ⟨b9, hs⟩ := hs
      refine tm_k (pc' := 129) (L' := [some (.ref 87), some (.int y87_1), some (.int y87_2), some (.int r5)]) (S' := [.int (w5.1 119 y87_2.toInt.toNat), .ref 88, .int 1, .int r5, .ref 88]) (w' := w5) rfl b9 ?_
      obtain ⟨b10, hs⟩ := hs
      refine tm_k (pc' := 130) (L' := [some (.ref 87), some (.int y87_1), some (.int y87_2), some (.int r5)]) (S' := [.int (w5.1 88 ((w5.1 119 y87_2.toInt.toNat).toInt.toNat)), .int 1, .int r5, .ref 88]) (w' := w5) rfl b10 ?_
      refine tm_go 2 (pc' := 134) (L' := [some (.ref 87), some (.int y87_1), some (.int y87_2), some (.int r5)]) (S' := [.int 501, .int ((1 : Int32) + (w5.1 88 ((w5.1 119 y87_2.toInt.toNat).toInt.toNat))), .int r5, .ref 88]) (w' := w5) rfl ?_
      refine tm_c rfl (Nat.le_of_ble_eq_true rfl) (dm_Ma_min (d := d + 3) hs) (fun v w11 hq => ?_)
      obtain ⟨r11, rfl, hs⟩ := hq
      obtain ⟨b12, hs⟩ := hs
      refine tm_k (pc' := 138) (L' := [some (.ref 87), some (.int y87_1), some (.int y87_2), some (.int r5)]) (S' := []) (w' := (sI w11 88 r5.toInt.toNat r11)) rfl b12 ?_
      refine tm_go 6 (pc' := 148) (L' := [some (.ref 87), some (.int y87_1), some (.int y87_2), some (.int r5)]) (S' := [.ref 87, .ref 89, .int r5, .ref 89]) (w' := (sI w11 88 r5.toInt.toNat r11)) rfl ?_
      obtain ⟨b13, hs⟩ := hs
      refine tm_g (pc' := 151) (k := 87) (j := 1) rfl b13 ?_
      refine tm_go 2 (pc' := 155) (L' := [some (.ref 87), some (.int y87_1), some (.int y87_2), some (.int r5)]) (S' := [.int y87_2, .ref 119, .ref 89, .int r5, .ref 89]) (w' := (sI w11 88 r5.toInt.toNat r11)) rfl ?_
      obtain ⟨b14, hs⟩ := hs
      refine tm_k (pc' := 156) (L' := [some (.ref 87), some (.int y87_1), some (.int y87_2), some (.int r5)]) (S' := [.int (w11.1 119 y87_2.toInt.toNat), .ref 89, .int r5, .ref 89]) (w' := (sI w11 88 r5.toInt.toNat r11)) rfl b14 ?_
      obtain ⟨b15, hs⟩ := hs
      refine tm_k (pc' := 157) (L' := [some (.ref 87), some (.int y87_1), some (.int y87_2), some (.int r5)]) (S' := [.int (w11.1 89 ((w11.1 119 y87_2.toInt.toNat).toInt.toNat)), .int r5, .ref 89]) (w' := (sI w11 88 r5.toInt.toNat r11)) rfl b15 ?_
      obtain ⟨b16, hs⟩ := hs
      refine tm_k (pc' := 158) (L' := [some (.ref 87), some (.int y87_1), some (.int y87_2), some (.int r5)]) (S' := []) (w' := (sI (sI w11 88 r5.toInt.toNat r11) 89 r5.toInt.toNat (w11.1 89 ((w11.1 119 y87_2.toInt.toNat).toInt.toNat)))) rfl b16 ?_
      refine tm_go 1 (pc' := 159) (L' := [some (.ref 87), some (.int y87_1), some (.int y87_2), some (.int r5)]) (S' := [.int r5]) (w' := (sI (sI w11 88 r5.toInt.toNat r11) 89 r5.toInt.toNat (w11.1 89 ((w11.1 119 y87_2.toInt.toNat).toInt.toNat)))) rfl ?_
      exact tm_r rfl ⟨_, rfl, hs⟩
set_option maxHeartbeats 4000000 in
set_option maxRecDepth 100000 in
theorem dm_Rd_readShort {d : Nat} {w : MW} {a0 : Int32} {Q : Int32 → MW → Prop} (hs : p_Rd_readShort w a0 Q) : Tc (d + 4) 180 [.ref 87, .int a0] w (RI Q) := by
  unfold p_Rd_readShort at hs
  refine tm_go 4 (pc' := 5) (L' := [some (.ref 87), some (.int a0), some (.int 0), none]) (S' := [.int 22, .int a0]) (w' := w) rfl ?_
  refine tm_i (p1 := 18) (p2 := 8) rfl (fun h1 => ?_) (fun h1 => ?_)
  · replace hs := hs.1 h1
    refine tm_go 2 (pc' := 21) (L' := [some (.ref 87), some (.int a0), some (.int 0), none]) (S' := [.int 23, .int a0]) (w' := w) rfl ?_
    refine tm_i (p1 := 34) (p2 := 24) rfl (fun h2 => ?_) (fun h2 => ?_)
    · replace hs := hs.1 h2
      refine tm_go 2 (pc' := 37) (L' := [some (.ref 87), some (.int a0), some (.int 0), none]) (S' := [.int 26, .int a0]) (w' := w) rfl ?_
      refine tm_i (p1 := 87) (p2 := 40) rfl (fun h3 => ?_) (fun h3 => ?_)
      · replace hs := hs.1 h3
        exact tx_Rd_readShort_87 hs 
      · replace hs := hs.2 h3
        refine tm_go 3 (pc' := 46) (L' := [some (.ref 87), some (.int a0), some (.int 0), none]) (S' := [.int 31, .int (w.1 87 3)]) (w' := w) rfl ?_
        refine tm_i (p1 := 67) (p2 := 49) rfl (fun h17 => ?_) (fun h17 => ?_)
        · replace hs := hs.1 h17
          refine tm_go 1 (pc' := 68) (L' := [some (.ref 87), some (.int a0), some (.int 0), none]) (S' := [.ref 87]) (w' := w) rfl ?_
          refine tm_c rfl (Nat.le_of_ble_eq_true rfl) (dm_Rd_fail (d := d + 3) hs) (fun v w18 hq => ?_)
          obtain ⟨rfl, hs⟩ := hq
          refine tm_go 8 (pc' := 84) (L' := [some (.ref 87), some (.int a0), some (.int (Int64.toInt32 ((w18.2.1 87 6) / (1000 : Int64)))), none]) (S' := [.int 31, .ref 87]) (w' := w18) rfl ?_
          refine tm_c rfl (Nat.le_of_ble_eq_true rfl) (dm_Rd_take (d := d + 0) hs) (fun v w19 hq => ?_)
          obtain ⟨rfl, hs⟩ := hq
          exact tx_Rd_readShort_87 hs 
        · replace hs := hs.2 h17
          refine tm_go 2 (pc' := 53) (L' := [some (.ref 87), some (.int a0), some (.int 0), none]) (S' := [.int (w.1 87 7)]) (w' := w) rfl ?_
          refine tm_i (p1 := 67) (p2 := 56) rfl (fun h20 => ?_) (fun h20 => ?_)
          · replace hs := hs.1 h20
            refine tm_go 1 (pc' := 68) (L' := [some (.ref 87), some (.int a0), some (.int 0), none]) (S' := [.ref 87]) (w' := w) rfl ?_
            refine tm_c rfl (Nat.le_of_ble_eq_true rfl) (dm_Rd_fail (d := d + 3) hs) (fun v w21 hq => ?_)
            obtain ⟨rfl, hs⟩ := hq
            refine tm_go 8 (pc' := 84) (L' := [some (.ref 87), some (.int a0), some (.int (Int64.toInt32 ((w21.2.1 87 6) / (1000 : Int64)))), none]) (S' := [.int 31, .ref 87]) (w' := w21) rfl ?_
            refine tm_c rfl (Nat.le_of_ble_eq_true rfl) (dm_Rd_take (d := d + 0) hs) (fun v w22 hq => ?_)
            obtain ⟨rfl, hs⟩ := hq
            exact tx_Rd_readShort_87 hs 
          · replace hs := hs.2 h20
            refine tm_go 4 (pc' := 64) (L' := [some (.ref 87), some (.int a0), some (.int 0), none]) (S' := [.int (lg_cmp (w.2.1 87 6) (31000 : Int64))]) (w' := w) rfl ?_
            refine tm_i (p1 := 71) (p2 := 67) rfl (fun h23 => ?_) (fun h23 => ?_)
            · replace hs := hs.1 h23
              refine tm_go 8 (pc' := 84) (L' := [some (.ref 87), some (.int a0), some (.int (Int64.toInt32 ((w.2.1 87 6) / (1000 : Int64)))), none]) (S' := [.int 31, .ref 87]) (w' := w) rfl ?_
              refine tm_c rfl (Nat.le_of_ble_eq_true rfl) (dm_Rd_take (d := d + 0) hs) (fun v w24 hq => ?_)
              obtain ⟨rfl, hs⟩ := hq
              exact tx_Rd_readShort_87 hs 
            · replace hs := hs.2 h23
              refine tm_go 1 (pc' := 68) (L' := [some (.ref 87), some (.int a0), some (.int 0), none]) (S' := [.ref 87]) (w' := w) rfl ?_
              refine tm_c rfl (Nat.le_of_ble_eq_true rfl) (dm_Rd_fail (d := d + 3) hs) (fun v w25 hq => ?_)
              obtain ⟨rfl, hs⟩ := hq
              refine tm_go 8 (pc' := 84) (L' := [some (.ref 87), some (.int a0), some (.int (Int64.toInt32 ((w25.2.1 87 6) / (1000 : Int64)))), none]) (S' := [.int 31, .ref 87]) (w' := w25) rfl ?_
              refine tm_c rfl (Nat.le_of_ble_eq_true rfl) (dm_Rd_take (d := d + 0) hs) (fun v w26 hq => ?_)
              obtain ⟨rfl, hs⟩ := hq
              exact tx_Rd_readShort_87 hs 
    · replace hs := hs.2 h2
      refine tm_go 2 (pc' := 27) (L' := [some (.ref 87), some (.int a0), some (.int 0), none]) (S' := [.int 10, .ref 87]) (w' := w) rfl ?_
      refine tm_c rfl (Nat.le_of_ble_eq_true rfl) (dm_Rd_takeName (d := d + 0) hs) (fun v w27 hq => ?_)
      obtain ⟨r27, rfl, hs⟩ := hq
      refine tm_go 2 (pc' := 87) (L' := [some (.ref 87), some (.int a0), some (.int r27), none]) (S' := []) (w' := w27) rfl ?_
      exact tx_Rd_readShort_87 hs 
  · replace hs := hs.2 h1
    refine tm_go 2 (pc' := 11) (L' := [some (.ref 87), some (.int a0), some (.int 0), none]) (S' := [.int 8, .ref 87]) (w' := w) rfl ?_
    refine tm_c rfl (Nat.le_of_ble_eq_true rfl) (dm_Rd_takeName (d := d + 0) hs) (fun v w28 hq => ?_)
    obtain ⟨r28, rfl, hs⟩ := hq
    refine tm_go 2 (pc' := 87) (L' := [some (.ref 87), some (.int a0), some (.int r28), none]) (S' := []) (w' := w28) rfl ?_
    exact tx_Rd_readShort_87 hs 
set_option maxHeartbeats 4000000 in
set_option maxRecDepth 100000 in
theorem tx_Rd_readBlock_57 {d : Nat} {r_Rd_readBlock : MW → (Int32 → MW → Prop) → Prop} {r_Rd_readGuarded : MW → Int32 → (Int32 → MW → Prop) → Prop} {r_Rd_readPar : MW → (Int32 → MW → Prop) → Prop} {r_Rd_readStatement : MW → (Int32 → MW → Prop) → Prop} (hr_Rd_readBlock : ∀ (w : MW) (Q : Int32 → MW → Prop), r_Rd_readBlock w Q → Tc (d + 403) 172 [.ref 87] w (RI Q)) (hr_Rd_readGuarded : ∀ (w : MW) (a0 : Int32) (Q : Int32 → MW → Prop), r_Rd_readGuarded w a0 Q → Tc (d + 403) 179 [.ref 87, .int a0] w (RI Q)) (hr_Rd_readPar : ∀ (w : MW) (Q : Int32 → MW → Prop), r_Rd_readPar w Q → Tc (d + 403) 178 [.ref 87] w (RI Q)) (hr_Rd_readStatement : ∀ (w : MW) (Q : Int32 → MW → Prop), r_Rd_readStatement w Q → Tc (d + 403) 173 [.ref 87] w (RI Q)) {E : Int32 → Int32 → Int32 → MW → Prop} {Q : Int32 → MW → Prop} (n : Nat) : ∀ (x57_1 : Int32) (x57_2 : Int32) (x57_3 : Int32) (x57_4 : Int32) (x57_5 : Int32)  (z6 : Option Value) (w : MW), q_Rd_readBlock_57 r_Rd_readBlock r_Rd_readGuarded r_Rd_readPar r_Rd_readStatement  E Q n x57_1 x57_2 x57_3 x57_4 x57_5 w → (∀ (e57_1 : Int32) (e57_3 : Int32) (e57_4 : Int32)  (v2 : Option Value) (v5 : Option Value) (v6 : Option Value) (w : MW), E e57_1 e57_3 e57_4 w → Tm (d + 404) 172 147 [some (.ref 87), some (.int e57_1), v2, some (.int e57_3), some (.int e57_4), v5, v6] [] w (RI Q)) → Tm (d + 404) 172 57 [some (.ref 87), some (.int x57_1), some (.int x57_2), some (.int x57_3), some (.int x57_4), some (.int x57_5), z6] [] w (RI Q) := by
  induction n with
  | zero => intro x57_1 x57_2 x57_3 x57_4 x57_5 z6 w hs; rw [q_Rd_readBlock_57.eq_1] at hs; exact hs.elim
  | succ n ih =>
    intro x57_1 x57_2 x57_3 x57_4 x57_5 z6 w hs hE
    rw [q_Rd_readBlock_57.eq_2] at hs
    refine tm_go 2 (pc' := 62) (L' := [some (.ref 87), some (.int x57_1), some (.int x57_2), some (.int x57_3), some (.int x57_4), some (.int x57_5), z6]) (S' := [.int 4000, .int x57_5]) (w' := w) rfl ?_
    refine tm_i (p1 := 147) (p2 := 65) rfl (fun h7 => ?_) (fun h7 => ?_)
    · replace hs := hs.1 h7
      exact hE _ _ _ _ _ _ _ hs
    · replace hs := hs.2 h7
      refine tm_go 2 (pc' := 69) (L' := [some (.ref 87), some (.int x57_1), some (.int x57_2), some (.int x57_3), some (.int x57_4), some (.int x57_5), z6]) (S' := [.int (w.1 87 9)]) (w' := w) rfl ?_
      refine tm_i (p1 := 147) (p2 := 72) rfl (fun h8 => ?_) (fun h8 => ?_)
      · replace hs := hs.1 h8
        exact hE _ _ _ _ _ _ _ hs
      · replace hs := hs.2 h8
        refine tm_go 3 (pc' := 78) (L' := [some (.ref 87), some (.int x57_1), some (.int x57_2), some (.int x57_3), some (.int x57_4), some (.int x57_5), z6]) (S' := [.int 125, .int (w.1 87 3)]) (w' := w) rfl ?_
        refine tm_i (p1 := 147) (p2 := 81) rfl (fun h9 => ?_) (fun h9 => ?_)
        · replace hs := hs.1 h9
          exact hE _ _ _ _ _ _ _ hs
        · replace hs := hs.2 h9
          refine tm_go 1 (pc' := 82) (L' := [some (.ref 87), some (.int x57_1), some (.int x57_2), some (.int x57_3), some (.int x57_4), some (.int x57_5), z6]) (S' := [.ref 87]) (w' := w) rfl ?_
          refine tm_c rfl (Nat.le_of_ble_eq_true rfl) (hr_Rd_readStatement _ _ hs) (fun v w10 hq => ?_)
          obtain ⟨r10, rfl, hs⟩ := hq
          refine tm_go 5 (pc' := 94) (L' := [some (.ref 87), some (.int x57_1), some (.int x57_2), some (.int x57_3), some (.int x57_4), some (.int x57_5), some (.int r10)]) (S' := [.int r10, .ref 88, .int x57_3]) (w' := w10) rfl ?_
          obtain ⟨b11, hs⟩ := hs
          refine tm_k (pc' := 95) (L' := [some (.ref 87), some (.int x57_1), some (.int x57_2), some (.int x57_3), some (.int x57_4), some (.int x57_5), some (.int r10)]) (S' := [.int (w10.1 88 r10.toInt.toNat), .int x57_3]) (w' := w10) rfl b11 ?_
          refine tm_go 2 (pc' := 99) (L' := [some (.ref 87), some (.int x57_1), some (.int x57_2), some (.int x57_3), some (.int x57_4), some (.int x57_5), some (.int r10)]) (S' := [.int 501, .int (x57_3 + (w10.1 88 r10.toInt.toNat))]) (w' := w10) rfl ?_
          refine tm_c rfl (Nat.le_of_ble_eq_true rfl) (dm_Ma_min (d := d + 403) hs) (fun v w12 hq => ?_)
          obtain ⟨r12, rfl, hs⟩ := hq
          refine tm_go 5 (pc' := 111) (L' := [some (.ref 87), some (.int x57_1), some (.int x57_2), some (.int r12), some (.int x57_4), some (.int x57_5), some (.int r10)]) (S' := [.int r10, .ref 89, .int x57_4]) (w' := w12) rfl ?_
          obtain ⟨b13, hs⟩ := hs
          refine tm_k (pc' := 112) (L' := [some (.ref 87), some (.int x57_1), some (.int x57_2), some (.int r12), some (.int x57_4), some (.int x57_5), some (.int r10)]) (S' := [.int (w12.1 89 r10.toInt.toNat), .int x57_4]) (w' := w12) rfl b13 ?_
          refine tm_c rfl (Nat.le_of_ble_eq_true rfl) (dm_Ma_max (d := d + 403) hs) (fun v w14 hq => ?_)
          obtain ⟨r14, rfl, hs⟩ := hq
          refine tm_go 2 (pc' := 118) (L' := [some (.ref 87), some (.int x57_1), some (.int x57_2), some (.int r12), some (.int r14), some (.int x57_5), some (.int r10)]) (S' := [.int x57_2]) (w' := w14) rfl ?_
          refine tm_i (p1 := 127) (p2 := 121) rfl (fun h15 => ?_) (fun h15 => ?_)
          · replace hs := hs.1 h15
            refine tm_go 1 (pc' := 128) (L' := [some (.ref 87), some (.int x57_1), some (.int x57_2), some (.int r12), some (.int r14), some (.int x57_5), some (.int r10)]) (S' := [.ref 87]) (w' := w14) rfl ?_
            obtain ⟨b16, hs⟩ := hs
            refine tm_g (pc' := 131) (k := 87) (j := 1) rfl b16 ?_
            refine tm_go 3 (pc' := 137) (L' := [some (.ref 87), some (.int x57_1), some (.int x57_2), some (.int r12), some (.int r14), some (.int x57_5), some (.int r10)]) (S' := [.int r10, .int x57_2, .ref 114]) (w' := w14) rfl ?_
            obtain ⟨b17, hs⟩ := hs
            refine tm_k (pc' := 138) (L' := [some (.ref 87), some (.int x57_1), some (.int x57_2), some (.int r12), some (.int r14), some (.int x57_5), some (.int r10)]) (S' := []) (w' := (sI w14 114 x57_2.toInt.toNat r10)) rfl b17 ?_
            refine tm_go 4 (pc' := 57) (L' := [some (.ref 87), some (.int x57_1), some (.int r10), some (.int r12), some (.int r14), some (.int (x57_5 + (1 : Int32))), some (.int r10)]) (S' := []) (w' := (sI w14 114 x57_2.toInt.toNat r10)) rfl ?_
            exact ih _ _ _ _ _ _ _ hs hE
          · replace hs := hs.2 h15
            refine tm_go 7 (pc' := 57) (L' := [some (.ref 87), some (.int r10), some (.int r10), some (.int r12), some (.int r14), some (.int (x57_5 + (1 : Int32))), some (.int r10)]) (S' := []) (w' := w14) rfl ?_
            exact ih _ _ _ _ _ _ _ hs hE
set_option maxHeartbeats 4000000 in
set_option maxRecDepth 100000 in
theorem dmb_Rd_readBlock {d : Nat} {r_Rd_readBlock : MW → (Int32 → MW → Prop) → Prop} {r_Rd_readGuarded : MW → Int32 → (Int32 → MW → Prop) → Prop} {r_Rd_readPar : MW → (Int32 → MW → Prop) → Prop} {r_Rd_readStatement : MW → (Int32 → MW → Prop) → Prop} (hr_Rd_readBlock : ∀ (w : MW) (Q : Int32 → MW → Prop), r_Rd_readBlock w Q → Tc (d + 403) 172 [.ref 87] w (RI Q)) (hr_Rd_readGuarded : ∀ (w : MW) (a0 : Int32) (Q : Int32 → MW → Prop), r_Rd_readGuarded w a0 Q → Tc (d + 403) 179 [.ref 87, .int a0] w (RI Q)) (hr_Rd_readPar : ∀ (w : MW) (Q : Int32 → MW → Prop), r_Rd_readPar w Q → Tc (d + 403) 178 [.ref 87] w (RI Q)) (hr_Rd_readStatement : ∀ (w : MW) (Q : Int32 → MW → Prop), r_Rd_readStatement w Q → Tc (d + 403) 173 [.ref 87] w (RI Q)) {w : MW} {Q : Int32 → MW → Prop} (hs : pb_Rd_readBlock r_Rd_readBlock r_Rd_readGuarded r_Rd_readPar r_Rd_readStatement w Q) : Tc (d + 404) 172 [.ref 87] w (RI Q) := by
  unfold pb_Rd_readBlock at hs
  refine tm_go 2 (pc' := 4) (L' := [some (.ref 87), none, none, none, none, none, none]) (S' := [.int (w.1 87 9)]) (w' := w) rfl ?_
  refine tm_i (p1 := 25) (p2 := 7) rfl (fun h1 => ?_) (fun h1 => ?_)
  · replace hs := hs.1 h1
    refine tm_go 1 (pc' := 26) (L' := [some (.ref 87), none, none, none, none, none, none]) (S' := [.ref 87]) (w' := w) rfl ?_
    refine tm_c rfl (Nat.le_of_ble_eq_true rfl) (dm_Rd_fail (d := d + 403) hs) (fun v w2 hq => ?_)
    obtain ⟨rfl, hs⟩ := hq
    refine tm_go 1 (pc' := 30) (L' := [some (.ref 87), none, none, none, none, none, none]) (S' := [.int 0]) (w' := w2) rfl ?_
    exact tm_r rfl ⟨_, rfl, hs⟩
  · replace hs := hs.2 h1
    refine tm_go 3 (pc' := 13) (L' := [some (.ref 87), none, none, none, none, none, none]) (S' := [.int 123, .int (w.1 87 3)]) (w' := w) rfl ?_
    refine tm_i (p1 := 25) (p2 := 16) rfl (fun h3 => ?_) (fun h3 => ?_)
    · replace hs := hs.1 h3
      refine tm_go 1 (pc' := 26) (L' := [some (.ref 87), none, none, none, none, none, none]) (S' := [.ref 87]) (w' := w) rfl ?_
      refine tm_c rfl (Nat.le_of_ble_eq_true rfl) (dm_Rd_fail (d := d + 403) hs) (fun v w4 hq => ?_)
      obtain ⟨rfl, hs⟩ := hq
      refine tm_go 1 (pc' := 30) (L' := [some (.ref 87), none, none, none, none, none, none]) (S' := [.int 0]) (w' := w4) rfl ?_
      exact tm_r rfl ⟨_, rfl, hs⟩
    · replace hs := hs.2 h3
      refine tm_go 3 (pc' := 22) (L' := [some (.ref 87), none, none, none, none, none, none]) (S' := [.int 20, .int (w.1 87 8)]) (w' := w) rfl ?_
      refine tm_i (p1 := 31) (p2 := 25) rfl (fun h5 => ?_) (fun h5 => ?_)
      · replace hs := hs.1 h5
        refine tm_go 7 (pc' := 42) (L' := [some (.ref 87), none, none, none, none, none, none]) (S' := [.ref 87]) (w' := (sI w 87 8 ((w.1 87 8) + (1 : Int32)))) rfl ?_
        refine tm_c rfl (Nat.le_of_ble_eq_true rfl) (dm_Rd_nextWord (d := d + 401) hs) (fun v w6 hq => ?_)
        obtain ⟨rfl, hs⟩ := hq
        refine tm_go 10 (pc' := 57) (L' := [some (.ref 87), some (.int (-1)), some (.int (-1)), some (.int 1), some (.int 0), some (.int 0), none]) (S' := []) (w' := w6) rfl ?_
        refine tx_Rd_readBlock_57 hr_Rd_readBlock hr_Rd_readGuarded hr_Rd_readPar hr_Rd_readStatement FU _ _ _ _ _ _ _ hs (fun e57_1_18 e57_3_18 e57_4_18 z18_2 z18_5 z18_6 w18 hs => ?_)
        refine tm_go 2 (pc' := 150) (L' := [some (.ref 87), some (.int e57_1_18), z18_2, some (.int e57_3_18), some (.int e57_4_18), z18_5, z18_6]) (S' := [.int 125, .ref 87]) (w' := w18) rfl ?_
        refine tm_c rfl (Nat.le_of_ble_eq_true rfl) (dm_Rd_take (d := d + 400) hs) (fun v w19 hq => ?_)
        obtain ⟨rfl, hs⟩ := hq
        refine tm_go 9 (pc' := 167) (L' := [some (.ref 87), some (.int e57_1_18), z18_2, some (.int e57_3_18), some (.int e57_4_18), z18_5, z18_6]) (S' := [.int 0, .int 35, .ref 87]) (w' := (sI w19 87 8 ((w19.1 87 8) - (1 : Int32)))) rfl ?_
        refine tm_c rfl (Nat.le_of_ble_eq_true rfl) (dm_Rd_makeNode (d := d + 402) hs) (fun v w20 hq => ?_)
        obtain ⟨r20, rfl, hs⟩ := hq
        refine tm_go 2 (pc' := 173) (L' := [some (.ref 87), some (.int e57_1_18), z18_2, some (.int e57_3_18), some (.int e57_4_18), some (.int r20), z18_6]) (S' := [.ref 87]) (w' := w20) rfl ?_
        obtain ⟨b21, hs⟩ := hs
        refine tm_g (pc' := 176) (k := 87) (j := 1) rfl b21 ?_
        refine tm_go 3 (pc' := 182) (L' := [some (.ref 87), some (.int e57_1_18), z18_2, some (.int e57_3_18), some (.int e57_4_18), some (.int r20), z18_6]) (S' := [.int e57_1_18, .int r20, .ref 113]) (w' := w20) rfl ?_
        obtain ⟨b22, hs⟩ := hs
        refine tm_k (pc' := 183) (L' := [some (.ref 87), some (.int e57_1_18), z18_2, some (.int e57_3_18), some (.int e57_4_18), some (.int r20), z18_6]) (S' := []) (w' := (sI w20 113 r20.toInt.toNat e57_1_18)) rfl b22 ?_
        refine tm_go 4 (pc' := 190) (L' := [some (.ref 87), some (.int e57_1_18), z18_2, some (.int e57_3_18), some (.int e57_4_18), some (.int r20), z18_6]) (S' := [.int e57_3_18, .int r20, .ref 88]) (w' := (sI w20 113 r20.toInt.toNat e57_1_18)) rfl ?_
        obtain ⟨b23, hs⟩ := hs
        refine tm_k (pc' := 191) (L' := [some (.ref 87), some (.int e57_1_18), z18_2, some (.int e57_3_18), some (.int e57_4_18), some (.int r20), z18_6]) (S' := []) (w' := (sI (sI w20 113 r20.toInt.toNat e57_1_18) 88 r20.toInt.toNat e57_3_18)) rfl b23 ?_
        refine tm_go 6 (pc' := 201) (L' := [some (.ref 87), some (.int e57_1_18), z18_2, some (.int e57_3_18), some (.int e57_4_18), some (.int r20), z18_6]) (S' := [.int (e57_4_18 + (1 : Int32)), .int r20, .ref 89]) (w' := (sI (sI w20 113 r20.toInt.toNat e57_1_18) 88 r20.toInt.toNat e57_3_18)) rfl ?_
        obtain ⟨b24, hs⟩ := hs
        refine tm_k (pc' := 202) (L' := [some (.ref 87), some (.int e57_1_18), z18_2, some (.int e57_3_18), some (.int e57_4_18), some (.int r20), z18_6]) (S' := []) (w' := (sI (sI (sI w20 113 r20.toInt.toNat e57_1_18) 88 r20.toInt.toNat e57_3_18) 89 r20.toInt.toNat (e57_4_18 + (1 : Int32)))) rfl b24 ?_
        refine tm_go 1 (pc' := 204) (L' := [some (.ref 87), some (.int e57_1_18), z18_2, some (.int e57_3_18), some (.int e57_4_18), some (.int r20), z18_6]) (S' := [.int r20]) (w' := (sI (sI (sI w20 113 r20.toInt.toNat e57_1_18) 88 r20.toInt.toNat e57_3_18) 89 r20.toInt.toNat (e57_4_18 + (1 : Int32)))) rfl ?_
        exact tm_r rfl ⟨_, rfl, hs⟩
      · replace hs := hs.2 h5
        refine tm_go 1 (pc' := 26) (L' := [some (.ref 87), none, none, none, none, none, none]) (S' := [.ref 87]) (w' := w) rfl ?_
        refine tm_c rfl (Nat.le_of_ble_eq_true rfl) (dm_Rd_fail (d := d + 403) hs) (fun v w25 hq => ?_)
        obtain ⟨rfl, hs⟩ := hq
        refine tm_go 1 (pc' := 30) (L' := [some (.ref 87), none, none, none, none, none, none]) (S' := [.int 0]) (w' := w25) rfl ?_
        exact tm_r rfl ⟨_, rfl, hs⟩
set_option maxHeartbeats 4000000 in
set_option maxRecDepth 100000 in
theorem tx_Rd_readGuarded_163 {d : Nat} {r_Rd_readBlock : MW → (Int32 → MW → Prop) → Prop} {r_Rd_readGuarded : MW → Int32 → (Int32 → MW → Prop) → Prop} {r_Rd_readPar : MW → (Int32 → MW → Prop) → Prop} {r_Rd_readStatement : MW → (Int32 → MW → Prop) → Prop} (hr_Rd_readBlock : ∀ (w : MW) (Q : Int32 → MW → Prop), r_Rd_readBlock w Q → Tc (d + 403) 172 [.ref 87] w (RI Q)) (hr_Rd_readGuarded : ∀ (w : MW) (a0 : Int32) (Q : Int32 → MW → Prop), r_Rd_readGuarded w a0 Q → Tc (d + 403) 179 [.ref 87, .int a0] w (RI Q)) (hr_Rd_readPar : ∀ (w : MW) (Q : Int32 → MW → Prop), r_Rd_readPar w Q → Tc (d + 403) 178 [.ref 87] w (RI Q)) (hr_Rd_readStatement : ∀ (w : MW) (Q : Int32 → MW → Prop), r_Rd_readStatement w Q → Tc (d + 403) 173 [.ref 87] w (RI Q)) {y163_4 : Int32} {y163_5 : Int32} {y163_6 : Int32} {ys163_0 : Int32} {ys163_1 : Int32} {ys163_2 : Int32} {z1 : Option Value} {z2 : Option Value} {z3 : Option Value} {w : MW} {Q : Int32 → MW → Prop} (hs : q_Rd_readGuarded_163 r_Rd_readBlock r_Rd_readGuarded r_Rd_readPar r_Rd_readStatement y163_4 y163_5 y163_6 ys163_0 ys163_1 ys163_2 w Q) : Tm (d + 404) 179 163 [some (.ref 87), z1, z2, z3, some (.int y163_4), some (.int y163_5), some (.int y163_6)] [.int ys163_0, .int ys163_1, .int ys163_2, .ref 88] w (RI Q) := by
  unfold q_Rd_readGuarded_163 at hs
  refine tm_go 2 (pc' := 167) (L' := [some (.ref 87), z1, z2, z3, some (.int y163_4), some (.int y163_5), some (.int y163_6)]) (S' := [.int 501, .int (ys163_1 + ys163_0), .int ys163_2, .ref 88]) (w' := w) rfl ?_
  refine tm_c rfl (Nat.le_of_ble_eq_true rfl) (dm_Ma_min (d := d + 403) hs) (fun v w19 hq => ?_)
  obtain ⟨r19, rfl, hs⟩ := hq
  obtain ⟨b20, hs⟩ := hs
  refine tm_k (pc' := 171) (L' := [some (.ref 87), z1, z2, z3, some (.int y163_4), some (.int y163_5), some (.int y163_6)]) (S' := []) (w' := (sI w19 88 ys163_2.toInt.toNat r19)) rfl b20 ?_
  refine tm_go 6 (pc' := 183) (L' := [some (.ref 87), z1, z2, z3, some (.int y163_4), some (.int y163_5), some (.int y163_6)]) (S' := [.int y163_4, .ref 89, .int y163_6, .ref 89]) (w' := (sI w19 88 ys163_2.toInt.toNat r19)) rfl ?_
  obtain ⟨b21, hs⟩ := hs
  refine tm_k (pc' := 184) (L' := [some (.ref 87), z1, z2, z3, some (.int y163_4), some (.int y163_5), some (.int y163_6)]) (S' := [.int (w19.1 89 y163_4.toInt.toNat), .int y163_6, .ref 89]) (w' := (sI w19 88 ys163_2.toInt.toNat r19)) rfl b21 ?_
  refine tm_go 1 (pc' := 186) (L' := [some (.ref 87), z1, z2, z3, some (.int y163_4), some (.int y163_5), some (.int y163_6)]) (S' := [.int y163_5, .int (w19.1 89 y163_4.toInt.toNat), .int y163_6, .ref 89]) (w' := (sI w19 88 ys163_2.toInt.toNat r19)) rfl ?_
  refine tm_i (p1 := 193) (p2 := 189) rfl (fun h22 => ?_) (fun h22 => ?_)
  · replace hs := hs.1 h22
    refine tm_go 3 (pc' := 199) (L' := [some (.ref 87), z1, z2, z3, some (.int y163_4), some (.int y163_5), some (.int y163_6)]) (S' := [.int y163_5, .ref 89, .int (w19.1 89 y163_4.toInt.toNat), .int y163_6, .ref 89]) (w' := (sI w19 88 ys163_2.toInt.toNat r19)) rfl ?_
    obtain ⟨b23, hs⟩ := hs
    refine tm_k (pc' := 200) (L' := [some (.ref 87), z1, z2, z3, some (.int y163_4), some (.int y163_5), some (.int y163_6)]) (S' := [.int (w19.1 89 y163_5.toInt.toNat), .int (w19.1 89 y163_4.toInt.toNat), .int y163_6, .ref 89]) (w' := (sI w19 88 ys163_2.toInt.toNat r19)) rfl b23 ?_
    refine tm_c rfl (Nat.le_of_ble_eq_true rfl) (dm_Ma_max (d := d + 403) hs) (fun v w24 hq => ?_)
    obtain ⟨r24, rfl, hs⟩ := hq
    obtain ⟨b25, hs⟩ := hs
    refine tm_k (pc' := 204) (L' := [some (.ref 87), z1, z2, z3, some (.int y163_4), some (.int y163_5), some (.int y163_6)]) (S' := []) (w' := (sI w24 89 y163_6.toInt.toNat r24)) rfl b25 ?_
    refine tm_go 1 (pc' := 206) (L' := [some (.ref 87), z1, z2, z3, some (.int y163_4), some (.int y163_5), some (.int y163_6)]) (S' := [.int y163_6]) (w' := (sI w24 89 y163_6.toInt.toNat r24)) rfl ?_
    exact tm_r rfl ⟨_, rfl, hs⟩
  · replace hs := hs.2 h22
    refine tm_go 2 (pc' := 200) (L' := [some (.ref 87), z1, z2, z3, some (.int y163_4), some (.int y163_5), some (.int y163_6)]) (S' := [.int 0, .int (w19.1 89 y163_4.toInt.toNat), .int y163_6, .ref 89]) (w' := (sI w19 88 ys163_2.toInt.toNat r19)) rfl ?_
    refine tm_c rfl (Nat.le_of_ble_eq_true rfl) (dm_Ma_max (d := d + 403) hs) (fun v w26 hq => ?_)
    obtain ⟨r26, rfl, hs⟩ := hq
    obtain ⟨b27, hs⟩ := hs
    refine tm_k (pc' := 204) (L' := [some (.ref 87), z1, z2, z3, some (.int y163_4), some (.int y163_5), some (.int y163_6)]) (S' := []) (w' := (sI w26 89 y163_6.toInt.toNat r26)) rfl b27 ?_
    refine tm_go 1 (pc' := 206) (L' := [some (.ref 87), z1, z2, z3, some (.int y163_4), some (.int y163_5), some (.int y163_6)]) (S' := [.int y163_6]) (w' := (sI w26 89 y163_6.toInt.toNat r26)) rfl ?_
    exact tm_r rfl ⟨_, rfl, hs⟩
set_option maxHeartbeats 4000000 in
set_option maxRecDepth 100000 in
theorem tx_Rd_readGuarded_94 {d : Nat} {r_Rd_readBlock : MW → (Int32 → MW → Prop) → Prop} {r_Rd_readGuarded : MW → Int32 → (Int32 → MW → Prop) → Prop} {r_Rd_readPar : MW → (Int32 → MW → Prop) → Prop} {r_Rd_readStatement : MW → (Int32 → MW → Prop) → Prop} (hr_Rd_readBlock : ∀ (w : MW) (Q : Int32 → MW → Prop), r_Rd_readBlock w Q → Tc (d + 403) 172 [.ref 87] w (RI Q)) (hr_Rd_readGuarded : ∀ (w : MW) (a0 : Int32) (Q : Int32 → MW → Prop), r_Rd_readGuarded w a0 Q → Tc (d + 403) 179 [.ref 87, .int a0] w (RI Q)) (hr_Rd_readPar : ∀ (w : MW) (Q : Int32 → MW → Prop), r_Rd_readPar w Q → Tc (d + 403) 178 [.ref 87] w (RI Q)) (hr_Rd_readStatement : ∀ (w : MW) (Q : Int32 → MW → Prop), r_Rd_readStatement w Q → Tc (d + 403) 173 [.ref 87] w (RI Q)) {y94_1 : Int32} {y94_2 : Int32} {y94_3 : Int32} {y94_4 : Int32} {y94_5 : Int32} {z6 : Option Value} {w : MW} {Q : Int32 → MW → Prop} (hs : q_Rd_readGuarded_94 r_Rd_readBlock r_Rd_readGuarded r_Rd_readPar r_Rd_readStatement y94_1 y94_2 y94_3 y94_4 y94_5 w Q) : Tm (d + 404) 179 94 [some (.ref 87), some (.int y94_1), some (.int y94_2), some (.int y94_3), some (.int y94_4), some (.int y94_5), z6] [] w (RI Q) := by
  unfold q_Rd_readGuarded_94 at hs
  refine tm_go 4 (pc' := 98) (L' := [some (.ref 87), some (.int y94_1), some (.int y94_2), some (.int y94_3), some (.int y94_4), some (.int y94_5), z6]) (S' := [.int 0, .int y94_1, .ref 87, .ref 87]) (w' := w) rfl ?_
  refine tm_c rfl (Nat.le_of_ble_eq_true rfl) (dm_Rd_makeNode (d := d + 402) hs) (fun v w10 hq => ?_)
  obtain ⟨r10, rfl, hs⟩ := hq
  refine tm_go 2 (pc' := 103) (L' := [some (.ref 87), some (.int y94_1), some (.int y94_2), some (.int y94_3), some (.int y94_4), some (.int y94_5), z6]) (S' := [.int y94_3, .int y94_2, .int r10, .ref 87]) (w' := w10) rfl ?_
  refine tm_c rfl (Nat.le_of_ble_eq_true rfl) (dm_Rd_giveRange (d := d + 403) hs) (fun v w11 hq => ?_)
  obtain ⟨r11, rfl, hs⟩ := hq
  refine tm_go 2 (pc' := 109) (L' := [some (.ref 87), some (.int y94_1), some (.int y94_2), some (.int y94_3), some (.int y94_4), some (.int y94_5), some (.int r11)]) (S' := [.ref 87]) (w' := w11) rfl ?_
  obtain ⟨b12, hs⟩ := hs
  refine tm_g (pc' := 112) (k := 87) (j := 1) rfl b12 ?_
  refine tm_go 3 (pc' := 119) (L' := [some (.ref 87), some (.int y94_1), some (.int y94_2), some (.int y94_3), some (.int y94_4), some (.int y94_5), some (.int r11)]) (S' := [.int y94_4, .int r11, .ref 113]) (w' := w11) rfl ?_
  obtain ⟨b13, hs⟩ := hs
  refine tm_k (pc' := 120) (L' := [some (.ref 87), some (.int y94_1), some (.int y94_2), some (.int y94_3), some (.int y94_4), some (.int y94_5), some (.int r11)]) (S' := []) (w' := (sI w11 113 r11.toInt.toNat y94_4)) rfl b13 ?_
  refine tm_go 1 (pc' := 121) (L' := [some (.ref 87), some (.int y94_1), some (.int y94_2), some (.int y94_3), some (.int y94_4), some (.int y94_5), some (.int r11)]) (S' := [.ref 87]) (w' := (sI w11 113 r11.toInt.toNat y94_4)) rfl ?_
  obtain ⟨b14, hs⟩ := hs
  refine tm_g (pc' := 124) (k := 87) (j := 1) rfl b14 ?_
  refine tm_go 3 (pc' := 131) (L' := [some (.ref 87), some (.int y94_1), some (.int y94_2), some (.int y94_3), some (.int y94_4), some (.int y94_5), some (.int r11)]) (S' := [.int y94_5, .int y94_4, .ref 114]) (w' := (sI w11 113 r11.toInt.toNat y94_4)) rfl ?_
  obtain ⟨b15, hs⟩ := hs
  refine tm_k (pc' := 132) (L' := [some (.ref 87), some (.int y94_1), some (.int y94_2), some (.int y94_3), some (.int y94_4), some (.int y94_5), some (.int r11)]) (S' := []) (w' := (sI (sI w11 113 r11.toInt.toNat y94_4) 114 y94_4.toInt.toNat y94_5)) rfl b15 ?_
  refine tm_go 7 (pc' := 145) (L' := [some (.ref 87), some (.int y94_1), some (.int y94_2), some (.int y94_3), some (.int y94_4), some (.int y94_5), some (.int r11)]) (S' := [.int y94_4, .ref 88, .int 1, .int r11, .ref 88]) (w' := (sI (sI w11 113 r11.toInt.toNat y94_4) 114 y94_4.toInt.toNat y94_5)) rfl ?_
  obtain ⟨b16, hs⟩ := hs
  refine tm_k (pc' := 146) (L' := [some (.ref 87), some (.int y94_1), some (.int y94_2), some (.int y94_3), some (.int y94_4), some (.int y94_5), some (.int r11)]) (S' := [.int (w11.1 88 y94_4.toInt.toNat), .int 1, .int r11, .ref 88]) (w' := (sI (sI w11 113 r11.toInt.toNat y94_4) 114 y94_4.toInt.toNat y94_5)) rfl b16 ?_
  refine tm_go 2 (pc' := 149) (L' := [some (.ref 87), some (.int y94_1), some (.int y94_2), some (.int y94_3), some (.int y94_4), some (.int y94_5), some (.int r11)]) (S' := [.int y94_5, .int ((1 : Int32) + (w11.1 88 y94_4.toInt.toNat)), .int r11, .ref 88]) (w' := (sI (sI w11 113 r11.toInt.toNat y94_4) 114 y94_4.toInt.toNat y94_5)) rfl ?_
  refine tm_i (p1 := 156) (p2 := 152) rfl (fun h17 => ?_) (fun h17 => ?_)
  · replace hs := hs.1 h17
    refine tm_go 3 (pc' := 162) (L' := [some (.ref 87), some (.int y94_1), some (.int y94_2), some (.int y94_3), some (.int y94_4), some (.int y94_5), some (.int r11)]) (S' := [.int y94_5, .ref 88, .int ((1 : Int32) + (w11.1 88 y94_4.toInt.toNat)), .int r11, .ref 88]) (w' := (sI (sI w11 113 r11.toInt.toNat y94_4) 114 y94_4.toInt.toNat y94_5)) rfl ?_
    obtain ⟨b18, hs⟩ := hs
    refine tm_k (pc' := 163) (L' := [some (.ref 87), some (.int y94_1), some (.int y94_2), some (.int y94_3), some (.int y94_4), some (.int y94_5), some (.int r11)]) (S' := [.int (w11.1 88 y94_5.toInt.toNat), .int ((1 : Int32) + (w11.1 88 y94_4.toInt.toNat)), .int r11, .ref 88]) (w' := (sI (sI w11 113 r11.toInt.toNat y94_4) 114 y94_4.toInt.toNat y94_5)) rfl b18 ?_
    exact tx_Rd_readGuarded_163 hr_Rd_readBlock hr_Rd_readGuarded hr_Rd_readPar hr_Rd_readStatement hs 
  · replace hs := hs.2 h17
    refine tm_go 2 (pc' := 163) (L' := [some (.ref 87), some (.int y94_1), some (.int y94_2), some (.int y94_3), some (.int y94_4), some (.int y94_5), some (.int r11)]) (S' := [.int 0, .int ((1 : Int32) + (w11.1 88 y94_4.toInt.toNat)), .int r11, .ref 88]) (w' := (sI (sI w11 113 r11.toInt.toNat y94_4) 114 y94_4.toInt.toNat y94_5)) rfl ?_
    exact tx_Rd_readGuarded_163 hr_Rd_readBlock hr_Rd_readGuarded hr_Rd_readPar hr_Rd_readStatement hs 
set_option maxHeartbeats 4000000 in
set_option maxRecDepth 100000 in
theorem tx_Rd_readGuarded_71 {d : Nat} {r_Rd_readBlock : MW → (Int32 → MW → Prop) → Prop} {r_Rd_readGuarded : MW → Int32 → (Int32 → MW → Prop) → Prop} {r_Rd_readPar : MW → (Int32 → MW → Prop) → Prop} {r_Rd_readStatement : MW → (Int32 → MW → Prop) → Prop} (hr_Rd_readBlock : ∀ (w : MW) (Q : Int32 → MW → Prop), r_Rd_readBlock w Q → Tc (d + 403) 172 [.ref 87] w (RI Q)) (hr_Rd_readGuarded : ∀ (w : MW) (a0 : Int32) (Q : Int32 → MW → Prop), r_Rd_readGuarded w a0 Q → Tc (d + 403) 179 [.ref 87, .int a0] w (RI Q)) (hr_Rd_readPar : ∀ (w : MW) (Q : Int32 → MW → Prop), r_Rd_readPar w Q → Tc (d + 403) 178 [.ref 87] w (RI Q)) (hr_Rd_readStatement : ∀ (w : MW) (Q : Int32 → MW → Prop), r_Rd_readStatement w Q → Tc (d + 403) 173 [.ref 87] w (RI Q)) {y71_1 : Int32} {y71_2 : Int32} {y71_3 : Int32} {y71_4 : Int32} {z5 : Option Value} {z6 : Option Value} {w : MW} {Q : Int32 → MW → Prop} (hs : q_Rd_readGuarded_71 r_Rd_readBlock r_Rd_readGuarded r_Rd_readPar r_Rd_readStatement y71_1 y71_2 y71_3 y71_4 w Q) : Tm (d + 404) 179 71 [some (.ref 87), some (.int y71_1), some (.int y71_2), some (.int y71_3), some (.int y71_4), z5, z6] [] w (RI Q) := by
  unfold q_Rd_readGuarded_71 at hs
  refine tm_go 3 (pc' := 75) (L' := [some (.ref 87), some (.int y71_1), some (.int y71_2), some (.int y71_3), some (.int y71_4), z5, z6]) (S' := [.int 20, .int y71_1, .ref 87]) (w' := w) rfl ?_
  refine tm_i (p1 := 83) (p2 := 78) rfl (fun h7 => ?_) (fun h7 => ?_)
  · replace hs := hs.1 h7
    refine tm_go 1 (pc' := 85) (L' := [some (.ref 87), some (.int y71_1), some (.int y71_2), some (.int y71_3), some (.int y71_4), z5, z6]) (S' := [.int 18, .ref 87]) (w' := w) rfl ?_
    refine tm_c rfl (Nat.le_of_ble_eq_true rfl) (dm_Rd_take (d := d + 400) hs) (fun v w8 hq => ?_)
    obtain ⟨rfl, hs⟩ := hq
    refine tm_go 1 (pc' := 89) (L' := [some (.ref 87), some (.int y71_1), some (.int y71_2), some (.int y71_3), some (.int y71_4), z5, z6]) (S' := [.ref 87]) (w' := w8) rfl ?_
    refine tm_c rfl (Nat.le_of_ble_eq_true rfl) (hr_Rd_readBlock _ _ hs) (fun v w9 hq => ?_)
    obtain ⟨r9, rfl, hs⟩ := hq
    refine tm_go 1 (pc' := 94) (L' := [some (.ref 87), some (.int y71_1), some (.int y71_2), some (.int y71_3), some (.int y71_4), some (.int r9), z6]) (S' := []) (w' := w9) rfl ?_
    exact tx_Rd_readGuarded_94 hr_Rd_readBlock hr_Rd_readGuarded hr_Rd_readPar hr_Rd_readStatement hs 
  · replace hs := hs.2 h7
    refine tm_go 2 (pc' := 85) (L' := [some (.ref 87), some (.int y71_1), some (.int y71_2), some (.int y71_3), some (.int y71_4), z5, z6]) (S' := [.int 21, .ref 87]) (w' := w) rfl ?_
    refine tm_c rfl (Nat.le_of_ble_eq_true rfl) (dm_Rd_take (d := d + 400) hs) (fun v w28 hq => ?_)
    obtain ⟨rfl, hs⟩ := hq
    refine tm_go 1 (pc' := 89) (L' := [some (.ref 87), some (.int y71_1), some (.int y71_2), some (.int y71_3), some (.int y71_4), z5, z6]) (S' := [.ref 87]) (w' := w28) rfl ?_
    refine tm_c rfl (Nat.le_of_ble_eq_true rfl) (hr_Rd_readBlock _ _ hs) (fun v w29 hq => ?_)
    obtain ⟨r29, rfl, hs⟩ := hq
    refine tm_go 1 (pc' := 94) (L' := [some (.ref 87), some (.int y71_1), some (.int y71_2), some (.int y71_3), some (.int y71_4), some (.int r29), z6]) (S' := []) (w' := w29) rfl ?_
    exact tx_Rd_readGuarded_94 hr_Rd_readBlock hr_Rd_readGuarded hr_Rd_readPar hr_Rd_readStatement hs 
set_option maxHeartbeats 4000000 in
set_option maxRecDepth 100000 in
theorem tx_Rd_readGuarded_33 {d : Nat} {r_Rd_readBlock : MW → (Int32 → MW → Prop) → Prop} {r_Rd_readGuarded : MW → Int32 → (Int32 → MW → Prop) → Prop} {r_Rd_readPar : MW → (Int32 → MW → Prop) → Prop} {r_Rd_readStatement : MW → (Int32 → MW → Prop) → Prop} (hr_Rd_readBlock : ∀ (w : MW) (Q : Int32 → MW → Prop), r_Rd_readBlock w Q → Tc (d + 403) 172 [.ref 87] w (RI Q)) (hr_Rd_readGuarded : ∀ (w : MW) (a0 : Int32) (Q : Int32 → MW → Prop), r_Rd_readGuarded w a0 Q → Tc (d + 403) 179 [.ref 87, .int a0] w (RI Q)) (hr_Rd_readPar : ∀ (w : MW) (Q : Int32 → MW → Prop), r_Rd_readPar w Q → Tc (d + 403) 178 [.ref 87] w (RI Q)) (hr_Rd_readStatement : ∀ (w : MW) (Q : Int32 → MW → Prop), r_Rd_readStatement w Q → Tc (d + 403) 173 [.ref 87] w (RI Q)) {y33_1 : Int32} {y33_2 : Int32} {z3 : Option Value} {z4 : Option Value} {z5 : Option Value} {z6 : Option Value} {w : MW} {Q : Int32 → MW → Prop} (hs : q_Rd_readGuarded_33 r_Rd_readBlock r_Rd_readGuarded r_Rd_readPar r_Rd_readStatement y33_1 y33_2 w Q) : Tm (d + 404) 179 33 [some (.ref 87), some (.int y33_1), some (.int y33_2), z3, z4, z5, z6] [] w (RI Q) := by
  unfold q_Rd_readGuarded_33 at hs
  refine tm_go 1 (pc' := 34) (L' := [some (.ref 87), some (.int y33_1), some (.int y33_2), z3, z4, z5, z6]) (S' := [.ref 87]) (w' := w) rfl ?_
  obtain ⟨b4, hs⟩ := hs
  refine tm_g (pc' := 37) (k := 87) (j := 1) rfl b4 ?_
  refine tm_go 3 (pc' := 42) (L' := [some (.ref 87), some (.int y33_1), some (.int y33_2), some (.int (w.1 108 1)), z4, z5, z6]) (S' := [.ref 87]) (w' := w) rfl ?_
  refine tm_c rfl (Nat.le_of_ble_eq_true rfl) (hr_Rd_readBlock _ _ hs) (fun v w5 hq => ?_)
  obtain ⟨r5, rfl, hs⟩ := hq
  refine tm_go 5 (pc' := 53) (L' := [some (.ref 87), some (.int y33_1), some (.int y33_2), some (.int (w.1 108 1)), some (.int r5), some (.int (-1)), z6]) (S' := [.int 20, .int y33_1]) (w' := w5) rfl ?_
  refine tm_i (p1 := 71) (p2 := 56) rfl (fun h6 => ?_) (fun h6 => ?_)
  · replace hs := hs.1 h6
    exact tx_Rd_readGuarded_71 hr_Rd_readBlock hr_Rd_readGuarded hr_Rd_readPar hr_Rd_readStatement hs 
  · replace hs := hs.2 h6
    refine tm_go 2 (pc' := 59) (L' := [some (.ref 87), some (.int y33_1), some (.int y33_2), some (.int (w.1 108 1)), some (.int r5), some (.int (-1)), z6]) (S' := [.int 17, .int y33_1]) (w' := w5) rfl ?_
    refine tm_i (p1 := 94) (p2 := 62) rfl (fun h30 => ?_) (fun h30 => ?_)
    · replace hs := hs.1 h30
      exact tx_Rd_readGuarded_94 hr_Rd_readBlock hr_Rd_readGuarded hr_Rd_readPar hr_Rd_readStatement hs 
    · replace hs := hs.2 h30
      refine tm_go 3 (pc' := 68) (L' := [some (.ref 87), some (.int y33_1), some (.int y33_2), some (.int (w.1 108 1)), some (.int r5), some (.int (-1)), z6]) (S' := [.int 18, .int (w5.1 87 3)]) (w' := w5) rfl ?_
      refine tm_i (p1 := 94) (p2 := 71) rfl (fun h31 => ?_) (fun h31 => ?_)
      · replace hs := hs.1 h31
        exact tx_Rd_readGuarded_94 hr_Rd_readBlock hr_Rd_readGuarded hr_Rd_readPar hr_Rd_readStatement hs 
      · replace hs := hs.2 h31
        exact tx_Rd_readGuarded_71 hr_Rd_readBlock hr_Rd_readGuarded hr_Rd_readPar hr_Rd_readStatement hs 
set_option maxHeartbeats 4000000 in
set_option maxRecDepth 100000 in
theorem dmb_Rd_readGuarded {d : Nat} {r_Rd_readBlock : MW → (Int32 → MW → Prop) → Prop} {r_Rd_readGuarded : MW → Int32 → (Int32 → MW → Prop) → Prop} {r_Rd_readPar : MW → (Int32 → MW → Prop) → Prop} {r_Rd_readStatement : MW → (Int32 → MW → Prop) → Prop} (hr_Rd_readBlock : ∀ (w : MW) (Q : Int32 → MW → Prop), r_Rd_readBlock w Q → Tc (d + 403) 172 [.ref 87] w (RI Q)) (hr_Rd_readGuarded : ∀ (w : MW) (a0 : Int32) (Q : Int32 → MW → Prop), r_Rd_readGuarded w a0 Q → Tc (d + 403) 179 [.ref 87, .int a0] w (RI Q)) (hr_Rd_readPar : ∀ (w : MW) (Q : Int32 → MW → Prop), r_Rd_readPar w Q → Tc (d + 403) 178 [.ref 87] w (RI Q)) (hr_Rd_readStatement : ∀ (w : MW) (Q : Int32 → MW → Prop), r_Rd_readStatement w Q → Tc (d + 403) 173 [.ref 87] w (RI Q)) {w : MW} {a0 : Int32} {Q : Int32 → MW → Prop} (hs : pb_Rd_readGuarded r_Rd_readBlock r_Rd_readGuarded r_Rd_readPar r_Rd_readStatement w a0 Q) : Tc (d + 404) 179 [.ref 87, .int a0] w (RI Q) := by
  unfold pb_Rd_readGuarded at hs
  refine tm_go 1 (pc' := 1) (L' := [some (.ref 87), some (.int a0), none, none, none, none, none]) (S' := [.ref 87]) (w' := w) rfl ?_
  obtain ⟨b1, hs⟩ := hs
  refine tm_g (pc' := 4) (k := 87) (j := 1) rfl b1 ?_
  refine tm_go 4 (pc' := 11) (L' := [some (.ref 87), some (.int a0), some (.int (w.1 108 1)), none, none, none, none]) (S' := [.int 19, .int a0]) (w' := w) rfl ?_
  refine tm_i (p1 := 27) (p2 := 14) rfl (fun h2 => ?_) (fun h2 => ?_)
  · replace hs := hs.1 h2
    refine tm_go 2 (pc' := 29) (L' := [some (.ref 87), some (.int a0), some (.int (w.1 108 1)), none, none, none, none]) (S' := [.int 0, .ref 87]) (w' := w) rfl ?_
    refine tm_c rfl (Nat.le_of_ble_eq_true rfl) (dm_Rd_readLevel (d := d + 1) hs) (fun v w3 hq => ?_)
    obtain ⟨r3, rfl, hs⟩ := hq
    refine tm_go 1 (pc' := 33) (L' := [some (.ref 87), some (.int a0), some (.int (w.1 108 1)), none, none, none, none]) (S' := []) (w' := w3) rfl ?_
    exact tx_Rd_readGuarded_33 hr_Rd_readBlock hr_Rd_readGuarded hr_Rd_readPar hr_Rd_readStatement hs 
  · replace hs := hs.2 h2
    refine tm_go 3 (pc' := 17) (L' := [some (.ref 87), some (.int a0), some (.int (w.1 108 1)), none, none, none, none]) (S' := [.int 1, .ref 87, .ref 87]) (w' := w) rfl ?_
    refine tm_c rfl (Nat.le_of_ble_eq_true rfl) (dm_Rd_readLevel (d := d + 1) hs) (fun v w32 hq => ?_)
    obtain ⟨r32, rfl, hs⟩ := hq
    refine tm_go 1 (pc' := 21) (L' := [some (.ref 87), some (.int a0), some (.int (w.1 108 1)), none, none, none, none]) (S' := [.int 0, .int r32, .ref 87]) (w' := w32) rfl ?_
    refine tm_c rfl (Nat.le_of_ble_eq_true rfl) (dm_Rd_demand (d := d + 402) hs) (fun v w33 hq => ?_)
    obtain ⟨rfl, hs⟩ := hq
    refine tm_go 1 (pc' := 33) (L' := [some (.ref 87), some (.int a0), some (.int (w.1 108 1)), none, none, none, none]) (S' := []) (w' := w33) rfl ?_
    exact tx_Rd_readGuarded_33 hr_Rd_readBlock hr_Rd_readGuarded hr_Rd_readPar hr_Rd_readStatement hs 
set_option maxHeartbeats 4000000 in
set_option maxRecDepth 100000 in
theorem tx_Rd_readPar_56 {d : Nat} {r_Rd_readBlock : MW → (Int32 → MW → Prop) → Prop} {r_Rd_readGuarded : MW → Int32 → (Int32 → MW → Prop) → Prop} {r_Rd_readPar : MW → (Int32 → MW → Prop) → Prop} {r_Rd_readStatement : MW → (Int32 → MW → Prop) → Prop} (hr_Rd_readBlock : ∀ (w : MW) (Q : Int32 → MW → Prop), r_Rd_readBlock w Q → Tc (d + 403) 172 [.ref 87] w (RI Q)) (hr_Rd_readGuarded : ∀ (w : MW) (a0 : Int32) (Q : Int32 → MW → Prop), r_Rd_readGuarded w a0 Q → Tc (d + 403) 179 [.ref 87, .int a0] w (RI Q)) (hr_Rd_readPar : ∀ (w : MW) (Q : Int32 → MW → Prop), r_Rd_readPar w Q → Tc (d + 403) 178 [.ref 87] w (RI Q)) (hr_Rd_readStatement : ∀ (w : MW) (Q : Int32 → MW → Prop), r_Rd_readStatement w Q → Tc (d + 403) 173 [.ref 87] w (RI Q)) {x27_1 : Int32} {y56_2 : Int32} {y56_3 : Int32} {y56_4 : Int32} {y56_5 : Int32} {z6 : Option Value} {w : MW} {A : Int32 → Int32 → Int32 → Int32 → MW → Prop} {E : Int32 → Int32 → MW → Prop} {Q : Int32 → MW → Prop} (hs : q_Rd_readPar_56 r_Rd_readBlock r_Rd_readGuarded r_Rd_readPar r_Rd_readStatement x27_1 y56_2 y56_3 y56_4 y56_5 w A E Q) (hA : ∀ (x27_2 : Int32) (x27_3 : Int32) (x27_4 : Int32) (x27_5 : Int32)  (z6 : Option Value) (w : MW), A x27_2 x27_3 x27_4 x27_5 w → Tm (d + 404) 178 27 [some (.ref 87), some (.int x27_1), some (.int x27_2), some (.int x27_3), some (.int x27_4), some (.int x27_5), z6] [] w (RI Q)) (hE : ∀ (e27_3 : Int32) (e27_4 : Int32)  (v2 : Option Value) (v5 : Option Value) (v6 : Option Value) (w : MW), E e27_3 e27_4 w → Tm (d + 404) 178 112 [some (.ref 87), some (.int x27_1), v2, some (.int e27_3), some (.int e27_4), v5, v6] [] w (RI Q)) : Tm (d + 404) 178 56 [some (.ref 87), some (.int x27_1), some (.int y56_2), some (.int y56_3), some (.int y56_4), some (.int y56_5), z6] [] w (RI Q) := by
  unfold q_Rd_readPar_56 at hs
  refine tm_go 1 (pc' := 57) (L' := [some (.ref 87), some (.int x27_1), some (.int y56_2), some (.int y56_3), some (.int y56_4), some (.int y56_5), z6]) (S' := [.ref 87]) (w' := w) rfl ?_
  refine tm_c rfl (Nat.le_of_ble_eq_true rfl) (hr_Rd_readBlock _ _ hs) (fun v w7 hq => ?_)
  obtain ⟨r7, rfl, hs⟩ := hq
  refine tm_go 2 (pc' := 63) (L' := [some (.ref 87), some (.int x27_1), some (.int y56_2), some (.int y56_3), some (.int y56_4), some (.int y56_5), some (.int r7)]) (S' := [.ref 87]) (w' := w7) rfl ?_
  obtain ⟨b8, hs⟩ := hs
  refine tm_g (pc' := 66) (k := 87) (j := 1) rfl b8 ?_
  refine tm_go 3 (pc' := 72) (L' := [some (.ref 87), some (.int x27_1), some (.int y56_2), some (.int y56_3), some (.int y56_4), some (.int y56_5), some (.int r7)]) (S' := [.int r7, .int y56_2, .ref 114]) (w' := w7) rfl ?_
  obtain ⟨b9, hs⟩ := hs
  refine tm_k (pc' := 73) (L' := [some (.ref 87), some (.int x27_1), some (.int y56_2), some (.int y56_3), some (.int y56_4), some (.int y56_5), some (.int r7)]) (S' := []) (w' := (sI w7 114 y56_2.toInt.toNat r7)) rfl b9 ?_
  refine tm_go 6 (pc' := 83) (L' := [some (.ref 87), some (.int x27_1), some (.int r7), some (.int y56_3), some (.int y56_4), some (.int y56_5), some (.int r7)]) (S' := [.int r7, .ref 88, .int y56_3]) (w' := (sI w7 114 y56_2.toInt.toNat r7)) rfl ?_
  obtain ⟨b10, hs⟩ := hs
  refine tm_k (pc' := 84) (L' := [some (.ref 87), some (.int x27_1), some (.int r7), some (.int y56_3), some (.int y56_4), some (.int y56_5), some (.int r7)]) (S' := [.int (w7.1 88 r7.toInt.toNat), .int y56_3]) (w' := (sI w7 114 y56_2.toInt.toNat r7)) rfl b10 ?_
  refine tm_go 2 (pc' := 88) (L' := [some (.ref 87), some (.int x27_1), some (.int r7), some (.int y56_3), some (.int y56_4), some (.int y56_5), some (.int r7)]) (S' := [.int 501, .int (y56_3 + (w7.1 88 r7.toInt.toNat))]) (w' := (sI w7 114 y56_2.toInt.toNat r7)) rfl ?_
  refine tm_c rfl (Nat.le_of_ble_eq_true rfl) (dm_Ma_min (d := d + 403) hs) (fun v w11 hq => ?_)
  obtain ⟨r11, rfl, hs⟩ := hq
  refine tm_go 5 (pc' := 100) (L' := [some (.ref 87), some (.int x27_1), some (.int r7), some (.int r11), some (.int y56_4), some (.int y56_5), some (.int r7)]) (S' := [.int r7, .ref 89, .int y56_4]) (w' := w11) rfl ?_
  obtain ⟨b12, hs⟩ := hs
  refine tm_k (pc' := 101) (L' := [some (.ref 87), some (.int x27_1), some (.int r7), some (.int r11), some (.int y56_4), some (.int y56_5), some (.int r7)]) (S' := [.int (w11.1 89 r7.toInt.toNat), .int y56_4]) (w' := w11) rfl b12 ?_
  refine tm_c rfl (Nat.le_of_ble_eq_true rfl) (dm_Ma_max (d := d + 403) hs) (fun v w13 hq => ?_)
  obtain ⟨r13, rfl, hs⟩ := hq
  refine tm_go 3 (pc' := 27) (L' := [some (.ref 87), some (.int x27_1), some (.int r7), some (.int r11), some (.int r13), some (.int (y56_5 + (1 : Int32))), some (.int r7)]) (S' := []) (w' := w13) rfl ?_
  exact hA _ _ _ _ _ _ hs
set_option maxHeartbeats 4000000 in
set_option maxRecDepth 100000 in
theorem tx_Rd_readPar_27 {d : Nat} {r_Rd_readBlock : MW → (Int32 → MW → Prop) → Prop} {r_Rd_readGuarded : MW → Int32 → (Int32 → MW → Prop) → Prop} {r_Rd_readPar : MW → (Int32 → MW → Prop) → Prop} {r_Rd_readStatement : MW → (Int32 → MW → Prop) → Prop} (hr_Rd_readBlock : ∀ (w : MW) (Q : Int32 → MW → Prop), r_Rd_readBlock w Q → Tc (d + 403) 172 [.ref 87] w (RI Q)) (hr_Rd_readGuarded : ∀ (w : MW) (a0 : Int32) (Q : Int32 → MW → Prop), r_Rd_readGuarded w a0 Q → Tc (d + 403) 179 [.ref 87, .int a0] w (RI Q)) (hr_Rd_readPar : ∀ (w : MW) (Q : Int32 → MW → Prop), r_Rd_readPar w Q → Tc (d + 403) 178 [.ref 87] w (RI Q)) (hr_Rd_readStatement : ∀ (w : MW) (Q : Int32 → MW → Prop), r_Rd_readStatement w Q → Tc (d + 403) 173 [.ref 87] w (RI Q)) {x27_1 : Int32} {E : Int32 → Int32 → MW → Prop} {Q : Int32 → MW → Prop} (n : Nat) : ∀ (x27_2 : Int32) (x27_3 : Int32) (x27_4 : Int32) (x27_5 : Int32)  (z6 : Option Value) (w : MW), q_Rd_readPar_27 r_Rd_readBlock r_Rd_readGuarded r_Rd_readPar r_Rd_readStatement x27_1 E Q n x27_2 x27_3 x27_4 x27_5 w → (∀ (e27_3 : Int32) (e27_4 : Int32)  (v2 : Option Value) (v5 : Option Value) (v6 : Option Value) (w : MW), E e27_3 e27_4 w → Tm (d + 404) 178 112 [some (.ref 87), some (.int x27_1), v2, some (.int e27_3), some (.int e27_4), v5, v6] [] w (RI Q)) → Tm (d + 404) 178 27 [some (.ref 87), some (.int x27_1), some (.int x27_2), some (.int x27_3), some (.int x27_4), some (.int x27_5), z6] [] w (RI Q) := by
  induction n with
  | zero => intro x27_2 x27_3 x27_4 x27_5 z6 w hs; rw [q_Rd_readPar_27.eq_1] at hs; exact hs.elim
  | succ n ih =>
    intro x27_2 x27_3 x27_4 x27_5 z6 w hs hE
    rw [q_Rd_readPar_27.eq_2] at hs
    refine tm_go 2 (pc' := 32) (L' := [some (.ref 87), some (.int x27_1), some (.int x27_2), some (.int x27_3), some (.int x27_4), some (.int x27_5), z6]) (S' := [.int 4000, .int x27_5]) (w' := w) rfl ?_
    refine tm_i (p1 := 112) (p2 := 35) rfl (fun h4 => ?_) (fun h4 => ?_)
    · replace hs := hs.1 h4
      exact hE _ _ _ _ _ _ hs
    · replace hs := hs.2 h4
      refine tm_go 2 (pc' := 39) (L' := [some (.ref 87), some (.int x27_1), some (.int x27_2), some (.int x27_3), some (.int x27_4), some (.int x27_5), z6]) (S' := [.int (w.1 87 9)]) (w' := w) rfl ?_
      refine tm_i (p1 := 112) (p2 := 42) rfl (fun h5 => ?_) (fun h5 => ?_)
      · replace hs := hs.1 h5
        exact hE _ _ _ _ _ _ hs
      · replace hs := hs.2 h5
        refine tm_go 1 (pc' := 44) (L' := [some (.ref 87), some (.int x27_1), some (.int x27_2), some (.int x27_3), some (.int x27_4), some (.int x27_5), z6]) (S' := [.int x27_5]) (w' := w) rfl ?_
        refine tm_i (p1 := 56) (p2 := 47) rfl (fun h6 => ?_) (fun h6 => ?_)
        · replace hs := hs.1 h6
          exact tx_Rd_readPar_56 hr_Rd_readBlock hr_Rd_readGuarded hr_Rd_readPar hr_Rd_readStatement hs (fun q0 q1 q2 q3 q4 q5 hs => ih q0 q1 q2 q3 q4 q5 hs hE) hE
        · replace hs := hs.2 h6
          refine tm_go 3 (pc' := 53) (L' := [some (.ref 87), some (.int x27_1), some (.int x27_2), some (.int x27_3), some (.int x27_4), some (.int x27_5), z6]) (S' := [.int 123, .int (w.1 87 3)]) (w' := w) rfl ?_
          refine tm_i (p1 := 112) (p2 := 56) rfl (fun h14 => ?_) (fun h14 => ?_)
          · replace hs := hs.1 h14
            exact hE _ _ _ _ _ _ hs
          · replace hs := hs.2 h14
            exact tx_Rd_readPar_56 hr_Rd_readBlock hr_Rd_readGuarded hr_Rd_readPar hr_Rd_readStatement hs (fun q0 q1 q2 q3 q4 q5 hs => ih q0 q1 q2 q3 q4 q5 hs hE) hE
set_option maxHeartbeats 4000000 in
set_option maxRecDepth 100000 in
theorem dmb_Rd_readPar {d : Nat} {r_Rd_readBlock : MW → (Int32 → MW → Prop) → Prop} {r_Rd_readGuarded : MW → Int32 → (Int32 → MW → Prop) → Prop} {r_Rd_readPar : MW → (Int32 → MW → Prop) → Prop} {r_Rd_readStatement : MW → (Int32 → MW → Prop) → Prop} (hr_Rd_readBlock : ∀ (w : MW) (Q : Int32 → MW → Prop), r_Rd_readBlock w Q → Tc (d + 403) 172 [.ref 87] w (RI Q)) (hr_Rd_readGuarded : ∀ (w : MW) (a0 : Int32) (Q : Int32 → MW → Prop), r_Rd_readGuarded w a0 Q → Tc (d + 403) 179 [.ref 87, .int a0] w (RI Q)) (hr_Rd_readPar : ∀ (w : MW) (Q : Int32 → MW → Prop), r_Rd_readPar w Q → Tc (d + 403) 178 [.ref 87] w (RI Q)) (hr_Rd_readStatement : ∀ (w : MW) (Q : Int32 → MW → Prop), r_Rd_readStatement w Q → Tc (d + 403) 173 [.ref 87] w (RI Q)) {w : MW} {Q : Int32 → MW → Prop} (hs : pb_Rd_readPar r_Rd_readBlock r_Rd_readGuarded r_Rd_readPar r_Rd_readStatement w Q) : Tc (d + 404) 178 [.ref 87] w (RI Q) := by
  unfold pb_Rd_readPar at hs
  refine tm_go 1 (pc' := 1) (L' := [some (.ref 87), none, none, none, none, none, none]) (S' := [.ref 87]) (w' := w) rfl ?_
  refine tm_c rfl (Nat.le_of_ble_eq_true rfl) (hr_Rd_readBlock _ _ hs) (fun v w1 hq => ?_)
  obtain ⟨r1, rfl, hs⟩ := hq
  refine tm_go 7 (pc' := 13) (L' := [some (.ref 87), some (.int r1), some (.int r1), none, none, none, none]) (S' := [.int r1, .ref 88, .int 1]) (w' := w1) rfl ?_
  obtain ⟨b2, hs⟩ := hs
  refine tm_k (pc' := 14) (L' := [some (.ref 87), some (.int r1), some (.int r1), none, none, none, none]) (S' := [.int (w1.1 88 r1.toInt.toNat), .int 1]) (w' := w1) rfl b2 ?_
  refine tm_go 5 (pc' := 21) (L' := [some (.ref 87), some (.int r1), some (.int r1), some (.int ((1 : Int32) + (w1.1 88 r1.toInt.toNat))), none, none, none]) (S' := [.int r1, .ref 89]) (w' := w1) rfl ?_
  obtain ⟨b3, hs⟩ := hs
  refine tm_k (pc' := 22) (L' := [some (.ref 87), some (.int r1), some (.int r1), some (.int ((1 : Int32) + (w1.1 88 r1.toInt.toNat))), none, none, none]) (S' := [.int (w1.1 89 r1.toInt.toNat)]) (w' := w1) rfl b3 ?_
  refine tm_go 3 (pc' := 27) (L' := [some (.ref 87), some (.int r1), some (.int r1), some (.int ((1 : Int32) + (w1.1 88 r1.toInt.toNat))), some (.int (w1.1 89 r1.toInt.toNat)), some (.int 0), none]) (S' := []) (w' := w1) rfl ?_
  refine tx_Rd_readPar_27 hr_Rd_readBlock hr_Rd_readGuarded hr_Rd_readPar hr_Rd_readStatement FU _ _ _ _ _ _ hs (fun e27_3_15 e27_4_15 z15_2 z15_5 z15_6 w15 hs => ?_)
  refine tm_go 3 (pc' := 116) (L' := [some (.ref 87), some (.int r1), z15_2, some (.int e27_3_15), some (.int e27_4_15), z15_5, z15_6]) (S' := [.int 0, .int 16, .ref 87]) (w' := w15) rfl ?_
  refine tm_c rfl (Nat.le_of_ble_eq_true rfl) (dm_Rd_makeNode (d := d + 402) hs) (fun v w16 hq => ?_)
  obtain ⟨r16, rfl, hs⟩ := hq
  refine tm_go 2 (pc' := 122) (L' := [some (.ref 87), some (.int r1), z15_2, some (.int e27_3_15), some (.int e27_4_15), some (.int r16), z15_6]) (S' := [.ref 87]) (w' := w16) rfl ?_
  obtain ⟨b17, hs⟩ := hs
  refine tm_g (pc' := 125) (k := 87) (j := 1) rfl b17 ?_
  refine tm_go 3 (pc' := 131) (L' := [some (.ref 87), some (.int r1), z15_2, some (.int e27_3_15), some (.int e27_4_15), some (.int r16), z15_6]) (S' := [.int r1, .int r16, .ref 113]) (w' := w16) rfl ?_
  obtain ⟨b18, hs⟩ := hs
  refine tm_k (pc' := 132) (L' := [some (.ref 87), some (.int r1), z15_2, some (.int e27_3_15), some (.int e27_4_15), some (.int r16), z15_6]) (S' := []) (w' := (sI w16 113 r16.toInt.toNat r1)) rfl b18 ?_
  refine tm_go 4 (pc' := 139) (L' := [some (.ref 87), some (.int r1), z15_2, some (.int e27_3_15), some (.int e27_4_15), some (.int r16), z15_6]) (S' := [.int e27_3_15, .int r16, .ref 88]) (w' := (sI w16 113 r16.toInt.toNat r1)) rfl ?_
  obtain ⟨b19, hs⟩ := hs
  refine tm_k (pc' := 140) (L' := [some (.ref 87), some (.int r1), z15_2, some (.int e27_3_15), some (.int e27_4_15), some (.int r16), z15_6]) (S' := []) (w' := (sI (sI w16 113 r16.toInt.toNat r1) 88 r16.toInt.toNat e27_3_15)) rfl b19 ?_
  refine tm_go 4 (pc' := 148) (L' := [some (.ref 87), some (.int r1), z15_2, some (.int e27_3_15), some (.int e27_4_15), some (.int r16), z15_6]) (S' := [.int e27_4_15, .int r16, .ref 89]) (w' := (sI (sI w16 113 r16.toInt.toNat r1) 88 r16.toInt.toNat e27_3_15)) rfl ?_
  obtain ⟨b20, hs⟩ := hs
  refine tm_k (pc' := 149) (L' := [some (.ref 87), some (.int r1), z15_2, some (.int e27_3_15), some (.int e27_4_15), some (.int r16), z15_6]) (S' := []) (w' := (sI (sI (sI w16 113 r16.toInt.toNat r1) 88 r16.toInt.toNat e27_3_15) 89 r16.toInt.toNat e27_4_15)) rfl b20 ?_
  refine tm_go 1 (pc' := 151) (L' := [some (.ref 87), some (.int r1), z15_2, some (.int e27_3_15), some (.int e27_4_15), some (.int r16), z15_6]) (S' := [.int r16]) (w' := (sI (sI (sI w16 113 r16.toInt.toNat r1) 88 r16.toInt.toNat e27_3_15) 89 r16.toInt.toNat e27_4_15)) rfl ?_
  exact tm_r rfl ⟨_, rfl, hs⟩
set_option maxHeartbeats 4000000 in
set_option maxRecDepth 100000 in
theorem dmb_Rd_readStatement {d : Nat} {r_Rd_readBlock : MW → (Int32 → MW → Prop) → Prop} {r_Rd_readGuarded : MW → Int32 → (Int32 → MW → Prop) → Prop} {r_Rd_readPar : MW → (Int32 → MW → Prop) → Prop} {r_Rd_readStatement : MW → (Int32 → MW → Prop) → Prop} (hr_Rd_readBlock : ∀ (w : MW) (Q : Int32 → MW → Prop), r_Rd_readBlock w Q → Tc (d + 403) 172 [.ref 87] w (RI Q)) (hr_Rd_readGuarded : ∀ (w : MW) (a0 : Int32) (Q : Int32 → MW → Prop), r_Rd_readGuarded w a0 Q → Tc (d + 403) 179 [.ref 87, .int a0] w (RI Q)) (hr_Rd_readPar : ∀ (w : MW) (Q : Int32 → MW → Prop), r_Rd_readPar w Q → Tc (d + 403) 178 [.ref 87] w (RI Q)) (hr_Rd_readStatement : ∀ (w : MW) (Q : Int32 → MW → Prop), r_Rd_readStatement w Q → Tc (d + 403) 173 [.ref 87] w (RI Q)) {w : MW} {Q : Int32 → MW → Prop} (hs : pb_Rd_readStatement r_Rd_readBlock r_Rd_readGuarded r_Rd_readPar r_Rd_readStatement w Q) : Tc (d + 404) 173 [.ref 87] w (RI Q) := by
  unfold pb_Rd_readStatement at hs
  refine tm_go 5 (pc' := 9) (L' := [some (.ref 87), some (.int (w.1 87 3))]) (S' := [.int (w.1 87 9)]) (w' := w) rfl ?_
  refine tm_i (p1 := 24) (p2 := 12) rfl (fun h1 => ?_) (fun h1 => ?_)
  · replace hs := hs.1 h1
    refine tm_go 1 (pc' := 25) (L' := [some (.ref 87), some (.int (w.1 87 3))]) (S' := [.ref 87]) (w' := w) rfl ?_
    refine tm_c rfl (Nat.le_of_ble_eq_true rfl) (dm_Rd_fail (d := d + 403) hs) (fun v w2 hq => ?_)
    obtain ⟨rfl, hs⟩ := hq
    refine tm_go 1 (pc' := 29) (L' := [some (.ref 87), some (.int (w.1 87 3))]) (S' := [.int 0]) (w' := w2) rfl ?_
    exact tm_r rfl ⟨_, rfl, hs⟩
  · replace hs := hs.2 h1
    refine tm_go 2 (pc' := 15) (L' := [some (.ref 87), some (.int (w.1 87 3))]) (S' := [.int 11, .int (w.1 87 3)]) (w' := w) rfl ?_
    refine tm_i (p1 := 24) (p2 := 18) rfl (fun h3 => ?_) (fun h3 => ?_)
    · replace hs := hs.1 h3
      refine tm_go 1 (pc' := 25) (L' := [some (.ref 87), some (.int (w.1 87 3))]) (S' := [.ref 87]) (w' := w) rfl ?_
      refine tm_c rfl (Nat.le_of_ble_eq_true rfl) (dm_Rd_fail (d := d + 403) hs) (fun v w4 hq => ?_)
      obtain ⟨rfl, hs⟩ := hq
      refine tm_go 1 (pc' := 29) (L' := [some (.ref 87), some (.int (w.1 87 3))]) (S' := [.int 0]) (w' := w4) rfl ?_
      exact tm_r rfl ⟨_, rfl, hs⟩
    · replace hs := hs.2 h3
      refine tm_go 2 (pc' := 21) (L' := [some (.ref 87), some (.int (w.1 87 3))]) (S' := [.int 26, .int (w.1 87 3)]) (w' := w) rfl ?_
      refine tm_i (p1 := 30) (p2 := 24) rfl (fun h5 => ?_) (fun h5 => ?_)
      · replace hs := hs.1 h5
        refine tm_go 2 (pc' := 33) (L' := [some (.ref 87), some (.int (w.1 87 3))]) (S' := [.int 15, .int (w.1 87 3)]) (w' := w) rfl ?_
        refine tm_i (p1 := 48) (p2 := 36) rfl (fun h6 => ?_) (fun h6 => ?_)
        · replace hs := hs.1 h6
          refine tm_go 1 (pc' := 49) (L' := [some (.ref 87), some (.int (w.1 87 3))]) (S' := [.ref 87]) (w' := w) rfl ?_
          refine tm_c rfl (Nat.le_of_ble_eq_true rfl) (dm_Rd_fail (d := d + 403) hs) (fun v w7 hq => ?_)
          obtain ⟨rfl, hs⟩ := hq
          refine tm_go 1 (pc' := 53) (L' := [some (.ref 87), some (.int (w.1 87 3))]) (S' := [.int 0]) (w' := w7) rfl ?_
          exact tm_r rfl ⟨_, rfl, hs⟩
        · replace hs := hs.2 h6
          refine tm_go 2 (pc' := 39) (L' := [some (.ref 87), some (.int (w.1 87 3))]) (S' := [.int 18, .int (w.1 87 3)]) (w' := w) rfl ?_
          refine tm_i (p1 := 48) (p2 := 42) rfl (fun h8 => ?_) (fun h8 => ?_)
          · replace hs := hs.1 h8
            refine tm_go 1 (pc' := 49) (L' := [some (.ref 87), some (.int (w.1 87 3))]) (S' := [.ref 87]) (w' := w) rfl ?_
            refine tm_c rfl (Nat.le_of_ble_eq_true rfl) (dm_Rd_fail (d := d + 403) hs) (fun v w9 hq => ?_)
            obtain ⟨rfl, hs⟩ := hq
            refine tm_go 1 (pc' := 53) (L' := [some (.ref 87), some (.int (w.1 87 3))]) (S' := [.int 0]) (w' := w9) rfl ?_
            exact tm_r rfl ⟨_, rfl, hs⟩
          · replace hs := hs.2 h8
            refine tm_go 2 (pc' := 45) (L' := [some (.ref 87), some (.int (w.1 87 3))]) (S' := [.int 21, .int (w.1 87 3)]) (w' := w) rfl ?_
            refine tm_i (p1 := 54) (p2 := 48) rfl (fun h10 => ?_) (fun h10 => ?_)
            · replace hs := hs.1 h10
              refine tm_go 1 (pc' := 55) (L' := [some (.ref 87), some (.int (w.1 87 3))]) (S' := [.ref 87]) (w' := w) rfl ?_
              obtain ⟨b11, hs⟩ := hs
              refine tm_g (pc' := 58) (k := 87) (j := 1) rfl b11 ?_
              refine tm_go 6 (pc' := 68) (L' := [some (.ref 87), some (.int (w.1 87 3))]) (S' := [.ref 87]) (w' := (sI w 108 0 ((w.1 108 0) + (1 : Int32)))) rfl ?_
              refine tm_c rfl (Nat.le_of_ble_eq_true rfl) (dm_Rd_nextWord (d := d + 401) hs) (fun v w12 hq => ?_)
              obtain ⟨rfl, hs⟩ := hq
              refine tm_go 1 (pc' := 72) (L' := [some (.ref 87), some (.int (w.1 87 3))]) (S' := [.int (w.1 87 3)]) (w' := w12) rfl ?_
              by_cases h13 : (w.1 87 3).toInt = 11
              · replace hs := hs.1 h13
                refine tm_tab (dflt := 151) (lo := 11) (ts := [128, 134, 134, 128, 151, 140, 145, 151, 145, 145]) rfl (by rw [h13]; decide) (t := 128) (by rw [h13]; rfl) ?_
                refine tm_go 2 (pc' := 130) (L' := [some (.ref 87), some (.int (w.1 87 3))]) (S' := [.int (w.1 87 3), .ref 87]) (w' := w12) rfl ?_
                refine tm_c rfl (Nat.le_of_ble_eq_true rfl) (dm_Rd_readChange (d := d + 0) hs) (fun v w14 hq => ?_)
                obtain ⟨r14, rfl, hs⟩ := hq
                exact tm_r rfl ⟨_, rfl, hs⟩
              · replace hs := hs.2 h13
                by_cases h15 : (w.1 87 3).toInt = 12
                · replace hs := hs.1 h15
                  refine tm_tab (dflt := 151) (lo := 11) (ts := [128, 134, 134, 128, 151, 140, 145, 151, 145, 145]) rfl (by rw [h15]; decide) (t := 134) (by rw [h15]; rfl) ?_
                  refine tm_go 2 (pc' := 136) (L' := [some (.ref 87), some (.int (w.1 87 3))]) (S' := [.int (w.1 87 3), .ref 87]) (w' := w12) rfl ?_
                  refine tm_c rfl (Nat.le_of_ble_eq_true rfl) (dm_Rd_readPause (d := d + 0) hs) (fun v w16 hq => ?_)
                  obtain ⟨r16, rfl, hs⟩ := hq
                  exact tm_r rfl ⟨_, rfl, hs⟩
                · replace hs := hs.2 h15
                  by_cases h17 : (w.1 87 3).toInt = 13
                  · replace hs := hs.1 h17
                    refine tm_tab (dflt := 151) (lo := 11) (ts := [128, 134, 134, 128, 151, 140, 145, 151, 145, 145]) rfl (by rw [h17]; decide) (t := 134) (by rw [h17]; rfl) ?_
                    refine tm_go 2 (pc' := 136) (L' := [some (.ref 87), some (.int (w.1 87 3))]) (S' := [.int (w.1 87 3), .ref 87]) (w' := w12) rfl ?_
                    refine tm_c rfl (Nat.le_of_ble_eq_true rfl) (dm_Rd_readPause (d := d + 0) hs) (fun v w18 hq => ?_)
                    obtain ⟨r18, rfl, hs⟩ := hq
                    exact tm_r rfl ⟨_, rfl, hs⟩
                  · replace hs := hs.2 h17
                    by_cases h19 : (w.1 87 3).toInt = 14
                    · replace hs := hs.1 h19
                      refine tm_tab (dflt := 151) (lo := 11) (ts := [128, 134, 134, 128, 151, 140, 145, 151, 145, 145]) rfl (by rw [h19]; decide) (t := 128) (by rw [h19]; rfl) ?_
                      refine tm_go 2 (pc' := 130) (L' := [some (.ref 87), some (.int (w.1 87 3))]) (S' := [.int (w.1 87 3), .ref 87]) (w' := w12) rfl ?_
                      refine tm_c rfl (Nat.le_of_ble_eq_true rfl) (dm_Rd_readChange (d := d + 0) hs) (fun v w20 hq => ?_)
                      obtain ⟨r20, rfl, hs⟩ := hq
                      exact tm_r rfl ⟨_, rfl, hs⟩
                    · replace hs := hs.2 h19
                      by_cases h21 : (w.1 87 3).toInt = 15
                      · replace hs := hs.1 h21
                        refine tm_tab (dflt := 151) (lo := 11) (ts := [128, 134, 134, 128, 151, 140, 145, 151, 145, 145]) rfl (by rw [h21]; decide) (t := 151) (by rw [h21]; rfl) ?_
                        refine tm_go 2 (pc' := 153) (L' := [some (.ref 87), some (.int (w.1 87 3))]) (S' := [.int (w.1 87 3), .ref 87]) (w' := w12) rfl ?_
                        refine tm_c rfl (Nat.le_of_ble_eq_true rfl) (dm_Rd_readShort (d := d + 399) hs) (fun v w22 hq => ?_)
                        obtain ⟨r22, rfl, hs⟩ := hq
                        exact tm_r rfl ⟨_, rfl, hs⟩
                      · replace hs := hs.2 h21
                        by_cases h23 : (w.1 87 3).toInt = 16
                        · replace hs := hs.1 h23
                          refine tm_tab (dflt := 151) (lo := 11) (ts := [128, 134, 134, 128, 151, 140, 145, 151, 145, 145]) rfl (by rw [h23]; decide) (t := 140) (by rw [h23]; rfl) ?_
                          refine tm_go 1 (pc' := 141) (L' := [some (.ref 87), some (.int (w.1 87 3))]) (S' := [.ref 87]) (w' := w12) rfl ?_
                          refine tm_c rfl (Nat.le_of_ble_eq_true rfl) (hr_Rd_readPar _ _ hs) (fun v w24 hq => ?_)
                          obtain ⟨r24, rfl, hs⟩ := hq
                          exact tm_r rfl ⟨_, rfl, hs⟩
                        · replace hs := hs.2 h23
                          by_cases h25 : (w.1 87 3).toInt = 17
                          · replace hs := hs.1 h25
                            refine tm_tab (dflt := 151) (lo := 11) (ts := [128, 134, 134, 128, 151, 140, 145, 151, 145, 145]) rfl (by rw [h25]; decide) (t := 145) (by rw [h25]; rfl) ?_
                            refine tm_go 2 (pc' := 147) (L' := [some (.ref 87), some (.int (w.1 87 3))]) (S' := [.int (w.1 87 3), .ref 87]) (w' := w12) rfl ?_
                            refine tm_c rfl (Nat.le_of_ble_eq_true rfl) (hr_Rd_readGuarded _ _ _ hs) (fun v w26 hq => ?_)
                            obtain ⟨r26, rfl, hs⟩ := hq
                            exact tm_r rfl ⟨_, rfl, hs⟩
                          · replace hs := hs.2 h25
                            by_cases h27 : (w.1 87 3).toInt = 18
                            · replace hs := hs.1 h27
                              refine tm_tab (dflt := 151) (lo := 11) (ts := [128, 134, 134, 128, 151, 140, 145, 151, 145, 145]) rfl (by rw [h27]; decide) (t := 151) (by rw [h27]; rfl) ?_
                              refine tm_go 2 (pc' := 153) (L' := [some (.ref 87), some (.int (w.1 87 3))]) (S' := [.int (w.1 87 3), .ref 87]) (w' := w12) rfl ?_
                              refine tm_c rfl (Nat.le_of_ble_eq_true rfl) (dm_Rd_readShort (d := d + 399) hs) (fun v w28 hq => ?_)
                              obtain ⟨r28, rfl, hs⟩ := hq
                              exact tm_r rfl ⟨_, rfl, hs⟩
                            · replace hs := hs.2 h27
                              by_cases h29 : (w.1 87 3).toInt = 19
                              · replace hs := hs.1 h29
                                refine tm_tab (dflt := 151) (lo := 11) (ts := [128, 134, 134, 128, 151, 140, 145, 151, 145, 145]) rfl (by rw [h29]; decide) (t := 145) (by rw [h29]; rfl) ?_
                                refine tm_go 2 (pc' := 147) (L' := [some (.ref 87), some (.int (w.1 87 3))]) (S' := [.int (w.1 87 3), .ref 87]) (w' := w12) rfl ?_
                                refine tm_c rfl (Nat.le_of_ble_eq_true rfl) (hr_Rd_readGuarded _ _ _ hs) (fun v w30 hq => ?_)
                                obtain ⟨r30, rfl, hs⟩ := hq
                                exact tm_r rfl ⟨_, rfl, hs⟩
                              · replace hs := hs.2 h29
                                by_cases h31 : (w.1 87 3).toInt = 20
                                · replace hs := hs.1 h31
                                  refine tm_tab (dflt := 151) (lo := 11) (ts := [128, 134, 134, 128, 151, 140, 145, 151, 145, 145]) rfl (by rw [h31]; decide) (t := 145) (by rw [h31]; rfl) ?_
                                  refine tm_go 2 (pc' := 147) (L' := [some (.ref 87), some (.int (w.1 87 3))]) (S' := [.int (w.1 87 3), .ref 87]) (w' := w12) rfl ?_
                                  refine tm_c rfl (Nat.le_of_ble_eq_true rfl) (hr_Rd_readGuarded _ _ _ hs) (fun v w32 hq => ?_)
                                  obtain ⟨r32, rfl, hs⟩ := hq
                                  exact tm_r rfl ⟨_, rfl, hs⟩
                                · replace hs := hs.2 h31
                                  refine tm_tad (dflt := 151) (lo := 11) (ts := [128, 134, 134, 128, 151, 140, 145, 151, 145, 145]) rfl (by simp only [List.length_cons, List.length_nil]; omega) ?_
                                  refine tm_go 2 (pc' := 153) (L' := [some (.ref 87), some (.int (w.1 87 3))]) (S' := [.int (w.1 87 3), .ref 87]) (w' := w12) rfl ?_
                                  refine tm_c rfl (Nat.le_of_ble_eq_true rfl) (dm_Rd_readShort (d := d + 399) hs) (fun v w33 hq => ?_)
                                  obtain ⟨r33, rfl, hs⟩ := hq
                                  exact tm_r rfl ⟨_, rfl, hs⟩
            · replace hs := hs.2 h10
              refine tm_go 1 (pc' := 49) (L' := [some (.ref 87), some (.int (w.1 87 3))]) (S' := [.ref 87]) (w' := w) rfl ?_
              refine tm_c rfl (Nat.le_of_ble_eq_true rfl) (dm_Rd_fail (d := d + 403) hs) (fun v w34 hq => ?_)
              obtain ⟨rfl, hs⟩ := hq
              refine tm_go 1 (pc' := 53) (L' := [some (.ref 87), some (.int (w.1 87 3))]) (S' := [.int 0]) (w' := w34) rfl ?_
              exact tm_r rfl ⟨_, rfl, hs⟩
      · replace hs := hs.2 h5
        refine tm_go 1 (pc' := 25) (L' := [some (.ref 87), some (.int (w.1 87 3))]) (S' := [.ref 87]) (w' := w) rfl ?_
        refine tm_c rfl (Nat.le_of_ble_eq_true rfl) (dm_Rd_fail (d := d + 403) hs) (fun v w35 hq => ?_)
        obtain ⟨rfl, hs⟩ := hq
        refine tm_go 1 (pc' := 29) (L' := [some (.ref 87), some (.int (w.1 87 3))]) (S' := [.int 0]) (w' := w35) rfl ?_
        exact tm_r rfl ⟨_, rfl, hs⟩
theorem da_Rd_readBlock (n : Nat) : (∀ (w : MW) (Q : Int32 → MW → Prop), pn_Rd_readBlock n w Q → Tc (n + 403) 172 [.ref 87] w (RI Q)) ∧ (∀ (w : MW) (a0 : Int32) (Q : Int32 → MW → Prop), pn_Rd_readGuarded n w a0 Q → Tc (n + 403) 179 [.ref 87, .int a0] w (RI Q)) ∧ (∀ (w : MW) (Q : Int32 → MW → Prop), pn_Rd_readPar n w Q → Tc (n + 403) 178 [.ref 87] w (RI Q)) ∧ (∀ (w : MW) (Q : Int32 → MW → Prop), pn_Rd_readStatement n w Q → Tc (n + 403) 173 [.ref 87] w (RI Q)) := by
  induction n with
  | zero => exact ⟨fun _ _ h => h.elim, fun _ _ _ h => h.elim, fun _ _ h => h.elim, fun _ _ h => h.elim⟩
  | succ n ih =>
    obtain ⟨h0, h1, h2, h3⟩ := ih
    exact ⟨fun _ _ h => (dmb_Rd_readBlock (d := n) h0 h1 h2 h3 h).le (by omega), fun _ _ _ h => (dmb_Rd_readGuarded (d := n) h0 h1 h2 h3 h).le (by omega), fun _ _ h => (dmb_Rd_readPar (d := n) h0 h1 h2 h3 h).le (by omega), fun _ _ h => (dmb_Rd_readStatement (d := n) h0 h1 h2 h3 h).le (by omega)⟩
theorem dm_Rd_readBlock {d : Nat} {w : MW} {Q : Int32 → MW → Prop} (hs : p_Rd_readBlock w Q) : Tc (d + 803) 172 [.ref 87] w (RI Q) := ((da_Rd_readBlock 400).1 _ _ hs).le (by omega)
theorem dm_Rd_readGuarded {d : Nat} {w : MW} {a0 : Int32} {Q : Int32 → MW → Prop} (hs : p_Rd_readGuarded w a0 Q) : Tc (d + 803) 179 [.ref 87, .int a0] w (RI Q) := ((da_Rd_readBlock 400).2.1 _ _ _ hs).le (by omega)
theorem dm_Rd_readPar {d : Nat} {w : MW} {Q : Int32 → MW → Prop} (hs : p_Rd_readPar w Q) : Tc (d + 803) 178 [.ref 87] w (RI Q) := ((da_Rd_readBlock 400).2.2.1 _ _ hs).le (by omega)
theorem dm_Rd_readStatement {d : Nat} {w : MW} {Q : Int32 → MW → Prop} (hs : p_Rd_readStatement w Q) : Tc (d + 803) 173 [.ref 87] w (RI Q) := ((da_Rd_readBlock 400).2.2.2 _ _ hs).le (by omega)
