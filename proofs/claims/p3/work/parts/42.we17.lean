set_option maxHeartbeats 4000000 in
set_option maxRecDepth 100000 in
theorem dmb_Mr_value {d : Nat} {r_Mr_value : MW → Int32 → (Int32 → MW → Prop) → Prop} (hr_Mr_value : ∀ (w : MW) (a0 : Int32) (Q : Int32 → MW → Prop), r_Mr_value w a0 Q → Tc (d + 0) 295 [.ref 147, .int a0] w (RZ Q)) {w : MW} {a0 : Int32} {Q : Int32 → MW → Prop} (hs : pb_Mr_value r_Mr_value w a0 Q) : Tc (d + 1) 295 [.ref 147, .int a0] w (RZ Q) := by
  unfold pb_Mr_value at hs
  refine tm_go 3 (pc' := 5) (L' := [some (.ref 147), some (.int a0)]) (S' := [.int a0, .ref 151]) (w' := w) rfl ?_
  obtain ⟨b1, hs⟩ := hs
  refine tm_k (pc' := 6) (L' := [some (.ref 147), some (.int a0)]) (S' := [.int (w.1 151 a0.toInt.toNat)]) (w' := w) rfl b1 ?_
  by_cases h2 : (w.1 151 a0.toInt.toNat).toInt = 16
  · replace hs := hs.1 h2
    refine tm_tab (dflt := 115) (lo := 16) (ts := [32, 51, 83]) rfl (by rw [h2]; decide) (t := 32) (by rw [h2]; rfl) ?_
    refine tm_go 4 (pc' := 38) (L' := [some (.ref 147), some (.int a0)]) (S' := [.int a0, .ref 152, .ref 147]) (w' := w) rfl ?_
    obtain ⟨b3, hs⟩ := hs
    refine tm_k (pc' := 39) (L' := [some (.ref 147), some (.int a0)]) (S' := [.int (w.1 152 a0.toInt.toNat), .ref 147]) (w' := w) rfl b3 ?_
    refine tm_c rfl (Nat.le_of_ble_eq_true rfl) (hr_Mr_value _ _ _ hs) (fun v w4 hq => ?_)
    obtain ⟨r4, rfl, hz4, hs⟩ := hq
    refine tm_i (p1 := 49) (p2 := 45) rfl (fun h5 => ?_) (fun h5 => ?_)
    · replace hs := hs.1 h5
      refine tm_go 1 (pc' := 50) (L' := [some (.ref 147), some (.int a0)]) (S' := [.int 0]) (w' := w4) rfl ?_
      exact tm_r rfl ⟨_, rfl, by decide, hs⟩
    · replace hs := hs.2 h5
      refine tm_go 2 (pc' := 50) (L' := [some (.ref 147), some (.int a0)]) (S' := [.int 1]) (w' := w4) rfl ?_
      exact tm_r rfl ⟨_, rfl, by decide, hs⟩
  · replace hs := hs.2 h2
    by_cases h6 : (w.1 151 a0.toInt.toNat).toInt = 17
    · replace hs := hs.1 h6
      refine tm_tab (dflt := 115) (lo := 16) (ts := [32, 51, 83]) rfl (by rw [h6]; decide) (t := 51) (by rw [h6]; rfl) ?_
      refine tm_go 4 (pc' := 57) (L' := [some (.ref 147), some (.int a0)]) (S' := [.int a0, .ref 152, .ref 147]) (w' := w) rfl ?_
      obtain ⟨b7, hs⟩ := hs
      refine tm_k (pc' := 58) (L' := [some (.ref 147), some (.int a0)]) (S' := [.int (w.1 152 a0.toInt.toNat), .ref 147]) (w' := w) rfl b7 ?_
      refine tm_c rfl (Nat.le_of_ble_eq_true rfl) (hr_Mr_value _ _ _ hs) (fun v w8 hq => ?_)
      obtain ⟨r8, rfl, hz8, hs⟩ := hq
      refine tm_i (p1 := 81) (p2 := 64) rfl (fun h9 => ?_) (fun h9 => ?_)
      · replace hs := hs.1 h9
        refine tm_go 1 (pc' := 82) (L' := [some (.ref 147), some (.int a0)]) (S' := [.int 0]) (w' := w8) rfl ?_
        exact tm_r rfl ⟨_, rfl, by decide, hs⟩
      · replace hs := hs.2 h9
        refine tm_go 4 (pc' := 70) (L' := [some (.ref 147), some (.int a0)]) (S' := [.int a0, .ref 153, .ref 147]) (w' := w8) rfl ?_
        obtain ⟨b10, hs⟩ := hs
        refine tm_k (pc' := 71) (L' := [some (.ref 147), some (.int a0)]) (S' := [.int (w8.1 153 a0.toInt.toNat), .ref 147]) (w' := w8) rfl b10 ?_
        refine tm_c rfl (Nat.le_of_ble_eq_true rfl) (hr_Mr_value _ _ _ hs) (fun v w11 hq => ?_)
        obtain ⟨r11, rfl, hz11, hs⟩ := hq
        refine tm_i (p1 := 81) (p2 := 77) rfl (fun h12 => ?_) (fun h12 => ?_)
        · replace hs := hs.1 h12
          refine tm_go 1 (pc' := 82) (L' := [some (.ref 147), some (.int a0)]) (S' := [.int 0]) (w' := w11) rfl ?_
          exact tm_r rfl ⟨_, rfl, by decide, hs⟩
        · replace hs := hs.2 h12
          refine tm_go 2 (pc' := 82) (L' := [some (.ref 147), some (.int a0)]) (S' := [.int 1]) (w' := w11) rfl ?_
          exact tm_r rfl ⟨_, rfl, by decide, hs⟩
    · replace hs := hs.2 h6
      by_cases h13 : (w.1 151 a0.toInt.toNat).toInt = 18
      · replace hs := hs.1 h13
        refine tm_tab (dflt := 115) (lo := 16) (ts := [32, 51, 83]) rfl (by rw [h13]; decide) (t := 83) (by rw [h13]; rfl) ?_
        refine tm_go 4 (pc' := 89) (L' := [some (.ref 147), some (.int a0)]) (S' := [.int a0, .ref 152, .ref 147]) (w' := w) rfl ?_
        obtain ⟨b14, hs⟩ := hs
        refine tm_k (pc' := 90) (L' := [some (.ref 147), some (.int a0)]) (S' := [.int (w.1 152 a0.toInt.toNat), .ref 147]) (w' := w) rfl b14 ?_
        refine tm_c rfl (Nat.le_of_ble_eq_true rfl) (hr_Mr_value _ _ _ hs) (fun v w15 hq => ?_)
        obtain ⟨r15, rfl, hz15, hs⟩ := hq
        refine tm_i (p1 := 109) (p2 := 96) rfl (fun h16 => ?_) (fun h16 => ?_)
        · replace hs := hs.1 h16
          refine tm_go 2 (pc' := 114) (L' := [some (.ref 147), some (.int a0)]) (S' := [.int 1]) (w' := w15) rfl ?_
          exact tm_r rfl ⟨_, rfl, by decide, hs⟩
        · replace hs := hs.2 h16
          refine tm_go 4 (pc' := 102) (L' := [some (.ref 147), some (.int a0)]) (S' := [.int a0, .ref 153, .ref 147]) (w' := w15) rfl ?_
          obtain ⟨b17, hs⟩ := hs
          refine tm_k (pc' := 103) (L' := [some (.ref 147), some (.int a0)]) (S' := [.int (w15.1 153 a0.toInt.toNat), .ref 147]) (w' := w15) rfl b17 ?_
          refine tm_c rfl (Nat.le_of_ble_eq_true rfl) (hr_Mr_value _ _ _ hs) (fun v w18 hq => ?_)
          obtain ⟨r18, rfl, hz18, hs⟩ := hq
          refine tm_i (p1 := 113) (p2 := 109) rfl (fun h19 => ?_) (fun h19 => ?_)
          · replace hs := hs.1 h19
            refine tm_go 1 (pc' := 114) (L' := [some (.ref 147), some (.int a0)]) (S' := [.int 0]) (w' := w18) rfl ?_
            exact tm_r rfl ⟨_, rfl, by decide, hs⟩
          · replace hs := hs.2 h19
            refine tm_go 2 (pc' := 114) (L' := [some (.ref 147), some (.int a0)]) (S' := [.int 1]) (w' := w18) rfl ?_
            exact tm_r rfl ⟨_, rfl, by decide, hs⟩
      · replace hs := hs.2 h13
        refine tm_tad (dflt := 115) (lo := 16) (ts := [32, 51, 83]) rfl (by simp only [List.length_cons, List.length_nil]; omega) ?_
        refine tm_go 5 (pc' := 124) (L' := [some (.ref 147), some (.int a0)]) (S' := [.int a0, .ref 151, .int (w.1 147 24)]) (w' := w) rfl ?_
        obtain ⟨b20, hs⟩ := hs
        refine tm_k (pc' := 125) (L' := [some (.ref 147), some (.int a0)]) (S' := [.int (w.1 151 a0.toInt.toNat), .int (w.1 147 24)]) (w' := w) rfl b20 ?_
        refine tm_go 4 (pc' := 129) (L' := [some (.ref 147), some (.int a0)]) (S' := [.int 1, .int (((w.1 147 24) >>> ((w.1 151 a0.toInt.toNat) &&& 31)) &&& (1 : Int32))]) (w' := w) rfl ?_
        refine tm_i (p1 := 136) (p2 := 132) rfl (fun h21 => ?_) (fun h21 => ?_)
        · replace hs := hs.1 h21
          refine tm_go 1 (pc' := 137) (L' := [some (.ref 147), some (.int a0)]) (S' := [.int 0]) (w' := w) rfl ?_
          exact tm_r rfl ⟨_, rfl, by decide, hs⟩
        · replace hs := hs.2 h21
          refine tm_go 2 (pc' := 137) (L' := [some (.ref 147), some (.int a0)]) (S' := [.int 1]) (w' := w) rfl ?_
          exact tm_r rfl ⟨_, rfl, by decide, hs⟩
theorem da_Mr_value (n : Nat) : (∀ (w : MW) (a0 : Int32) (Q : Int32 → MW → Prop), pn_Mr_value n w a0 Q → Tc (n + 0) 295 [.ref 147, .int a0] w (RZ Q)) := by
  induction n with
  | zero => exact fun _ _ _ h => h.elim
  | succ n h0 =>
    skip
    exact fun _ _ _ h => (dmb_Mr_value (d := n) h0 h).le (by omega)
theorem dm_Mr_value {d : Nat} {w : MW} {a0 : Int32} {Q : Int32 → MW → Prop} (hs : p_Mr_value w a0 Q) : Tc (d + 400) 295 [.ref 147, .int a0] w (RZ Q) := ((da_Mr_value 400) _ _ _ hs).le (by omega)
set_option maxHeartbeats 4000000 in
set_option maxRecDepth 100000 in
theorem dm_Mr_isOn {d : Nat} {w : MW} {a0 : Int32} {Q : Int32 → MW → Prop} (hs : p_Mr_isOn w a0 Q) : Tc (d + 401) 296 [.ref 147, .int a0] w (RZ Q) := by
  unfold p_Mr_isOn at hs
  refine tm_go 9 (pc' := 14) (L' := [some (.ref 147), some (.int a0)]) (S' := [.int (((40 : Int32) * (w.1 147 12)) + a0), .ref 154, .ref 147]) (w' := w) rfl ?_
  obtain ⟨b1, hs⟩ := hs
  refine tm_k (pc' := 15) (L' := [some (.ref 147), some (.int a0)]) (S' := [.int (w.1 154 ((((40 : Int32) * (w.1 147 12)) + a0).toInt.toNat)), .ref 147]) (w' := w) rfl b1 ?_
  refine tm_c rfl (Nat.le_of_ble_eq_true rfl) (dm_Mr_value (d := d + 0) hs) (fun v w2 hq => ?_)
  obtain ⟨r2, rfl, hz2, hs⟩ := hq
  exact tm_rk rfl hz2 ⟨_, rfl, hz2, hs⟩
set_option maxHeartbeats 4000000 in
set_option maxRecDepth 100000 in
theorem tx_Mr_act1_76 {d : Nat} {x14_1 : Int32} {y76_2 : Int32} {ys76_0 : Int32} {z3 : Option Value} {w : MW} {A : Int32 → MW → Prop} {E : MW → Prop} {Q : Int32 → MW → Prop} (hs : q_Mr_act1_76 x14_1 y76_2 ys76_0 w A E Q) (hA : ∀ (x14_2 : Int32)  (z3 : Option Value) (w : MW), A x14_2 w → Tm (d + 402) 298 14 [some (.ref 147), some (.int x14_1), some (.int x14_2), z3] [] w (RI Q)) (hE : ∀  (v0 : Option Value) (v1 : Option Value) (v2 : Option Value) (v3 : Option Value) (w : MW), E  w → Tm (d + 402) 298 100 [v0, v1, v2, v3] [] w (RI Q)) : Tm (d + 402) 298 76 [some (.ref 147), some (.int x14_1), some (.int y76_2), z3] [.int ys76_0] w (RI Q) := by
  unfold q_Mr_act1_76 at hs
  refine tm_go 2 (pc' := 78) (L' := [some (.ref 147), some (.int x14_1), some (.int y76_2), some (.int ys76_0)]) (S' := [.int ys76_0]) (w' := w) rfl ?_
  refine tm_i (p1 := 94) (p2 := 81) rfl (fun h6 => ?_) (fun h6 => ?_)
  · replace hs := hs.1 h6
    refine tm_go 2 (pc' := 14) (L' := [some (.ref 147), some (.int x14_1), some (.int (y76_2 + (1 : Int32))), some (.int ys76_0)]) (S' := []) (w' := w) rfl ?_
    exact hA _ _ _ hs
  · replace hs := hs.2 h6
    refine tm_go 3 (pc' := 84) (L' := [some (.ref 147), some (.int x14_1), some (.int y76_2), some (.int ys76_0)]) (S' := [.int x14_1, .int y76_2, .ref 147]) (w' := w) rfl ?_
    refine tm_c rfl (Nat.le_of_ble_eq_true rfl) (dm_Mr_hasAct (d := d + 401) hs) (fun v w7 hq => ?_)
    obtain ⟨r7, rfl, hz7, hs⟩ := hq
    refine tm_i (p1 := 94) (p2 := 90) rfl (fun h8 => ?_) (fun h8 => ?_)
    · replace hs := hs.1 h8
      refine tm_go 2 (pc' := 14) (L' := [some (.ref 147), some (.int x14_1), some (.int (y76_2 + (1 : Int32))), some (.int ys76_0)]) (S' := []) (w' := w7) rfl ?_
      exact hA _ _ _ hs
    · replace hs := hs.2 h8
      refine tm_go 3 (pc' := 93) (L' := [some (.ref 147), some (.int x14_1), some (.int y76_2), some (.int ys76_0)]) (S' := [.int (y76_2 + (1 : Int32))]) (w' := w7) rfl ?_
      exact tm_r rfl ⟨_, rfl, hs⟩
set_option maxHeartbeats 4000000 in
set_option maxRecDepth 100000 in
theorem tx_Mr_act1_14 {d : Nat} {x14_1 : Int32} {E : MW → Prop} {Q : Int32 → MW → Prop} (n : Nat) : ∀ (x14_2 : Int32)  (z3 : Option Value) (w : MW), q_Mr_act1_14 x14_1 E Q n x14_2 w → (∀  (v0 : Option Value) (v1 : Option Value) (v2 : Option Value) (v3 : Option Value) (w : MW), E  w → Tm (d + 402) 298 100 [v0, v1, v2, v3] [] w (RI Q)) → Tm (d + 402) 298 14 [some (.ref 147), some (.int x14_1), some (.int x14_2), z3] [] w (RI Q) := by
  induction n with
  | zero => intro x14_2 z3 w hs; rw [q_Mr_act1_14.eq_1] at hs; exact hs.elim
  | succ n ih =>
    intro x14_2 z3 w hs hE
    rw [q_Mr_act1_14.eq_2] at hs
    refine tm_go 3 (pc' := 19) (L' := [some (.ref 147), some (.int x14_1), some (.int x14_2), z3]) (S' := [.int (w.1 147 20), .int x14_2]) (w' := w) rfl ?_
    refine tm_i (p1 := 100) (p2 := 22) rfl (fun h3 => ?_) (fun h3 => ?_)
    · replace hs := hs.1 h3
      exact hE _ _ _ _ _ hs
    · replace hs := hs.2 h3
      refine tm_go 3 (pc' := 27) (L' := [some (.ref 147), some (.int x14_1), some (.int x14_2), z3]) (S' := [.int x14_2, .ref 162]) (w' := w) rfl ?_
      obtain ⟨b4, hs⟩ := hs
      refine tm_k (pc' := 28) (L' := [some (.ref 147), some (.int x14_1), some (.int x14_2), z3]) (S' := [.int (w.1 162 x14_2.toInt.toNat)]) (w' := w) rfl b4 ?_
      refine tm_i (p1 := 75) (p2 := 31) rfl (fun h5 => ?_) (fun h5 => ?_)
      · replace hs := hs.1 h5
        refine tm_go 1 (pc' := 76) (L' := [some (.ref 147), some (.int x14_1), some (.int x14_2), z3]) (S' := [.int 0]) (w' := w) rfl ?_
        exact tx_Mr_act1_76 hs (fun q0 q1 q2 hs => ih q0 q1 q2 hs hE) hE
      · replace hs := hs.2 h5
        refine tm_go 3 (pc' := 36) (L' := [some (.ref 147), some (.int x14_1), some (.int x14_2), z3]) (S' := [.int x14_2, .ref 161]) (w' := w) rfl ?_
        obtain ⟨b9, hs⟩ := hs
        refine tm_k (pc' := 37) (L' := [some (.ref 147), some (.int x14_1), some (.int x14_2), z3]) (S' := [.int (w.1 161 x14_2.toInt.toNat)]) (w' := w) rfl b9 ?_
        refine tm_i (p1 := 71) (p2 := 40) rfl (fun h10 => ?_) (fun h10 => ?_)
        · replace hs := hs.1 h10
          refine tm_go 2 (pc' := 76) (L' := [some (.ref 147), some (.int x14_1), some (.int x14_2), z3]) (S' := [.int 1]) (w' := w) rfl ?_
          exact tx_Mr_act1_76 hs (fun q0 q1 q2 hs => ih q0 q1 q2 hs hE) hE
        · replace hs := hs.2 h10
          refine tm_go 2 (pc' := 42) (L' := [some (.ref 147), some (.int x14_1), some (.int x14_2), z3]) (S' := [.int x14_2, .ref 147]) (w' := w) rfl ?_
          refine tm_c rfl (Nat.le_of_ble_eq_true rfl) (dm_Mr_isOn (d := d + 0) hs) (fun v w11 hq => ?_)
          obtain ⟨r11, rfl, hz11, hs⟩ := hq
          refine tm_i (p1 := 75) (p2 := 48) rfl (fun h12 => ?_) (fun h12 => ?_)
          · replace hs := hs.1 h12
            refine tm_go 1 (pc' := 76) (L' := [some (.ref 147), some (.int x14_1), some (.int x14_2), z3]) (S' := [.int 0]) (w' := w11) rfl ?_
            exact tx_Mr_act1_76 hs (fun q0 q1 q2 hs => ih q0 q1 q2 hs hE) hE
          · replace hs := hs.2 h12
            refine tm_go 3 (pc' := 53) (L' := [some (.ref 147), some (.int x14_1), some (.int x14_2), z3]) (S' := [.int x14_2, .ref 160]) (w' := w11) rfl ?_
            obtain ⟨b13, hs⟩ := hs
            refine tm_k (pc' := 54) (L' := [some (.ref 147), some (.int x14_1), some (.int x14_2), z3]) (S' := [.int (w11.1 160 x14_2.toInt.toNat)]) (w' := w11) rfl b13 ?_
            refine tm_go 8 (pc' := 67) (L' := [some (.ref 147), some (.int x14_1), some (.int x14_2), z3]) (S' := [.int (((40 : Int32) * (w11.1 147 12)) + x14_2), .ref 157, .int (w11.1 160 x14_2.toInt.toNat)]) (w' := w11) rfl ?_
            obtain ⟨b14, hs⟩ := hs
            refine tm_k (pc' := 68) (L' := [some (.ref 147), some (.int x14_1), some (.int x14_2), z3]) (S' := [.int (w11.1 157 ((((40 : Int32) * (w11.1 147 12)) + x14_2).toInt.toNat)), .int (w11.1 160 x14_2.toInt.toNat)]) (w' := w11) rfl b14 ?_
            refine tm_i (p1 := 75) (p2 := 71) rfl (fun h15 => ?_) (fun h15 => ?_)
            · replace hs := hs.1 h15
              refine tm_go 1 (pc' := 76) (L' := [some (.ref 147), some (.int x14_1), some (.int x14_2), z3]) (S' := [.int 0]) (w' := w11) rfl ?_
              exact tx_Mr_act1_76 hs (fun q0 q1 q2 hs => ih q0 q1 q2 hs hE) hE
            · replace hs := hs.2 h15
              refine tm_go 2 (pc' := 76) (L' := [some (.ref 147), some (.int x14_1), some (.int x14_2), z3]) (S' := [.int 1]) (w' := w11) rfl ?_
              exact tx_Mr_act1_76 hs (fun q0 q1 q2 hs => ih q0 q1 q2 hs hE) hE
set_option maxHeartbeats 4000000 in
set_option maxRecDepth 100000 in
theorem dm_Mr_act1 {d : Nat} {w : MW} {a0 : Int32} {Q : Int32 → MW → Prop} (hs : p_Mr_act1 w a0 Q) : Tc (d + 402) 298 [.ref 147, .int a0] w (RI Q) := by
  unfold p_Mr_act1 at hs
  refine tm_go 1 (pc' := 1) (L' := [some (.ref 147), some (.int a0), none, none]) (S' := [.int a0]) (w' := w) rfl ?_
  refine tm_i (p1 := 10) (p2 := 4) rfl (fun h1 => ?_) (fun h1 => ?_)
  · replace hs := hs.1 h1
    refine tm_go 1 (pc' := 11) (L' := [some (.ref 147), some (.int a0), none, none]) (S' := [.int (-1)]) (w' := w) rfl ?_
    exact tm_r rfl ⟨_, rfl, hs⟩
  · replace hs := hs.2 h1
    refine tm_go 2 (pc' := 7) (L' := [some (.ref 147), some (.int a0), none, none]) (S' := [.int 31, .int a0]) (w' := w) rfl ?_
    refine tm_i (p1 := 12) (p2 := 10) rfl (fun h2 => ?_) (fun h2 => ?_)
    · replace hs := hs.1 h2
      refine tm_go 2 (pc' := 14) (L' := [some (.ref 147), some (.int a0), some (.int 0), none]) (S' := []) (w' := w) rfl ?_
      refine tx_Mr_act1_14 FU _ _ _ hs (fun  z16_0 z16_1 z16_2 z16_3 w16 hs => ?_)
      refine tm_go 1 (pc' := 101) (L' := [z16_0, z16_1, z16_2, z16_3]) (S' := [.int 0]) (w' := w16) rfl ?_
      exact tm_r rfl ⟨_, rfl, hs⟩
    · replace hs := hs.2 h2
      refine tm_go 1 (pc' := 11) (L' := [some (.ref 147), some (.int a0), none, none]) (S' := [.int (-1)]) (w' := w) rfl ?_
      exact tm_r rfl ⟨_, rfl, hs⟩
set_option maxHeartbeats 4000000 in
set_option maxRecDepth 100000 in
theorem tx_Mo_perform_296 {d : Nat} {x296_2 : Int32} {E : MW → Prop} {Q : Int32 → MW → Prop} (n : Nat) : ∀ (x296_6 : Int32)  (z1 : Option Value) (z3 : Option Value) (z4 : Option Value) (z5 : Option Value) (w : MW), q_Mo_perform_296 x296_2 E Q n x296_6 w → (∀  (v0 : Option Value) (v1 : Option Value) (v2 : Option Value) (v3 : Option Value) (v4 : Option Value) (v5 : Option Value) (v6 : Option Value) (w : MW), E  w → Tm (d + 403) 89 329 [v0, v1, v2, v3, v4, v5, v6] [] w (RI Q)) → Tm (d + 403) 89 296 [some (.ref 127), z1, some (.int x296_2), z3, z4, z5, some (.int x296_6)] [] w (RI Q) := by
  induction n with
  | zero => intro x296_6 z1 z3 z4 z5 w hs; rw [q_Mo_perform_296.eq_1] at hs; exact hs.elim
  | succ n ih =>
    intro x296_6 z1 z3 z4 z5 w hs hE
    rw [q_Mo_perform_296.eq_2] at hs
    refine tm_go 2 (pc' := 301) (L' := [some (.ref 127), z1, some (.int x296_2), z3, z4, z5, some (.int x296_6)]) (S' := [.int 200, .int x296_6]) (w' := w) rfl ?_
    refine tm_i (p1 := 329) (p2 := 304) rfl (fun h18 => ?_) (fun h18 => ?_)
    · replace hs := hs.1 h18
      exact hE _ _ _ _ _ _ _ _ hs
    · replace hs := hs.2 h18
      refine tm_go 11 (pc' := 322) (L' := [some (.ref 127), z1, some (.int x296_2), z3, z4, z5, some (.int x296_6)]) (S' := [.int 0, .int (((200 : Int32) * (x296_2 - (w.1 127 4))) + x296_6), .ref 172]) (w' := w) rfl ?_
      obtain ⟨b19, hs⟩ := hs
      refine tm_k (pc' := 323) (L' := [some (.ref 127), z1, some (.int x296_2), z3, z4, z5, some (.int x296_6)]) (S' := []) (w' := (sI w 172 ((((200 : Int32) * (x296_2 - (w.1 127 4))) + x296_6).toInt.toNat) (vp_nar .byte (0 : Int32)))) rfl b19 ?_
      refine tm_go 2 (pc' := 296) (L' := [some (.ref 127), z1, some (.int x296_2), z3, z4, (ksl z5), some (.int (x296_6 + (1 : Int32)))]) (S' := []) (w' := (sI w 172 ((((200 : Int32) * (x296_2 - (w.1 127 4))) + x296_6).toInt.toNat) (vp_nar .byte (0 : Int32)))) rfl ?_
      exact ih _ _ _ _ _ _ hs hE
set_option maxHeartbeats 4000000 in
set_option maxRecDepth 100000 in
theorem tx_Mo_perform_245 {d : Nat} {y245_2 : Int32} {y245_3 : Int32} {y245_4 : Int32} {z1 : Option Value} {z5 : Option Value} {z6 : Option Value} {w : MW} {Q : Int32 → MW → Prop} (hs : q_Mo_perform_245 y245_2 y245_3 y245_4 w Q) : Tm (d + 403) 89 245 [some (.ref 127), z1, some (.int y245_2), some (.int y245_3), some (.int y245_4), z5, z6] [] w (RI Q) := by
  unfold q_Mo_perform_245 at hs
  refine tm_go 2 (pc' := 248) (L' := [some (.ref 127), z1, some (.int y245_2), some (.int y245_3), some (.int y245_4), z5, z6]) (S' := [.int 3, .int y245_4]) (w' := w) rfl ?_
  refine tm_i (p1 := 268) (p2 := 251) rfl (fun h16 => ?_) (fun h16 => ?_)
  · replace hs := hs.1 h16
    refine tm_go 3 (pc' := 273) (L' := [some (.ref 127), z1, some (.int y245_2), some (.int y245_3), some (.int y245_4), z5, z6]) (S' := [.int (w.1 127 4), .int y245_2]) (w' := w) rfl ?_
    refine tm_i (p1 := 293) (p2 := 276) rfl (fun h17 => ?_) (fun h17 => ?_)
    · replace hs := hs.1 h17
      refine tm_go 2 (pc' := 296) (L' := [some (.ref 127), z1, some (.int y245_2), some (.int y245_3), some (.int y245_4), (ksl z5), some (.int 0)]) (S' := []) (w' := w) rfl ?_
      refine tx_Mo_perform_296 FU _ _ _ _ _ _ hs (fun  z20_0 z20_1 z20_2 z20_3 z20_4 z20_5 z20_6 w20 hs => ?_)
      refine tm_go 1 (pc' := 330) (L' := [z20_0, z20_1, z20_2, z20_3, z20_4, z20_5, z20_6]) (S' := [.int 0]) (w' := w20) rfl ?_
      exact tm_r rfl ⟨_, rfl, hs⟩
    · replace hs := hs.2 h17
      refine tm_go 4 (pc' := 282) (L' := [some (.ref 127), z1, some (.int y245_2), some (.int y245_3), some (.int y245_4), z5, z6]) (S' := [.int 0, .int y245_2, .ref 165]) (w' := w) rfl ?_
      obtain ⟨b21, hs⟩ := hs
      refine tm_k (pc' := 283) (L' := [some (.ref 127), z1, some (.int y245_2), some (.int y245_3), some (.int y245_4), z5, z6]) (S' := []) (w' := (sI w 165 y245_2.toInt.toNat 0)) rfl b21 ?_
      refine tm_go 4 (pc' := 289) (L' := [some (.ref 127), z1, some (.int y245_2), some (.int y245_3), some (.int y245_4), z5, z6]) (S' := [.int 0, .int y245_2, .ref 166]) (w' := (sI w 165 y245_2.toInt.toNat 0)) rfl ?_
      obtain ⟨b22, hs⟩ := hs
      refine tm_k (pc' := 290) (L' := [some (.ref 127), z1, some (.int y245_2), some (.int y245_3), some (.int y245_4), z5, z6]) (S' := []) (w' := (sI (sI w 165 y245_2.toInt.toNat 0) 166 y245_2.toInt.toNat 0)) rfl b22 ?_
      refine tm_go 2 (pc' := 330) (L' := [some (.ref 127), z1, some (.int y245_2), some (.int y245_3), some (.int y245_4), z5, z6]) (S' := [.int 0]) (w' := (sI (sI w 165 y245_2.toInt.toNat 0) 166 y245_2.toInt.toNat 0)) rfl ?_
      exact tm_r rfl ⟨_, rfl, hs⟩
  · replace hs := hs.2 h16
    refine tm_go 9 (pc' := 265) (L' := [some (.ref 127), z1, some (.int y245_2), some (.int y245_3), some (.int y245_4), z5, z6]) (S' := [.int (w.1 127 78), .int (((6 : Int32) * y245_2) + y245_3), .ref 174]) (w' := w) rfl ?_
    obtain ⟨b23, hs⟩ := hs
    refine tm_k (pc' := 266) (L' := [some (.ref 127), z1, some (.int y245_2), some (.int y245_3), some (.int y245_4), z5, z6]) (S' := []) (w' := (sI w 174 ((((6 : Int32) * y245_2) + y245_3).toInt.toNat) (w.1 127 78))) rfl b23 ?_
    refine tm_go 1 (pc' := 267) (L' := [some (.ref 127), z1, some (.int y245_2), some (.int y245_3), some (.int y245_4), z5, z6]) (S' := [.int 0]) (w' := (sI w 174 ((((6 : Int32) * y245_2) + y245_3).toInt.toNat) (w.1 127 78))) rfl ?_
    exact tm_r rfl ⟨_, rfl, hs⟩
set_option maxHeartbeats 4000000 in
set_option maxRecDepth 100000 in
theorem tx_Mo_perform_95 {d : Nat} {y95_1 : Int32} {y95_2 : Int32} {y95_3 : Int32} {y95_4 : Int32} {ys95_0 : Int32} {z5 : Option Value} {z6 : Option Value} {w : MW} {Q : Int32 → MW → Prop} (hs : q_Mo_perform_95 y95_1 y95_2 y95_3 y95_4 ys95_0 w Q) : Tm (d + 403) 89 95 [some (.ref 127), some (.int y95_1), some (.int y95_2), some (.int y95_3), some (.int y95_4), z5, z6] [.int ys95_0] w (RI Q) := by
  unfold q_Mo_perform_95 at hs
  refine tm_go 2 (pc' := 99) (L' := [some (.ref 127), some (.int y95_1), some (.int y95_2), some (.int y95_3), some (.int y95_4), some (.int ys95_0), z6]) (S' := [.int ys95_0]) (w' := w) rfl ?_
  refine tm_i (p1 := 104) (p2 := 102) rfl (fun h7 => ?_) (fun h7 => ?_)
  · replace hs := hs.1 h7
    refine tm_go 3 (pc' := 109) (L' := [some (.ref 127), some (.int y95_1), some (.int y95_2), some (.int y95_3), some (.int y95_4), some (.int ys95_0), z6]) (S' := [.int y95_1, .ref 147]) (w' := w) rfl ?_
    refine tm_c rfl (Nat.le_of_ble_eq_true rfl) (dm_Mr_act1 (d := d + 0) hs) (fun v w8 hq => ?_)
    obtain ⟨r8, rfl, hs⟩ := hq
    refine tm_i (p1 := 117) (p2 := 115) rfl (fun h9 => ?_) (fun h9 => ?_)
    · replace hs := hs.1 h9
      refine tm_go 1 (pc' := 119) (L' := [some (.ref 127), some (.int y95_1), some (.int y95_2), some (.int y95_3), some (.int y95_4), some (.int ys95_0), z6]) (S' := [.int y95_4]) (w' := w8) rfl ?_
      refine tm_i (p1 := 135) (p2 := 122) rfl (fun h10 => ?_) (fun h10 => ?_)
      · replace hs := hs.1 h10
        refine tm_go 2 (pc' := 138) (L' := [some (.ref 127), some (.int y95_1), some (.int y95_2), some (.int y95_3), some (.int y95_4), some (.int ys95_0), z6]) (S' := [.int 1, .int y95_4]) (w' := w8) rfl ?_
        refine tm_i (p1 := 165) (p2 := 141) rfl (fun h11 => ?_) (fun h11 => ?_)
        · replace hs := hs.1 h11
          refine tm_go 2 (pc' := 168) (L' := [some (.ref 127), some (.int y95_1), some (.int y95_2), some (.int y95_3), some (.int y95_4), some (.int ys95_0), z6]) (S' := [.int 2, .int y95_4]) (w' := w8) rfl ?_
          refine tm_i (p1 := 221) (p2 := 171) rfl (fun h12 => ?_) (fun h12 => ?_)
          · replace hs := hs.1 h12
            refine tm_go 2 (pc' := 223) (L' := [some (.ref 127), some (.int y95_1), some (.int y95_2), some (.int y95_3), some (.int y95_4), some (.int ys95_0), z6]) (S' := [.int y95_2, .ref 127]) (w' := w8) rfl ?_
            refine tm_c rfl (Nat.le_of_ble_eq_true rfl) (dm_Mo_isOnWay (d := d + 402) hs) (fun v w13 hq => ?_)
            obtain ⟨r13, rfl, hz13, hs⟩ := hq
            refine tm_i (p1 := 243) (p2 := 229) rfl (fun h14 => ?_) (fun h14 => ?_)
            · replace hs := hs.1 h14
              refine tm_go 1 (pc' := 244) (L' := [some (.ref 127), some (.int y95_1), some (.int y95_2), some (.int y95_3), some (.int y95_4), some (.int ys95_0), z6]) (S' := [.int 3]) (w' := w13) rfl ?_
              exact tm_r rfl ⟨_, rfl, hs⟩
            · replace hs := hs.2 h14
              refine tm_go 2 (pc' := 232) (L' := [some (.ref 127), some (.int y95_1), some (.int y95_2), some (.int y95_3), some (.int y95_4), some (.int ys95_0), z6]) (S' := [.int 3, .int y95_4]) (w' := w13) rfl ?_
              refine tm_i (p1 := 245) (p2 := 235) rfl (fun h15 => ?_) (fun h15 => ?_)
              · replace hs := hs.1 h15
                exact tx_Mo_perform_245 hs 
              · replace hs := hs.2 h15
                refine tm_go 2 (pc' := 237) (L' := [some (.ref 127), some (.int y95_1), some (.int y95_2), some (.int y95_3), some (.int y95_4), some (.int ys95_0), z6]) (S' := [.int y95_2, .ref 127]) (w' := w13) rfl ?_
                refine tm_c rfl (Nat.le_of_ble_eq_true rfl) (dm_Mo_liquidIn (d := d + 402) hs) (fun v w24 hq => ?_)
                obtain ⟨r24, rfl, hs⟩ := hq
                refine tm_i (p1 := 245) (p2 := 243) rfl (fun h25 => ?_) (fun h25 => ?_)
                · replace hs := hs.1 h25
                  exact tx_Mo_perform_245 hs 
                · replace hs := hs.2 h25
                  refine tm_go 1 (pc' := 244) (L' := [some (.ref 127), some (.int y95_1), some (.int y95_2), some (.int y95_3), some (.int y95_4), some (.int ys95_0), z6]) (S' := [.int 3]) (w' := w24) rfl ?_
                  exact tm_r rfl ⟨_, rfl, hs⟩
          · replace hs := hs.2 h12
            refine tm_go 2 (pc' := 173) (L' := [some (.ref 127), some (.int y95_1), some (.int y95_2), some (.int y95_3), some (.int y95_4), some (.int ys95_0), z6]) (S' := [.int y95_2, .ref 127]) (w' := w8) rfl ?_
            refine tm_c rfl (Nat.le_of_ble_eq_true rfl) (dm_Mo_held (d := d + 402) hs) (fun v w26 hq => ?_)
            obtain ⟨r26, rfl, hs⟩ := hq
            refine tm_go 1 (pc' := 177) (L' := [some (.ref 127), some (.int y95_1), some (.int y95_2), some (.int y95_3), some (.int y95_4), some (.int ys95_0), z6]) (S' := [.int (-1), .int r26]) (w' := w26) rfl ?_
            refine tm_i (p1 := 182) (p2 := 180) rfl (fun h27 => ?_) (fun h27 => ?_)
            · replace hs := hs.1 h27
              refine tm_go 3 (pc' := 187) (L' := [some (.ref 127), some (.int y95_1), some (.int y95_2), some (.int y95_3), some (.int y95_4), some (.int ys95_0), z6]) (S' := [.int y95_2, .ref 167]) (w' := w26) rfl ?_
              obtain ⟨b28, hs⟩ := hs
              refine tm_k (pc' := 188) (L' := [some (.ref 127), some (.int y95_1), some (.int y95_2), some (.int y95_3), some (.int y95_4), some (.int ys95_0), z6]) (S' := [.int (w26.1 167 y95_2.toInt.toNat)]) (w' := w26) rfl b28 ?_
              refine tm_go 5 (pc' := 196) (L' := [some (.ref 127), some (.int y95_1), some (.int y95_2), some (.int y95_3), some (.int y95_4), some (.int ys95_0), some (.int (w26.1 167 y95_2.toInt.toNat))]) (S' := [.int y95_3, .int y95_2, .ref 167]) (w' := w26) rfl ?_
              obtain ⟨b29, hs⟩ := hs
              refine tm_k (pc' := 197) (L' := [some (.ref 127), some (.int y95_1), some (.int y95_2), some (.int y95_3), some (.int y95_4), some (.int ys95_0), some (.int (w26.1 167 y95_2.toInt.toNat))]) (S' := []) (w' := (sI w26 167 y95_2.toInt.toNat y95_3)) rfl b29 ?_
              refine tm_go 1 (pc' := 198) (L' := [some (.ref 127), some (.int y95_1), some (.int y95_2), some (.int y95_3), some (.int y95_4), some (.int ys95_0), some (.int (w26.1 167 y95_2.toInt.toNat))]) (S' := [.ref 127]) (w' := (sI w26 167 y95_2.toInt.toNat y95_3)) rfl ?_
              refine tm_c rfl (Nat.le_of_ble_eq_true rfl) (dm_Mo_look (d := d + 401) hs) (fun v w30 hq => ?_)
              obtain ⟨rfl, hs⟩ := hq
              refine tm_go 1 (pc' := 202) (L' := [some (.ref 127), some (.int y95_1), some (.int y95_2), some (.int y95_3), some (.int y95_4), some (.int ys95_0), some (.int (w26.1 167 y95_2.toInt.toNat))]) (S' := [.ref 127]) (w' := w30) rfl ?_
              refine tm_c rfl (Nat.le_of_ble_eq_true rfl) (dm_Mo_isSafe (d := d + 399) hs) (fun v w31 hq => ?_)
              obtain ⟨r31, rfl, hz31, hs⟩ := hq
              refine tm_i (p1 := 219) (p2 := 208) rfl (fun h32 => ?_) (fun h32 => ?_)
              · replace hs := hs.1 h32
                refine tm_go 1 (pc' := 220) (L' := [some (.ref 127), some (.int y95_1), some (.int y95_2), some (.int y95_3), some (.int y95_4), some (.int ys95_0), some (.int (w26.1 167 y95_2.toInt.toNat))]) (S' := [.int 0]) (w' := w31) rfl ?_
                exact tm_r rfl ⟨_, rfl, hs⟩
              · replace hs := hs.2 h32
                refine tm_go 4 (pc' := 215) (L' := [some (.ref 127), some (.int y95_1), some (.int y95_2), some (.int y95_3), some (.int y95_4), some (.int ys95_0), some (.int (w26.1 167 y95_2.toInt.toNat))]) (S' := [.int (w26.1 167 y95_2.toInt.toNat), .int y95_2, .ref 167]) (w' := w31) rfl ?_
                obtain ⟨b33, hs⟩ := hs
                refine tm_k (pc' := 216) (L' := [some (.ref 127), some (.int y95_1), some (.int y95_2), some (.int y95_3), some (.int y95_4), some (.int ys95_0), some (.int (w26.1 167 y95_2.toInt.toNat))]) (S' := []) (w' := (sI w31 167 y95_2.toInt.toNat (w26.1 167 y95_2.toInt.toNat))) rfl b33 ?_
                refine tm_go 1 (pc' := 218) (L' := [some (.ref 127), some (.int y95_1), some (.int y95_2), some (.int y95_3), some (.int y95_4), some (.int ys95_0), some (.int (w26.1 167 y95_2.toInt.toNat))]) (S' := [.int 7]) (w' := (sI w31 167 y95_2.toInt.toNat (w26.1 167 y95_2.toInt.toNat))) rfl ?_
                exact tm_r rfl ⟨_, rfl, hs⟩
            · replace hs := hs.2 h27
              refine tm_go 1 (pc' := 181) (L' := [some (.ref 127), some (.int y95_1), some (.int y95_2), some (.int y95_3), some (.int y95_4), some (.int ys95_0), z6]) (S' := [.int 3]) (w' := w26) rfl ?_
              exact tm_r rfl ⟨_, rfl, hs⟩
        · replace hs := hs.2 h11
          refine tm_go 3 (pc' := 144) (L' := [some (.ref 127), some (.int y95_1), some (.int y95_2), some (.int y95_3), some (.int y95_4), some (.int ys95_0), z6]) (S' := [.int y95_3, .int y95_2, .ref 127]) (w' := w8) rfl ?_
          refine tm_c rfl (Nat.le_of_ble_eq_true rfl) (dm_Mo_openWay (d := d + 402) hs) (fun v w34 hq => ?_)
          obtain ⟨r34, rfl, hs⟩ := hq
          refine tm_go 3 (pc' := 152) (L' := [some (.ref 127), some (.int y95_1), some (.int y95_2), some (.int y95_3), some (.int y95_4), some (.int ys95_0), some (.int r34)]) (S' := [.int (-1), .int r34]) (w' := w34) rfl ?_
          refine tm_i (p1 := 157) (p2 := 155) rfl (fun h35 => ?_) (fun h35 => ?_)
          · replace hs := hs.1 h35
            refine tm_go 2 (pc' := 160) (L' := [some (.ref 127), some (.int y95_1), some (.int y95_2), some (.int y95_3), some (.int y95_4), some (.int ys95_0), some (.int r34)]) (S' := [.int r34, .ref 127]) (w' := w34) rfl ?_
            refine tm_c rfl (Nat.le_of_ble_eq_true rfl) (dm_Mo_close (d := d + 401) hs) (fun v w36 hq => ?_)
            obtain ⟨rfl, hs⟩ := hq
            refine tm_go 1 (pc' := 164) (L' := [some (.ref 127), some (.int y95_1), some (.int y95_2), some (.int y95_3), some (.int y95_4), some (.int ys95_0), some (.int r34)]) (S' := [.int 0]) (w' := w36) rfl ?_
            exact tm_r rfl ⟨_, rfl, hs⟩
          · replace hs := hs.2 h35
            refine tm_go 1 (pc' := 156) (L' := [some (.ref 127), some (.int y95_1), some (.int y95_2), some (.int y95_3), some (.int y95_4), some (.int ys95_0), some (.int r34)]) (S' := [.int 3]) (w' := w34) rfl ?_
            exact tm_r rfl ⟨_, rfl, hs⟩
      · replace hs := hs.2 h10
        refine tm_go 6 (pc' := 130) (L' := [some (.ref 127), some (.int y95_1), some (.int y95_2), some (.int y95_3), some (.int y95_4), some (.int ys95_0), z6]) (S' := [.int y95_1, .ref 200, .int y95_3, .int y95_2, .ref 127]) (w' := w8) rfl ?_
        obtain ⟨b37, hs⟩ := hs
        refine tm_k (pc' := 131) (L' := [some (.ref 127), some (.int y95_1), some (.int y95_2), some (.int y95_3), some (.int y95_4), some (.int ys95_0), z6]) (S' := [.int (w8.1 200 y95_1.toInt.toNat), .int y95_3, .int y95_2, .ref 127]) (w' := w8) rfl b37 ?_
        refine tm_c rfl (Nat.le_of_ble_eq_true rfl) (dm_Mo_open (d := d + 397) hs) (fun v w38 hq => ?_)
        obtain ⟨r38, rfl, hs⟩ := hq
        exact tm_r rfl ⟨_, rfl, hs⟩
    · replace hs := hs.2 h9
      refine tm_go 1 (pc' := 116) (L' := [some (.ref 127), some (.int y95_1), some (.int y95_2), some (.int y95_3), some (.int y95_4), some (.int ys95_0), z6]) (S' := [.int 2]) (w' := w8) rfl ?_
      exact tm_r rfl ⟨_, rfl, hs⟩
  · replace hs := hs.2 h7
    refine tm_go 1 (pc' := 103) (L' := [some (.ref 127), some (.int y95_1), some (.int y95_2), some (.int y95_3), some (.int y95_4), some (.int ys95_0), z6]) (S' := [.int 1]) (w' := w) rfl ?_
    exact tm_r rfl ⟨_, rfl, hs⟩
set_option maxHeartbeats 4000000 in
set_option maxRecDepth 100000 in
theorem tx_Mo_perform_33 {d : Nat} {y33_1 : Int32} {y33_2 : Int32} {y33_3 : Int32} {y33_4 : Int32} {z5 : Option Value} {z6 : Option Value} {w : MW} {Q : Int32 → MW → Prop} (hs : q_Mo_perform_33 y33_1 y33_2 y33_3 y33_4 w Q) : Tm (d + 403) 89 33 [some (.ref 127), some (.int y33_1), some (.int y33_2), some (.int y33_3), some (.int y33_4), z5, z6] [] w (RI Q) := by
  unfold q_Mo_perform_33 at hs
  refine tm_go 2 (pc' := 35) (L' := [some (.ref 127), some (.int y33_1), some (.int y33_2), some (.int y33_3), some (.int y33_4), z5, z6]) (S' := [.int y33_2, .ref 127]) (w' := w) rfl ?_
  refine tm_c rfl (Nat.le_of_ble_eq_true rfl) (dm_Mo_isTank (d := d + 401) hs) (fun v w5 hq => ?_)
  obtain ⟨r5, rfl, hz5, hs⟩ := hq
  refine tm_i (p1 := 58) (p2 := 41) rfl (fun h6 => ?_) (fun h6 => ?_)
  · replace hs := hs.1 h6
    refine tm_go 2 (pc' := 95) (L' := [some (.ref 127), some (.int y33_1), some (.int y33_2), some (.int y33_3), some (.int y33_4), z5, z6]) (S' := [.int 0]) (w' := w5) rfl ?_
    exact tx_Mo_perform_95 hs 
  · replace hs := hs.2 h6
    refine tm_go 2 (pc' := 43) (L' := [some (.ref 127), some (.int y33_1), some (.int y33_2), some (.int y33_3), some (.int y33_4), z5, z6]) (S' := [.int y33_3, .ref 127]) (w' := w5) rfl ?_
    refine tm_c rfl (Nat.le_of_ble_eq_true rfl) (dm_Mo_isTank (d := d + 401) hs) (fun v w39 hq => ?_)
    obtain ⟨r39, rfl, hz39, hs⟩ := hq
    refine tm_i (p1 := 58) (p2 := 49) rfl (fun h40 => ?_) (fun h40 => ?_)
    · replace hs := hs.1 h40
      refine tm_go 2 (pc' := 95) (L' := [some (.ref 127), some (.int y33_1), some (.int y33_2), some (.int y33_3), some (.int y33_4), z5, z6]) (S' := [.int 0]) (w' := w39) rfl ?_
      exact tx_Mo_perform_95 hs 
    · replace hs := hs.2 h40
      refine tm_go 2 (pc' := 51) (L' := [some (.ref 127), some (.int y33_1), some (.int y33_2), some (.int y33_3), some (.int y33_4), z5, z6]) (S' := [.int y33_3, .int y33_2]) (w' := w39) rfl ?_
      refine tm_i (p1 := 58) (p2 := 54) rfl (fun h41 => ?_) (fun h41 => ?_)
      · replace hs := hs.1 h41
        refine tm_go 2 (pc' := 95) (L' := [some (.ref 127), some (.int y33_1), some (.int y33_2), some (.int y33_3), some (.int y33_4), z5, z6]) (S' := [.int 0]) (w' := w39) rfl ?_
        exact tx_Mo_perform_95 hs 
      · replace hs := hs.2 h41
        refine tm_go 2 (pc' := 95) (L' := [some (.ref 127), some (.int y33_1), some (.int y33_2), some (.int y33_3), some (.int y33_4), z5, z6]) (S' := [.int 1]) (w' := w39) rfl ?_
        exact tx_Mo_perform_95 hs 
set_option maxHeartbeats 4000000 in
set_option maxRecDepth 100000 in
theorem dm_Mo_perform {d : Nat} {w : MW} {a0 : Int32} {Q : Int32 → MW → Prop} (hs : p_Mo_perform w a0 Q) : Tc (d + 403) 89 [.ref 127, .int a0] w (RI Q) := by
  unfold p_Mo_perform at hs
  refine tm_go 3 (pc' := 5) (L' := [some (.ref 127), some (.int a0), none, none, none, none, none]) (S' := [.int a0, .ref 198]) (w' := w) rfl ?_
  obtain ⟨b1, hs⟩ := hs
  refine tm_k (pc' := 6) (L' := [some (.ref 127), some (.int a0), none, none, none, none, none]) (S' := [.int (w.1 198 a0.toInt.toNat)]) (w' := w) rfl b1 ?_
  refine tm_go 4 (pc' := 12) (L' := [some (.ref 127), some (.int a0), some (.int (w.1 198 a0.toInt.toNat)), none, none, none, none]) (S' := [.int a0, .ref 199]) (w' := w) rfl ?_
  obtain ⟨b2, hs⟩ := hs
  refine tm_k (pc' := 13) (L' := [some (.ref 127), some (.int a0), some (.int (w.1 198 a0.toInt.toNat)), none, none, none, none]) (S' := [.int (w.1 199 a0.toInt.toNat)]) (w' := w) rfl b2 ?_
  refine tm_go 4 (pc' := 19) (L' := [some (.ref 127), some (.int a0), some (.int (w.1 198 a0.toInt.toNat)), some (.int (w.1 199 a0.toInt.toNat)), none, none, none]) (S' := [.int a0, .ref 197]) (w' := w) rfl ?_
  obtain ⟨b3, hs⟩ := hs
  refine tm_k (pc' := 20) (L' := [some (.ref 127), some (.int a0), some (.int (w.1 198 a0.toInt.toNat)), some (.int (w.1 199 a0.toInt.toNat)), none, none, none]) (S' := [.int (w.1 197 a0.toInt.toNat)]) (w' := w) rfl b3 ?_
  refine tm_go 2 (pc' := 24) (L' := [some (.ref 127), some (.int a0), some (.int (w.1 198 a0.toInt.toNat)), some (.int (w.1 199 a0.toInt.toNat)), some (.int (w.1 197 a0.toInt.toNat)), none, none]) (S' := [.int (w.1 197 a0.toInt.toNat)]) (w' := w) rfl ?_
  refine tm_i (p1 := 33) (p2 := 27) rfl (fun h4 => ?_) (fun h4 => ?_)
  · replace hs := hs.1 h4
    exact tx_Mo_perform_33 hs 
  · replace hs := hs.2 h4
    refine tm_go 2 (pc' := 30) (L' := [some (.ref 127), some (.int a0), some (.int (w.1 198 a0.toInt.toNat)), some (.int (w.1 199 a0.toInt.toNat)), some (.int (w.1 197 a0.toInt.toNat)), none, none]) (S' := [.int 1, .int (w.1 197 a0.toInt.toNat)]) (w' := w) rfl ?_
    refine tm_i (p1 := 62) (p2 := 33) rfl (fun h42 => ?_) (fun h42 => ?_)
    · replace hs := hs.1 h42
      refine tm_go 2 (pc' := 65) (L' := [some (.ref 127), some (.int a0), some (.int (w.1 198 a0.toInt.toNat)), some (.int (w.1 199 a0.toInt.toNat)), some (.int (w.1 197 a0.toInt.toNat)), none, none]) (S' := [.int 2, .int (w.1 197 a0.toInt.toNat)]) (w' := w) rfl ?_
      refine tm_i (p1 := 76) (p2 := 68) rfl (fun h43 => ?_) (fun h43 => ?_)
      · replace hs := hs.1 h43
        refine tm_go 2 (pc' := 79) (L' := [some (.ref 127), some (.int a0), some (.int (w.1 198 a0.toInt.toNat)), some (.int (w.1 199 a0.toInt.toNat)), some (.int (w.1 197 a0.toInt.toNat)), none, none]) (S' := [.int (-1), .int (w.1 197 a0.toInt.toNat)]) (w' := w) rfl ?_
        refine tm_i (p1 := 94) (p2 := 82) rfl (fun h44 => ?_) (fun h44 => ?_)
        · replace hs := hs.1 h44
          refine tm_go 1 (pc' := 95) (L' := [some (.ref 127), some (.int a0), some (.int (w.1 198 a0.toInt.toNat)), some (.int (w.1 199 a0.toInt.toNat)), some (.int (w.1 197 a0.toInt.toNat)), none, none]) (S' := [.int 0]) (w' := w) rfl ?_
          exact tx_Mo_perform_95 hs 
        · replace hs := hs.2 h44
          refine tm_go 2 (pc' := 84) (L' := [some (.ref 127), some (.int a0), some (.int (w.1 198 a0.toInt.toNat)), some (.int (w.1 199 a0.toInt.toNat)), some (.int (w.1 197 a0.toInt.toNat)), none, none]) (S' := [.int (w.1 198 a0.toInt.toNat), .ref 127]) (w' := w) rfl ?_
          refine tm_c rfl (Nat.le_of_ble_eq_true rfl) (dm_Mo_holdsLiquid (d := d + 400) hs) (fun v w45 hq => ?_)
          obtain ⟨r45, rfl, hz45, hs⟩ := hq
          refine tm_i (p1 := 94) (p2 := 90) rfl (fun h46 => ?_) (fun h46 => ?_)
          · replace hs := hs.1 h46
            refine tm_go 1 (pc' := 95) (L' := [some (.ref 127), some (.int a0), some (.int (w.1 198 a0.toInt.toNat)), some (.int (w.1 199 a0.toInt.toNat)), some (.int (w.1 197 a0.toInt.toNat)), none, none]) (S' := [.int 0]) (w' := w45) rfl ?_
            exact tx_Mo_perform_95 hs 
          · replace hs := hs.2 h46
            refine tm_go 2 (pc' := 95) (L' := [some (.ref 127), some (.int a0), some (.int (w.1 198 a0.toInt.toNat)), some (.int (w.1 199 a0.toInt.toNat)), some (.int (w.1 197 a0.toInt.toNat)), none, none]) (S' := [.int 1]) (w' := w45) rfl ?_
            exact tx_Mo_perform_95 hs 
      · replace hs := hs.2 h43
        refine tm_go 2 (pc' := 70) (L' := [some (.ref 127), some (.int a0), some (.int (w.1 198 a0.toInt.toNat)), some (.int (w.1 199 a0.toInt.toNat)), some (.int (w.1 197 a0.toInt.toNat)), none, none]) (S' := [.int (w.1 198 a0.toInt.toNat), .ref 127]) (w' := w) rfl ?_
        refine tm_c rfl (Nat.le_of_ble_eq_true rfl) (dm_Mo_isValve (d := d + 401) hs) (fun v w47 hq => ?_)
        obtain ⟨r47, rfl, hz47, hs⟩ := hq
        refine tm_go 1 (pc' := 95) (L' := [some (.ref 127), some (.int a0), some (.int (w.1 198 a0.toInt.toNat)), some (.int (w.1 199 a0.toInt.toNat)), some (.int (w.1 197 a0.toInt.toNat)), none, none]) (S' := [.int r47]) (w' := w47) rfl ?_
        exact tx_Mo_perform_95 hs 
    · replace hs := hs.2 h42
      exact tx_Mo_perform_33 hs 
set_option maxHeartbeats 4000000 in
set_option maxRecDepth 100000 in
theorem dm_Mo_raise {d : Nat} {w : MW} {a0 : Int32} {b0 : Int32} {Q : MW → Prop} (hs : p_Mo_raise w a0 b0 Q) : Tc (d + 0) 90 [.ref 127, .int a0, .int b0] w (RV Q) := by
  unfold p_Mo_raise at hs
  refine tm_go 3 (pc' := 7) (L' := [some (.ref 127), some (.int a0), some (.int b0)]) (S' := [.int 200, .int (w.1 127 79)]) (w' := w) rfl ?_
  refine tm_i (p1 := 53) (p2 := 10) rfl (fun h1 => ?_) (fun h1 => ?_)
  · replace hs := hs.1 h1
    exact tm_r rfl ⟨rfl, hs⟩
  · replace hs := hs.2 h1
    refine tm_go 6 (pc' := 22) (L' := [some (.ref 127), some (.int a0), some (.int b0)]) (S' := [.int (w.1 127 78), .int (w.1 127 79), .ref 218]) (w' := w) rfl ?_
    obtain ⟨b2, hs⟩ := hs
    refine tm_k (pc' := 23) (L' := [some (.ref 127), some (.int a0), some (.int b0)]) (S' := []) (w' := (sI w 218 ((w.1 127 79).toInt.toNat) (w.1 127 78))) rfl b2 ?_
    refine tm_go 5 (pc' := 32) (L' := [some (.ref 127), some (.int a0), some (.int b0)]) (S' := [.int a0, .int (w.1 127 79), .ref 219]) (w' := (sI w 218 ((w.1 127 79).toInt.toNat) (w.1 127 78))) rfl ?_
    obtain ⟨b3, hs⟩ := hs
    refine tm_k (pc' := 33) (L' := [some (.ref 127), some (.int a0), some (.int b0)]) (S' := []) (w' := (sI (sI w 218 ((w.1 127 79).toInt.toNat) (w.1 127 78)) 219 ((w.1 127 79).toInt.toNat) a0)) rfl b3 ?_
    refine tm_go 5 (pc' := 42) (L' := [some (.ref 127), some (.int a0), some (.int b0)]) (S' := [.int b0, .int (w.1 127 79), .ref 220]) (w' := (sI (sI w 218 ((w.1 127 79).toInt.toNat) (w.1 127 78)) 219 ((w.1 127 79).toInt.toNat) a0)) rfl ?_
    obtain ⟨b4, hs⟩ := hs
    refine tm_k (pc' := 43) (L' := [some (.ref 127), some (.int a0), some (.int b0)]) (S' := []) (w' := (sI (sI (sI w 218 ((w.1 127 79).toInt.toNat) (w.1 127 78)) 219 ((w.1 127 79).toInt.toNat) a0) 220 ((w.1 127 79).toInt.toNat) b0)) rfl b4 ?_
    refine tm_go 6 (pc' := 53) (L' := [some (.ref 127), some (.int a0), some (.int b0)]) (S' := []) (w' := (sI (sI (sI (sI w 218 ((w.1 127 79).toInt.toNat) (w.1 127 78)) 219 ((w.1 127 79).toInt.toNat) a0) 220 ((w.1 127 79).toInt.toNat) b0) 127 79 ((w.1 127 79) + (1 : Int32)))) rfl ?_
    exact tm_r rfl ⟨rfl, hs⟩
set_option maxHeartbeats 4000000 in
set_option maxRecDepth 100000 in
theorem dm_Mo_act {d : Nat} {w : MW} {a0 : Int32} {Q : Int32 → MW → Prop} (hs : p_Mo_act w a0 Q) : Tc (d + 404) 91 [.ref 127, .int a0] w (RI Q) := by
  unfold p_Mo_act at hs
  refine tm_go 1 (pc' := 1) (L' := [some (.ref 127), some (.int a0), none]) (S' := [.int a0]) (w' := w) rfl ?_
  refine tm_i (p1 := 10) (p2 := 4) rfl (fun h1 => ?_) (fun h1 => ?_)
  · replace hs := hs.1 h1
    refine tm_go 1 (pc' := 11) (L' := [some (.ref 127), some (.int a0), none]) (S' := [.int (-1)]) (w' := w) rfl ?_
    exact tm_r rfl ⟨_, rfl, hs⟩
  · replace hs := hs.2 h1
    refine tm_go 2 (pc' := 7) (L' := [some (.ref 127), some (.int a0), none]) (S' := [.int 31, .int a0]) (w' := w) rfl ?_
    refine tm_i (p1 := 12) (p2 := 10) rfl (fun h2 => ?_) (fun h2 => ?_)
    · replace hs := hs.1 h2
      refine tm_go 2 (pc' := 14) (L' := [some (.ref 127), some (.int a0), none]) (S' := [.int a0, .ref 127]) (w' := w) rfl ?_
      refine tm_c rfl (Nat.le_of_ble_eq_true rfl) (dm_Mo_perform (d := d + 0) hs) (fun v w3 hq => ?_)
      obtain ⟨r3, rfl, hs⟩ := hq
      refine tm_go 2 (pc' := 19) (L' := [some (.ref 127), some (.int a0), some (.int r3)]) (S' := [.int r3]) (w' := w3) rfl ?_
      refine tm_i (p1 := 31) (p2 := 22) rfl (fun h4 => ?_) (fun h4 => ?_)
      · replace hs := hs.1 h4
        refine tm_go 1 (pc' := 32) (L' := [some (.ref 127), some (.int a0), some (.int r3)]) (S' := [.int r3]) (w' := w3) rfl ?_
        exact tm_r rfl ⟨_, rfl, hs⟩
      · replace hs := hs.2 h4
        refine tm_go 5 (pc' := 28) (L' := [some (.ref 127), some (.int a0), some (.int r3)]) (S' := [.int ((10 : Int32) + r3), .int (-1), .ref 127]) (w' := w3) rfl ?_
        refine tm_c rfl (Nat.le_of_ble_eq_true rfl) (dm_Mo_raise (d := d + 403) hs) (fun v w5 hq => ?_)
        obtain ⟨rfl, hs⟩ := hq
        refine tm_go 1 (pc' := 32) (L' := [some (.ref 127), some (.int a0), some (.int r3)]) (S' := [.int r3]) (w' := w5) rfl ?_
        exact tm_r rfl ⟨_, rfl, hs⟩
    · replace hs := hs.2 h2
      refine tm_go 1 (pc' := 11) (L' := [some (.ref 127), some (.int a0), none]) (S' := [.int (-1)]) (w' := w) rfl ?_
      exact tm_r rfl ⟨_, rfl, hs⟩
set_option maxHeartbeats 4000000 in
set_option maxRecDepth 100000 in
theorem dm_Mo_isRole {d : Nat} {w : MW} {a0 : Int32} {b0 : Int32} {Q : Int32 → MW → Prop} (hs : p_Mo_isRole w a0 b0 Q) : Tc (d + 0) 92 [.ref 127, .int a0, .int b0] w (RZ Q) := by
  unfold p_Mo_isRole at hs
  refine tm_go 1 (pc' := 1) (L' := [some (.ref 127), some (.int a0), some (.int b0)]) (S' := [.int a0]) (w' := w) rfl ?_
  refine tm_i (p1 := 43) (p2 := 4) rfl (fun h1 => ?_) (fun h1 => ?_)
  · replace hs := hs.1 h1
    refine tm_go 1 (pc' := 44) (L' := [some (.ref 127), some (.int a0), some (.int b0)]) (S' := [.int 0]) (w' := w) rfl ?_
    exact tm_r rfl ⟨_, rfl, by decide, hs⟩
  · replace hs := hs.2 h1
    refine tm_go 4 (pc' := 12) (L' := [some (.ref 127), some (.int a0), some (.int b0)]) (S' := [.int (w.1 129 32), .int a0]) (w' := w) rfl ?_
    refine tm_i (p1 := 43) (p2 := 15) rfl (fun h2 => ?_) (fun h2 => ?_)
    · replace hs := hs.1 h2
      refine tm_go 1 (pc' := 44) (L' := [some (.ref 127), some (.int a0), some (.int b0)]) (S' := [.int 0]) (w' := w) rfl ?_
      exact tm_r rfl ⟨_, rfl, by decide, hs⟩
    · replace hs := hs.2 h2
      refine tm_go 10 (pc' := 34) (L' := [some (.ref 127), some (.int a0), some (.int b0)]) (S' := [.int (((40 : Int32) * (w.1 129 12)) + a0), .ref 141]) (w' := w) rfl ?_
      obtain ⟨b3, hs⟩ := hs
      refine tm_k (pc' := 35) (L' := [some (.ref 127), some (.int a0), some (.int b0)]) (S' := [.int (w.1 141 ((((40 : Int32) * (w.1 129 12)) + a0).toInt.toNat))]) (w' := w) rfl b3 ?_
      refine tm_go 1 (pc' := 36) (L' := [some (.ref 127), some (.int a0), some (.int b0)]) (S' := [.int b0, .int (w.1 141 ((((40 : Int32) * (w.1 129 12)) + a0).toInt.toNat))]) (w' := w) rfl ?_
      refine tm_i (p1 := 43) (p2 := 39) rfl (fun h4 => ?_) (fun h4 => ?_)
      · replace hs := hs.1 h4
        refine tm_go 1 (pc' := 44) (L' := [some (.ref 127), some (.int a0), some (.int b0)]) (S' := [.int 0]) (w' := w) rfl ?_
        exact tm_r rfl ⟨_, rfl, by decide, hs⟩
      · replace hs := hs.2 h4
        refine tm_go 2 (pc' := 44) (L' := [some (.ref 127), some (.int a0), some (.int b0)]) (S' := [.int 1]) (w' := w) rfl ?_
        exact tm_r rfl ⟨_, rfl, by decide, hs⟩
set_option maxHeartbeats 4000000 in
set_option maxRecDepth 100000 in
theorem dm_Mo_sense {d : Nat} {w : MW} {a0 : Int32} {b0 : Int32} {c0 : Int32} {Q : Int32 → MW → Prop} (hs : p_Mo_sense w a0 b0 c0 Q) : Tc (d + 1) 93 [.ref 127, .int a0, .int b0, .int c0] w (RZ Q) := by
  unfold p_Mo_sense at hs
  refine tm_go 3 (pc' := 4) (L' := [some (.ref 127), some (.int a0), some (.int b0), some (.int c0)]) (S' := [.int 30, .int a0, .ref 127]) (w' := w) rfl ?_
  refine tm_c rfl (Nat.le_of_ble_eq_true rfl) (dm_Mo_isRole (d := d + 0) hs) (fun v w1 hq => ?_)
  obtain ⟨r1, rfl, hz1, hs⟩ := hq
  refine tm_i (p1 := 19) (p2 := 10) rfl (fun h2 => ?_) (fun h2 => ?_)
  · replace hs := hs.1 h2
    refine tm_go 1 (pc' := 20) (L' := [some (.ref 127), some (.int a0), some (.int b0), some (.int c0)]) (S' := [.int 0]) (w' := w1) rfl ?_
    exact tm_r rfl ⟨_, rfl, by decide, hs⟩
  · replace hs := hs.2 h2
    refine tm_go 1 (pc' := 11) (L' := [some (.ref 127), some (.int a0), some (.int b0), some (.int c0)]) (S' := [.int b0]) (w' := w1) rfl ?_
    refine tm_i (p1 := 19) (p2 := 14) rfl (fun h3 => ?_) (fun h3 => ?_)
    · replace hs := hs.1 h3
      refine tm_go 1 (pc' := 20) (L' := [some (.ref 127), some (.int a0), some (.int b0), some (.int c0)]) (S' := [.int 0]) (w' := w1) rfl ?_
      exact tm_r rfl ⟨_, rfl, by decide, hs⟩
    · replace hs := hs.2 h3
      refine tm_go 2 (pc' := 16) (L' := [some (.ref 127), some (.int a0), some (.int b0), some (.int c0)]) (S' := [.int 5, .int b0]) (w' := w1) rfl ?_
      refine tm_i (p1 := 21) (p2 := 19) rfl (fun h4 => ?_) (fun h4 => ?_)
      · replace hs := hs.1 h4
        refine tm_go 4 (pc' := 27) (L' := [some (.ref 127), some (.int a0), some (.int b0), some (.int c0)]) (S' := [.int b0, .int a0, .ref 201]) (w' := w1) rfl ?_
        obtain ⟨b5, hs⟩ := hs
        refine tm_k (pc' := 28) (L' := [some (.ref 127), some (.int a0), some (.int b0), some (.int c0)]) (S' := []) (w' := (sI w1 201 a0.toInt.toNat b0)) rfl b5 ?_
        refine tm_go 4 (pc' := 34) (L' := [some (.ref 127), some (.int a0), some (.int b0), some (.int c0)]) (S' := [.int c0, .int a0, .ref 202]) (w' := (sI w1 201 a0.toInt.toNat b0)) rfl ?_
        obtain ⟨b6, hs⟩ := hs
        refine tm_k (pc' := 35) (L' := [some (.ref 127), some (.int a0), some (.int b0), some (.int c0)]) (S' := []) (w' := (sI (sI w1 201 a0.toInt.toNat b0) 202 a0.toInt.toNat c0)) rfl b6 ?_
        refine tm_go 1 (pc' := 36) (L' := [some (.ref 127), some (.int a0), some (.int b0), some (.int c0)]) (S' := [.int 1]) (w' := (sI (sI w1 201 a0.toInt.toNat b0) 202 a0.toInt.toNat c0)) rfl ?_
        exact tm_r rfl ⟨_, rfl, by decide, hs⟩
      · replace hs := hs.2 h4
        refine tm_go 1 (pc' := 20) (L' := [some (.ref 127), some (.int a0), some (.int b0), some (.int c0)]) (S' := [.int 0]) (w' := w1) rfl ?_
        exact tm_r rfl ⟨_, rfl, by decide, hs⟩
set_option maxHeartbeats 4000000 in
set_option maxRecDepth 100000 in
theorem dm_Mo_watch {d : Nat} {w : MW} {a0 : Int32} {b0 : Int32} {c0 : Int32} {e0 : Int64} {Q : Int32 → MW → Prop} (hs : p_Mo_watch w a0 b0 c0 e0 Q) : Tc (d + 0) 94 [.ref 127, .int a0, .int b0, .int c0, .long e0] w (RZ Q) := by
  unfold p_Mo_watch at hs
  refine tm_go 1 (pc' := 1) (L' := [some (.ref 127), some (.int a0), some (.int b0), some (.int c0), some (.long e0), none]) (S' := [.int a0]) (w' := w) rfl ?_
  refine tm_i (p1 := 19) (p2 := 4) rfl (fun h1 => ?_) (fun h1 => ?_)
  · replace hs := hs.1 h1
    refine tm_go 1 (pc' := 20) (L' := [some (.ref 127), some (.int a0), some (.int b0), some (.int c0), some (.long e0), none]) (S' := [.int 0]) (w' := w) rfl ?_
    exact tm_r rfl ⟨_, rfl, by decide, hs⟩
  · replace hs := hs.2 h1
    refine tm_go 2 (pc' := 7) (L' := [some (.ref 127), some (.int a0), some (.int b0), some (.int c0), some (.long e0), none]) (S' := [.int 15, .int a0]) (w' := w) rfl ?_
    refine tm_i (p1 := 19) (p2 := 10) rfl (fun h2 => ?_) (fun h2 => ?_)
    · replace hs := hs.1 h2
      refine tm_go 1 (pc' := 20) (L' := [some (.ref 127), some (.int a0), some (.int b0), some (.int c0), some (.long e0), none]) (S' := [.int 0]) (w' := w) rfl ?_
      exact tm_r rfl ⟨_, rfl, by decide, hs⟩
    · replace hs := hs.2 h2
      refine tm_go 1 (pc' := 11) (L' := [some (.ref 127), some (.int a0), some (.int b0), some (.int c0), some (.long e0), none]) (S' := [.int b0]) (w' := w) rfl ?_
      refine tm_i (p1 := 19) (p2 := 14) rfl (fun h3 => ?_) (fun h3 => ?_)
      · replace hs := hs.1 h3
        refine tm_go 1 (pc' := 20) (L' := [some (.ref 127), some (.int a0), some (.int b0), some (.int c0), some (.long e0), none]) (S' := [.int 0]) (w' := w) rfl ?_
        exact tm_r rfl ⟨_, rfl, by decide, hs⟩
      · replace hs := hs.2 h3
        refine tm_go 2 (pc' := 16) (L' := [some (.ref 127), some (.int a0), some (.int b0), some (.int c0), some (.long e0), none]) (S' := [.int 5, .int b0]) (w' := w) rfl ?_
        refine tm_i (p1 := 21) (p2 := 19) rfl (fun h4 => ?_) (fun h4 => ?_)
        · replace hs := hs.1 h4
          refine tm_go 4 (pc' := 27) (L' := [some (.ref 127), some (.int a0), some (.int b0), some (.int c0), some (.long e0), none]) (S' := [.int b0, .int a0, .ref 203]) (w' := w) rfl ?_
          obtain ⟨b5, hs⟩ := hs
          refine tm_k (pc' := 28) (L' := [some (.ref 127), some (.int a0), some (.int b0), some (.int c0), some (.long e0), none]) (S' := []) (w' := (sI w 203 a0.toInt.toNat b0)) rfl b5 ?_
          refine tm_go 4 (pc' := 34) (L' := [some (.ref 127), some (.int a0), some (.int b0), some (.int c0), some (.long e0), none]) (S' := [.int c0, .int a0, .ref 204]) (w' := (sI w 203 a0.toInt.toNat b0)) rfl ?_
          obtain ⟨b6, hs⟩ := hs
          refine tm_k (pc' := 35) (L' := [some (.ref 127), some (.int a0), some (.int b0), some (.int c0), some (.long e0), none]) (S' := []) (w' := (sI (sI w 203 a0.toInt.toNat b0) 204 a0.toInt.toNat c0)) rfl b6 ?_
          refine tm_go 4 (pc' := 42) (L' := [some (.ref 127), some (.int a0), some (.int b0), some (.int c0), some (.long e0), none]) (S' := [.long e0, .int a0, .ref 205]) (w' := (sI (sI w 203 a0.toInt.toNat b0) 204 a0.toInt.toNat c0)) rfl ?_
          obtain ⟨b7, hs⟩ := hs
          refine tm_k (pc' := 43) (L' := [some (.ref 127), some (.int a0), some (.int b0), some (.int c0), some (.long e0), none]) (S' := []) (w' := (sJ (sI (sI w 203 a0.toInt.toNat b0) 204 a0.toInt.toNat c0) 205 a0.toInt.toNat e0)) rfl b7 ?_
          refine tm_go 1 (pc' := 44) (L' := [some (.ref 127), some (.int a0), some (.int b0), some (.int c0), some (.long e0), none]) (S' := [.int 1]) (w' := (sJ (sI (sI w 203 a0.toInt.toNat b0) 204 a0.toInt.toNat c0) 205 a0.toInt.toNat e0)) rfl ?_
          exact tm_r rfl ⟨_, rfl, by decide, hs⟩
        · replace hs := hs.2 h4
          refine tm_go 1 (pc' := 20) (L' := [some (.ref 127), some (.int a0), some (.int b0), some (.int c0), some (.long e0), none]) (S' := [.int 0]) (w' := w) rfl ?_
          exact tm_r rfl ⟨_, rfl, by decide, hs⟩
set_option maxHeartbeats 4000000 in
set_option maxRecDepth 100000 in
theorem dm_Mo_signal {d : Nat} {w : MW} {a0 : Int32} {b0 : Int64} {Q : Int32 → MW → Prop} (hs : p_Mo_signal w a0 b0 Q) : Tc (d + 1) 95 [.ref 127, .int a0, .long b0] w (RZ Q) := by
  unfold p_Mo_signal at hs
  refine tm_go 3 (pc' := 4) (L' := [some (.ref 127), some (.int a0), some (.long b0), none]) (S' := [.int 30, .int a0, .ref 127]) (w' := w) rfl ?_
  refine tm_c rfl (Nat.le_of_ble_eq_true rfl) (dm_Mo_isRole (d := d + 0) hs) (fun v w1 hq => ?_)
  obtain ⟨r1, rfl, hz1, hs⟩ := hq
  refine tm_i (p1 := 12) (p2 := 10) rfl (fun h2 => ?_) (fun h2 => ?_)
  · replace hs := hs.1 h2
    refine tm_go 4 (pc' := 18) (L' := [some (.ref 127), some (.int a0), some (.long b0), none]) (S' := [.long b0, .int a0, .ref 206]) (w' := w1) rfl ?_
    obtain ⟨b3, hs⟩ := hs
    refine tm_k (pc' := 19) (L' := [some (.ref 127), some (.int a0), some (.long b0), none]) (S' := []) (w' := (sJ w1 206 a0.toInt.toNat b0)) rfl b3 ?_
    refine tm_go 1 (pc' := 20) (L' := [some (.ref 127), some (.int a0), some (.long b0), none]) (S' := [.int 1]) (w' := (sJ w1 206 a0.toInt.toNat b0)) rfl ?_
    exact tm_r rfl ⟨_, rfl, by decide, hs⟩
  · replace hs := hs.2 h2
    refine tm_go 1 (pc' := 11) (L' := [some (.ref 127), some (.int a0), some (.long b0), none]) (S' := [.int 0]) (w' := w1) rfl ?_
    exact tm_r rfl ⟨_, rfl, by decide, hs⟩
set_option maxHeartbeats 4000000 in
set_option maxRecDepth 100000 in
theorem dm_Mo_value {d : Nat} {w : MW} {a0 : Int32} {Q : Int64 → MW → Prop} (hs : p_Mo_value w a0 Q) : Tc (d + 1) 96 [.ref 127, .int a0] w (RJ Q) := by
  unfold p_Mo_value at hs
  refine tm_go 3 (pc' := 4) (L' := [some (.ref 127), some (.int a0)]) (S' := [.int 30, .int a0, .ref 127]) (w' := w) rfl ?_
  refine tm_c rfl (Nat.le_of_ble_eq_true rfl) (dm_Mo_isRole (d := d + 0) hs) (fun v w1 hq => ?_)
  obtain ⟨r1, rfl, hz1, hs⟩ := hq
  refine tm_i (p1 := 20) (p2 := 10) rfl (fun h2 => ?_) (fun h2 => ?_)
  · replace hs := hs.1 h2
    refine tm_go 3 (pc' := 25) (L' := [some (.ref 127), some (.int a0)]) (S' := [.int a0, .ref 206]) (w' := w1) rfl ?_
    obtain ⟨b3, hs⟩ := hs
    refine tm_k (pc' := 26) (L' := [some (.ref 127), some (.int a0)]) (S' := [.long (w1.2.1 206 a0.toInt.toNat)]) (w' := w1) rfl b3 ?_
    refine tm_go 1 (pc' := 30) (L' := [some (.ref 127), some (.int a0)]) (S' := [.long (w1.2.1 206 a0.toInt.toNat)]) (w' := w1) rfl ?_
    exact tm_r rfl ⟨_, rfl, hs⟩
  · replace hs := hs.2 h2
    refine tm_go 3 (pc' := 14) (L' := [some (.ref 127), some (.int a0)]) (S' := [.int 31, .int a0, .ref 127]) (w' := w1) rfl ?_
    refine tm_c rfl (Nat.le_of_ble_eq_true rfl) (dm_Mo_isRole (d := d + 0) hs) (fun v w4 hq => ?_)
    obtain ⟨r4, rfl, hz4, hs⟩ := hq
    refine tm_i (p1 := 29) (p2 := 20) rfl (fun h5 => ?_) (fun h5 => ?_)
    · replace hs := hs.1 h5
      refine tm_go 1 (pc' := 30) (L' := [some (.ref 127), some (.int a0)]) (S' := [.long 0]) (w' := w4) rfl ?_
      exact tm_r rfl ⟨_, rfl, hs⟩
    · replace hs := hs.2 h5
      refine tm_go 3 (pc' := 25) (L' := [some (.ref 127), some (.int a0)]) (S' := [.int a0, .ref 206]) (w' := w4) rfl ?_
      obtain ⟨b6, hs⟩ := hs
      refine tm_k (pc' := 26) (L' := [some (.ref 127), some (.int a0)]) (S' := [.long (w4.2.1 206 a0.toInt.toNat)]) (w' := w4) rfl b6 ?_
      refine tm_go 1 (pc' := 30) (L' := [some (.ref 127), some (.int a0)]) (S' := [.long (w4.2.1 206 a0.toInt.toNat)]) (w' := w4) rfl ?_
      exact tm_r rfl ⟨_, rfl, hs⟩
set_option maxHeartbeats 4000000 in
set_option maxRecDepth 100000 in
theorem dm_Mr_isRow {d : Nat} {w : MW} {a0 : Int32} {Q : Int32 → MW → Prop} (hs : p_Mr_isRow w a0 Q) : Tc (d + 0) 300 [.ref 147, .int a0] w (RZ Q) := by
  unfold p_Mr_isRow at hs
  refine tm_go 2 (pc' := 2) (L' := [some (.ref 147), some (.int a0)]) (S' := [.int 1, .int a0]) (w' := w) rfl ?_
  refine tm_i (p1 := 17) (p2 := 5) rfl (fun h1 => ?_) (fun h1 => ?_)
  · replace hs := hs.1 h1
    refine tm_go 1 (pc' := 18) (L' := [some (.ref 147), some (.int a0)]) (S' := [.int 0]) (w' := w) rfl ?_
    exact tm_r rfl ⟨_, rfl, by decide, hs⟩
  · replace hs := hs.2 h1
    refine tm_go 3 (pc' := 10) (L' := [some (.ref 147), some (.int a0)]) (S' := [.int (w.1 147 20), .int a0]) (w' := w) rfl ?_
    refine tm_i (p1 := 17) (p2 := 13) rfl (fun h2 => ?_) (fun h2 => ?_)
    · replace hs := hs.1 h2
      refine tm_go 1 (pc' := 18) (L' := [some (.ref 147), some (.int a0)]) (S' := [.int 0]) (w' := w) rfl ?_
      exact tm_r rfl ⟨_, rfl, by decide, hs⟩
    · replace hs := hs.2 h2
      refine tm_go 2 (pc' := 18) (L' := [some (.ref 147), some (.int a0)]) (S' := [.int 1]) (w' := w) rfl ?_
      exact tm_r rfl ⟨_, rfl, by decide, hs⟩
set_option maxHeartbeats 4000000 in
set_option maxRecDepth 100000 in
theorem dm_Mr_pass {d : Nat} {w : MW} {a0 : Int32} {b0 : Int32} {c0 : Int32} {e0 : Int32} {Q : Int32 → MW → Prop} (hs : p_Mr_pass w a0 b0 c0 e0 Q) : Tc (d + 1) 301 [.ref 147, .int a0, .int b0, .int c0, .int e0] w (RI Q) := by
  unfold p_Mr_pass at hs
  refine tm_go 2 (pc' := 2) (L' := [some (.ref 147), some (.int a0), some (.int b0), some (.int c0), some (.int e0)]) (S' := [.int a0, .ref 147]) (w' := w) rfl ?_
  refine tm_c rfl (Nat.le_of_ble_eq_true rfl) (dm_Mr_isRow (d := d + 0) hs) (fun v w1 hq => ?_)
  obtain ⟨r1, rfl, hz1, hs⟩ := hq
  refine tm_i (p1 := 10) (p2 := 8) rfl (fun h2 => ?_) (fun h2 => ?_)
  · replace hs := hs.1 h2
    refine tm_go 2 (pc' := 12) (L' := [some (.ref 147), some (.int a0), some (.int b0), some (.int c0), some (.int e0)]) (S' := [.int 1, .int b0]) (w' := w1) rfl ?_
    refine tm_i (p1 := 39) (p2 := 15) rfl (fun h3 => ?_) (fun h3 => ?_)
    · replace hs := hs.1 h3
      refine tm_go 1 (pc' := 41) (L' := [some (.ref 147), some (.int a0), some (.int b0), some (.int c0), some (.int e0)]) (S' := [.int (-2)]) (w' := w1) rfl ?_
      exact tm_r rfl ⟨_, rfl, hs⟩
    · replace hs := hs.2 h3
      refine tm_go 2 (pc' := 19) (L' := [some (.ref 147), some (.int a0), some (.int b0), some (.int c0), some (.int e0)]) (S' := [.int 999, .int b0]) (w' := w1) rfl ?_
      refine tm_i (p1 := 39) (p2 := 22) rfl (fun h4 => ?_) (fun h4 => ?_)
      · replace hs := hs.1 h4
        refine tm_go 1 (pc' := 41) (L' := [some (.ref 147), some (.int a0), some (.int b0), some (.int c0), some (.int e0)]) (S' := [.int (-2)]) (w' := w1) rfl ?_
        exact tm_r rfl ⟨_, rfl, hs⟩
      · replace hs := hs.2 h4
        refine tm_go 2 (pc' := 24) (L' := [some (.ref 147), some (.int a0), some (.int b0), some (.int c0), some (.int e0)]) (S' := [.int 1, .int c0]) (w' := w1) rfl ?_
        refine tm_i (p1 := 39) (p2 := 27) rfl (fun h5 => ?_) (fun h5 => ?_)
        · replace hs := hs.1 h5
          refine tm_go 1 (pc' := 41) (L' := [some (.ref 147), some (.int a0), some (.int b0), some (.int c0), some (.int e0)]) (S' := [.int (-2)]) (w' := w1) rfl ?_
          exact tm_r rfl ⟨_, rfl, hs⟩
        · replace hs := hs.2 h5
          refine tm_go 2 (pc' := 31) (L' := [some (.ref 147), some (.int a0), some (.int b0), some (.int c0), some (.int e0)]) (S' := [.int 999, .int c0]) (w' := w1) rfl ?_
          refine tm_i (p1 := 39) (p2 := 34) rfl (fun h6 => ?_) (fun h6 => ?_)
          · replace hs := hs.1 h6
            refine tm_go 1 (pc' := 41) (L' := [some (.ref 147), some (.int a0), some (.int b0), some (.int c0), some (.int e0)]) (S' := [.int (-2)]) (w' := w1) rfl ?_
            exact tm_r rfl ⟨_, rfl, hs⟩
          · replace hs := hs.2 h6
            refine tm_go 2 (pc' := 36) (L' := [some (.ref 147), some (.int a0), some (.int b0), some (.int c0), some (.int e0)]) (S' := [.int c0, .int b0]) (w' := w1) rfl ?_
            refine tm_i (p1 := 42) (p2 := 39) rfl (fun h7 => ?_) (fun h7 => ?_)
            · replace hs := hs.1 h7
              refine tm_go 2 (pc' := 45) (L' := [some (.ref 147), some (.int a0), some (.int b0), some (.int c0), some (.int e0)]) (S' := [.int 1, .int e0]) (w' := w1) rfl ?_
              refine tm_i (p1 := 56) (p2 := 48) rfl (fun h8 => ?_) (fun h8 => ?_)
              · replace hs := hs.1 h8
                refine tm_go 1 (pc' := 58) (L' := [some (.ref 147), some (.int a0), some (.int b0), some (.int c0), some (.int e0)]) (S' := [.int (-3)]) (w' := w1) rfl ?_
                exact tm_r rfl ⟨_, rfl, hs⟩
              · replace hs := hs.2 h8
                refine tm_go 2 (pc' := 53) (L' := [some (.ref 147), some (.int a0), some (.int b0), some (.int c0), some (.int e0)]) (S' := [.int 3600, .int e0]) (w' := w1) rfl ?_
                refine tm_i (p1 := 59) (p2 := 56) rfl (fun h9 => ?_) (fun h9 => ?_)
                · replace hs := hs.1 h9
                  refine tm_go 5 (pc' := 66) (L' := [some (.ref 147), some (.int a0), some (.int b0), some (.int c0), some (.int e0)]) (S' := [.int (a0 - (1 : Int32)), .ref 162]) (w' := w1) rfl ?_
                  obtain ⟨b10, hs⟩ := hs
                  refine tm_k (pc' := 67) (L' := [some (.ref 147), some (.int a0), some (.int b0), some (.int c0), some (.int e0)]) (S' := [.int (w1.1 162 ((a0 - (1 : Int32)).toInt.toNat))]) (w' := w1) rfl b10 ?_
                  refine tm_i (p1 := 73) (p2 := 70) rfl (fun h11 => ?_) (fun h11 => ?_)
                  · replace hs := hs.1 h11
                    refine tm_go 6 (pc' := 82) (L' := [some (.ref 147), some (.int a0), some (.int b0), some (.int c0), some (.int e0)]) (S' := [.int e0, .int (a0 - (1 : Int32)), .ref 162]) (w' := w1) rfl ?_
                    obtain ⟨b12, hs⟩ := hs
                    refine tm_k (pc' := 83) (L' := [some (.ref 147), some (.int a0), some (.int b0), some (.int c0), some (.int e0)]) (S' := []) (w' := (sI w1 162 ((a0 - (1 : Int32)).toInt.toNat) e0)) rfl b12 ?_
                    refine tm_go 1 (pc' := 84) (L' := [some (.ref 147), some (.int a0), some (.int b0), some (.int c0), some (.int e0)]) (S' := [.int 0]) (w' := (sI w1 162 ((a0 - (1 : Int32)).toInt.toNat) e0)) rfl ?_
                    exact tm_r rfl ⟨_, rfl, hs⟩
                  · replace hs := hs.2 h11
                    refine tm_go 1 (pc' := 72) (L' := [some (.ref 147), some (.int a0), some (.int b0), some (.int c0), some (.int e0)]) (S' := [.int (-4)]) (w' := w1) rfl ?_
                    exact tm_r rfl ⟨_, rfl, hs⟩
                · replace hs := hs.2 h9
                  refine tm_go 1 (pc' := 58) (L' := [some (.ref 147), some (.int a0), some (.int b0), some (.int c0), some (.int e0)]) (S' := [.int (-3)]) (w' := w1) rfl ?_
                  exact tm_r rfl ⟨_, rfl, hs⟩
            · replace hs := hs.2 h7
              refine tm_go 1 (pc' := 41) (L' := [some (.ref 147), some (.int a0), some (.int b0), some (.int c0), some (.int e0)]) (S' := [.int (-2)]) (w' := w1) rfl ?_
              exact tm_r rfl ⟨_, rfl, hs⟩
  · replace hs := hs.2 h2
    refine tm_go 1 (pc' := 9) (L' := [some (.ref 147), some (.int a0), some (.int b0), some (.int c0), some (.int e0)]) (S' := [.int (-1)]) (w' := w1) rfl ?_
    exact tm_r rfl ⟨_, rfl, hs⟩
set_option maxHeartbeats 4000000 in
set_option maxRecDepth 100000 in
theorem dm_Mo_pass {d : Nat} {w : MW} {a0 : Int32} {b0 : Int32} {c0 : Int32} {e0 : Int32} {Q : Int32 → MW → Prop} (hs : p_Mo_pass w a0 b0 c0 e0 Q) : Tc (d + 2) 99 [.ref 127, .int a0, .int b0, .int c0, .int e0] w (RI Q) := by
  unfold p_Mo_pass at hs
  refine tm_go 6 (pc' := 9) (L' := [some (.ref 127), some (.int a0), some (.int b0), some (.int c0), some (.int e0)]) (S' := [.int e0, .int c0, .int b0, .int a0, .ref 147]) (w' := w) rfl ?_
  refine tm_c rfl (Nat.le_of_ble_eq_true rfl) (dm_Mr_pass (d := d + 0) hs) (fun v w1 hq => ?_)
  obtain ⟨r1, rfl, hs⟩ := hq
  exact tm_r rfl ⟨_, rfl, hs⟩
set_option maxHeartbeats 4000000 in
set_option maxRecDepth 100000 in
theorem dm_Mr_reset {d : Nat} {w : MW} {a0 : Int32} {Q : Int32 → MW → Prop} (hs : p_Mr_reset w a0 Q) : Tc (d + 402) 302 [.ref 147, .int a0] w (RZ Q) := by
  unfold p_Mr_reset at hs
  refine tm_go 2 (pc' := 2) (L' := [some (.ref 147), some (.int a0)]) (S' := [.int a0, .ref 147]) (w' := w) rfl ?_
  refine tm_c rfl (Nat.le_of_ble_eq_true rfl) (dm_Mr_isRow (d := d + 401) hs) (fun v w1 hq => ?_)
  obtain ⟨r1, rfl, hz1, hs⟩ := hq
  refine tm_i (p1 := 29) (p2 := 8) rfl (fun h2 => ?_) (fun h2 => ?_)
  · replace hs := hs.1 h2
    refine tm_go 1 (pc' := 30) (L' := [some (.ref 147), some (.int a0)]) (S' := [.int 0]) (w' := w1) rfl ?_
    exact tm_r rfl ⟨_, rfl, by decide, hs⟩
  · replace hs := hs.2 h2
    refine tm_go 5 (pc' := 15) (L' := [some (.ref 147), some (.int a0)]) (S' := [.int (a0 - (1 : Int32)), .ref 161]) (w' := w1) rfl ?_
    obtain ⟨b3, hs⟩ := hs
    refine tm_k (pc' := 16) (L' := [some (.ref 147), some (.int a0)]) (S' := [.int (w1.1 161 ((a0 - (1 : Int32)).toInt.toNat))]) (w' := w1) rfl b3 ?_
    refine tm_i (p1 := 29) (p2 := 19) rfl (fun h4 => ?_) (fun h4 => ?_)
    · replace hs := hs.1 h4
      refine tm_go 1 (pc' := 30) (L' := [some (.ref 147), some (.int a0)]) (S' := [.int 0]) (w' := w1) rfl ?_
      exact tm_r rfl ⟨_, rfl, by decide, hs⟩
    · replace hs := hs.2 h4
      refine tm_go 4 (pc' := 23) (L' := [some (.ref 147), some (.int a0)]) (S' := [.int (a0 - (1 : Int32)), .ref 147]) (w' := w1) rfl ?_
      refine tm_c rfl (Nat.le_of_ble_eq_true rfl) (dm_Mr_isOn (d := d + 0) hs) (fun v w5 hq => ?_)
      obtain ⟨r5, rfl, hz5, hs⟩ := hq
      refine tm_i (p1 := 31) (p2 := 29) rfl (fun h6 => ?_) (fun h6 => ?_)
      · replace hs := hs.1 h6
        refine tm_go 6 (pc' := 39) (L' := [some (.ref 147), some (.int a0)]) (S' := [.int 0, .int (a0 - (1 : Int32)), .ref 161]) (w' := w5) rfl ?_
        obtain ⟨b7, hs⟩ := hs
        refine tm_k (pc' := 40) (L' := [some (.ref 147), some (.int a0)]) (S' := []) (w' := (sI w5 161 ((a0 - (1 : Int32)).toInt.toNat) (vp_nar .boolean (0 : Int32)))) rfl b7 ?_
        refine tm_go 1 (pc' := 41) (L' := [some (.ref 147), some (.int a0)]) (S' := [.int 1]) (w' := (sI w5 161 ((a0 - (1 : Int32)).toInt.toNat) (vp_nar .boolean (0 : Int32)))) rfl ?_
        exact tm_r rfl ⟨_, rfl, by decide, hs⟩
      · replace hs := hs.2 h6
        refine tm_go 1 (pc' := 30) (L' := [some (.ref 147), some (.int a0)]) (S' := [.int 0]) (w' := w5) rfl ?_
        exact tm_r rfl ⟨_, rfl, by decide, hs⟩
set_option maxHeartbeats 4000000 in
set_option maxRecDepth 100000 in
theorem dm_Mo_reset {d : Nat} {w : MW} {a0 : Int32} {Q : Int32 → MW → Prop} (hs : p_Mo_reset w a0 Q) : Tc (d + 403) 100 [.ref 127, .int a0] w (RZ Q) := by
  unfold p_Mo_reset at hs
  refine tm_go 3 (pc' := 5) (L' := [some (.ref 127), some (.int a0)]) (S' := [.int a0, .ref 147]) (w' := w) rfl ?_
  refine tm_c rfl (Nat.le_of_ble_eq_true rfl) (dm_Mr_reset (d := d + 0) hs) (fun v w1 hq => ?_)
  obtain ⟨r1, rfl, hz1, hs⟩ := hq
  exact tm_rk rfl hz1 ⟨_, rfl, hz1, hs⟩
set_option maxHeartbeats 4000000 in
set_option maxRecDepth 100000 in
theorem dm_Mo_bars {d : Nat} {w : MW} {a0 : Int32} {Q : Int32 → MW → Prop} (hs : p_Mo_bars w a0 Q) : Tc (d + 403) 101 [.ref 127, .int a0] w (RI Q) := by
  unfold p_Mo_bars at hs
  refine tm_go 3 (pc' := 5) (L' := [some (.ref 127), some (.int a0)]) (S' := [.int a0, .ref 147]) (w' := w) rfl ?_
  refine tm_c rfl (Nat.le_of_ble_eq_true rfl) (dm_Mr_act1 (d := d + 0) hs) (fun v w1 hq => ?_)
  obtain ⟨r1, rfl, hs⟩ := hq
  exact tm_r rfl ⟨_, rfl, hs⟩
set_option maxHeartbeats 4000000 in
set_option maxRecDepth 100000 in
theorem dm_Mo_row {d : Nat} {w : MW} {a0 : Int32} {b0 : Int32} {Q : Int32 → MW → Prop} (hs : p_Mo_row w a0 b0 Q) : Tc (d + 402) 102 [.ref 127, .int a0, .int b0] w (RI Q) := by
  unfold p_Mo_row at hs
  refine tm_go 2 (pc' := 2) (L' := [some (.ref 127), some (.int a0), some (.int b0)]) (S' := [.int 1, .int a0]) (w' := w) rfl ?_
  refine tm_i (p1 := 25) (p2 := 5) rfl (fun h1 => ?_) (fun h1 => ?_)
  · replace hs := hs.1 h1
    refine tm_go 1 (pc' := 26) (L' := [some (.ref 127), some (.int a0), some (.int b0)]) (S' := [.int (-1)]) (w' := w) rfl ?_
    exact tm_r rfl ⟨_, rfl, hs⟩
  · replace hs := hs.2 h1
    refine tm_go 4 (pc' := 13) (L' := [some (.ref 127), some (.int a0), some (.int b0)]) (S' := [.int (w.1 147 20), .int a0]) (w' := w) rfl ?_
    refine tm_i (p1 := 25) (p2 := 16) rfl (fun h2 => ?_) (fun h2 => ?_)
    · replace hs := hs.1 h2
      refine tm_go 1 (pc' := 26) (L' := [some (.ref 127), some (.int a0), some (.int b0)]) (S' := [.int (-1)]) (w' := w) rfl ?_
      exact tm_r rfl ⟨_, rfl, hs⟩
    · replace hs := hs.2 h2
      refine tm_go 1 (pc' := 17) (L' := [some (.ref 127), some (.int a0), some (.int b0)]) (S' := [.int b0]) (w' := w) rfl ?_
      refine tm_i (p1 := 25) (p2 := 20) rfl (fun h3 => ?_) (fun h3 => ?_)
      · replace hs := hs.1 h3
        refine tm_go 1 (pc' := 26) (L' := [some (.ref 127), some (.int a0), some (.int b0)]) (S' := [.int (-1)]) (w' := w) rfl ?_
        exact tm_r rfl ⟨_, rfl, hs⟩
      · replace hs := hs.2 h3
        refine tm_go 2 (pc' := 22) (L' := [some (.ref 127), some (.int a0), some (.int b0)]) (S' := [.int 3, .int b0]) (w' := w) rfl ?_
        refine tm_i (p1 := 27) (p2 := 25) rfl (fun h4 => ?_) (fun h4 => ?_)
        · replace hs := hs.1 h4
          refine tm_go 1 (pc' := 28) (L' := [some (.ref 127), some (.int a0), some (.int b0)]) (S' := [.int b0]) (w' := w) rfl ?_
          refine tm_i (p1 := 45) (p2 := 31) rfl (fun h5 => ?_) (fun h5 => ?_)
          · replace hs := hs.1 h5
            refine tm_go 2 (pc' := 47) (L' := [some (.ref 127), some (.int a0), some (.int b0)]) (S' := [.int 1, .int b0]) (w' := w) rfl ?_
            refine tm_i (p1 := 72) (p2 := 50) rfl (fun h6 => ?_) (fun h6 => ?_)
            · replace hs := hs.1 h6
              refine tm_go 2 (pc' := 74) (L' := [some (.ref 127), some (.int a0), some (.int b0)]) (S' := [.int 2, .int b0]) (w' := w) rfl ?_
              refine tm_i (p1 := 91) (p2 := 77) rfl (fun h7 => ?_) (fun h7 => ?_)
              · replace hs := hs.1 h7
                refine tm_go 5 (pc' := 98) (L' := [some (.ref 127), some (.int a0), some (.int b0)]) (S' := [.int (a0 - (1 : Int32)), .ref 147]) (w' := w) rfl ?_
                refine tm_c rfl (Nat.le_of_ble_eq_true rfl) (dm_Mr_isOn (d := d + 0) hs) (fun v w8 hq => ?_)
                obtain ⟨r8, rfl, hz8, hs⟩ := hq
                refine tm_i (p1 := 108) (p2 := 104) rfl (fun h9 => ?_) (fun h9 => ?_)
                · replace hs := hs.1 h9
                  refine tm_go 1 (pc' := 109) (L' := [some (.ref 127), some (.int a0), some (.int b0)]) (S' := [.int 0]) (w' := w8) rfl ?_
                  exact tm_r rfl ⟨_, rfl, hs⟩
                · replace hs := hs.2 h9
                  refine tm_go 2 (pc' := 109) (L' := [some (.ref 127), some (.int a0), some (.int b0)]) (S' := [.int 1]) (w' := w8) rfl ?_
                  exact tm_r rfl ⟨_, rfl, hs⟩
              · replace hs := hs.2 h7
                refine tm_go 6 (pc' := 87) (L' := [some (.ref 127), some (.int a0), some (.int b0)]) (S' := [.int (a0 - (1 : Int32)), .ref 162]) (w' := w) rfl ?_
                obtain ⟨b10, hs⟩ := hs
                refine tm_k (pc' := 88) (L' := [some (.ref 127), some (.int a0), some (.int b0)]) (S' := [.int (w.1 162 ((a0 - (1 : Int32)).toInt.toNat))]) (w' := w) rfl b10 ?_
                refine tm_go 1 (pc' := 109) (L' := [some (.ref 127), some (.int a0), some (.int b0)]) (S' := [.int (w.1 162 ((a0 - (1 : Int32)).toInt.toNat))]) (w' := w) rfl ?_
                exact tm_r rfl ⟨_, rfl, hs⟩
            · replace hs := hs.2 h6
              refine tm_go 6 (pc' := 60) (L' := [some (.ref 127), some (.int a0), some (.int b0)]) (S' := [.int (a0 - (1 : Int32)), .ref 161]) (w' := w) rfl ?_
              obtain ⟨b11, hs⟩ := hs
              refine tm_k (pc' := 61) (L' := [some (.ref 127), some (.int a0), some (.int b0)]) (S' := [.int (w.1 161 ((a0 - (1 : Int32)).toInt.toNat))]) (w' := w) rfl b11 ?_
              refine tm_i (p1 := 68) (p2 := 64) rfl (fun h12 => ?_) (fun h12 => ?_)
              · replace hs := hs.1 h12
                refine tm_go 2 (pc' := 109) (L' := [some (.ref 127), some (.int a0), some (.int b0)]) (S' := [.int 0]) (w' := w) rfl ?_
                exact tm_r rfl ⟨_, rfl, hs⟩
              · replace hs := hs.2 h12
                refine tm_go 2 (pc' := 109) (L' := [some (.ref 127), some (.int a0), some (.int b0)]) (S' := [.int 1]) (w' := w) rfl ?_
                exact tm_r rfl ⟨_, rfl, hs⟩
          · replace hs := hs.2 h5
            refine tm_go 6 (pc' := 41) (L' := [some (.ref 127), some (.int a0), some (.int b0)]) (S' := [.int (a0 - (1 : Int32)), .ref 160]) (w' := w) rfl ?_
            obtain ⟨b13, hs⟩ := hs
            refine tm_k (pc' := 42) (L' := [some (.ref 127), some (.int a0), some (.int b0)]) (S' := [.int (w.1 160 ((a0 - (1 : Int32)).toInt.toNat))]) (w' := w) rfl b13 ?_
            refine tm_go 1 (pc' := 109) (L' := [some (.ref 127), some (.int a0), some (.int b0)]) (S' := [.int (w.1 160 ((a0 - (1 : Int32)).toInt.toNat))]) (w' := w) rfl ?_
            exact tm_r rfl ⟨_, rfl, hs⟩
        · replace hs := hs.2 h4
          refine tm_go 1 (pc' := 26) (L' := [some (.ref 127), some (.int a0), some (.int b0)]) (S' := [.int (-1)]) (w' := w) rfl ?_
          exact tm_r rfl ⟨_, rfl, hs⟩
set_option maxHeartbeats 4000000 in
set_option maxRecDepth 100000 in
theorem dm_Mo_hang {d : Nat} {w : MW} {a0 : Int32} {b0 : Int32} {c0 : Int32} {Q : Int32 → MW → Prop} (hs : p_Mo_hang w a0 b0 c0 Q) : Tc (d + 0) 106 [.ref 127, .int a0, .int b0, .int c0] w (RI Q) := by
  unfold p_Mo_hang at hs
  refine tm_go 2 (pc' := 2) (L' := [some (.ref 127), some (.int a0), some (.int b0), some (.int c0)]) (S' := [.int (-1), .int b0]) (w' := w) rfl ?_
  refine tm_i (p1 := 15) (p2 := 5) rfl (fun h1 => ?_) (fun h1 => ?_)
  · replace hs := hs.1 h1
    refine tm_go 4 (pc' := 21) (L' := [some (.ref 127), some (.int a0), some (.int b0), some (.int c0)]) (S' := [.int c0, .int b0, .ref 209]) (w' := w) rfl ?_
    obtain ⟨b2, hs⟩ := hs
    refine tm_k (pc' := 22) (L' := [some (.ref 127), some (.int a0), some (.int b0), some (.int c0)]) (S' := []) (w' := (sI w 209 b0.toInt.toNat c0)) rfl b2 ?_
    refine tm_go 1 (pc' := 23) (L' := [some (.ref 127), some (.int a0), some (.int b0), some (.int c0)]) (S' := [.int c0]) (w' := (sI w 209 b0.toInt.toNat c0)) rfl ?_
    exact tm_r rfl ⟨_, rfl, hs⟩
  · replace hs := hs.2 h1
    refine tm_go 4 (pc' := 11) (L' := [some (.ref 127), some (.int a0), some (.int b0), some (.int c0)]) (S' := [.int c0, .int a0, .ref 208]) (w' := w) rfl ?_
    obtain ⟨b3, hs⟩ := hs
    refine tm_k (pc' := 12) (L' := [some (.ref 127), some (.int a0), some (.int b0), some (.int c0)]) (S' := []) (w' := (sI w 208 a0.toInt.toNat c0)) rfl b3 ?_
    refine tm_go 2 (pc' := 23) (L' := [some (.ref 127), some (.int a0), some (.int b0), some (.int c0)]) (S' := [.int c0]) (w' := (sI w 208 a0.toInt.toNat c0)) rfl ?_
    exact tm_r rfl ⟨_, rfl, hs⟩
set_option maxHeartbeats 4000000 in
set_option maxRecDepth 100000 in
theorem dm_Tx_node1 {d : Nat} {w : MW} {a0 : Int32} {Q : Int32 → MW → Prop} (hs : p_Tx_node1 w a0 Q) : Tc (d + 0) 336 [.ref 129, .int a0] w (RI Q) := by
  unfold p_Tx_node1 at hs
  refine tm_go 6 (pc' := 10) (L' := [some (.ref 129), some (.int a0)]) (S' := [.int (((300 : Int32) * (w.1 129 12)) + a0)]) (w' := w) rfl ?_
  exact tm_r rfl ⟨_, rfl, hs⟩
set_option maxHeartbeats 4000000 in
set_option maxRecDepth 100000 in
theorem dm_Mo_kids {d : Nat} {w : MW} {a0 : Int32} {Q : Int32 → MW → Prop} (hs : p_Mo_kids w a0 Q) : Tc (d + 1) 104 [.ref 127, .int a0] w (RI Q) := by
  unfold p_Mo_kids at hs
  refine tm_go 6 (pc' := 12) (L' := [some (.ref 127), some (.int a0)]) (S' := [.int a0, .ref 129, .ref 136]) (w' := w) rfl ?_
  refine tm_c rfl (Nat.le_of_ble_eq_true rfl) (dm_Tx_node1 (d := d + 0) hs) (fun v w1 hq => ?_)
  obtain ⟨r1, rfl, hs⟩ := hq
  obtain ⟨b2, hs⟩ := hs
  refine tm_k (pc' := 16) (L' := [some (.ref 127), some (.int a0)]) (S' := [.int (w1.1 136 r1.toInt.toNat)]) (w' := w1) rfl b2 ?_
  exact tm_r rfl ⟨_, rfl, hs⟩
set_option maxHeartbeats 4000000 in
set_option maxRecDepth 100000 in
theorem dm_Tx_kid {d : Nat} {w : MW} {a0 : Int32} {b0 : Int32} {Q : Int32 → MW → Prop} (hs : p_Tx_kid w a0 b0 Q) : Tc (d + 1) 337 [.ref 129, .int a0, .int b0] w (RI Q) := by
  unfold p_Tx_kid at hs
  refine tm_go 10 (pc' := 18) (L' := [some (.ref 129), some (.int a0), some (.int b0)]) (S' := [.int a0, .ref 129, .ref 135, .int ((300 : Int32) * (w.1 129 12)), .ref 137]) (w' := w) rfl ?_
  refine tm_c rfl (Nat.le_of_ble_eq_true rfl) (dm_Tx_node1 (d := d + 0) hs) (fun v w1 hq => ?_)
  obtain ⟨r1, rfl, hs⟩ := hq
  obtain ⟨b2, hs⟩ := hs
  refine tm_k (pc' := 22) (L' := [some (.ref 129), some (.int a0), some (.int b0)]) (S' := [.int (w1.1 135 r1.toInt.toNat), .int ((300 : Int32) * (w.1 129 12)), .ref 137]) (w' := w1) rfl b2 ?_
  refine tm_go 3 (pc' := 25) (L' := [some (.ref 129), some (.int a0), some (.int b0)]) (S' := [.int ((((300 : Int32) * (w.1 129 12)) + (w1.1 135 r1.toInt.toNat)) + b0), .ref 137]) (w' := w1) rfl ?_
  obtain ⟨b3, hs⟩ := hs
  refine tm_k (pc' := 26) (L' := [some (.ref 129), some (.int a0), some (.int b0)]) (S' := [.int (w1.1 137 (((((300 : Int32) * (w.1 129 12)) + (w1.1 135 r1.toInt.toNat)) + b0).toInt.toNat))]) (w' := w1) rfl b3 ?_
  exact tm_r rfl ⟨_, rfl, hs⟩
set_option maxHeartbeats 4000000 in
set_option maxRecDepth 100000 in
theorem tx_Mo_lay_131 {d : Nat} {r_Mo_lay : MW → Int32 → (Int32 → MW → Prop) → Prop} (hr_Mo_lay : ∀ (w : MW) (a0 : Int32) (Q : Int32 → MW → Prop), r_Mo_lay w a0 Q → Tc (d + 1) 105 [.ref 127, .int a0] w (RI Q)) {x131_1 : Int32} {x131_2 : Int32} {E : MW → Prop} {Q : Int32 → MW → Prop} (n : Nat) : ∀ (x131_3 : Int32) (x131_4 : Int32)  (z5 : Option Value) (w : MW), q_Mo_lay_131 r_Mo_lay x131_1 x131_2 E Q n x131_3 x131_4 w → (∀  (v0 : Option Value) (v1 : Option Value) (v3 : Option Value) (v4 : Option Value) (v5 : Option Value) (w : MW), E  w → Tm (d + 2) 105 194 [v0, v1, some (.int x131_2), v3, v4, v5] [] w (RI Q)) → Tm (d + 2) 105 131 [some (.ref 127), some (.int x131_1), some (.int x131_2), some (.int x131_3), some (.int x131_4), z5] [] w (RI Q) := by
  induction n with
  | zero => intro x131_3 x131_4 z5 w hs; rw [q_Mo_lay_131.eq_1] at hs; exact hs.elim
  | succ n ih =>
    intro x131_3 x131_4 z5 w hs hE
    rw [q_Mo_lay_131.eq_2] at hs
    refine tm_go 3 (pc' := 135) (L' := [some (.ref 127), some (.int x131_1), some (.int x131_2), some (.int x131_3), some (.int x131_4), z5]) (S' := [.int x131_1, .ref 127, .int x131_4]) (w' := w) rfl ?_
    refine tm_c rfl (Nat.le_of_ble_eq_true rfl) (dm_Mo_kids (d := d + 0) hs) (fun v w8 hq => ?_)
    obtain ⟨r8, rfl, hs⟩ := hq
    refine tm_i (p1 := 194) (p2 := 141) rfl (fun h9 => ?_) (fun h9 => ?_)
    · replace hs := hs.1 h9
      exact hE _ _ _ _ _ _ hs
    · replace hs := hs.2 h9
      refine tm_go 4 (pc' := 148) (L' := [some (.ref 127), some (.int x131_1), some (.int x131_2), some (.int x131_3), some (.int x131_4), z5]) (S' := [.int x131_4, .int x131_1, .ref 129]) (w' := w8) rfl ?_
      refine tm_c rfl (Nat.le_of_ble_eq_true rfl) (dm_Tx_kid (d := d + 0) hs) (fun v w10 hq => ?_)
      obtain ⟨r10, rfl, hs⟩ := hq
      refine tm_go 7 (pc' := 166) (L' := [some (.ref 127), some (.int x131_1), some (.int x131_2), some (.int x131_3), some (.int x131_4), some (.int r10)]) (S' := [.int r10, .ref 129, .ref 131]) (w' := w10) rfl ?_
      refine tm_c rfl (Nat.le_of_ble_eq_true rfl) (dm_Tx_node1 (d := d + 1) hs) (fun v w11 hq => ?_)
      obtain ⟨r11, rfl, hs⟩ := hq
      obtain ⟨b12, hs⟩ := hs
      refine tm_k (pc' := 170) (L' := [some (.ref 127), some (.int x131_1), some (.int x131_2), some (.int x131_3), some (.int x131_4), some (.int r10)]) (S' := [.int (w11.1 131 r11.toInt.toNat)]) (w' := w11) rfl b12 ?_
      refine tm_go 1 (pc' := 172) (L' := [some (.ref 127), some (.int x131_1), some (.int x131_2), some (.int x131_3), some (.int x131_4), some (.int r10)]) (S' := [.int 10, .int (w11.1 131 r11.toInt.toNat)]) (w' := w11) rfl ?_
      refine tm_i (p1 := 188) (p2 := 175) rfl (fun h13 => ?_) (fun h13 => ?_)
      · replace hs := hs.1 h13
        refine tm_go 2 (pc' := 131) (L' := [some (.ref 127), some (.int x131_1), some (.int x131_2), some (.int x131_3), some (.int (x131_4 + (1 : Int32))), some (.int r10)]) (S' := []) (w' := w11) rfl ?_
        exact ih _ _ _ _ hs hE
      · replace hs := hs.2 h13
        refine tm_go 5 (pc' := 181) (L' := [some (.ref 127), some (.int x131_1), some (.int x131_2), some (.int x131_3), some (.int x131_4), some (.int r10)]) (S' := [.int r10, .ref 127, .int x131_3, .int x131_2, .ref 127]) (w' := w11) rfl ?_
        refine tm_c rfl (Nat.le_of_ble_eq_true rfl) (hr_Mo_lay _ _ _ hs) (fun v w14 hq => ?_)
        obtain ⟨r14, rfl, hs⟩ := hq
        refine tm_c rfl (Nat.le_of_ble_eq_true rfl) (dm_Mo_hang (d := d + 1) hs) (fun v w15 hq => ?_)
        obtain ⟨r15, rfl, hs⟩ := hq
        refine tm_go 3 (pc' := 131) (L' := [some (.ref 127), some (.int x131_1), some (.int x131_2), some (.int r15), some (.int (x131_4 + (1 : Int32))), some (.int r10)]) (S' := []) (w' := w15) rfl ?_
        exact ih _ _ _ _ hs hE
set_option maxHeartbeats 4000000 in
set_option maxRecDepth 100000 in
theorem dmb_Mo_lay {d : Nat} {r_Mo_lay : MW → Int32 → (Int32 → MW → Prop) → Prop} (hr_Mo_lay : ∀ (w : MW) (a0 : Int32) (Q : Int32 → MW → Prop), r_Mo_lay w a0 Q → Tc (d + 1) 105 [.ref 127, .int a0] w (RI Q)) {w : MW} {a0 : Int32} {Q : Int32 → MW → Prop} (hs : pb_Mo_lay r_Mo_lay w a0 Q) : Tc (d + 2) 105 [.ref 127, .int a0] w (RI Q) := by
  unfold pb_Mo_lay at hs
  refine tm_go 13 (pc' := 21) (L' := [some (.ref 127), some (.int a0), some (.int (w.1 127 60)), none, none, none]) (S' := [.int a0, .int (w.1 127 60), .ref 207]) (w' := (sI w 127 60 ((w.1 127 60) + (1 : Int32)))) rfl ?_
  obtain ⟨b1, hs⟩ := hs
  refine tm_k (pc' := 22) (L' := [some (.ref 127), some (.int a0), some (.int (w.1 127 60)), none, none, none]) (S' := []) (w' := (sI (sI w 127 60 ((w.1 127 60) + (1 : Int32))) 207 ((w.1 127 60).toInt.toNat) a0)) rfl b1 ?_
  refine tm_go 4 (pc' := 28) (L' := [some (.ref 127), some (.int a0), some (.int (w.1 127 60)), none, none, none]) (S' := [.int 0, .int (w.1 127 60), .ref 210]) (w' := (sI (sI w 127 60 ((w.1 127 60) + (1 : Int32))) 207 ((w.1 127 60).toInt.toNat) a0)) rfl ?_
  obtain ⟨b2, hs⟩ := hs
  refine tm_k (pc' := 29) (L' := [some (.ref 127), some (.int a0), some (.int (w.1 127 60)), none, none, none]) (S' := []) (w' := (sI (sI (sI w 127 60 ((w.1 127 60) + (1 : Int32))) 207 ((w.1 127 60).toInt.toNat) a0) 210 ((w.1 127 60).toInt.toNat) (vp_nar .boolean (0 : Int32)))) rfl b2 ?_
  refine tm_go 4 (pc' := 35) (L' := [some (.ref 127), some (.int a0), some (.int (w.1 127 60)), none, none, none]) (S' := [.int (-1), .int (w.1 127 60), .ref 208]) (w' := (sI (sI (sI w 127 60 ((w.1 127 60) + (1 : Int32))) 207 ((w.1 127 60).toInt.toNat) a0) 210 ((w.1 127 60).toInt.toNat) (vp_nar .boolean (0 : Int32)))) rfl ?_
  obtain ⟨b3, hs⟩ := hs
  refine tm_k (pc' := 36) (L' := [some (.ref 127), some (.int a0), some (.int (w.1 127 60)), none, none, none]) (S' := []) (w' := (sI (sI (sI (sI w 127 60 ((w.1 127 60) + (1 : Int32))) 207 ((w.1 127 60).toInt.toNat) a0) 210 ((w.1 127 60).toInt.toNat) (vp_nar .boolean (0 : Int32))) 208 ((w.1 127 60).toInt.toNat) (-1))) rfl b3 ?_
  refine tm_go 4 (pc' := 42) (L' := [some (.ref 127), some (.int a0), some (.int (w.1 127 60)), none, none, none]) (S' := [.int (-1), .int (w.1 127 60), .ref 209]) (w' := (sI (sI (sI (sI w 127 60 ((w.1 127 60) + (1 : Int32))) 207 ((w.1 127 60).toInt.toNat) a0) 210 ((w.1 127 60).toInt.toNat) (vp_nar .boolean (0 : Int32))) 208 ((w.1 127 60).toInt.toNat) (-1))) rfl ?_
  obtain ⟨b4, hs⟩ := hs
  refine tm_k (pc' := 43) (L' := [some (.ref 127), some (.int a0), some (.int (w.1 127 60)), none, none, none]) (S' := []) (w' := (sI (sI (sI (sI (sI w 127 60 ((w.1 127 60) + (1 : Int32))) 207 ((w.1 127 60).toInt.toNat) a0) 210 ((w.1 127 60).toInt.toNat) (vp_nar .boolean (0 : Int32))) 208 ((w.1 127 60).toInt.toNat) (-1)) 209 ((w.1 127 60).toInt.toNat) (-1))) rfl b4 ?_
  refine tm_go 6 (pc' := 55) (L' := [some (.ref 127), some (.int a0), some (.int (w.1 127 60)), none, none, none]) (S' := [.int a0, .ref 129, .ref 131]) (w' := (sI (sI (sI (sI (sI w 127 60 ((w.1 127 60) + (1 : Int32))) 207 ((w.1 127 60).toInt.toNat) a0) 210 ((w.1 127 60).toInt.toNat) (vp_nar .boolean (0 : Int32))) 208 ((w.1 127 60).toInt.toNat) (-1)) 209 ((w.1 127 60).toInt.toNat) (-1))) rfl ?_
  refine tm_c rfl (Nat.le_of_ble_eq_true rfl) (dm_Tx_node1 (d := d + 1) hs) (fun v w5 hq => ?_)
  obtain ⟨r5, rfl, hs⟩ := hq
  obtain ⟨b6, hs⟩ := hs
  refine tm_k (pc' := 59) (L' := [some (.ref 127), some (.int a0), some (.int (w.1 127 60)), none, none, none]) (S' := [.int (w5.1 131 r5.toInt.toNat)]) (w' := w5) rfl b6 ?_
  refine tm_go 1 (pc' := 61) (L' := [some (.ref 127), some (.int a0), some (.int (w.1 127 60)), none, none, none]) (S' := [.int 19, .int (w5.1 131 r5.toInt.toNat)]) (w' := w5) rfl ?_
  refine tm_i (p1 := 126) (p2 := 64) rfl (fun h7 => ?_) (fun h7 => ?_)
  · replace hs := hs.1 h7
    refine tm_go 4 (pc' := 131) (L' := [some (.ref 127), some (.int a0), some (.int (w.1 127 60)), some (.int (-1)), some (.int 0), none]) (S' := []) (w' := w5) rfl ?_
    refine tx_Mo_lay_131 hr_Mo_lay FU _ _ _ _ hs (fun  z16_0 z16_1 z16_3 z16_4 z16_5 w16 hs => ?_)
    refine tm_go 1 (pc' := 195) (L' := [z16_0, z16_1, some (.int (w.1 127 60)), z16_3, z16_4, z16_5]) (S' := [.int (w.1 127 60)]) (w' := w16) rfl ?_
    exact tm_r rfl ⟨_, rfl, hs⟩
  · replace hs := hs.2 h7
    refine tm_go 14 (pc' := 93) (L' := [some (.ref 127), some (.int a0), some (.int (w.1 127 60)), none, none, none]) (S' := [.int a0, .ref 129, .ref 132, .int ((40 : Int32) * (w5.1 129 12)), .ref 143]) (w' := w5) rfl ?_
    refine tm_c rfl (Nat.le_of_ble_eq_true rfl) (dm_Tx_node1 (d := d + 1) hs) (fun v w17 hq => ?_)
    obtain ⟨r17, rfl, hs⟩ := hq
    obtain ⟨b18, hs⟩ := hs
    refine tm_k (pc' := 97) (L' := [some (.ref 127), some (.int a0), some (.int (w.1 127 60)), none, none, none]) (S' := [.long (w17.2.1 132 r17.toInt.toNat), .int ((40 : Int32) * (w5.1 129 12)), .ref 143]) (w' := w17) rfl b18 ?_
    refine tm_go 2 (pc' := 99) (L' := [some (.ref 127), some (.int a0), some (.int (w.1 127 60)), none, none, none]) (S' := [.int (((40 : Int32) * (w5.1 129 12)) + (Int64.toInt32 (w17.2.1 132 r17.toInt.toNat))), .ref 143]) (w' := w17) rfl ?_
    obtain ⟨b19, hs⟩ := hs
    refine tm_k (pc' := 100) (L' := [some (.ref 127), some (.int a0), some (.int (w.1 127 60)), none, none, none]) (S' := [.int (w17.1 143 ((((40 : Int32) * (w5.1 129 12)) + (Int64.toInt32 (w17.2.1 132 r17.toInt.toNat))).toInt.toNat))]) (w' := w17) rfl b19 ?_
    refine tm_go 6 (pc' := 108) (L' := [some (.ref 127), some (.int a0), some (.int (w.1 127 60)), some (.int (w17.1 143 ((((40 : Int32) * (w5.1 129 12)) + (Int64.toInt32 (w17.2.1 132 r17.toInt.toNat))).toInt.toNat))), none, none]) (S' := [.int 0, .int (w17.1 143 ((((40 : Int32) * (w5.1 129 12)) + (Int64.toInt32 (w17.2.1 132 r17.toInt.toNat))).toInt.toNat)), .ref 129, .ref 127]) (w' := w17) rfl ?_
    refine tm_c rfl (Nat.le_of_ble_eq_true rfl) (dm_Tx_kid (d := d + 0) hs) (fun v w20 hq => ?_)
    obtain ⟨r20, rfl, hs⟩ := hq
    refine tm_c rfl (Nat.le_of_ble_eq_true rfl) (hr_Mo_lay _ _ _ hs) (fun v w21 hq => ?_)
    obtain ⟨r21, rfl, hs⟩ := hq
    refine tm_go 5 (pc' := 123) (L' := [some (.ref 127), some (.int a0), some (.int (w.1 127 60)), some (.int (w17.1 143 ((((40 : Int32) * (w5.1 129 12)) + (Int64.toInt32 (w17.2.1 132 r17.toInt.toNat))).toInt.toNat))), some (.int r21), none]) (S' := [.int r21, .int (w.1 127 60), .ref 208]) (w' := w21) rfl ?_
    obtain ⟨b22, hs⟩ := hs
    refine tm_k (pc' := 124) (L' := [some (.ref 127), some (.int a0), some (.int (w.1 127 60)), some (.int (w17.1 143 ((((40 : Int32) * (w5.1 129 12)) + (Int64.toInt32 (w17.2.1 132 r17.toInt.toNat))).toInt.toNat))), some (.int r21), none]) (S' := []) (w' := (sI w21 208 ((w.1 127 60).toInt.toNat) r21)) rfl b22 ?_
    refine tm_go 1 (pc' := 125) (L' := [some (.ref 127), some (.int a0), some (.int (w.1 127 60)), some (.int (w17.1 143 ((((40 : Int32) * (w5.1 129 12)) + (Int64.toInt32 (w17.2.1 132 r17.toInt.toNat))).toInt.toNat))), some (.int r21), none]) (S' := [.int (w.1 127 60)]) (w' := (sI w21 208 ((w.1 127 60).toInt.toNat) r21)) rfl ?_
    exact tm_r rfl ⟨_, rfl, hs⟩
theorem da_Mo_lay (n : Nat) : (∀ (w : MW) (a0 : Int32) (Q : Int32 → MW → Prop), pn_Mo_lay n w a0 Q → Tc (n + 1) 105 [.ref 127, .int a0] w (RI Q)) := by
  induction n with
  | zero => exact fun _ _ _ h => h.elim
  | succ n h0 =>
    skip
    exact fun _ _ _ h => (dmb_Mo_lay (d := n) h0 h).le (by omega)
theorem dm_Mo_lay {d : Nat} {w : MW} {a0 : Int32} {Q : Int32 → MW → Prop} (hs : p_Mo_lay w a0 Q) : Tc (d + 511) 105 [.ref 127, .int a0] w (RI Q) := ((da_Mo_lay 510) _ _ _ hs).le (by omega)
set_option maxHeartbeats 4000000 in
set_option maxRecDepth 100000 in
theorem tx_Mo_start_4 {d : Nat} {E : Int32 → MW → Prop} {Q : Int32 → MW → Prop} (n : Nat) : ∀ (x4_1 : Int32) (x4_2 : Int32)  (z3 : Option Value) (z4 : Option Value) (w : MW), q_Mo_start_4  E Q n x4_1 x4_2 w → (∀ (e4_1 : Int32)  (v2 : Option Value) (v3 : Option Value) (v4 : Option Value) (w : MW), E e4_1 w → Tm (d + 512) 107 72 [some (.ref 127), some (.int e4_1), v2, v3, v4] [] w (RZ Q)) → Tm (d + 512) 107 4 [some (.ref 127), some (.int x4_1), some (.int x4_2), z3, z4] [] w (RZ Q) := by
  induction n with
  | zero => intro x4_1 x4_2 z3 z4 w hs; rw [q_Mo_start_4.eq_1] at hs; exact hs.elim
  | succ n ih =>
    intro x4_1 x4_2 z3 z4 w hs hE
    rw [q_Mo_start_4.eq_2] at hs
    refine tm_go 4 (pc' := 12) (L' := [some (.ref 127), some (.int x4_1), some (.int x4_2), z3, z4]) (S' := [.int (w.1 129 31), .int x4_2]) (w' := w) rfl ?_
    refine tm_i (p1 := 72) (p2 := 15) rfl (fun h1 => ?_) (fun h1 => ?_)
    · replace hs := hs.1 h1
      exact hE _ _ _ _ _ hs
    · replace hs := hs.2 h1
      refine tm_go 1 (pc' := 16) (L' := [some (.ref 127), some (.int x4_1), some (.int x4_2), z3, z4]) (S' := [.int x4_1]) (w' := w) rfl ?_
      refine tm_i (p1 := 60) (p2 := 19) rfl (fun h2 => ?_) (fun h2 => ?_)
      · replace hs := hs.1 h2
        refine tm_go 5 (pc' := 4) (L' := [some (.ref 127), some (.int 1), some (.int (x4_2 + (1 : Int32))), z3, z4]) (S' := []) (w' := w) rfl ?_
        exact ih _ _ _ _ _ hs hE
      · replace hs := hs.2 h2
        refine tm_go 15 (pc' := 50) (L' := [some (.ref 127), some (.int x4_1), some (.int x4_2), z3, z4]) (S' := [.int (((300 : Int32) * (w.1 129 12)) + x4_2), .ref 138, .ref 129, .ref 131]) (w' := w) rfl ?_
        obtain ⟨b3, hs⟩ := hs
        refine tm_k (pc' := 51) (L' := [some (.ref 127), some (.int x4_1), some (.int x4_2), z3, z4]) (S' := [.int (w.1 138 ((((300 : Int32) * (w.1 129 12)) + x4_2).toInt.toNat)), .ref 129, .ref 131]) (w' := w) rfl b3 ?_
        refine tm_c rfl (Nat.le_of_ble_eq_true rfl) (dm_Tx_node1 (d := d + 511) hs) (fun v w4 hq => ?_)
        obtain ⟨r4, rfl, hs⟩ := hq
        obtain ⟨b5, hs⟩ := hs
        refine tm_k (pc' := 55) (L' := [some (.ref 127), some (.int x4_1), some (.int x4_2), z3, z4]) (S' := [.int (w4.1 131 r4.toInt.toNat)]) (w' := w4) rfl b5 ?_
        refine tm_go 1 (pc' := 57) (L' := [some (.ref 127), some (.int x4_1), some (.int x4_2), z3, z4]) (S' := [.int 24, .int (w4.1 131 r4.toInt.toNat)]) (w' := w4) rfl ?_
        refine tm_i (p1 := 64) (p2 := 60) rfl (fun h6 => ?_) (fun h6 => ?_)
        · replace hs := hs.1 h6
          refine tm_go 4 (pc' := 4) (L' := [some (.ref 127), some (.int 0), some (.int (x4_2 + (1 : Int32))), z3, z4]) (S' := []) (w' := w4) rfl ?_
          exact ih _ _ _ _ _ hs hE
        · replace hs := hs.2 h6
          refine tm_go 5 (pc' := 4) (L' := [some (.ref 127), some (.int 1), some (.int (x4_2 + (1 : Int32))), z3, z4]) (S' := []) (w' := w4) rfl ?_
          exact ih _ _ _ _ _ hs hE
set_option maxHeartbeats 4000000 in
set_option maxRecDepth 100000 in
theorem tx_Mo_start_134 {d : Nat} {E : MW → Prop} {Q : Int32 → MW → Prop} (n : Nat) : ∀ (x134_2 : Int32) (x134_3 : Int32)  (z1 : Option Value) (z4 : Option Value) (w : MW), q_Mo_start_134  E Q n x134_2 x134_3 w → (∀  (v1 : Option Value) (v2 : Option Value) (v3 : Option Value) (v4 : Option Value) (w : MW), E  w → Tm (d + 512) 107 209 [some (.ref 127), v1, v2, v3, v4] [] w (RZ Q)) → Tm (d + 512) 107 134 [some (.ref 127), z1, some (.int x134_2), some (.int x134_3), z4] [] w (RZ Q) := by
  induction n with
  | zero => intro x134_2 x134_3 z1 z4 w hs; rw [q_Mo_start_134.eq_1] at hs; exact hs.elim
  | succ n ih =>
    intro x134_2 x134_3 z1 z4 w hs hE
    rw [q_Mo_start_134.eq_2] at hs
    refine tm_go 4 (pc' := 142) (L' := [some (.ref 127), z1, some (.int x134_2), some (.int x134_3), z4]) (S' := [.int (w.1 129 31), .int x134_3]) (w' := w) rfl ?_
    refine tm_i (p1 := 209) (p2 := 145) rfl (fun h11 => ?_) (fun h11 => ?_)
    · replace hs := hs.1 h11
      exact hE _ _ _ _ _ hs
    · replace hs := hs.2 h11
      refine tm_go 10 (pc' := 165) (L' := [some (.ref 127), z1, some (.int x134_2), some (.int x134_3), z4]) (S' := [.int (((300 : Int32) * (w.1 129 12)) + x134_3), .ref 138]) (w' := w) rfl ?_
      obtain ⟨b12, hs⟩ := hs
      refine tm_k (pc' := 166) (L' := [some (.ref 127), z1, some (.int x134_2), some (.int x134_3), z4]) (S' := [.int (w.1 138 ((((300 : Int32) * (w.1 129 12)) + x134_3).toInt.toNat))]) (w' := w) rfl b12 ?_
      refine tm_go 7 (pc' := 181) (L' := [some (.ref 127), z1, some (.int x134_2), some (.int x134_3), some (.int (w.1 138 ((((300 : Int32) * (w.1 129 12)) + x134_3).toInt.toNat)))]) (S' := [.int (w.1 138 ((((300 : Int32) * (w.1 129 12)) + x134_3).toInt.toNat)), .ref 129, .ref 131]) (w' := w) rfl ?_
      refine tm_c rfl (Nat.le_of_ble_eq_true rfl) (dm_Tx_node1 (d := d + 511) hs) (fun v w13 hq => ?_)
      obtain ⟨r13, rfl, hs⟩ := hq
      obtain ⟨b14, hs⟩ := hs
      refine tm_k (pc' := 185) (L' := [some (.ref 127), z1, some (.int x134_2), some (.int x134_3), some (.int (w.1 138 ((((300 : Int32) * (w.1 129 12)) + x134_3).toInt.toNat)))]) (S' := [.int (w13.1 131 r13.toInt.toNat)]) (w' := w13) rfl b14 ?_
      refine tm_go 1 (pc' := 187) (L' := [some (.ref 127), z1, some (.int x134_2), some (.int x134_3), some (.int (w.1 138 ((((300 : Int32) * (w.1 129 12)) + x134_3).toInt.toNat)))]) (S' := [.int 24, .int (w13.1 131 r13.toInt.toNat)]) (w' := w13) rfl ?_
      refine tm_i (p1 := 203) (p2 := 190) rfl (fun h15 => ?_) (fun h15 => ?_)
      · replace hs := hs.1 h15
        refine tm_go 2 (pc' := 134) (L' := [some (.ref 127), z1, some (.int x134_2), some (.int (x134_3 + (1 : Int32))), some (.int (w.1 138 ((((300 : Int32) * (w.1 129 12)) + x134_3).toInt.toNat)))]) (S' := []) (w' := w13) rfl ?_
        exact ih _ _ _ _ _ hs hE
      · replace hs := hs.2 h15
        refine tm_go 5 (pc' := 196) (L' := [some (.ref 127), z1, some (.int x134_2), some (.int x134_3), some (.int (w.1 138 ((((300 : Int32) * (w.1 129 12)) + x134_3).toInt.toNat)))]) (S' := [.int (w.1 138 ((((300 : Int32) * (w.1 129 12)) + x134_3).toInt.toNat)), .ref 127, .int x134_2, .int 0, .ref 127]) (w' := w13) rfl ?_
        refine tm_c rfl (Nat.le_of_ble_eq_true rfl) (dm_Mo_lay (d := d + 0) hs) (fun v w16 hq => ?_)
        obtain ⟨r16, rfl, hs⟩ := hq
        refine tm_c rfl (Nat.le_of_ble_eq_true rfl) (dm_Mo_hang (d := d + 511) hs) (fun v w17 hq => ?_)
        obtain ⟨r17, rfl, hs⟩ := hq
        refine tm_go 3 (pc' := 134) (L' := [some (.ref 127), (ksl z1), some (.int r17), some (.int (x134_3 + (1 : Int32))), some (.int (w.1 138 ((((300 : Int32) * (w.1 129 12)) + x134_3).toInt.toNat)))]) (S' := []) (w' := w17) rfl ?_
        exact ih _ _ _ _ _ hs hE
set_option maxHeartbeats 4000000 in
set_option maxRecDepth 100000 in
theorem tx_Mo_start_264 {d : Nat} {y264_3 : Int32} {ys264_0 : Int32} {z1 : Option Value} {z2 : Option Value} {z4 : Option Value} {w : MW} {A : Int32 → MW → Prop} {E : MW → Prop} {Q : Int32 → MW → Prop} (hs : q_Mo_start_264 y264_3 ys264_0 w A E Q) (hA : ∀ (x223_3 : Int32)  (z1 : Option Value) (z2 : Option Value) (z4 : Option Value) (w : MW), A x223_3 w → Tm (d + 512) 107 223 [some (.ref 127), z1, z2, some (.int x223_3), z4] [] w (RZ Q)) (hE : ∀  (v1 : Option Value) (v2 : Option Value) (v3 : Option Value) (v4 : Option Value) (w : MW), E  w → Tm (d + 512) 107 293 [some (.ref 127), v1, v2, v3, v4] [] w (RZ Q)) : Tm (d + 512) 107 264 [some (.ref 127), z1, z2, some (.int y264_3), z4] [.int ys264_0] w (RZ Q) := by
  unfold q_Mo_start_264 at hs
  refine tm_go 5 (pc' := 273) (L' := [some (.ref 127), z1, z2, some (.int y264_3), some (.int ys264_0)]) (S' := [.int ys264_0, .int y264_3, .ref 206]) (w' := w) rfl ?_
  refine tm_i (p1 := 285) (p2 := 276) rfl (fun h22 => ?_) (fun h22 => ?_)
  · replace hs := hs.1 h22
    refine tm_go 1 (pc' := 286) (L' := [some (.ref 127), z1, z2, some (.int y264_3), some (.int ys264_0)]) (S' := [.long 0, .int y264_3, .ref 206]) (w' := w) rfl ?_
    obtain ⟨b23, hs⟩ := hs
    refine tm_k (pc' := 287) (L' := [some (.ref 127), z1, z2, some (.int y264_3), some (.int ys264_0)]) (S' := []) (w' := (sJ w 206 y264_3.toInt.toNat 0)) rfl b23 ?_
    refine tm_go 2 (pc' := 223) (L' := [some (.ref 127), z1, (ksl z2), some (.int (y264_3 + (1 : Int32))), some (.int ys264_0)]) (S' := []) (w' := (sJ w 206 y264_3.toInt.toNat 0)) rfl ?_
    exact hA _ _ _ _ _ hs
  · replace hs := hs.2 h22
    refine tm_go 3 (pc' := 281) (L' := [some (.ref 127), z1, z2, some (.int y264_3), some (.int ys264_0)]) (S' := [.int y264_3, .ref 206, .int y264_3, .ref 206]) (w' := w) rfl ?_
    obtain ⟨b24, hs⟩ := hs
    refine tm_k (pc' := 282) (L' := [some (.ref 127), z1, z2, some (.int y264_3), some (.int ys264_0)]) (S' := [.long (w.2.1 206 y264_3.toInt.toNat), .int y264_3, .ref 206]) (w' := w) rfl b24 ?_
    refine tm_go 1 (pc' := 286) (L' := [some (.ref 127), z1, z2, some (.int y264_3), some (.int ys264_0)]) (S' := [.long (w.2.1 206 y264_3.toInt.toNat), .int y264_3, .ref 206]) (w' := w) rfl ?_
    obtain ⟨b25, hs⟩ := hs
    refine tm_k (pc' := 287) (L' := [some (.ref 127), z1, z2, some (.int y264_3), some (.int ys264_0)]) (S' := []) (w' := (sJ w 206 y264_3.toInt.toNat (w.2.1 206 y264_3.toInt.toNat))) rfl b25 ?_
    refine tm_go 2 (pc' := 223) (L' := [some (.ref 127), z1, (ksl z2), some (.int (y264_3 + (1 : Int32))), some (.int ys264_0)]) (S' := []) (w' := (sJ w 206 y264_3.toInt.toNat (w.2.1 206 y264_3.toInt.toNat))) rfl ?_
    exact hA _ _ _ _ _ hs
set_option maxHeartbeats 4000000 in
set_option maxRecDepth 100000 in
theorem tx_Mo_start_223 {d : Nat} {E : MW → Prop} {Q : Int32 → MW → Prop} (n : Nat) : ∀ (x223_3 : Int32)  (z1 : Option Value) (z2 : Option Value) (z4 : Option Value) (w : MW), q_Mo_start_223  E Q n x223_3 w → (∀  (v1 : Option Value) (v2 : Option Value) (v3 : Option Value) (v4 : Option Value) (w : MW), E  w → Tm (d + 512) 107 293 [some (.ref 127), v1, v2, v3, v4] [] w (RZ Q)) → Tm (d + 512) 107 223 [some (.ref 127), z1, z2, some (.int x223_3), z4] [] w (RZ Q) := by
  induction n with
  | zero => intro x223_3 z1 z2 z4 w hs; rw [q_Mo_start_223.eq_1] at hs; exact hs.elim
  | succ n ih =>
    intro x223_3 z1 z2 z4 w hs hE
    rw [q_Mo_start_223.eq_2] at hs
    refine tm_go 2 (pc' := 226) (L' := [some (.ref 127), z1, z2, some (.int x223_3), z4]) (S' := [.int 40, .int x223_3]) (w' := w) rfl ?_
    refine tm_i (p1 := 293) (p2 := 229) rfl (fun h19 => ?_) (fun h19 => ?_)
    · replace hs := hs.1 h19
      exact hE _ _ _ _ _ hs
    · replace hs := hs.2 h19
      refine tm_go 3 (pc' := 233) (L' := [some (.ref 127), z1, z2, some (.int x223_3), z4]) (S' := [.int 30, .int x223_3, .ref 127]) (w' := w) rfl ?_
      refine tm_c rfl (Nat.le_of_ble_eq_true rfl) (dm_Mo_isRole (d := d + 511) hs) (fun v w20 hq => ?_)
      obtain ⟨r20, rfl, hz20, hs⟩ := hq
      refine tm_i (p1 := 263) (p2 := 239) rfl (fun h21 => ?_) (fun h21 => ?_)
      · replace hs := hs.1 h21
        refine tm_go 1 (pc' := 264) (L' := [some (.ref 127), z1, z2, some (.int x223_3), z4]) (S' := [.int 0]) (w' := w20) rfl ?_
        exact tx_Mo_start_264 hs (fun q0 q1 q2 q3 q4 hs => ih q0 q1 q2 q3 q4 hs hE) hE
      · replace hs := hs.2 h21
        refine tm_go 3 (pc' := 244) (L' := [some (.ref 127), z1, z2, some (.int x223_3), z4]) (S' := [.int x223_3, .ref 201]) (w' := w20) rfl ?_
        obtain ⟨b26, hs⟩ := hs
        refine tm_k (pc' := 245) (L' := [some (.ref 127), z1, z2, some (.int x223_3), z4]) (S' := [.int (w20.1 201 x223_3.toInt.toNat)]) (w' := w20) rfl b26 ?_
        refine tm_go 1 (pc' := 246) (L' := [some (.ref 127), z1, z2, some (.int x223_3), z4]) (S' := [.int (-1), .int (w20.1 201 x223_3.toInt.toNat)]) (w' := w20) rfl ?_
        refine tm_i (p1 := 263) (p2 := 249) rfl (fun h27 => ?_) (fun h27 => ?_)
        · replace hs := hs.1 h27
          refine tm_go 1 (pc' := 264) (L' := [some (.ref 127), z1, z2, some (.int x223_3), z4]) (S' := [.int 0]) (w' := w20) rfl ?_
          exact tx_Mo_start_264 hs (fun q0 q1 q2 q3 q4 hs => ih q0 q1 q2 q3 q4 hs hE) hE
        · replace hs := hs.2 h27
          refine tm_go 3 (pc' := 254) (L' := [some (.ref 127), z1, z2, some (.int x223_3), z4]) (S' := [.int x223_3, .ref 201]) (w' := w20) rfl ?_
          obtain ⟨b28, hs⟩ := hs
          refine tm_k (pc' := 255) (L' := [some (.ref 127), z1, z2, some (.int x223_3), z4]) (S' := [.int (w20.1 201 x223_3.toInt.toNat)]) (w' := w20) rfl b28 ?_
          refine tm_go 1 (pc' := 256) (L' := [some (.ref 127), z1, z2, some (.int x223_3), z4]) (S' := [.int 5, .int (w20.1 201 x223_3.toInt.toNat)]) (w' := w20) rfl ?_
          refine tm_i (p1 := 263) (p2 := 259) rfl (fun h29 => ?_) (fun h29 => ?_)
          · replace hs := hs.1 h29
            refine tm_go 1 (pc' := 264) (L' := [some (.ref 127), z1, z2, some (.int x223_3), z4]) (S' := [.int 0]) (w' := w20) rfl ?_
            exact tx_Mo_start_264 hs (fun q0 q1 q2 q3 q4 hs => ih q0 q1 q2 q3 q4 hs hE) hE
          · replace hs := hs.2 h29
            refine tm_go 2 (pc' := 264) (L' := [some (.ref 127), z1, z2, some (.int x223_3), z4]) (S' := [.int 1]) (w' := w20) rfl ?_
            exact tx_Mo_start_264 hs (fun q0 q1 q2 q3 q4 hs => ih q0 q1 q2 q3 q4 hs hE) hE
set_option maxHeartbeats 4000000 in
set_option maxRecDepth 100000 in
theorem tx_Mo_start_97 {d : Nat} {z1 : Option Value} {z2 : Option Value} {z3 : Option Value} {z4 : Option Value} {w : MW} {Q : Int32 → MW → Prop} (hs : q_Mo_start_97  w Q) : Tm (d + 512) 107 97 [some (.ref 127), z1, z2, z3, z4] [] w (RZ Q) := by
  unfold q_Mo_start_97 at hs
  refine tm_go 27 (pc' := 134) (L' := [some (.ref 127), (ksl z1), some (.int (-1)), some (.int 0), z4]) (S' := []) (w' := (sI (sI (sI (sI (sI w 127 60 1) 207 0 (-1)) 210 0 (vp_nar .boolean (1 : Int32))) 208 0 (-1)) 209 0 (-1))) rfl ?_
  refine tx_Mo_start_134 FU _ _ _ _ _ hs (fun  z18_1 z18_2 z18_3 z18_4 w18 hs => ?_)
  refine tm_go 10 (pc' := 223) (L' := [some (.ref 127), z18_1, (ksl z18_2), some (.int 0), z18_4]) (S' := []) (w' := (sI w18 213 0 (w18.1 208 0))) rfl ?_
  refine tx_Mo_start_223 FU _ _ _ _ _ hs (fun  z30_1 z30_2 z30_3 z30_4 w30 hs => ?_)
  refine tm_go 10 (pc' := 309) (L' := [some (.ref 127), z30_1, z30_2, z30_3, z30_4]) (S' := [.int 1]) (w' := (sI (sI (sI w30 127 59 0) 127 74 0) 127 79 0)) rfl ?_
  exact tm_r rfl ⟨_, rfl, by decide, hs⟩
set_option maxHeartbeats 4000000 in
set_option maxRecDepth 100000 in
theorem dm_Mo_start {d : Nat} {w : MW} {Q : Int32 → MW → Prop} (hs : p_Mo_start w Q) : Tc (d + 512) 107 [.ref 127] w (RZ Q) := by
  unfold p_Mo_start at hs
  refine tm_go 4 (pc' := 4) (L' := [some (.ref 127), some (.int 0), some (.int 0), none, none]) (S' := []) (w' := w) rfl ?_
  refine tx_Mo_start_4 FU _ _ _ _ _ hs (fun e4_1_7 z7_2 z7_3 z7_4 w7 hs => ?_)
  refine tm_go 1 (pc' := 73) (L' := [some (.ref 127), some (.int e4_1_7), z7_2, z7_3, z7_4]) (S' := [.int e4_1_7]) (w' := w7) rfl ?_
  refine tm_i (p1 := 78) (p2 := 76) rfl (fun h8 => ?_) (fun h8 => ?_)
  · replace hs := hs.1 h8
    refine tm_go 2 (pc' := 82) (L' := [some (.ref 127), some (.int e4_1_7), z7_2, z7_3, z7_4]) (S' := [.int (w7.1 127 59)]) (w' := w7) rfl ?_
    refine tm_i (p1 := 93) (p2 := 85) rfl (fun h9 => ?_) (fun h9 => ?_)
    · replace hs := hs.1 h9
      refine tm_go 1 (pc' := 94) (L' := [some (.ref 127), some (.int e4_1_7), z7_2, z7_3, z7_4]) (S' := [.ref 127]) (w' := w7) rfl ?_
      refine tm_c rfl (Nat.le_of_ble_eq_true rfl) (dm_Mo_closeAll (d := d + 509) hs) (fun v w10 hq => ?_)
      obtain ⟨rfl, hs⟩ := hq
      exact tx_Mo_start_97 hs 
    · replace hs := hs.2 h9
      refine tm_go 3 (pc' := 90) (L' := [some (.ref 127), some (.int e4_1_7), z7_2, z7_3, z7_4]) (S' := [.int 2, .int (w7.1 127 59)]) (w' := w7) rfl ?_
      refine tm_i (p1 := 97) (p2 := 93) rfl (fun h31 => ?_) (fun h31 => ?_)
      · replace hs := hs.1 h31
        exact tx_Mo_start_97 hs 
      · replace hs := hs.2 h31
        refine tm_go 1 (pc' := 94) (L' := [some (.ref 127), some (.int e4_1_7), z7_2, z7_3, z7_4]) (S' := [.ref 127]) (w' := w7) rfl ?_
        refine tm_c rfl (Nat.le_of_ble_eq_true rfl) (dm_Mo_closeAll (d := d + 509) hs) (fun v w32 hq => ?_)
        obtain ⟨rfl, hs⟩ := hq
        exact tx_Mo_start_97 hs 
  · replace hs := hs.2 h8
    refine tm_go 1 (pc' := 77) (L' := [some (.ref 127), some (.int e4_1_7), z7_2, z7_3, z7_4]) (S' := [.int 0]) (w' := w7) rfl ?_
    exact tm_r rfl ⟨_, rfl, by decide, hs⟩
set_option maxHeartbeats 4000000 in
set_option maxRecDepth 100000 in
theorem dm_Mo_come {d : Nat} {w : MW} {a0 : Int32} {b0 : Int32} {Q : MW → Prop} (hs : p_Mo_come w a0 b0 Q) : Tc (d + 0) 80 [.ref 127, .int a0, .int b0] w (RV Q) := by
  unfold p_Mo_come at hs
  refine tm_go 6 (pc' := 10) (L' := [some (.ref 127), some (.int a0), some (.int b0)]) (S' := [.int a0, .ref 165, .int a0, .ref 166]) (w' := w) rfl ?_
  obtain ⟨b1, hs⟩ := hs
  refine tm_k (pc' := 11) (L' := [some (.ref 127), some (.int a0), some (.int b0)]) (S' := [.int (w.1 165 a0.toInt.toNat), .int a0, .ref 166]) (w' := w) rfl b1 ?_
  refine tm_i (p1 := 24) (p2 := 14) rfl (fun h2 => ?_) (fun h2 => ?_)
  · replace hs := hs.1 h2
    refine tm_go 2 (pc' := 30) (L' := [some (.ref 127), some (.int a0), some (.int b0)]) (S' := [.int b0, .int a0, .ref 166]) (w' := w) rfl ?_
    obtain ⟨b3, hs⟩ := hs
    refine tm_k (pc' := 31) (L' := [some (.ref 127), some (.int a0), some (.int b0)]) (S' := []) (w' := (sI w 166 a0.toInt.toNat b0)) rfl b3 ?_
    refine tm_go 4 (pc' := 37) (L' := [some (.ref 127), some (.int a0), some (.int b0)]) (S' := [.int a0, .ref 165, .int a0, .ref 165]) (w' := (sI w 166 a0.toInt.toNat b0)) rfl ?_
    obtain ⟨b4, hs⟩ := hs
    refine tm_k (pc' := 38) (L' := [some (.ref 127), some (.int a0), some (.int b0)]) (S' := [.int (w.1 165 a0.toInt.toNat), .int a0, .ref 165]) (w' := (sI w 166 a0.toInt.toNat b0)) rfl b4 ?_
    refine tm_go 2 (pc' := 40) (L' := [some (.ref 127), some (.int a0), some (.int b0)]) (S' := [.int ((w.1 165 a0.toInt.toNat) + (1 : Int32)), .int a0, .ref 165]) (w' := (sI w 166 a0.toInt.toNat b0)) rfl ?_
    obtain ⟨b5, hs⟩ := hs
    refine tm_k (pc' := 41) (L' := [some (.ref 127), some (.int a0), some (.int b0)]) (S' := []) (w' := (sI (sI w 166 a0.toInt.toNat b0) 165 a0.toInt.toNat ((w.1 165 a0.toInt.toNat) + (1 : Int32)))) rfl b5 ?_
    exact tm_r rfl ⟨rfl, hs⟩
  · replace hs := hs.2 h2
    refine tm_go 3 (pc' := 19) (L' := [some (.ref 127), some (.int a0), some (.int b0)]) (S' := [.int a0, .ref 166, .int a0, .ref 166]) (w' := w) rfl ?_
    obtain ⟨b6, hs⟩ := hs
    refine tm_k (pc' := 20) (L' := [some (.ref 127), some (.int a0), some (.int b0)]) (S' := [.int (w.1 166 a0.toInt.toNat), .int a0, .ref 166]) (w' := w) rfl b6 ?_
    refine tm_go 1 (pc' := 21) (L' := [some (.ref 127), some (.int a0), some (.int b0)]) (S' := [.int b0, .int (w.1 166 a0.toInt.toNat), .int a0, .ref 166]) (w' := w) rfl ?_
    refine tm_i (p1 := 28) (p2 := 24) rfl (fun h7 => ?_) (fun h7 => ?_)
    · replace hs := hs.1 h7
      refine tm_go 1 (pc' := 30) (L' := [some (.ref 127), some (.int a0), some (.int b0)]) (S' := [.int 15, .int a0, .ref 166]) (w' := w) rfl ?_
      obtain ⟨b8, hs⟩ := hs
      refine tm_k (pc' := 31) (L' := [some (.ref 127), some (.int a0), some (.int b0)]) (S' := []) (w' := (sI w 166 a0.toInt.toNat 15)) rfl b8 ?_
      refine tm_go 4 (pc' := 37) (L' := [some (.ref 127), some (.int a0), some (.int b0)]) (S' := [.int a0, .ref 165, .int a0, .ref 165]) (w' := (sI w 166 a0.toInt.toNat 15)) rfl ?_
      obtain ⟨b9, hs⟩ := hs
      refine tm_k (pc' := 38) (L' := [some (.ref 127), some (.int a0), some (.int b0)]) (S' := [.int (w.1 165 a0.toInt.toNat), .int a0, .ref 165]) (w' := (sI w 166 a0.toInt.toNat 15)) rfl b9 ?_
      refine tm_go 2 (pc' := 40) (L' := [some (.ref 127), some (.int a0), some (.int b0)]) (S' := [.int ((w.1 165 a0.toInt.toNat) + (1 : Int32)), .int a0, .ref 165]) (w' := (sI w 166 a0.toInt.toNat 15)) rfl ?_
      obtain ⟨b10, hs⟩ := hs
      refine tm_k (pc' := 41) (L' := [some (.ref 127), some (.int a0), some (.int b0)]) (S' := []) (w' := (sI (sI w 166 a0.toInt.toNat 15) 165 a0.toInt.toNat ((w.1 165 a0.toInt.toNat) + (1 : Int32)))) rfl b10 ?_
      exact tm_r rfl ⟨rfl, hs⟩
    · replace hs := hs.2 h7
      refine tm_go 2 (pc' := 30) (L' := [some (.ref 127), some (.int a0), some (.int b0)]) (S' := [.int b0, .int a0, .ref 166]) (w' := w) rfl ?_
      obtain ⟨b11, hs⟩ := hs
      refine tm_k (pc' := 31) (L' := [some (.ref 127), some (.int a0), some (.int b0)]) (S' := []) (w' := (sI w 166 a0.toInt.toNat b0)) rfl b11 ?_
      refine tm_go 4 (pc' := 37) (L' := [some (.ref 127), some (.int a0), some (.int b0)]) (S' := [.int a0, .ref 165, .int a0, .ref 165]) (w' := (sI w 166 a0.toInt.toNat b0)) rfl ?_
      obtain ⟨b12, hs⟩ := hs
      refine tm_k (pc' := 38) (L' := [some (.ref 127), some (.int a0), some (.int b0)]) (S' := [.int (w.1 165 a0.toInt.toNat), .int a0, .ref 165]) (w' := (sI w 166 a0.toInt.toNat b0)) rfl b12 ?_
      refine tm_go 2 (pc' := 40) (L' := [some (.ref 127), some (.int a0), some (.int b0)]) (S' := [.int ((w.1 165 a0.toInt.toNat) + (1 : Int32)), .int a0, .ref 165]) (w' := (sI w 166 a0.toInt.toNat b0)) rfl ?_
      obtain ⟨b13, hs⟩ := hs
      refine tm_k (pc' := 41) (L' := [some (.ref 127), some (.int a0), some (.int b0)]) (S' := []) (w' := (sI (sI w 166 a0.toInt.toNat b0) 165 a0.toInt.toNat ((w.1 165 a0.toInt.toNat) + (1 : Int32)))) rfl b13 ?_
      exact tm_r rfl ⟨rfl, hs⟩
