set_option maxHeartbeats 4000000 in
set_option maxRecDepth 100000 in
theorem dm_Rd_takeNewName {d : Nat} {w : MW} {Q : Int64 → MW → Prop} (hs : p_Rd_takeNewName w Q) : Tc (d + 3) 169 [.ref 87] w (RJ Q) := by
  unfold p_Rd_takeNewName at hs
  refine tm_go 1 (pc' := 1) (L' := [some (.ref 87), none, none]) (S' := [.ref 87]) (w' := w) rfl ?_
  refine tm_c rfl (Nat.le_of_ble_eq_true rfl) (dm_Rd_nextWord (d := d + 0) hs) (fun v w1 hq => ?_)
  obtain ⟨rfl, hs⟩ := hq
  refine tm_go 6 (pc' := 15) (L' := [some (.ref 87), some (.long (w1.2.1 87 5)), none]) (S' := [.int 30, .int (w1.1 87 3)]) (w' := w1) rfl ?_
  refine tm_i (p1 := 41) (p2 := 18) rfl (fun h2 => ?_) (fun h2 => ?_)
  · replace hs := hs.1 h2
    refine tm_go 1 (pc' := 42) (L' := [some (.ref 87), some (.long (w1.2.1 87 5)), none]) (S' := [.ref 87]) (w' := w1) rfl ?_
    refine tm_c rfl (Nat.le_of_ble_eq_true rfl) (dm_Rd_fail (d := d + 2) hs) (fun v w3 hq => ?_)
    obtain ⟨rfl, hs⟩ := hq
    refine tm_go 1 (pc' := 46) (L' := [some (.ref 87), some (.long (w1.2.1 87 5)), none]) (S' := [.long 0]) (w' := w3) rfl ?_
    exact tm_r rfl ⟨_, rfl, hs⟩
  · replace hs := hs.2 h2
    refine tm_go 1 (pc' := 19) (L' := [some (.ref 87), some (.long (w1.2.1 87 5)), none]) (S' := [.ref 87]) (w' := w1) rfl ?_
    obtain ⟨b4, hs⟩ := hs
    refine tm_g (pc' := 22) (k := 87) (j := 1) rfl b4 ?_
    refine tm_go 1 (pc' := 23) (L' := [some (.ref 87), some (.long (w1.2.1 87 5)), none]) (S' := [.long (w1.2.1 87 5), .ref 108]) (w' := w1) rfl ?_
    refine tm_c rfl (Nat.le_of_ble_eq_true rfl) (dm_Pr_finds108 (d := d + 2) hs) (fun v w5 hq => ?_)
    obtain ⟨r5, rfl, hs⟩ := hq
    refine tm_i (p1 := 41) (p2 := 29) rfl (fun h6 => ?_) (fun h6 => ?_)
    · replace hs := hs.1 h6
      refine tm_go 1 (pc' := 42) (L' := [some (.ref 87), some (.long (w1.2.1 87 5)), none]) (S' := [.ref 87]) (w' := w5) rfl ?_
      refine tm_c rfl (Nat.le_of_ble_eq_true rfl) (dm_Rd_fail (d := d + 2) hs) (fun v w7 hq => ?_)
      obtain ⟨rfl, hs⟩ := hq
      refine tm_go 1 (pc' := 46) (L' := [some (.ref 87), some (.long (w1.2.1 87 5)), none]) (S' := [.long 0]) (w' := w7) rfl ?_
      exact tm_r rfl ⟨_, rfl, hs⟩
    · replace hs := hs.2 h6
      refine tm_go 1 (pc' := 30) (L' := [some (.ref 87), some (.long (w1.2.1 87 5)), none]) (S' := [.ref 87]) (w' := w5) rfl ?_
      obtain ⟨b8, hs⟩ := hs
      refine tm_g (pc' := 33) (k := 87) (j := 1) rfl b8 ?_
      refine tm_go 2 (pc' := 38) (L' := [some (.ref 87), some (.long (w1.2.1 87 5)), none]) (S' := [.int 40, .int (w5.1 108 10)]) (w' := w5) rfl ?_
      refine tm_i (p1 := 47) (p2 := 41) rfl (fun h9 => ?_) (fun h9 => ?_)
      · replace hs := hs.1 h9
        refine tm_go 1 (pc' := 48) (L' := [some (.ref 87), some (.long (w1.2.1 87 5)), none]) (S' := [.ref 87]) (w' := w5) rfl ?_
        refine tm_c rfl (Nat.le_of_ble_eq_true rfl) (dm_Rd_nextWord (d := d + 0) hs) (fun v w10 hq => ?_)
        obtain ⟨rfl, hs⟩ := hq
        refine tm_go 1 (pc' := 52) (L' := [some (.ref 87), some (.long (w1.2.1 87 5)), none]) (S' := [.long (w1.2.1 87 5)]) (w' := w10) rfl ?_
        exact tm_r rfl ⟨_, rfl, hs⟩
      · replace hs := hs.2 h9
        refine tm_go 1 (pc' := 42) (L' := [some (.ref 87), some (.long (w1.2.1 87 5)), none]) (S' := [.ref 87]) (w' := w5) rfl ?_
        refine tm_c rfl (Nat.le_of_ble_eq_true rfl) (dm_Rd_fail (d := d + 2) hs) (fun v w11 hq => ?_)
        obtain ⟨rfl, hs⟩ := hq
        refine tm_go 1 (pc' := 46) (L' := [some (.ref 87), some (.long (w1.2.1 87 5)), none]) (S' := [.long 0]) (w' := w11) rfl ?_
        exact tm_r rfl ⟨_, rfl, hs⟩
set_option maxHeartbeats 4000000 in
set_option maxRecDepth 100000 in
theorem dm_Rd_takeUnit {d : Nat} {w : MW} {Q : Int32 → MW → Prop} (hs : p_Rd_takeUnit w Q) : Tc (d + 3) 170 [.ref 87] w (RI Q) := by
  unfold p_Rd_takeUnit at hs
  refine tm_go 2 (pc' := 4) (L' := [some (.ref 87), none]) (S' := [.int (w.1 87 9)]) (w' := w) rfl ?_
  refine tm_i (p1 := 23) (p2 := 7) rfl (fun h1 => ?_) (fun h1 => ?_)
  · replace hs := hs.1 h1
    refine tm_go 1 (pc' := 24) (L' := [some (.ref 87), none]) (S' := [.int 0]) (w' := w) rfl ?_
    exact tm_r rfl ⟨_, rfl, hs⟩
  · replace hs := hs.2 h1
    refine tm_go 3 (pc' := 12) (L' := [some (.ref 87), none]) (S' := [.int 1, .int (w.1 87 3)]) (w' := w) rfl ?_
    refine tm_i (p1 := 23) (p2 := 15) rfl (fun h2 => ?_) (fun h2 => ?_)
    · replace hs := hs.1 h2
      refine tm_go 1 (pc' := 24) (L' := [some (.ref 87), none]) (S' := [.int 0]) (w' := w) rfl ?_
      exact tm_r rfl ⟨_, rfl, hs⟩
    · replace hs := hs.2 h2
      refine tm_go 3 (pc' := 20) (L' := [some (.ref 87), none]) (S' := [.int 5, .int (w.1 87 3)]) (w' := w) rfl ?_
      refine tm_i (p1 := 25) (p2 := 23) rfl (fun h3 => ?_) (fun h3 => ?_)
      · replace hs := hs.1 h3
        refine tm_go 4 (pc' := 31) (L' := [some (.ref 87), some (.int (w.1 87 3))]) (S' := [.ref 87]) (w' := w) rfl ?_
        refine tm_c rfl (Nat.le_of_ble_eq_true rfl) (dm_Rd_nextWord (d := d + 0) hs) (fun v w4 hq => ?_)
        obtain ⟨rfl, hs⟩ := hq
        refine tm_go 1 (pc' := 35) (L' := [some (.ref 87), some (.int (w.1 87 3))]) (S' := [.int (w.1 87 3)]) (w' := w4) rfl ?_
        exact tm_r rfl ⟨_, rfl, hs⟩
      · replace hs := hs.2 h3
        refine tm_go 1 (pc' := 24) (L' := [some (.ref 87), none]) (S' := [.int 0]) (w' := w) rfl ?_
        exact tm_r rfl ⟨_, rfl, hs⟩
set_option maxHeartbeats 4000000 in
set_option maxRecDepth 100000 in
theorem tx_Rd_read_1_108_114 {d : Nat} {y114_3 : Int32} {y114_4 : Int32} {y114_5 : Int64} {y114_7 : Int32} {ys114_0 : Int32} {z1 : Option Value} {z2 : Option Value} {z8 : Option Value} {w : MW} {A : Int32 → MW → Prop} {E : MW → Prop} {Q : Int32 → MW → Prop} (hs : q_Rd_read_1_108_114 y114_3 y114_4 y114_5 y114_7 ys114_0 w A E Q) (hA : ∀ (x38_3 : Int32)  (z1 : Option Value) (z2 : Option Value) (z4 : Option Value) (z5 : Option Value) (z6 : Option Value) (z7 : Option Value) (z8 : Option Value) (w : MW), A x38_3 w → Tm (d + 804) 159 38 [some (.ref 87), z1, z2, some (.int x38_3), z4, z5, z6, z7, z8] [] w (RI Q)) (hE : ∀  (v1 : Option Value) (v2 : Option Value) (v3 : Option Value) (v4 : Option Value) (v5 : Option Value) (v6 : Option Value) (v7 : Option Value) (v8 : Option Value) (w : MW), E  w → Tm (d + 804) 159 161 [some (.ref 87), v1, v2, v3, v4, v5, v6, v7, v8] [] w (RI Q)) : Tm (d + 804) 159 114 [some (.ref 87), z1, z2, some (.int y114_3), some (.int y114_4), some (.long y114_5), none, some (.int y114_7), z8] [.int ys114_0] w (RI Q) := by
  unfold q_Rd_read_1_108_114 at hs
  refine tm_go 3 (pc' := 120) (L' := [some (.ref 87), z1, z2, some (.int y114_3), some (.int y114_4), some (.long y114_5), none, some (.int y114_7), some (.int ys114_0)]) (S' := [.int 10, .int y114_4]) (w' := w) rfl ?_
  refine tm_i (p1 := 134) (p2 := 123) rfl (fun h11 => ?_) (fun h11 => ?_)
  · replace hs := hs.1 h11
    refine tm_go 2 (pc' := 137) (L' := [some (.ref 87), z1, z2, some (.int y114_3), some (.int y114_4), some (.long y114_5), none, some (.int y114_7), some (.int ys114_0)]) (S' := [.int 59, .ref 87]) (w' := w) rfl ?_
    refine tm_c rfl (Nat.le_of_ble_eq_true rfl) (dm_Rd_take (d := d + 800) hs) (fun v w12 hq => ?_)
    obtain ⟨rfl, hs⟩ := hq
    refine tm_go 1 (pc' := 141) (L' := [some (.ref 87), z1, z2, some (.int y114_3), some (.int y114_4), some (.long y114_5), none, some (.int y114_7), some (.int ys114_0)]) (S' := [.ref 87]) (w' := w12) rfl ?_
    obtain ⟨b13, hs⟩ := hs
    refine tm_g (pc' := 144) (k := 87) (j := 1) rfl b13 ?_
    refine tm_go 4 (pc' := 152) (L' := [some (.ref 87), z1, z2, some (.int y114_3), some (.int y114_4), some (.long y114_5), none, some (.int y114_7), some (.int ys114_0)]) (S' := [.int y114_7, .int ys114_0, .int y114_4, .long y114_5, .ref 108]) (w' := w12) rfl ?_
    refine tm_c rfl (Nat.le_of_ble_eq_true rfl) (dm_Pr_addNames108 (d := d + 803) hs) (fun v w14 hq => ?_)
    obtain ⟨rfl, hs⟩ := hq
    refine tm_go 2 (pc' := 38) (L' := [some (.ref 87), z1, (ksl z2), some (.int (y114_3 + (1 : Int32))), some (.int y114_4), some (.long y114_5), none, some (.int y114_7), some (.int ys114_0)]) (S' := []) (w' := w14) rfl ?_
    exact hA _ _ _ _ _ _ _ _ _ hs
  · replace hs := hs.2 h11
    refine tm_go 3 (pc' := 127) (L' := [some (.ref 87), z1, z2, some (.int y114_3), some (.int y114_4), some (.long y114_5), none, some (.int y114_7), some (.int ys114_0)]) (S' := [.int 0, .int 10, .ref 87]) (w' := w) rfl ?_
    refine tm_c rfl (Nat.le_of_ble_eq_true rfl) (dm_Rd_makeNode (d := d + 802) hs) (fun v w15 hq => ?_)
    obtain ⟨r15, rfl, hs⟩ := hq
    refine tm_go 3 (pc' := 141) (L' := [some (.ref 87), z1, z2, some (.int y114_3), some (.int y114_4), some (.long y114_5), none, some (.int y114_7), some (.int ys114_0)]) (S' := [.ref 87]) (w' := w15) rfl ?_
    obtain ⟨b16, hs⟩ := hs
    refine tm_g (pc' := 144) (k := 87) (j := 1) rfl b16 ?_
    refine tm_go 4 (pc' := 152) (L' := [some (.ref 87), z1, z2, some (.int y114_3), some (.int y114_4), some (.long y114_5), none, some (.int y114_7), some (.int ys114_0)]) (S' := [.int y114_7, .int ys114_0, .int y114_4, .long y114_5, .ref 108]) (w' := w15) rfl ?_
    refine tm_c rfl (Nat.le_of_ble_eq_true rfl) (dm_Pr_addNames108 (d := d + 803) hs) (fun v w17 hq => ?_)
    obtain ⟨rfl, hs⟩ := hq
    refine tm_go 2 (pc' := 38) (L' := [some (.ref 87), z1, (ksl z2), some (.int (y114_3 + (1 : Int32))), some (.int y114_4), some (.long y114_5), none, some (.int y114_7), some (.int ys114_0)]) (S' := []) (w' := w17) rfl ?_
    exact hA _ _ _ _ _ _ _ _ _ hs
set_option maxHeartbeats 4000000 in
set_option maxRecDepth 100000 in
theorem tx_Rd_read_1_108_38 {d : Nat} {E : MW → Prop} {Q : Int32 → MW → Prop} (n : Nat) : ∀ (x38_3 : Int32)  (z1 : Option Value) (z2 : Option Value) (z4 : Option Value) (z5 : Option Value) (z6 : Option Value) (z7 : Option Value) (z8 : Option Value) (w : MW), q_Rd_read_1_108_38  E Q n x38_3 w → (∀  (v1 : Option Value) (v2 : Option Value) (v3 : Option Value) (v4 : Option Value) (v5 : Option Value) (v6 : Option Value) (v7 : Option Value) (v8 : Option Value) (w : MW), E  w → Tm (d + 804) 159 161 [some (.ref 87), v1, v2, v3, v4, v5, v6, v7, v8] [] w (RI Q)) → Tm (d + 804) 159 38 [some (.ref 87), z1, z2, some (.int x38_3), z4, z5, z6, z7, z8] [] w (RI Q) := by
  induction n with
  | zero => intro x38_3 z1 z2 z4 z5 z6 z7 z8 w hs; rw [q_Rd_read_1_108_38.eq_1] at hs; exact hs.elim
  | succ n ih =>
    intro x38_3 z1 z2 z4 z5 z6 z7 z8 w hs hE
    rw [q_Rd_read_1_108_38.eq_2] at hs
    refine tm_go 2 (pc' := 42) (L' := [some (.ref 87), z1, z2, some (.int x38_3), z4, z5, z6, z7, z8]) (S' := [.int 4000, .int x38_3]) (w' := w) rfl ?_
    refine tm_i (p1 := 161) (p2 := 45) rfl (fun h3 => ?_) (fun h3 => ?_)
    · replace hs := hs.1 h3
      exact hE _ _ _ _ _ _ _ _ _ hs
    · replace hs := hs.2 h3
      refine tm_go 2 (pc' := 49) (L' := [some (.ref 87), z1, z2, some (.int x38_3), z4, z5, z6, z7, z8]) (S' := [.int (w.1 87 9)]) (w' := w) rfl ?_
      refine tm_i (p1 := 161) (p2 := 52) rfl (fun h4 => ?_) (fun h4 => ?_)
      · replace hs := hs.1 h4
        exact hE _ _ _ _ _ _ _ _ _ hs
      · replace hs := hs.2 h4
        refine tm_go 3 (pc' := 58) (L' := [some (.ref 87), z1, z2, some (.int x38_3), z4, z5, z6, z7, z8]) (S' := [.int 8, .int (w.1 87 3)]) (w' := w) rfl ?_
        refine tm_i (p1 := 161) (p2 := 61) rfl (fun h5 => ?_) (fun h5 => ?_)
        · replace hs := hs.1 h5
          exact hE _ _ _ _ _ _ _ _ _ hs
        · replace hs := hs.2 h5
          refine tm_go 3 (pc' := 67) (L' := [some (.ref 87), z1, z2, some (.int x38_3), z4, z5, z6, z7, z8]) (S' := [.int 10, .int (w.1 87 3)]) (w' := w) rfl ?_
          refine tm_i (p1 := 161) (p2 := 70) rfl (fun h6 => ?_) (fun h6 => ?_)
          · replace hs := hs.1 h6
            exact hE _ _ _ _ _ _ _ _ _ hs
          · replace hs := hs.2 h6
            refine tm_go 4 (pc' := 77) (L' := [some (.ref 87), z1, z2, some (.int x38_3), some (.int (w.1 87 3)), z5, z6, z7, z8]) (S' := [.ref 87]) (w' := w) rfl ?_
            refine tm_c rfl (Nat.le_of_ble_eq_true rfl) (dm_Rd_takeNewName (d := d + 800) hs) (fun v w7 hq => ?_)
            obtain ⟨r7, rfl, hs⟩ := hq
            refine tm_go 3 (pc' := 86) (L' := [some (.ref 87), z1, z2, some (.int x38_3), some (.int (w.1 87 3)), some (.long r7), none, z7, z8]) (S' := [.int 10, .int (w.1 87 3)]) (w' := w7) rfl ?_
            refine tm_i (p1 := 96) (p2 := 89) rfl (fun h8 => ?_) (fun h8 => ?_)
            · replace hs := hs.1 h8
              refine tm_go 4 (pc' := 103) (L' := [some (.ref 87), z1, z2, some (.int x38_3), some (.int (w.1 87 3)), some (.long r7), none, some (.int (-1)), z8]) (S' := [.int 10, .int (w.1 87 3)]) (w' := w7) rfl ?_
              refine tm_i (p1 := 110) (p2 := 106) rfl (fun _ => ?_) (fun h => absurd h8 h)
              refine tm_go 1 (pc' := 111) (L' := [some (.ref 87), z1, z2, some (.int x38_3), some (.int (w.1 87 3)), some (.long r7), none, some (.int (-1)), z8]) (S' := [.ref 87]) (w' := w7) rfl ?_
              refine tm_c rfl (Nat.le_of_ble_eq_true rfl) (dm_Rd_takeUnit (d := d + 800) hs) (fun v w10 hq => ?_)
              obtain ⟨r10, rfl, hs⟩ := hq
              exact tx_Rd_read_1_108_114 hs (fun q0 q1 q2 q3 q4 q5 q6 q7 q8 hs => ih q0 q1 q2 q3 q4 q5 q6 q7 q8 hs hE) hE
            · replace hs := hs.2 h8
              refine tm_go 1 (pc' := 90) (L' := [some (.ref 87), z1, z2, some (.int x38_3), some (.int (w.1 87 3)), some (.long r7), none, z7, z8]) (S' := [.ref 87]) (w' := w7) rfl ?_
              refine tm_c rfl (Nat.le_of_ble_eq_true rfl) (dm_Rd_readBlock (d := d + 0) hs) (fun v w18 hq => ?_)
              obtain ⟨r18, rfl, hs⟩ := hq
              refine tm_go 4 (pc' := 103) (L' := [some (.ref 87), z1, z2, some (.int x38_3), some (.int (w.1 87 3)), some (.long r7), none, some (.int r18), z8]) (S' := [.int 10, .int (w.1 87 3)]) (w' := w18) rfl ?_
              refine tm_i (p1 := 110) (p2 := 106) rfl (fun h => absurd h h8) (fun _ => ?_)
              refine tm_go 2 (pc' := 114) (L' := [some (.ref 87), z1, z2, some (.int x38_3), some (.int (w.1 87 3)), some (.long r7), none, some (.int r18), z8]) (S' := [.int 0]) (w' := w18) rfl ?_
              exact tx_Rd_read_1_108_114 hs (fun q0 q1 q2 q3 q4 q5 q6 q7 q8 hs => ih q0 q1 q2 q3 q4 q5 q6 q7 q8 hs hE) hE
set_option maxHeartbeats 4000000 in
set_option maxRecDepth 100000 in
theorem tx_Rd_read_1_108_172 {d : Nat} {E : Int32 → Int32 → MW → Prop} {Q : Int32 → MW → Prop} (n : Nat) : ∀ (x172_3 : Int32) (x172_4 : Int32) (x172_5 : Int32) (x172_6 : Int32)  (z1 : Option Value) (z2 : Option Value) (z7 : Option Value) (z8 : Option Value) (w : MW), q_Rd_read_1_108_172  E Q n x172_3 x172_4 x172_5 x172_6 w → (∀ (e172_3 : Int32) (e172_4 : Int32)  (v1 : Option Value) (v2 : Option Value) (v5 : Option Value) (v6 : Option Value) (v7 : Option Value) (v8 : Option Value) (w : MW), E e172_3 e172_4 w → Tm (d + 804) 159 271 [some (.ref 87), v1, v2, some (.int e172_3), some (.int e172_4), v5, v6, v7, v8] [] w (RI Q)) → Tm (d + 804) 159 172 [some (.ref 87), z1, z2, some (.int x172_3), some (.int x172_4), some (.int x172_5), some (.int x172_6), z7, z8] [] w (RI Q) := by
  induction n with
  | zero => intro x172_3 x172_4 x172_5 x172_6 z1 z2 z7 z8 w hs; rw [q_Rd_read_1_108_172.eq_1] at hs; exact hs.elim
  | succ n ih =>
    intro x172_3 x172_4 x172_5 x172_6 z1 z2 z7 z8 w hs hE
    rw [q_Rd_read_1_108_172.eq_2] at hs
    refine tm_go 2 (pc' := 177) (L' := [some (.ref 87), z1, z2, some (.int x172_3), some (.int x172_4), some (.int x172_5), some (.int x172_6), z7, z8]) (S' := [.int 4000, .int x172_6]) (w' := w) rfl ?_
    refine tm_i (p1 := 271) (p2 := 180) rfl (fun h21 => ?_) (fun h21 => ?_)
    · replace hs := hs.1 h21
      exact hE _ _ _ _ _ _ _ _ _ hs
    · replace hs := hs.2 h21
      refine tm_go 2 (pc' := 184) (L' := [some (.ref 87), z1, z2, some (.int x172_3), some (.int x172_4), some (.int x172_5), some (.int x172_6), z7, z8]) (S' := [.int (w.1 87 9)]) (w' := w) rfl ?_
      refine tm_i (p1 := 271) (p2 := 187) rfl (fun h22 => ?_) (fun h22 => ?_)
      · replace hs := hs.1 h22
        exact hE _ _ _ _ _ _ _ _ _ hs
      · replace hs := hs.2 h22
        refine tm_go 3 (pc' := 193) (L' := [some (.ref 87), z1, z2, some (.int x172_3), some (.int x172_4), some (.int x172_5), some (.int x172_6), z7, z8]) (S' := [.int 32, .int (w.1 87 3)]) (w' := w) rfl ?_
        refine tm_i (p1 := 271) (p2 := 196) rfl (fun h23 => ?_) (fun h23 => ?_)
        · replace hs := hs.1 h23
          exact hE _ _ _ _ _ _ _ _ _ hs
        · replace hs := hs.2 h23
          refine tm_go 1 (pc' := 197) (L' := [some (.ref 87), z1, z2, some (.int x172_3), some (.int x172_4), some (.int x172_5), some (.int x172_6), z7, z8]) (S' := [.ref 87]) (w' := w) rfl ?_
          refine tm_c rfl (Nat.le_of_ble_eq_true rfl) (dm_Rd_readStatement (d := d + 0) hs) (fun v w24 hq => ?_)
          obtain ⟨r24, rfl, hs⟩ := hq
          refine tm_go 5 (pc' := 209) (L' := [some (.ref 87), z1, z2, some (.int x172_3), some (.int x172_4), some (.int x172_5), some (.int x172_6), some (.int r24), z8]) (S' := [.int r24, .ref 88, .int x172_3]) (w' := w24) rfl ?_
          obtain ⟨b25, hs⟩ := hs
          refine tm_k (pc' := 210) (L' := [some (.ref 87), z1, z2, some (.int x172_3), some (.int x172_4), some (.int x172_5), some (.int x172_6), some (.int r24), z8]) (S' := [.int (w24.1 88 r24.toInt.toNat), .int x172_3]) (w' := w24) rfl b25 ?_
          refine tm_go 2 (pc' := 214) (L' := [some (.ref 87), z1, z2, some (.int x172_3), some (.int x172_4), some (.int x172_5), some (.int x172_6), some (.int r24), z8]) (S' := [.int 501, .int (x172_3 + (w24.1 88 r24.toInt.toNat))]) (w' := w24) rfl ?_
          refine tm_c rfl (Nat.le_of_ble_eq_true rfl) (dm_Ma_min (d := d + 803) hs) (fun v w26 hq => ?_)
          obtain ⟨r26, rfl, hs⟩ := hq
          refine tm_go 5 (pc' := 226) (L' := [some (.ref 87), z1, (ksl z2), some (.int r26), some (.int x172_4), some (.int x172_5), some (.int x172_6), some (.int r24), z8]) (S' := [.int r24, .ref 89, .int x172_4]) (w' := w26) rfl ?_
          obtain ⟨b27, hs⟩ := hs
          refine tm_k (pc' := 227) (L' := [some (.ref 87), z1, (ksl z2), some (.int r26), some (.int x172_4), some (.int x172_5), some (.int x172_6), some (.int r24), z8]) (S' := [.int (w26.1 89 r24.toInt.toNat), .int x172_4]) (w' := w26) rfl b27 ?_
          refine tm_c rfl (Nat.le_of_ble_eq_true rfl) (dm_Ma_max (d := d + 803) hs) (fun v w28 hq => ?_)
          obtain ⟨r28, rfl, hs⟩ := hq
          refine tm_go 2 (pc' := 234) (L' := [some (.ref 87), z1, (ksl z2), some (.int r26), some (.int r28), some (.int x172_5), some (.int x172_6), some (.int r24), z8]) (S' := [.int x172_5]) (w' := w28) rfl ?_
          refine tm_i (p1 := 249) (p2 := 237) rfl (fun h29 => ?_) (fun h29 => ?_)
          · replace hs := hs.1 h29
            refine tm_go 1 (pc' := 250) (L' := [some (.ref 87), z1, (ksl z2), some (.int r26), some (.int r28), some (.int x172_5), some (.int x172_6), some (.int r24), z8]) (S' := [.ref 87]) (w' := w28) rfl ?_
            obtain ⟨b30, hs⟩ := hs
            refine tm_g (pc' := 253) (k := 87) (j := 1) rfl b30 ?_
            refine tm_go 3 (pc' := 260) (L' := [some (.ref 87), z1, (ksl z2), some (.int r26), some (.int r28), some (.int x172_5), some (.int x172_6), some (.int r24), z8]) (S' := [.int r24, .int x172_5, .ref 114]) (w' := w28) rfl ?_
            obtain ⟨b31, hs⟩ := hs
            refine tm_k (pc' := 261) (L' := [some (.ref 87), z1, (ksl z2), some (.int r26), some (.int r28), some (.int x172_5), some (.int x172_6), some (.int r24), z8]) (S' := []) (w' := (sI w28 114 x172_5.toInt.toNat r24)) rfl b31 ?_
            refine tm_go 4 (pc' := 172) (L' := [some (.ref 87), z1, (ksl z2), some (.int r26), some (.int r28), some (.int r24), some (.int (x172_6 + (1 : Int32))), some (.int r24), z8]) (S' := []) (w' := (sI w28 114 x172_5.toInt.toNat r24)) rfl ?_
            exact ih _ _ _ _ _ _ _ _ _ hs hE
          · replace hs := hs.2 h29
            refine tm_go 1 (pc' := 238) (L' := [some (.ref 87), z1, (ksl z2), some (.int r26), some (.int r28), some (.int x172_5), some (.int x172_6), some (.int r24), z8]) (S' := [.ref 87]) (w' := w28) rfl ?_
            obtain ⟨b32, hs⟩ := hs
            refine tm_g (pc' := 241) (k := 87) (j := 1) rfl b32 ?_
            refine tm_go 7 (pc' := 172) (L' := [some (.ref 87), z1, (ksl z2), some (.int r26), some (.int r28), some (.int r24), some (.int (x172_6 + (1 : Int32))), some (.int r24), z8]) (S' := []) (w' := (sI w28 108 2 r24)) rfl ?_
            exact ih _ _ _ _ _ _ _ _ _ hs hE
set_option maxHeartbeats 4000000 in
set_option maxRecDepth 100000 in
theorem dm_Rd_read_1_108 {d : Nat} {w : MW} {Q : Int32 → MW → Prop} (hs : p_Rd_read_1_108 w Q) : Tc (d + 804) 159 [.ref 87, .ref 1, .ref 108] w (RI Q) := by
  unfold p_Rd_read_1_108 at hs
  refine tm_go 8 (pc' := 14) (L' := [some (.ref 87), some (.ref 1), some (.ref 108), none, none, none, none, none, none]) (S' := [.ref 108]) (w' := (sR (sR w 87 0 (some 1)) 87 1 (some 108))) rfl ?_
  refine tm_c rfl (Nat.le_of_ble_eq_true rfl) (dm_Pr_clears108 (d := d + 803) hs) (fun v w1 hq => ?_)
  obtain ⟨rfl, hs⟩ := hq
  refine tm_go 10 (pc' := 33) (L' := [some (.ref 87), some (.ref 1), some (.ref 108), none, none, none, none, none, none]) (S' := [.ref 87]) (w' := (sI (sI (sI w1 87 2 0) 87 8 0) 87 9 (-1))) rfl ?_
  refine tm_c rfl (Nat.le_of_ble_eq_true rfl) (dm_Rd_nextWord (d := d + 801) hs) (fun v w2 hq => ?_)
  obtain ⟨rfl, hs⟩ := hq
  refine tm_go 2 (pc' := 38) (L' := [some (.ref 87), some (.ref 1), some (.ref 108), some (.int 0), none, none, none, none, none]) (S' := []) (w' := w2) rfl ?_
  refine tx_Rd_read_1_108_38 FU _ _ _ _ _ _ _ _ _ hs (fun  z20_1 z20_2 z20_3 z20_4 z20_5 z20_6 z20_7 z20_8 w20 hs => ?_)
  refine tm_go 8 (pc' := 172) (L' := [some (.ref 87), z20_1, (ksl z20_2), some (.int 0), some (.int 0), some (.int (-1)), some (.int 0), z20_7, z20_8]) (S' := []) (w' := w20) rfl ?_
  refine tx_Rd_read_1_108_172 FU _ _ _ _ _ _ _ _ _ hs (fun e172_3_33 e172_4_33 z33_1 z33_2 z33_5 z33_6 z33_7 z33_8 w33 hs => ?_)
  refine tm_go 2 (pc' := 275) (L' := [some (.ref 87), z33_1, z33_2, some (.int e172_3_33), some (.int e172_4_33), z33_5, z33_6, z33_7, z33_8]) (S' := [.int (w33.1 87 9)]) (w' := w33) rfl ?_
  refine tm_i (p1 := 296) (p2 := 278) rfl (fun h34 => ?_) (fun h34 => ?_)
  · replace hs := hs.1 h34
    refine tm_go 2 (pc' := 300) (L' := [some (.ref 87), z33_1, z33_2, some (.int e172_3_33), some (.int e172_4_33), z33_5, z33_6, z33_7, z33_8]) (S' := [.int (w33.1 87 9)]) (w' := w33) rfl ?_
    exact tm_r rfl ⟨_, rfl, hs⟩
  · replace hs := hs.2 h34
    refine tm_go 2 (pc' := 282) (L' := [some (.ref 87), z33_1, z33_2, some (.int e172_3_33), some (.int e172_4_33), z33_5, z33_6, z33_7, z33_8]) (S' := [.int 500, .int e172_3_33]) (w' := w33) rfl ?_
    refine tm_i (p1 := 292) (p2 := 285) rfl (fun h35 => ?_) (fun h35 => ?_)
    · replace hs := hs.1 h35
      refine tm_go 1 (pc' := 293) (L' := [some (.ref 87), z33_1, z33_2, some (.int e172_3_33), some (.int e172_4_33), z33_5, z33_6, z33_7, z33_8]) (S' := [.ref 87]) (w' := w33) rfl ?_
      refine tm_c rfl (Nat.le_of_ble_eq_true rfl) (dm_Rd_fail (d := d + 803) hs) (fun v w36 hq => ?_)
      obtain ⟨rfl, hs⟩ := hq
      refine tm_go 2 (pc' := 300) (L' := [some (.ref 87), z33_1, z33_2, some (.int e172_3_33), some (.int e172_4_33), z33_5, z33_6, z33_7, z33_8]) (S' := [.int (w36.1 87 9)]) (w' := w36) rfl ?_
      exact tm_r rfl ⟨_, rfl, hs⟩
    · replace hs := hs.2 h35
      refine tm_go 2 (pc' := 289) (L' := [some (.ref 87), z33_1, z33_2, some (.int e172_3_33), some (.int e172_4_33), z33_5, z33_6, z33_7, z33_8]) (S' := [.int 40, .int e172_4_33]) (w' := w33) rfl ?_
      refine tm_i (p1 := 296) (p2 := 292) rfl (fun h37 => ?_) (fun h37 => ?_)
      · replace hs := hs.1 h37
        refine tm_go 2 (pc' := 300) (L' := [some (.ref 87), z33_1, z33_2, some (.int e172_3_33), some (.int e172_4_33), z33_5, z33_6, z33_7, z33_8]) (S' := [.int (w33.1 87 9)]) (w' := w33) rfl ?_
        exact tm_r rfl ⟨_, rfl, hs⟩
      · replace hs := hs.2 h37
        refine tm_go 1 (pc' := 293) (L' := [some (.ref 87), z33_1, z33_2, some (.int e172_3_33), some (.int e172_4_33), z33_5, z33_6, z33_7, z33_8]) (S' := [.ref 87]) (w' := w33) rfl ?_
        refine tm_c rfl (Nat.le_of_ble_eq_true rfl) (dm_Rd_fail (d := d + 803) hs) (fun v w38 hq => ?_)
        obtain ⟨rfl, hs⟩ := hq
        refine tm_go 2 (pc' := 300) (L' := [some (.ref 87), z33_1, z33_2, some (.int e172_3_33), some (.int e172_4_33), z33_5, z33_6, z33_7, z33_8]) (S' := [.int (w38.1 87 9)]) (w' := w38) rfl ?_
        exact tm_r rfl ⟨_, rfl, hs⟩
set_option maxHeartbeats 4000000 in
set_option maxRecDepth 100000 in
theorem dm_Ro_isMark {d : Nat} {w : MW} {a0 : Int32} {Q : Int32 → MW → Prop} (hs : p_Ro_isMark w a0 Q) : Tc (d + 0) 191 [.int a0] w (RZ Q) := by
  unfold p_Ro_isMark at hs
  refine tm_go 2 (pc' := 3) (L' := [some (.int a0)]) (S' := [.int 40, .int a0]) (w' := w) rfl ?_
  refine tm_i (p1 := 18) (p2 := 6) rfl (fun h1 => ?_) (fun h1 => ?_)
  · replace hs := hs.1 h1
    refine tm_go 2 (pc' := 23) (L' := [some (.int a0)]) (S' := [.int 1]) (w' := w) rfl ?_
    exact tm_r rfl ⟨_, rfl, by decide, hs⟩
  · replace hs := hs.2 h1
    refine tm_go 2 (pc' := 9) (L' := [some (.int a0)]) (S' := [.int 41, .int a0]) (w' := w) rfl ?_
    refine tm_i (p1 := 18) (p2 := 12) rfl (fun h2 => ?_) (fun h2 => ?_)
    · replace hs := hs.1 h2
      refine tm_go 2 (pc' := 23) (L' := [some (.int a0)]) (S' := [.int 1]) (w' := w) rfl ?_
      exact tm_r rfl ⟨_, rfl, by decide, hs⟩
    · replace hs := hs.2 h2
      refine tm_go 2 (pc' := 15) (L' := [some (.int a0)]) (S' := [.int 59, .int a0]) (w' := w) rfl ?_
      refine tm_i (p1 := 22) (p2 := 18) rfl (fun h3 => ?_) (fun h3 => ?_)
      · replace hs := hs.1 h3
        refine tm_go 1 (pc' := 23) (L' := [some (.int a0)]) (S' := [.int 0]) (w' := w) rfl ?_
        exact tm_r rfl ⟨_, rfl, by decide, hs⟩
      · replace hs := hs.2 h3
        refine tm_go 2 (pc' := 23) (L' := [some (.int a0)]) (S' := [.int 1]) (w' := w) rfl ?_
        exact tm_r rfl ⟨_, rfl, by decide, hs⟩
set_option maxHeartbeats 4000000 in
set_option maxRecDepth 100000 in
theorem tx_Ro_nextWords99_8 {d : Nat} {E : MW → Prop} {Q : MW → Prop} (n : Nat) : ∀   (w : MW), q_Ro_nextWords99_8  E Q n  w → (∀   (w : MW), E  w → Tm (d + 1) 190 52 [some (.ref 99)] [] w (RV Q)) → Tm (d + 1) 190 8 [some (.ref 99)] [] w (RV Q) := by
  induction n with
  | zero => intro   w hs; rw [q_Ro_nextWords99_8.eq_1] at hs; exact hs.elim
  | succ n ih =>
    intro   w hs hE
    rw [q_Ro_nextWords99_8.eq_2] at hs
    refine tm_go 3 (pc' := 13) (L' := [some (.ref 99)]) (S' := [.ref 99, .int (w.1 99 12)]) (w' := w) rfl ?_
    obtain ⟨b1, hs⟩ := hs
    refine tm_g (pc' := 16) (k := 99) (j := 11) rfl b1 ?_
    refine tm_go 1 (pc' := 19) (L' := [some (.ref 99)]) (S' := [.int (w.1 1 2), .int (w.1 99 12)]) (w' := w) rfl ?_
    refine tm_i (p1 := 52) (p2 := 22) rfl (fun h2 => ?_) (fun h2 => ?_)
    · replace hs := hs.1 h2
      exact hE _ hs
    · replace hs := hs.2 h2
      refine tm_go 1 (pc' := 23) (L' := [some (.ref 99)]) (S' := [.ref 99]) (w' := w) rfl ?_
      obtain ⟨b3, hs⟩ := hs
      refine tm_g (pc' := 26) (k := 99) (j := 11) rfl b3 ?_
      refine tm_go 2 (pc' := 30) (L' := [some (.ref 99)]) (S' := [.int (w.1 99 12), .ref 1]) (w' := w) rfl ?_
      refine tm_c rfl (Nat.le_of_ble_eq_true rfl) (dm_Tp_at (d := d + 0) hs) (fun v w4 hq => ?_)
      obtain ⟨r4, rfl, hs⟩ := hq
      refine tm_c rfl (Nat.le_of_ble_eq_true rfl) (dm_Tp_isBlank (d := d + 0) hs) (fun v w5 hq => ?_)
      obtain ⟨r5, rfl, hz5, hs⟩ := hq
      refine tm_i (p1 := 52) (p2 := 39) rfl (fun h6 => ?_) (fun h6 => ?_)
      · replace hs := hs.1 h6
        exact hE _ hs
      · replace hs := hs.2 h6
        refine tm_go 7 (pc' := 8) (L' := [some (.ref 99)]) (S' := []) (w' := (sI w5 99 12 ((w5.1 99 12) + (1 : Int32)))) rfl ?_
        exact ih _ hs hE
set_option maxHeartbeats 4000000 in
set_option maxRecDepth 100000 in
theorem tx_Ro_nextWords99_60 {d : Nat} {E : MW → Prop} {Q : MW → Prop} (n : Nat) : ∀   (w : MW), q_Ro_nextWords99_60  E Q n  w → (∀   (w : MW), E  w → Tm (d + 1) 190 121 [some (.ref 99)] [] w (RV Q)) → Tm (d + 1) 190 60 [some (.ref 99)] [] w (RV Q) := by
  induction n with
  | zero => intro   w hs; rw [q_Ro_nextWords99_60.eq_1] at hs; exact hs.elim
  | succ n ih =>
    intro   w hs hE
    rw [q_Ro_nextWords99_60.eq_2] at hs
    refine tm_go 3 (pc' := 65) (L' := [some (.ref 99)]) (S' := [.ref 99, .int (w.1 99 13)]) (w' := w) rfl ?_
    obtain ⟨b8, hs⟩ := hs
    refine tm_g (pc' := 68) (k := 99) (j := 11) rfl b8 ?_
    refine tm_go 1 (pc' := 71) (L' := [some (.ref 99)]) (S' := [.int (w.1 1 2), .int (w.1 99 13)]) (w' := w) rfl ?_
    refine tm_i (p1 := 121) (p2 := 74) rfl (fun h9 => ?_) (fun h9 => ?_)
    · replace hs := hs.1 h9
      exact hE _ hs
    · replace hs := hs.2 h9
      refine tm_go 1 (pc' := 75) (L' := [some (.ref 99)]) (S' := [.ref 99]) (w' := w) rfl ?_
      obtain ⟨b10, hs⟩ := hs
      refine tm_g (pc' := 78) (k := 99) (j := 11) rfl b10 ?_
      refine tm_go 2 (pc' := 82) (L' := [some (.ref 99)]) (S' := [.int (w.1 99 13), .ref 1]) (w' := w) rfl ?_
      refine tm_c rfl (Nat.le_of_ble_eq_true rfl) (dm_Tp_at (d := d + 0) hs) (fun v w11 hq => ?_)
      obtain ⟨r11, rfl, hs⟩ := hq
      refine tm_c rfl (Nat.le_of_ble_eq_true rfl) (dm_Tp_isBlank (d := d + 0) hs) (fun v w12 hq => ?_)
      obtain ⟨r12, rfl, hz12, hs⟩ := hq
      refine tm_i (p1 := 121) (p2 := 91) rfl (fun h13 => ?_) (fun h13 => ?_)
      · replace hs := hs.1 h13
        exact hE _ hs
      · replace hs := hs.2 h13
        refine tm_go 1 (pc' := 92) (L' := [some (.ref 99)]) (S' := [.ref 99]) (w' := w12) rfl ?_
        obtain ⟨b14, hs⟩ := hs
        refine tm_g (pc' := 95) (k := 99) (j := 11) rfl b14 ?_
        refine tm_go 2 (pc' := 99) (L' := [some (.ref 99)]) (S' := [.int (w12.1 99 13), .ref 1]) (w' := w12) rfl ?_
        refine tm_c rfl (Nat.le_of_ble_eq_true rfl) (dm_Tp_at (d := d + 0) hs) (fun v w15 hq => ?_)
        obtain ⟨r15, rfl, hs⟩ := hq
        refine tm_c rfl (Nat.le_of_ble_eq_true rfl) (dm_Ro_isMark (d := d + 0) hs) (fun v w16 hq => ?_)
        obtain ⟨r16, rfl, hz16, hs⟩ := hq
        refine tm_i (p1 := 121) (p2 := 108) rfl (fun h17 => ?_) (fun h17 => ?_)
        · replace hs := hs.1 h17
          exact hE _ hs
        · replace hs := hs.2 h17
          refine tm_go 7 (pc' := 60) (L' := [some (.ref 99)]) (S' := []) (w' := (sI w16 99 13 ((w16.1 99 13) + (1 : Int32)))) rfl ?_
          exact ih _ hs hE
set_option maxHeartbeats 4000000 in
set_option maxRecDepth 100000 in
theorem dm_Ro_nextWords99 {d : Nat} {w : MW} {Q : MW → Prop} (hs : p_Ro_nextWords99 w Q) : Tc (d + 1) 190 [.ref 99] w (RV Q) := by
  unfold p_Ro_nextWords99 at hs
  refine tm_go 4 (pc' := 8) (L' := [some (.ref 99)]) (S' := []) (w' := (sI w 99 12 (w.1 99 13))) rfl ?_
  refine tx_Ro_nextWords99_8 FU _ hs (fun   w7 hs => ?_)
  refine tm_go 4 (pc' := 60) (L' := [some (.ref 99)]) (S' := []) (w' := (sI w7 99 13 (w7.1 99 12))) rfl ?_
  refine tx_Ro_nextWords99_60 FU _ hs (fun   w18 hs => ?_)
  refine tm_go 4 (pc' := 129) (L' := [some (.ref 99)]) (S' := [.int (w18.1 99 12), .int (w18.1 99 13)]) (w' := w18) rfl ?_
  refine tm_i (p1 := 156) (p2 := 132) rfl (fun h19 => ?_) (fun h19 => ?_)
  · replace hs := hs.1 h19
    refine tm_go 6 (pc' := 166) (L' := [some (.ref 99)]) (S' := []) (w' := (sI w18 99 14 ((w18.1 99 14) + (1 : Int32)))) rfl ?_
    exact tm_r rfl ⟨rfl, hs⟩
  · replace hs := hs.2 h19
    refine tm_go 3 (pc' := 137) (L' := [some (.ref 99)]) (S' := [.ref 99, .int (w18.1 99 12)]) (w' := w18) rfl ?_
    obtain ⟨b20, hs⟩ := hs
    refine tm_g (pc' := 140) (k := 99) (j := 11) rfl b20 ?_
    refine tm_go 1 (pc' := 143) (L' := [some (.ref 99)]) (S' := [.int (w18.1 1 2), .int (w18.1 99 12)]) (w' := w18) rfl ?_
    refine tm_i (p1 := 156) (p2 := 146) rfl (fun h21 => ?_) (fun h21 => ?_)
    · replace hs := hs.1 h21
      refine tm_go 6 (pc' := 166) (L' := [some (.ref 99)]) (S' := []) (w' := (sI w18 99 14 ((w18.1 99 14) + (1 : Int32)))) rfl ?_
      exact tm_r rfl ⟨rfl, hs⟩
    · replace hs := hs.2 h21
      refine tm_go 12 (pc' := 166) (L' := [some (.ref 99)]) (S' := []) (w' := (sI (sI w18 99 13 ((w18.1 99 13) + (1 : Int32))) 99 14 ((w18.1 99 14) + (1 : Int32)))) rfl ?_
      exact tm_r rfl ⟨rfl, hs⟩
set_option maxHeartbeats 4000000 in
set_option maxRecDepth 100000 in
theorem dm_Ro_fails99 {d : Nat} {w : MW} {Q : MW → Prop} (hs : p_Ro_fails99 w Q) : Tc (d + 0) 194 [.ref 99] w (RV Q) := by
  unfold p_Ro_fails99 at hs
  refine tm_go 2 (pc' := 4) (L' := [some (.ref 99)]) (S' := [.int (w.1 99 17)]) (w' := w) rfl ?_
  refine tm_i (p1 := 15) (p2 := 7) rfl (fun h1 => ?_) (fun h1 => ?_)
  · replace hs := hs.1 h1
    exact tm_r rfl ⟨rfl, hs⟩
  · replace hs := hs.2 h1
    refine tm_go 4 (pc' := 15) (L' := [some (.ref 99)]) (S' := []) (w' := (sI w 99 17 (w.1 99 14))) rfl ?_
    exact tm_r rfl ⟨rfl, hs⟩
set_option maxHeartbeats 4000000 in
set_option maxRecDepth 100000 in
theorem tx_Ro_iss99_2013_27 {d : Nat} {E : MW → Prop} {Q : Int32 → MW → Prop} (n : Nat) : ∀ (x27_2 : Int32)   (w : MW), q_Ro_iss99_2013_27  E Q n x27_2 w → (∀  (v0 : Option Value) (v1 : Option Value) (v2 : Option Value) (w : MW), E  w → Tm (d + 1) 192 64 [v0, v1, v2] [] w (RZ Q)) → Tm (d + 1) 192 27 [some (.ref 99), some (.ref 2013), some (.int x27_2)] [] w (RZ Q) := by
  induction n with
  | zero => intro x27_2  w hs; rw [q_Ro_iss99_2013_27.eq_1] at hs; exact hs.elim
  | succ n ih =>
    intro x27_2  w hs hE
    rw [q_Ro_iss99_2013_27.eq_2] at hs
    refine tm_go 3 (pc' := 32) (L' := [some (.ref 99), some (.ref 2013), some (.int x27_2)]) (S' := [.int 3, .int x27_2]) (w' := w) rfl ?_
    refine tm_i (p1 := 64) (p2 := 35) rfl (fun h3 => ?_) (fun h3 => ?_)
    · replace hs := hs.1 h3
      exact hE _ _ _ _ hs
    · replace hs := hs.2 h3
      refine tm_go 1 (pc' := 36) (L' := [some (.ref 99), some (.ref 2013), some (.int x27_2)]) (S' := [.ref 99]) (w' := w) rfl ?_
      obtain ⟨b4, hs⟩ := hs
      refine tm_g (pc' := 39) (k := 99) (j := 11) rfl b4 ?_
      refine tm_go 4 (pc' := 45) (L' := [some (.ref 99), some (.ref 2013), some (.int x27_2)]) (S' := [.int ((w.1 99 12) + x27_2), .ref 1]) (w' := w) rfl ?_
      refine tm_c rfl (Nat.le_of_ble_eq_true rfl) (dm_Tp_at (d := d + 0) hs) (fun v w5 hq => ?_)
      obtain ⟨r5, rfl, hs⟩ := hq
      refine tm_go 2 (pc' := 50) (L' := [some (.ref 99), some (.ref 2013), some (.int x27_2)]) (S' := [.int x27_2, .ref 2013, .int r5]) (w' := w5) rfl ?_
      obtain ⟨b6, hs⟩ := hs
      refine tm_k (pc' := 53) (L' := [some (.ref 99), some (.ref 2013), some (.int x27_2)]) (S' := [.int (chT 13 x27_2), .int r5]) (w' := w5) rfl ⟨by decide, by decide, Nat.le_of_ble_eq_true rfl, b6⟩ ?_
      refine tm_i (p1 := 58) (p2 := 56) rfl (fun h7 => ?_) (fun h7 => ?_)
      · replace hs := hs.1 h7
        refine tm_go 2 (pc' := 27) (L' := [some (.ref 99), some (.ref 2013), some (.int (x27_2 + (1 : Int32)))]) (S' := []) (w' := w5) rfl ?_
        exact ih _ _ hs hE
      · replace hs := hs.2 h7
        refine tm_go 1 (pc' := 57) (L' := [some (.ref 99), some (.ref 2013), some (.int x27_2)]) (S' := [.int 0]) (w' := w5) rfl ?_
        exact tm_r rfl ⟨_, rfl, by decide, hs⟩
set_option maxHeartbeats 4000000 in
set_option maxRecDepth 100000 in
theorem dm_Ro_iss99_2013 {d : Nat} {w : MW} {Q : Int32 → MW → Prop} (hs : p_Ro_iss99_2013 w Q) : Tc (d + 1) 192 [.ref 99, .ref 2013] w (RZ Q) := by
  unfold p_Ro_iss99_2013 at hs
  refine tm_go 2 (pc' := 4) (L' := [some (.ref 99), some (.ref 2013), none]) (S' := [.int (w.1 99 17)]) (w' := w) rfl ?_
  refine tm_i (p1 := 23) (p2 := 7) rfl (fun h1 => ?_) (fun h1 => ?_)
  · replace hs := hs.1 h1
    refine tm_go 1 (pc' := 24) (L' := [some (.ref 99), some (.ref 2013), none]) (S' := [.int 0]) (w' := w) rfl ?_
    exact tm_r rfl ⟨_, rfl, by decide, hs⟩
  · replace hs := hs.2 h1
    refine tm_go 7 (pc' := 20) (L' := [some (.ref 99), some (.ref 2013), none]) (S' := [.int 3, .int ((w.1 99 13) - (w.1 99 12))]) (w' := w) rfl ?_
    refine tm_i (p1 := 25) (p2 := 23) rfl (fun h2 => ?_) (fun h2 => ?_)
    · replace hs := hs.1 h2
      refine tm_go 2 (pc' := 27) (L' := [some (.ref 99), some (.ref 2013), some (.int 0)]) (S' := []) (w' := w) rfl ?_
      refine tx_Ro_iss99_2013_27 FU _ _ hs (fun  z8_0 z8_1 z8_2 w8 hs => ?_)
      refine tm_go 1 (pc' := 65) (L' := [z8_0, z8_1, z8_2]) (S' := [.int 1]) (w' := w8) rfl ?_
      exact tm_r rfl ⟨_, rfl, by decide, hs⟩
    · replace hs := hs.2 h2
      refine tm_go 1 (pc' := 24) (L' := [some (.ref 99), some (.ref 2013), none]) (S' := [.int 0]) (w' := w) rfl ?_
      exact tm_r rfl ⟨_, rfl, by decide, hs⟩
set_option maxHeartbeats 4000000 in
set_option maxRecDepth 100000 in
theorem tx_Ro_iss99_2014_27 {d : Nat} {E : MW → Prop} {Q : Int32 → MW → Prop} (n : Nat) : ∀ (x27_2 : Int32)   (w : MW), q_Ro_iss99_2014_27  E Q n x27_2 w → (∀  (v0 : Option Value) (v1 : Option Value) (v2 : Option Value) (w : MW), E  w → Tm (d + 1) 192 64 [v0, v1, v2] [] w (RZ Q)) → Tm (d + 1) 192 27 [some (.ref 99), some (.ref 2014), some (.int x27_2)] [] w (RZ Q) := by
  induction n with
  | zero => intro x27_2  w hs; rw [q_Ro_iss99_2014_27.eq_1] at hs; exact hs.elim
  | succ n ih =>
    intro x27_2  w hs hE
    rw [q_Ro_iss99_2014_27.eq_2] at hs
    refine tm_go 3 (pc' := 32) (L' := [some (.ref 99), some (.ref 2014), some (.int x27_2)]) (S' := [.int 7, .int x27_2]) (w' := w) rfl ?_
    refine tm_i (p1 := 64) (p2 := 35) rfl (fun h3 => ?_) (fun h3 => ?_)
    · replace hs := hs.1 h3
      exact hE _ _ _ _ hs
    · replace hs := hs.2 h3
      refine tm_go 1 (pc' := 36) (L' := [some (.ref 99), some (.ref 2014), some (.int x27_2)]) (S' := [.ref 99]) (w' := w) rfl ?_
      obtain ⟨b4, hs⟩ := hs
      refine tm_g (pc' := 39) (k := 99) (j := 11) rfl b4 ?_
      refine tm_go 4 (pc' := 45) (L' := [some (.ref 99), some (.ref 2014), some (.int x27_2)]) (S' := [.int ((w.1 99 12) + x27_2), .ref 1]) (w' := w) rfl ?_
      refine tm_c rfl (Nat.le_of_ble_eq_true rfl) (dm_Tp_at (d := d + 0) hs) (fun v w5 hq => ?_)
      obtain ⟨r5, rfl, hs⟩ := hq
      refine tm_go 2 (pc' := 50) (L' := [some (.ref 99), some (.ref 2014), some (.int x27_2)]) (S' := [.int x27_2, .ref 2014, .int r5]) (w' := w5) rfl ?_
      obtain ⟨b6, hs⟩ := hs
      refine tm_k (pc' := 53) (L' := [some (.ref 99), some (.ref 2014), some (.int x27_2)]) (S' := [.int (chT 14 x27_2), .int r5]) (w' := w5) rfl ⟨by decide, by decide, Nat.le_of_ble_eq_true rfl, b6⟩ ?_
      refine tm_i (p1 := 58) (p2 := 56) rfl (fun h7 => ?_) (fun h7 => ?_)
      · replace hs := hs.1 h7
        refine tm_go 2 (pc' := 27) (L' := [some (.ref 99), some (.ref 2014), some (.int (x27_2 + (1 : Int32)))]) (S' := []) (w' := w5) rfl ?_
        exact ih _ _ hs hE
      · replace hs := hs.2 h7
        refine tm_go 1 (pc' := 57) (L' := [some (.ref 99), some (.ref 2014), some (.int x27_2)]) (S' := [.int 0]) (w' := w5) rfl ?_
        exact tm_r rfl ⟨_, rfl, by decide, hs⟩
set_option maxHeartbeats 4000000 in
set_option maxRecDepth 100000 in
theorem dm_Ro_iss99_2014 {d : Nat} {w : MW} {Q : Int32 → MW → Prop} (hs : p_Ro_iss99_2014 w Q) : Tc (d + 1) 192 [.ref 99, .ref 2014] w (RZ Q) := by
  unfold p_Ro_iss99_2014 at hs
  refine tm_go 2 (pc' := 4) (L' := [some (.ref 99), some (.ref 2014), none]) (S' := [.int (w.1 99 17)]) (w' := w) rfl ?_
  refine tm_i (p1 := 23) (p2 := 7) rfl (fun h1 => ?_) (fun h1 => ?_)
  · replace hs := hs.1 h1
    refine tm_go 1 (pc' := 24) (L' := [some (.ref 99), some (.ref 2014), none]) (S' := [.int 0]) (w' := w) rfl ?_
    exact tm_r rfl ⟨_, rfl, by decide, hs⟩
  · replace hs := hs.2 h1
    refine tm_go 7 (pc' := 20) (L' := [some (.ref 99), some (.ref 2014), none]) (S' := [.int 7, .int ((w.1 99 13) - (w.1 99 12))]) (w' := w) rfl ?_
    refine tm_i (p1 := 25) (p2 := 23) rfl (fun h2 => ?_) (fun h2 => ?_)
    · replace hs := hs.1 h2
      refine tm_go 2 (pc' := 27) (L' := [some (.ref 99), some (.ref 2014), some (.int 0)]) (S' := []) (w' := w) rfl ?_
      refine tx_Ro_iss99_2014_27 FU _ _ hs (fun  z8_0 z8_1 z8_2 w8 hs => ?_)
      refine tm_go 1 (pc' := 65) (L' := [z8_0, z8_1, z8_2]) (S' := [.int 1]) (w' := w8) rfl ?_
      exact tm_r rfl ⟨_, rfl, by decide, hs⟩
    · replace hs := hs.2 h2
      refine tm_go 1 (pc' := 24) (L' := [some (.ref 99), some (.ref 2014), none]) (S' := [.int 0]) (w' := w) rfl ?_
      exact tm_r rfl ⟨_, rfl, by decide, hs⟩
set_option maxHeartbeats 4000000 in
set_option maxRecDepth 100000 in
theorem tx_Ro_numberBehinds99_54 {d : Nat} {x54_2 : Int32} {x54_3 : Int32} {x54_4 : Int32} {E : Int32 → MW → Prop} {Q : Int32 → MW → Prop} (n : Nat) : ∀ (x54_5 : Int32) (x54_6 : Int32)  (z1 : Option Value) (w : MW), q_Ro_numberBehinds99_54 x54_2 x54_3 x54_4 E Q n x54_5 x54_6 w → (∀ (e54_5 : Int32)  (v0 : Option Value) (v1 : Option Value) (v3 : Option Value) (v4 : Option Value) (v6 : Option Value) (w : MW), E e54_5 w → Tm (d + 1) 195 108 [v0, v1, some (.int x54_2), v3, v4, some (.int e54_5), v6] [] w (RI Q)) → Tm (d + 1) 195 54 [some (.ref 99), z1, some (.int x54_2), some (.int x54_3), some (.int x54_4), some (.int x54_5), some (.int x54_6)] [] w (RI Q) := by
  induction n with
  | zero => intro x54_5 x54_6 z1 w hs; rw [q_Ro_numberBehinds99_54.eq_1] at hs; exact hs.elim
  | succ n ih =>
    intro x54_5 x54_6 z1 w hs hE
    rw [q_Ro_numberBehinds99_54.eq_2] at hs
    refine tm_go 2 (pc' := 58) (L' := [some (.ref 99), z1, some (.int x54_2), some (.int x54_3), some (.int x54_4), some (.int x54_5), some (.int x54_6)]) (S' := [.int x54_4, .int x54_6]) (w' := w) rfl ?_
    refine tm_i (p1 := 108) (p2 := 61) rfl (fun h4 => ?_) (fun h4 => ?_)
    · replace hs := hs.1 h4
      exact hE _ _ _ _ _ _ _ hs
    · replace hs := hs.2 h4
      refine tm_go 1 (pc' := 62) (L' := [some (.ref 99), z1, some (.int x54_2), some (.int x54_3), some (.int x54_4), some (.int x54_5), some (.int x54_6)]) (S' := [.ref 99]) (w' := w) rfl ?_
      obtain ⟨b5, hs⟩ := hs
      refine tm_g (pc' := 65) (k := 99) (j := 11) rfl b5 ?_
      refine tm_go 3 (pc' := 69) (L' := [some (.ref 99), z1, some (.int x54_2), some (.int x54_3), some (.int x54_4), some (.int x54_5), some (.int x54_6)]) (S' := [.int (x54_3 + x54_6), .ref 1]) (w' := w) rfl ?_
      refine tm_c rfl (Nat.le_of_ble_eq_true rfl) (dm_Tp_at (d := d + 0) hs) (fun v w6 hq => ?_)
      obtain ⟨r6, rfl, hs⟩ := hq
      refine tm_c rfl (Nat.le_of_ble_eq_true rfl) (dm_Tp_isDigit (d := d + 0) hs) (fun v w7 hq => ?_)
      obtain ⟨r7, rfl, hz7, hs⟩ := hq
      refine tm_i (p1 := 80) (p2 := 78) rfl (fun h8 => ?_) (fun h8 => ?_)
      · replace hs := hs.1 h8
        refine tm_go 4 (pc' := 86) (L' := [some (.ref 99), z1, some (.int x54_2), some (.int x54_3), some (.int x54_4), some (.int x54_5), some (.int x54_6)]) (S' := [.ref 99, .int (x54_5 * (10 : Int32))]) (w' := w7) rfl ?_
        obtain ⟨b9, hs⟩ := hs
        refine tm_g (pc' := 89) (k := 99) (j := 11) rfl b9 ?_
        refine tm_go 3 (pc' := 93) (L' := [some (.ref 99), z1, some (.int x54_2), some (.int x54_3), some (.int x54_4), some (.int x54_5), some (.int x54_6)]) (S' := [.int (x54_3 + x54_6), .ref 1, .int (x54_5 * (10 : Int32))]) (w' := w7) rfl ?_
        refine tm_c rfl (Nat.le_of_ble_eq_true rfl) (dm_Tp_at (d := d + 0) hs) (fun v w10 hq => ?_)
        obtain ⟨r10, rfl, hs⟩ := hq
        refine tm_go 6 (pc' := 54) (L' := [some (.ref 99), z1, some (.int x54_2), some (.int x54_3), some (.int x54_4), some (.int (((x54_5 * (10 : Int32)) + r10) - (48 : Int32))), some (.int (x54_6 + (1 : Int32)))]) (S' := []) (w' := w10) rfl ?_
        exact ih _ _ _ _ hs hE
      · replace hs := hs.2 h8
        refine tm_go 1 (pc' := 79) (L' := [some (.ref 99), z1, some (.int x54_2), some (.int x54_3), some (.int x54_4), some (.int x54_5), some (.int x54_6)]) (S' := [.int (-1)]) (w' := w7) rfl ?_
        exact tm_r rfl ⟨_, rfl, hs⟩
set_option maxHeartbeats 4000000 in
set_option maxRecDepth 100000 in
theorem dm_Ro_numberBehinds99 {d : Nat} {w : MW} {a0 : Int32} {b0 : Int32} {Q : Int32 → MW → Prop} (hs : p_Ro_numberBehinds99 w a0 b0 Q) : Tc (d + 1) 195 [.ref 99, .int a0, .int b0] w (RI Q) := by
  unfold p_Ro_numberBehinds99 at hs
  refine tm_go 12 (pc' := 18) (L' := [some (.ref 99), some (.int a0), some (.int b0), some (.int ((w.1 99 12) + a0)), some (.int ((w.1 99 13) - ((w.1 99 12) + a0))), none, none]) (S' := [.int 1, .int ((w.1 99 13) - ((w.1 99 12) + a0))]) (w' := w) rfl ?_
  refine tm_i (p1 := 46) (p2 := 21) rfl (fun h1 => ?_) (fun h1 => ?_)
  · replace hs := hs.1 h1
    refine tm_go 1 (pc' := 47) (L' := [some (.ref 99), some (.int a0), some (.int b0), some (.int ((w.1 99 12) + a0)), some (.int ((w.1 99 13) - ((w.1 99 12) + a0))), none, none]) (S' := [.int (-1)]) (w' := w) rfl ?_
    exact tm_r rfl ⟨_, rfl, hs⟩
  · replace hs := hs.2 h1
    refine tm_go 2 (pc' := 24) (L' := [some (.ref 99), some (.int a0), some (.int b0), some (.int ((w.1 99 12) + a0)), some (.int ((w.1 99 13) - ((w.1 99 12) + a0))), none, none]) (S' := [.int 4, .int ((w.1 99 13) - ((w.1 99 12) + a0))]) (w' := w) rfl ?_
    refine tm_i (p1 := 46) (p2 := 27) rfl (fun h2 => ?_) (fun h2 => ?_)
    · replace hs := hs.1 h2
      refine tm_go 1 (pc' := 47) (L' := [some (.ref 99), some (.int a0), some (.int b0), some (.int ((w.1 99 12) + a0)), some (.int ((w.1 99 13) - ((w.1 99 12) + a0))), none, none]) (S' := [.int (-1)]) (w' := w) rfl ?_
      exact tm_r rfl ⟨_, rfl, hs⟩
    · replace hs := hs.2 h2
      refine tm_go 2 (pc' := 30) (L' := [some (.ref 99), some (.int a0), some (.int b0), some (.int ((w.1 99 12) + a0)), some (.int ((w.1 99 13) - ((w.1 99 12) + a0))), none, none]) (S' := [.int 1, .int ((w.1 99 13) - ((w.1 99 12) + a0))]) (w' := w) rfl ?_
      refine tm_i (p1 := 48) (p2 := 33) rfl (fun h3 => ?_) (fun h3 => ?_)
      · replace hs := hs.1 h3
        refine tm_go 4 (pc' := 54) (L' := [some (.ref 99), some (.int a0), some (.int b0), some (.int ((w.1 99 12) + a0)), some (.int ((w.1 99 13) - ((w.1 99 12) + a0))), some (.int 0), some (.int 0)]) (S' := []) (w' := w) rfl ?_
        refine tx_Ro_numberBehinds99_54 FU _ _ _ _ hs (fun e54_5_11 z11_0 z11_1 z11_3 z11_4 z11_6 w11 hs => ?_)
        refine tm_go 2 (pc' := 111) (L' := [z11_0, z11_1, some (.int b0), z11_3, z11_4, some (.int e54_5_11), z11_6]) (S' := [.int b0, .int e54_5_11]) (w' := w11) rfl ?_
        refine tm_i (p1 := 119) (p2 := 114) rfl (fun h12 => ?_) (fun h12 => ?_)
        · replace hs := hs.1 h12
          refine tm_go 1 (pc' := 120) (L' := [z11_0, z11_1, some (.int b0), z11_3, z11_4, some (.int e54_5_11), z11_6]) (S' := [.int (-1)]) (w' := w11) rfl ?_
          exact tm_r rfl ⟨_, rfl, hs⟩
        · replace hs := hs.2 h12
          refine tm_go 2 (pc' := 120) (L' := [z11_0, z11_1, some (.int b0), z11_3, z11_4, some (.int e54_5_11), z11_6]) (S' := [.int e54_5_11]) (w' := w11) rfl ?_
          exact tm_r rfl ⟨_, rfl, hs⟩
      · replace hs := hs.2 h3
        refine tm_go 1 (pc' := 34) (L' := [some (.ref 99), some (.int a0), some (.int b0), some (.int ((w.1 99 12) + a0)), some (.int ((w.1 99 13) - ((w.1 99 12) + a0))), none, none]) (S' := [.ref 99]) (w' := w) rfl ?_
        obtain ⟨b13, hs⟩ := hs
        refine tm_g (pc' := 37) (k := 99) (j := 11) rfl b13 ?_
        refine tm_go 1 (pc' := 38) (L' := [some (.ref 99), some (.int a0), some (.int b0), some (.int ((w.1 99 12) + a0)), some (.int ((w.1 99 13) - ((w.1 99 12) + a0))), none, none]) (S' := [.int ((w.1 99 12) + a0), .ref 1]) (w' := w) rfl ?_
        refine tm_c rfl (Nat.le_of_ble_eq_true rfl) (dm_Tp_at (d := d + 0) hs) (fun v w14 hq => ?_)
        obtain ⟨r14, rfl, hs⟩ := hq
        refine tm_go 1 (pc' := 43) (L' := [some (.ref 99), some (.int a0), some (.int b0), some (.int ((w.1 99 12) + a0)), some (.int ((w.1 99 13) - ((w.1 99 12) + a0))), none, none]) (S' := [.int 48, .int r14]) (w' := w14) rfl ?_
        refine tm_i (p1 := 48) (p2 := 46) rfl (fun h15 => ?_) (fun h15 => ?_)
        · replace hs := hs.1 h15
          refine tm_go 4 (pc' := 54) (L' := [some (.ref 99), some (.int a0), some (.int b0), some (.int ((w.1 99 12) + a0)), some (.int ((w.1 99 13) - ((w.1 99 12) + a0))), some (.int 0), some (.int 0)]) (S' := []) (w' := w14) rfl ?_
          refine tx_Ro_numberBehinds99_54 FU _ _ _ _ hs (fun e54_5_16 z16_0 z16_1 z16_3 z16_4 z16_6 w16 hs => ?_)
          refine tm_go 2 (pc' := 111) (L' := [z16_0, z16_1, some (.int b0), z16_3, z16_4, some (.int e54_5_16), z16_6]) (S' := [.int b0, .int e54_5_16]) (w' := w16) rfl ?_
          refine tm_i (p1 := 119) (p2 := 114) rfl (fun h17 => ?_) (fun h17 => ?_)
          · replace hs := hs.1 h17
            refine tm_go 1 (pc' := 120) (L' := [z16_0, z16_1, some (.int b0), z16_3, z16_4, some (.int e54_5_16), z16_6]) (S' := [.int (-1)]) (w' := w16) rfl ?_
            exact tm_r rfl ⟨_, rfl, hs⟩
          · replace hs := hs.2 h17
            refine tm_go 2 (pc' := 120) (L' := [z16_0, z16_1, some (.int b0), z16_3, z16_4, some (.int e54_5_16), z16_6]) (S' := [.int e54_5_16]) (w' := w16) rfl ?_
            exact tm_r rfl ⟨_, rfl, hs⟩
        · replace hs := hs.2 h15
          refine tm_go 1 (pc' := 47) (L' := [some (.ref 99), some (.int a0), some (.int b0), some (.int ((w.1 99 12) + a0)), some (.int ((w.1 99 13) - ((w.1 99 12) + a0))), none, none]) (S' := [.int (-1)]) (w' := w14) rfl ?_
          exact tm_r rfl ⟨_, rfl, hs⟩
set_option maxHeartbeats 4000000 in
set_option maxRecDepth 100000 in
theorem tx_Ro_iss99_2007_27 {d : Nat} {E : MW → Prop} {Q : Int32 → MW → Prop} (n : Nat) : ∀ (x27_2 : Int32)   (w : MW), q_Ro_iss99_2007_27  E Q n x27_2 w → (∀  (v0 : Option Value) (v1 : Option Value) (v2 : Option Value) (w : MW), E  w → Tm (d + 1) 192 64 [v0, v1, v2] [] w (RZ Q)) → Tm (d + 1) 192 27 [some (.ref 99), some (.ref 2007), some (.int x27_2)] [] w (RZ Q) := by
  induction n with
  | zero => intro x27_2  w hs; rw [q_Ro_iss99_2007_27.eq_1] at hs; exact hs.elim
  | succ n ih =>
    intro x27_2  w hs hE
    rw [q_Ro_iss99_2007_27.eq_2] at hs
    refine tm_go 3 (pc' := 32) (L' := [some (.ref 99), some (.ref 2007), some (.int x27_2)]) (S' := [.int 4, .int x27_2]) (w' := w) rfl ?_
    refine tm_i (p1 := 64) (p2 := 35) rfl (fun h3 => ?_) (fun h3 => ?_)
    · replace hs := hs.1 h3
      exact hE _ _ _ _ hs
    · replace hs := hs.2 h3
      refine tm_go 1 (pc' := 36) (L' := [some (.ref 99), some (.ref 2007), some (.int x27_2)]) (S' := [.ref 99]) (w' := w) rfl ?_
      obtain ⟨b4, hs⟩ := hs
      refine tm_g (pc' := 39) (k := 99) (j := 11) rfl b4 ?_
      refine tm_go 4 (pc' := 45) (L' := [some (.ref 99), some (.ref 2007), some (.int x27_2)]) (S' := [.int ((w.1 99 12) + x27_2), .ref 1]) (w' := w) rfl ?_
      refine tm_c rfl (Nat.le_of_ble_eq_true rfl) (dm_Tp_at (d := d + 0) hs) (fun v w5 hq => ?_)
      obtain ⟨r5, rfl, hs⟩ := hq
      refine tm_go 2 (pc' := 50) (L' := [some (.ref 99), some (.ref 2007), some (.int x27_2)]) (S' := [.int x27_2, .ref 2007, .int r5]) (w' := w5) rfl ?_
      obtain ⟨b6, hs⟩ := hs
      refine tm_k (pc' := 53) (L' := [some (.ref 99), some (.ref 2007), some (.int x27_2)]) (S' := [.int (chT 7 x27_2), .int r5]) (w' := w5) rfl ⟨by decide, by decide, Nat.le_of_ble_eq_true rfl, b6⟩ ?_
      refine tm_i (p1 := 58) (p2 := 56) rfl (fun h7 => ?_) (fun h7 => ?_)
      · replace hs := hs.1 h7
        refine tm_go 2 (pc' := 27) (L' := [some (.ref 99), some (.ref 2007), some (.int (x27_2 + (1 : Int32)))]) (S' := []) (w' := w5) rfl ?_
        exact ih _ _ hs hE
      · replace hs := hs.2 h7
        refine tm_go 1 (pc' := 57) (L' := [some (.ref 99), some (.ref 2007), some (.int x27_2)]) (S' := [.int 0]) (w' := w5) rfl ?_
        exact tm_r rfl ⟨_, rfl, by decide, hs⟩
set_option maxHeartbeats 4000000 in
set_option maxRecDepth 100000 in
theorem dm_Ro_iss99_2007 {d : Nat} {w : MW} {Q : Int32 → MW → Prop} (hs : p_Ro_iss99_2007 w Q) : Tc (d + 1) 192 [.ref 99, .ref 2007] w (RZ Q) := by
  unfold p_Ro_iss99_2007 at hs
  refine tm_go 2 (pc' := 4) (L' := [some (.ref 99), some (.ref 2007), none]) (S' := [.int (w.1 99 17)]) (w' := w) rfl ?_
  refine tm_i (p1 := 23) (p2 := 7) rfl (fun h1 => ?_) (fun h1 => ?_)
  · replace hs := hs.1 h1
    refine tm_go 1 (pc' := 24) (L' := [some (.ref 99), some (.ref 2007), none]) (S' := [.int 0]) (w' := w) rfl ?_
    exact tm_r rfl ⟨_, rfl, by decide, hs⟩
  · replace hs := hs.2 h1
    refine tm_go 7 (pc' := 20) (L' := [some (.ref 99), some (.ref 2007), none]) (S' := [.int 4, .int ((w.1 99 13) - (w.1 99 12))]) (w' := w) rfl ?_
    refine tm_i (p1 := 25) (p2 := 23) rfl (fun h2 => ?_) (fun h2 => ?_)
    · replace hs := hs.1 h2
      refine tm_go 2 (pc' := 27) (L' := [some (.ref 99), some (.ref 2007), some (.int 0)]) (S' := []) (w' := w) rfl ?_
      refine tx_Ro_iss99_2007_27 FU _ _ hs (fun  z8_0 z8_1 z8_2 w8 hs => ?_)
      refine tm_go 1 (pc' := 65) (L' := [z8_0, z8_1, z8_2]) (S' := [.int 1]) (w' := w8) rfl ?_
      exact tm_r rfl ⟨_, rfl, by decide, hs⟩
    · replace hs := hs.2 h2
      refine tm_go 1 (pc' := 24) (L' := [some (.ref 99), some (.ref 2007), none]) (S' := [.int 0]) (w' := w) rfl ?_
      exact tm_r rfl ⟨_, rfl, by decide, hs⟩
set_option maxHeartbeats 4000000 in
set_option maxRecDepth 100000 in
theorem tx_Ro_readActss99_56 {d : Nat} {y56_1 : Int32} {ys56_0 : Int32} {z2 : Option Value} {w : MW} {A : Int32 → MW → Prop} {E : MW → Prop} {Q : MW → Prop} (hs : q_Ro_readActss99_56 y56_1 ys56_0 w A E Q) (hA : ∀ (x2_1 : Int32)  (z2 : Option Value) (w : MW), A x2_1 w → Tm (d + 2) 197 2 [some (.ref 99), some (.int x2_1), z2] [] w (RV Q)) (hE : ∀  (v0 : Option Value) (v1 : Option Value) (v2 : Option Value) (w : MW), E  w → Tm (d + 2) 197 113 [v0, v1, v2] [] w (RV Q)) : Tm (d + 2) 197 56 [some (.ref 99), some (.int y56_1), z2] [.int ys56_0] w (RV Q) := by
  unfold q_Ro_readActss99_56 at hs
  refine tm_go 2 (pc' := 58) (L' := [some (.ref 99), some (.int y56_1), some (.int ys56_0)]) (S' := [.int ys56_0]) (w' := w) rfl ?_
  refine tm_i (p1 := 83) (p2 := 61) rfl (fun h7 => ?_) (fun h7 => ?_)
  · replace hs := hs.1 h7
    refine tm_go 1 (pc' := 84) (L' := [some (.ref 99), some (.int y56_1), some (.int ys56_0)]) (S' := [.ref 99]) (w' := w) rfl ?_
    refine tm_c rfl (Nat.le_of_ble_eq_true rfl) (dm_Ro_fails99 (d := d + 1) hs) (fun v w8 hq => ?_)
    obtain ⟨rfl, hs⟩ := hq
    exact tm_r rfl ⟨rfl, hs⟩
  · replace hs := hs.2 h7
    refine tm_go 2 (pc' := 64) (L' := [some (.ref 99), some (.int y56_1), some (.int ys56_0)]) (S' := [.int 8, .int y56_1]) (w' := w) rfl ?_
    refine tm_i (p1 := 83) (p2 := 67) rfl (fun h9 => ?_) (fun h9 => ?_)
    · replace hs := hs.1 h9
      refine tm_go 1 (pc' := 84) (L' := [some (.ref 99), some (.int y56_1), some (.int ys56_0)]) (S' := [.ref 99]) (w' := w) rfl ?_
      refine tm_c rfl (Nat.le_of_ble_eq_true rfl) (dm_Ro_fails99 (d := d + 1) hs) (fun v w10 hq => ?_)
      obtain ⟨rfl, hs⟩ := hq
      exact tm_r rfl ⟨rfl, hs⟩
    · replace hs := hs.2 h9
      refine tm_go 4 (pc' := 75) (L' := [some (.ref 99), some (.int y56_1), some (.int ys56_0)]) (S' := [.int (w.1 99 0), .ref 103]) (w' := w) rfl ?_
      obtain ⟨b11, hs⟩ := hs
      refine tm_k (pc' := 76) (L' := [some (.ref 99), some (.int y56_1), some (.int ys56_0)]) (S' := [.int (w.1 103 ((w.1 99 0).toInt.toNat))]) (w' := w) rfl b11 ?_
      refine tm_go 4 (pc' := 80) (L' := [some (.ref 99), some (.int y56_1), some (.int ys56_0)]) (S' := [.int ((((w.1 103 ((w.1 99 0).toInt.toNat)).toUInt32 >>> (ys56_0.toUInt32 &&& Int32.toUInt32 31)).toInt32) &&& (1 : Int32))]) (w' := w) rfl ?_
      refine tm_i (p1 := 88) (p2 := 83) rfl (fun h12 => ?_) (fun h12 => ?_)
      · replace hs := hs.1 h12
        refine tm_go 5 (pc' := 97) (L' := [some (.ref 99), some (.int y56_1), some (.int ys56_0)]) (S' := [.int (w.1 99 0), .ref 103, .int (w.1 99 0), .ref 103]) (w' := w) rfl ?_
        obtain ⟨b13, hs⟩ := hs
        refine tm_k (pc' := 98) (L' := [some (.ref 99), some (.int y56_1), some (.int ys56_0)]) (S' := [.int (w.1 103 ((w.1 99 0).toInt.toNat)), .int (w.1 99 0), .ref 103]) (w' := w) rfl b13 ?_
        refine tm_go 4 (pc' := 102) (L' := [some (.ref 99), some (.int y56_1), some (.int ys56_0)]) (S' := [.int ((w.1 103 ((w.1 99 0).toInt.toNat)) ||| ((1 : Int32) <<< (ys56_0 &&& 31))), .int (w.1 99 0), .ref 103]) (w' := w) rfl ?_
        obtain ⟨b14, hs⟩ := hs
        refine tm_k (pc' := 103) (L' := [some (.ref 99), some (.int y56_1), some (.int ys56_0)]) (S' := []) (w' := (sI w 103 ((w.1 99 0).toInt.toNat) ((w.1 103 ((w.1 99 0).toInt.toNat)) ||| ((1 : Int32) <<< (ys56_0 &&& 31))))) rfl b14 ?_
        refine tm_go 1 (pc' := 104) (L' := [some (.ref 99), some (.int y56_1), some (.int ys56_0)]) (S' := [.ref 99]) (w' := (sI w 103 ((w.1 99 0).toInt.toNat) ((w.1 103 ((w.1 99 0).toInt.toNat)) ||| ((1 : Int32) <<< (ys56_0 &&& 31))))) rfl ?_
        refine tm_c rfl (Nat.le_of_ble_eq_true rfl) (dm_Ro_nextWords99 (d := d + 0) hs) (fun v w15 hq => ?_)
        obtain ⟨rfl, hs⟩ := hq
        refine tm_go 2 (pc' := 2) (L' := [some (.ref 99), some (.int (y56_1 + (1 : Int32))), some (.int ys56_0)]) (S' := []) (w' := w15) rfl ?_
        exact hA _ _ _ hs
      · replace hs := hs.2 h12
        refine tm_go 1 (pc' := 84) (L' := [some (.ref 99), some (.int y56_1), some (.int ys56_0)]) (S' := [.ref 99]) (w' := w) rfl ?_
        refine tm_c rfl (Nat.le_of_ble_eq_true rfl) (dm_Ro_fails99 (d := d + 1) hs) (fun v w16 hq => ?_)
        obtain ⟨rfl, hs⟩ := hq
        exact tm_r rfl ⟨rfl, hs⟩
set_option maxHeartbeats 4000000 in
set_option maxRecDepth 100000 in
theorem tx_Ro_readActss99_29 {d : Nat} {y29_1 : Int32} {z2 : Option Value} {w : MW} {A : Int32 → MW → Prop} {E : MW → Prop} {Q : MW → Prop} (hs : q_Ro_readActss99_29 y29_1 w A E Q) (hA : ∀ (x2_1 : Int32)  (z2 : Option Value) (w : MW), A x2_1 w → Tm (d + 2) 197 2 [some (.ref 99), some (.int x2_1), z2] [] w (RV Q)) (hE : ∀  (v0 : Option Value) (v1 : Option Value) (v2 : Option Value) (w : MW), E  w → Tm (d + 2) 197 113 [v0, v1, v2] [] w (RV Q)) : Tm (d + 2) 197 29 [some (.ref 99), some (.int y29_1), z2] [] w (RV Q) := by
  unfold q_Ro_readActss99_29 at hs
  refine tm_go 1 (pc' := 30) (L' := [some (.ref 99), some (.int y29_1), z2]) (S' := [.ref 99]) (w' := w) rfl ?_
  obtain ⟨b4, hs⟩ := hs
  refine tm_g (pc' := 33) (k := 99) (j := 11) rfl b4 ?_
  refine tm_go 2 (pc' := 37) (L' := [some (.ref 99), some (.int y29_1), z2]) (S' := [.int (w.1 99 12), .ref 1]) (w' := w) rfl ?_
  refine tm_c rfl (Nat.le_of_ble_eq_true rfl) (dm_Tp_at (d := d + 1) hs) (fun v w5 hq => ?_)
  obtain ⟨r5, rfl, hs⟩ := hq
  refine tm_go 1 (pc' := 42) (L' := [some (.ref 99), some (.int y29_1), z2]) (S' := [.int 97, .int r5]) (w' := w5) rfl ?_
  refine tm_i (p1 := 55) (p2 := 45) rfl (fun h6 => ?_) (fun h6 => ?_)
  · replace hs := hs.1 h6
    refine tm_go 1 (pc' := 56) (L' := [some (.ref 99), some (.int y29_1), z2]) (S' := [.int (-1)]) (w' := w5) rfl ?_
    exact tx_Ro_readActss99_56 hs hA hE
  · replace hs := hs.2 h6
    refine tm_go 3 (pc' := 49) (L' := [some (.ref 99), some (.int y29_1), z2]) (S' := [.int 31, .int 1, .ref 99]) (w' := w5) rfl ?_
    refine tm_c rfl (Nat.le_of_ble_eq_true rfl) (dm_Ro_numberBehinds99 (d := d + 0) hs) (fun v w17 hq => ?_)
    obtain ⟨r17, rfl, hs⟩ := hq
    refine tm_go 1 (pc' := 56) (L' := [some (.ref 99), some (.int y29_1), z2]) (S' := [.int r17]) (w' := w17) rfl ?_
    exact tx_Ro_readActss99_56 hs hA hE
set_option maxHeartbeats 4000000 in
set_option maxRecDepth 100000 in
theorem tx_Ro_readActss99_2 {d : Nat} {E : MW → Prop} {Q : MW → Prop} (n : Nat) : ∀ (x2_1 : Int32)  (z2 : Option Value) (w : MW), q_Ro_readActss99_2  E Q n x2_1 w → (∀  (v0 : Option Value) (v1 : Option Value) (v2 : Option Value) (w : MW), E  w → Tm (d + 2) 197 113 [v0, v1, v2] [] w (RV Q)) → Tm (d + 2) 197 2 [some (.ref 99), some (.int x2_1), z2] [] w (RV Q) := by
  induction n with
  | zero => intro x2_1 z2 w hs; rw [q_Ro_readActss99_2.eq_1] at hs; exact hs.elim
  | succ n ih =>
    intro x2_1 z2 w hs hE
    rw [q_Ro_readActss99_2.eq_2] at hs
    refine tm_go 2 (pc' := 5) (L' := [some (.ref 99), some (.int x2_1), z2]) (S' := [.int 8, .int x2_1]) (w' := w) rfl ?_
    refine tm_i (p1 := 113) (p2 := 8) rfl (fun h1 => ?_) (fun h1 => ?_)
    · replace hs := hs.1 h1
      exact hE _ _ _ _ hs
    · replace hs := hs.2 h1
      refine tm_go 2 (pc' := 12) (L' := [some (.ref 99), some (.int x2_1), z2]) (S' := [.int (w.1 99 17)]) (w' := w) rfl ?_
      refine tm_i (p1 := 113) (p2 := 15) rfl (fun h2 => ?_) (fun h2 => ?_)
      · replace hs := hs.1 h2
        exact hE _ _ _ _ hs
      · replace hs := hs.2 h2
        refine tm_go 1 (pc' := 16) (L' := [some (.ref 99), some (.int x2_1), z2]) (S' := [.int x2_1]) (w' := w) rfl ?_
        refine tm_i (p1 := 29) (p2 := 19) rfl (fun h3 => ?_) (fun h3 => ?_)
        · replace hs := hs.1 h3
          exact tx_Ro_readActss99_29 hs (fun q0 q1 q2 hs => ih q0 q1 q2 hs hE) hE
        · replace hs := hs.2 h3
          refine tm_go 2 (pc' := 22) (L' := [some (.ref 99), some (.int x2_1), z2]) (S' := [.ref 2007, .ref 99]) (w' := w) rfl ?_
          refine tm_c rfl (Nat.le_of_ble_eq_true rfl) (dm_Ro_iss99_2007 (d := d + 0) hs) (fun v w18 hq => ?_)
          obtain ⟨r18, rfl, hz18, hs⟩ := hq
          refine tm_i (p1 := 29) (p2 := 28) rfl (fun h19 => ?_) (fun h19 => ?_)
          · replace hs := hs.1 h19
            exact tx_Ro_readActss99_29 hs (fun q0 q1 q2 hs => ih q0 q1 q2 hs hE) hE
          · replace hs := hs.2 h19
            exact tm_r rfl ⟨rfl, hs⟩
set_option maxHeartbeats 4000000 in
set_option maxRecDepth 100000 in
theorem dm_Ro_readActss99 {d : Nat} {w : MW} {Q : MW → Prop} (hs : p_Ro_readActss99 w Q) : Tc (d + 2) 197 [.ref 99] w (RV Q) := by
  unfold p_Ro_readActss99 at hs
  refine tm_go 2 (pc' := 2) (L' := [some (.ref 99), some (.int 0), none]) (S' := []) (w' := w) rfl ?_
  refine tx_Ro_readActss99_2 FU _ _ _ hs (fun  z20_0 z20_1 z20_2 w20 hs => ?_)
  exact tm_r rfl ⟨rfl, hs⟩
set_option maxHeartbeats 4000000 in
set_option maxRecDepth 100000 in
theorem tx_Ro_iss99_2012_27 {d : Nat} {E : MW → Prop} {Q : Int32 → MW → Prop} (n : Nat) : ∀ (x27_2 : Int32)   (w : MW), q_Ro_iss99_2012_27  E Q n x27_2 w → (∀  (v0 : Option Value) (v1 : Option Value) (v2 : Option Value) (w : MW), E  w → Tm (d + 1) 192 64 [v0, v1, v2] [] w (RZ Q)) → Tm (d + 1) 192 27 [some (.ref 99), some (.ref 2012), some (.int x27_2)] [] w (RZ Q) := by
  induction n with
  | zero => intro x27_2  w hs; rw [q_Ro_iss99_2012_27.eq_1] at hs; exact hs.elim
  | succ n ih =>
    intro x27_2  w hs hE
    rw [q_Ro_iss99_2012_27.eq_2] at hs
    refine tm_go 3 (pc' := 32) (L' := [some (.ref 99), some (.ref 2012), some (.int x27_2)]) (S' := [.int 2, .int x27_2]) (w' := w) rfl ?_
    refine tm_i (p1 := 64) (p2 := 35) rfl (fun h3 => ?_) (fun h3 => ?_)
    · replace hs := hs.1 h3
      exact hE _ _ _ _ hs
    · replace hs := hs.2 h3
      refine tm_go 1 (pc' := 36) (L' := [some (.ref 99), some (.ref 2012), some (.int x27_2)]) (S' := [.ref 99]) (w' := w) rfl ?_
      obtain ⟨b4, hs⟩ := hs
      refine tm_g (pc' := 39) (k := 99) (j := 11) rfl b4 ?_
      refine tm_go 4 (pc' := 45) (L' := [some (.ref 99), some (.ref 2012), some (.int x27_2)]) (S' := [.int ((w.1 99 12) + x27_2), .ref 1]) (w' := w) rfl ?_
      refine tm_c rfl (Nat.le_of_ble_eq_true rfl) (dm_Tp_at (d := d + 0) hs) (fun v w5 hq => ?_)
      obtain ⟨r5, rfl, hs⟩ := hq
      refine tm_go 2 (pc' := 50) (L' := [some (.ref 99), some (.ref 2012), some (.int x27_2)]) (S' := [.int x27_2, .ref 2012, .int r5]) (w' := w5) rfl ?_
      obtain ⟨b6, hs⟩ := hs
      refine tm_k (pc' := 53) (L' := [some (.ref 99), some (.ref 2012), some (.int x27_2)]) (S' := [.int (chT 12 x27_2), .int r5]) (w' := w5) rfl ⟨by decide, by decide, Nat.le_of_ble_eq_true rfl, b6⟩ ?_
      refine tm_i (p1 := 58) (p2 := 56) rfl (fun h7 => ?_) (fun h7 => ?_)
      · replace hs := hs.1 h7
        refine tm_go 2 (pc' := 27) (L' := [some (.ref 99), some (.ref 2012), some (.int (x27_2 + (1 : Int32)))]) (S' := []) (w' := w5) rfl ?_
        exact ih _ _ hs hE
      · replace hs := hs.2 h7
        refine tm_go 1 (pc' := 57) (L' := [some (.ref 99), some (.ref 2012), some (.int x27_2)]) (S' := [.int 0]) (w' := w5) rfl ?_
        exact tm_r rfl ⟨_, rfl, by decide, hs⟩
set_option maxHeartbeats 4000000 in
set_option maxRecDepth 100000 in
theorem dm_Ro_iss99_2012 {d : Nat} {w : MW} {Q : Int32 → MW → Prop} (hs : p_Ro_iss99_2012 w Q) : Tc (d + 1) 192 [.ref 99, .ref 2012] w (RZ Q) := by
  unfold p_Ro_iss99_2012 at hs
  refine tm_go 2 (pc' := 4) (L' := [some (.ref 99), some (.ref 2012), none]) (S' := [.int (w.1 99 17)]) (w' := w) rfl ?_
  refine tm_i (p1 := 23) (p2 := 7) rfl (fun h1 => ?_) (fun h1 => ?_)
  · replace hs := hs.1 h1
    refine tm_go 1 (pc' := 24) (L' := [some (.ref 99), some (.ref 2012), none]) (S' := [.int 0]) (w' := w) rfl ?_
    exact tm_r rfl ⟨_, rfl, by decide, hs⟩
  · replace hs := hs.2 h1
    refine tm_go 7 (pc' := 20) (L' := [some (.ref 99), some (.ref 2012), none]) (S' := [.int 2, .int ((w.1 99 13) - (w.1 99 12))]) (w' := w) rfl ?_
    refine tm_i (p1 := 25) (p2 := 23) rfl (fun h2 => ?_) (fun h2 => ?_)
    · replace hs := hs.1 h2
      refine tm_go 2 (pc' := 27) (L' := [some (.ref 99), some (.ref 2012), some (.int 0)]) (S' := []) (w' := w) rfl ?_
      refine tx_Ro_iss99_2012_27 FU _ _ hs (fun  z8_0 z8_1 z8_2 w8 hs => ?_)
      refine tm_go 1 (pc' := 65) (L' := [z8_0, z8_1, z8_2]) (S' := [.int 1]) (w' := w8) rfl ?_
      exact tm_r rfl ⟨_, rfl, by decide, hs⟩
    · replace hs := hs.2 h2
      refine tm_go 1 (pc' := 24) (L' := [some (.ref 99), some (.ref 2012), none]) (S' := [.int 0]) (w' := w) rfl ?_
      exact tm_r rfl ⟨_, rfl, by decide, hs⟩
set_option maxHeartbeats 4000000 in
set_option maxRecDepth 100000 in
theorem dm_Ro_puts99 {d : Nat} {w : MW} {a0 : Int32} {Q : MW → Prop} (hs : p_Ro_puts99 w a0 Q) : Tc (d + 0) 201 [.ref 99, .int a0] w (RV Q) := by
  unfold p_Ro_puts99 at hs
  refine tm_go 5 (pc' := 9) (L' := [some (.ref 99), some (.int a0)]) (S' := [.int 1400, .int (w.1 99 10)]) (w' := w) rfl ?_
  refine tm_i (p1 := 32) (p2 := 12) rfl (fun h1 => ?_) (fun h1 => ?_)
  · replace hs := hs.1 h1
    exact tm_r rfl ⟨rfl, hs⟩
  · replace hs := hs.2 h1
    refine tm_go 5 (pc' := 21) (L' := [some (.ref 99), some (.int a0)]) (S' := [.int a0, .int (w.1 99 10), .ref 107]) (w' := w) rfl ?_
    obtain ⟨b2, hs⟩ := hs
    refine tm_k (pc' := 22) (L' := [some (.ref 99), some (.int a0)]) (S' := []) (w' := (sI w 107 ((w.1 99 10).toInt.toNat) a0)) rfl b2 ?_
    refine tm_go 6 (pc' := 32) (L' := [some (.ref 99), some (.int a0)]) (S' := []) (w' := (sI (sI w 107 ((w.1 99 10).toInt.toNat) a0) 99 10 ((w.1 99 10) + (1 : Int32)))) rfl ?_
    exact tm_r rfl ⟨rfl, hs⟩
set_option maxHeartbeats 4000000 in
set_option maxRecDepth 100000 in
theorem tx_Ro_iss99_2011_27 {d : Nat} {E : MW → Prop} {Q : Int32 → MW → Prop} (n : Nat) : ∀ (x27_2 : Int32)   (w : MW), q_Ro_iss99_2011_27  E Q n x27_2 w → (∀  (v0 : Option Value) (v1 : Option Value) (v2 : Option Value) (w : MW), E  w → Tm (d + 1) 192 64 [v0, v1, v2] [] w (RZ Q)) → Tm (d + 1) 192 27 [some (.ref 99), some (.ref 2011), some (.int x27_2)] [] w (RZ Q) := by
  induction n with
  | zero => intro x27_2  w hs; rw [q_Ro_iss99_2011_27.eq_1] at hs; exact hs.elim
  | succ n ih =>
    intro x27_2  w hs hE
    rw [q_Ro_iss99_2011_27.eq_2] at hs
    refine tm_go 3 (pc' := 32) (L' := [some (.ref 99), some (.ref 2011), some (.int x27_2)]) (S' := [.int 3, .int x27_2]) (w' := w) rfl ?_
    refine tm_i (p1 := 64) (p2 := 35) rfl (fun h3 => ?_) (fun h3 => ?_)
    · replace hs := hs.1 h3
      exact hE _ _ _ _ hs
    · replace hs := hs.2 h3
      refine tm_go 1 (pc' := 36) (L' := [some (.ref 99), some (.ref 2011), some (.int x27_2)]) (S' := [.ref 99]) (w' := w) rfl ?_
      obtain ⟨b4, hs⟩ := hs
      refine tm_g (pc' := 39) (k := 99) (j := 11) rfl b4 ?_
      refine tm_go 4 (pc' := 45) (L' := [some (.ref 99), some (.ref 2011), some (.int x27_2)]) (S' := [.int ((w.1 99 12) + x27_2), .ref 1]) (w' := w) rfl ?_
      refine tm_c rfl (Nat.le_of_ble_eq_true rfl) (dm_Tp_at (d := d + 0) hs) (fun v w5 hq => ?_)
      obtain ⟨r5, rfl, hs⟩ := hq
      refine tm_go 2 (pc' := 50) (L' := [some (.ref 99), some (.ref 2011), some (.int x27_2)]) (S' := [.int x27_2, .ref 2011, .int r5]) (w' := w5) rfl ?_
      obtain ⟨b6, hs⟩ := hs
      refine tm_k (pc' := 53) (L' := [some (.ref 99), some (.ref 2011), some (.int x27_2)]) (S' := [.int (chT 11 x27_2), .int r5]) (w' := w5) rfl ⟨by decide, by decide, Nat.le_of_ble_eq_true rfl, b6⟩ ?_
      refine tm_i (p1 := 58) (p2 := 56) rfl (fun h7 => ?_) (fun h7 => ?_)
      · replace hs := hs.1 h7
        refine tm_go 2 (pc' := 27) (L' := [some (.ref 99), some (.ref 2011), some (.int (x27_2 + (1 : Int32)))]) (S' := []) (w' := w5) rfl ?_
        exact ih _ _ hs hE
      · replace hs := hs.2 h7
        refine tm_go 1 (pc' := 57) (L' := [some (.ref 99), some (.ref 2011), some (.int x27_2)]) (S' := [.int 0]) (w' := w5) rfl ?_
        exact tm_r rfl ⟨_, rfl, by decide, hs⟩
set_option maxHeartbeats 4000000 in
set_option maxRecDepth 100000 in
theorem dm_Ro_iss99_2011 {d : Nat} {w : MW} {Q : Int32 → MW → Prop} (hs : p_Ro_iss99_2011 w Q) : Tc (d + 1) 192 [.ref 99, .ref 2011] w (RZ Q) := by
  unfold p_Ro_iss99_2011 at hs
  refine tm_go 2 (pc' := 4) (L' := [some (.ref 99), some (.ref 2011), none]) (S' := [.int (w.1 99 17)]) (w' := w) rfl ?_
  refine tm_i (p1 := 23) (p2 := 7) rfl (fun h1 => ?_) (fun h1 => ?_)
  · replace hs := hs.1 h1
    refine tm_go 1 (pc' := 24) (L' := [some (.ref 99), some (.ref 2011), none]) (S' := [.int 0]) (w' := w) rfl ?_
    exact tm_r rfl ⟨_, rfl, by decide, hs⟩
  · replace hs := hs.2 h1
    refine tm_go 7 (pc' := 20) (L' := [some (.ref 99), some (.ref 2011), none]) (S' := [.int 3, .int ((w.1 99 13) - (w.1 99 12))]) (w' := w) rfl ?_
    refine tm_i (p1 := 25) (p2 := 23) rfl (fun h2 => ?_) (fun h2 => ?_)
    · replace hs := hs.1 h2
      refine tm_go 2 (pc' := 27) (L' := [some (.ref 99), some (.ref 2011), some (.int 0)]) (S' := []) (w' := w) rfl ?_
      refine tx_Ro_iss99_2011_27 FU _ _ hs (fun  z8_0 z8_1 z8_2 w8 hs => ?_)
      refine tm_go 1 (pc' := 65) (L' := [z8_0, z8_1, z8_2]) (S' := [.int 1]) (w' := w8) rfl ?_
      exact tm_r rfl ⟨_, rfl, by decide, hs⟩
    · replace hs := hs.2 h2
      refine tm_go 1 (pc' := 24) (L' := [some (.ref 99), some (.ref 2011), none]) (S' := [.int 0]) (w' := w) rfl ?_
      exact tm_r rfl ⟨_, rfl, by decide, hs⟩
set_option maxHeartbeats 4000000 in
set_option maxRecDepth 100000 in
theorem tx_Ro_iss99_2008_27 {d : Nat} {E : MW → Prop} {Q : Int32 → MW → Prop} (n : Nat) : ∀ (x27_2 : Int32)   (w : MW), q_Ro_iss99_2008_27  E Q n x27_2 w → (∀  (v0 : Option Value) (v1 : Option Value) (v2 : Option Value) (w : MW), E  w → Tm (d + 1) 192 64 [v0, v1, v2] [] w (RZ Q)) → Tm (d + 1) 192 27 [some (.ref 99), some (.ref 2008), some (.int x27_2)] [] w (RZ Q) := by
  induction n with
  | zero => intro x27_2  w hs; rw [q_Ro_iss99_2008_27.eq_1] at hs; exact hs.elim
  | succ n ih =>
    intro x27_2  w hs hE
    rw [q_Ro_iss99_2008_27.eq_2] at hs
    refine tm_go 3 (pc' := 32) (L' := [some (.ref 99), some (.ref 2008), some (.int x27_2)]) (S' := [.int 3, .int x27_2]) (w' := w) rfl ?_
    refine tm_i (p1 := 64) (p2 := 35) rfl (fun h3 => ?_) (fun h3 => ?_)
    · replace hs := hs.1 h3
      exact hE _ _ _ _ hs
    · replace hs := hs.2 h3
      refine tm_go 1 (pc' := 36) (L' := [some (.ref 99), some (.ref 2008), some (.int x27_2)]) (S' := [.ref 99]) (w' := w) rfl ?_
      obtain ⟨b4, hs⟩ := hs
      refine tm_g (pc' := 39) (k := 99) (j := 11) rfl b4 ?_
      refine tm_go 4 (pc' := 45) (L' := [some (.ref 99), some (.ref 2008), some (.int x27_2)]) (S' := [.int ((w.1 99 12) + x27_2), .ref 1]) (w' := w) rfl ?_
      refine tm_c rfl (Nat.le_of_ble_eq_true rfl) (dm_Tp_at (d := d + 0) hs) (fun v w5 hq => ?_)
      obtain ⟨r5, rfl, hs⟩ := hq
      refine tm_go 2 (pc' := 50) (L' := [some (.ref 99), some (.ref 2008), some (.int x27_2)]) (S' := [.int x27_2, .ref 2008, .int r5]) (w' := w5) rfl ?_
      obtain ⟨b6, hs⟩ := hs
      refine tm_k (pc' := 53) (L' := [some (.ref 99), some (.ref 2008), some (.int x27_2)]) (S' := [.int (chT 8 x27_2), .int r5]) (w' := w5) rfl ⟨by decide, by decide, Nat.le_of_ble_eq_true rfl, b6⟩ ?_
      refine tm_i (p1 := 58) (p2 := 56) rfl (fun h7 => ?_) (fun h7 => ?_)
      · replace hs := hs.1 h7
        refine tm_go 2 (pc' := 27) (L' := [some (.ref 99), some (.ref 2008), some (.int (x27_2 + (1 : Int32)))]) (S' := []) (w' := w5) rfl ?_
        exact ih _ _ hs hE
      · replace hs := hs.2 h7
        refine tm_go 1 (pc' := 57) (L' := [some (.ref 99), some (.ref 2008), some (.int x27_2)]) (S' := [.int 0]) (w' := w5) rfl ?_
        exact tm_r rfl ⟨_, rfl, by decide, hs⟩
set_option maxHeartbeats 4000000 in
set_option maxRecDepth 100000 in
theorem dm_Ro_iss99_2008 {d : Nat} {w : MW} {Q : Int32 → MW → Prop} (hs : p_Ro_iss99_2008 w Q) : Tc (d + 1) 192 [.ref 99, .ref 2008] w (RZ Q) := by
  unfold p_Ro_iss99_2008 at hs
  refine tm_go 2 (pc' := 4) (L' := [some (.ref 99), some (.ref 2008), none]) (S' := [.int (w.1 99 17)]) (w' := w) rfl ?_
  refine tm_i (p1 := 23) (p2 := 7) rfl (fun h1 => ?_) (fun h1 => ?_)
  · replace hs := hs.1 h1
    refine tm_go 1 (pc' := 24) (L' := [some (.ref 99), some (.ref 2008), none]) (S' := [.int 0]) (w' := w) rfl ?_
    exact tm_r rfl ⟨_, rfl, by decide, hs⟩
  · replace hs := hs.2 h1
    refine tm_go 7 (pc' := 20) (L' := [some (.ref 99), some (.ref 2008), none]) (S' := [.int 3, .int ((w.1 99 13) - (w.1 99 12))]) (w' := w) rfl ?_
    refine tm_i (p1 := 25) (p2 := 23) rfl (fun h2 => ?_) (fun h2 => ?_)
    · replace hs := hs.1 h2
      refine tm_go 2 (pc' := 27) (L' := [some (.ref 99), some (.ref 2008), some (.int 0)]) (S' := []) (w' := w) rfl ?_
      refine tx_Ro_iss99_2008_27 FU _ _ hs (fun  z8_0 z8_1 z8_2 w8 hs => ?_)
      refine tm_go 1 (pc' := 65) (L' := [z8_0, z8_1, z8_2]) (S' := [.int 1]) (w' := w8) rfl ?_
      exact tm_r rfl ⟨_, rfl, by decide, hs⟩
    · replace hs := hs.2 h2
      refine tm_go 1 (pc' := 24) (L' := [some (.ref 99), some (.ref 2008), none]) (S' := [.int 0]) (w' := w) rfl ?_
      exact tm_r rfl ⟨_, rfl, by decide, hs⟩
set_option maxHeartbeats 4000000 in
set_option maxRecDepth 100000 in
theorem tx_Ro_iss99_2009_27 {d : Nat} {E : MW → Prop} {Q : Int32 → MW → Prop} (n : Nat) : ∀ (x27_2 : Int32)   (w : MW), q_Ro_iss99_2009_27  E Q n x27_2 w → (∀  (v0 : Option Value) (v1 : Option Value) (v2 : Option Value) (w : MW), E  w → Tm (d + 1) 192 64 [v0, v1, v2] [] w (RZ Q)) → Tm (d + 1) 192 27 [some (.ref 99), some (.ref 2009), some (.int x27_2)] [] w (RZ Q) := by
  induction n with
  | zero => intro x27_2  w hs; rw [q_Ro_iss99_2009_27.eq_1] at hs; exact hs.elim
  | succ n ih =>
    intro x27_2  w hs hE
    rw [q_Ro_iss99_2009_27.eq_2] at hs
    refine tm_go 3 (pc' := 32) (L' := [some (.ref 99), some (.ref 2009), some (.int x27_2)]) (S' := [.int 1, .int x27_2]) (w' := w) rfl ?_
    refine tm_i (p1 := 64) (p2 := 35) rfl (fun h3 => ?_) (fun h3 => ?_)
    · replace hs := hs.1 h3
      exact hE _ _ _ _ hs
    · replace hs := hs.2 h3
      refine tm_go 1 (pc' := 36) (L' := [some (.ref 99), some (.ref 2009), some (.int x27_2)]) (S' := [.ref 99]) (w' := w) rfl ?_
      obtain ⟨b4, hs⟩ := hs
      refine tm_g (pc' := 39) (k := 99) (j := 11) rfl b4 ?_
      refine tm_go 4 (pc' := 45) (L' := [some (.ref 99), some (.ref 2009), some (.int x27_2)]) (S' := [.int ((w.1 99 12) + x27_2), .ref 1]) (w' := w) rfl ?_
      refine tm_c rfl (Nat.le_of_ble_eq_true rfl) (dm_Tp_at (d := d + 0) hs) (fun v w5 hq => ?_)
      obtain ⟨r5, rfl, hs⟩ := hq
      refine tm_go 2 (pc' := 50) (L' := [some (.ref 99), some (.ref 2009), some (.int x27_2)]) (S' := [.int x27_2, .ref 2009, .int r5]) (w' := w5) rfl ?_
      obtain ⟨b6, hs⟩ := hs
      refine tm_k (pc' := 53) (L' := [some (.ref 99), some (.ref 2009), some (.int x27_2)]) (S' := [.int (chT 9 x27_2), .int r5]) (w' := w5) rfl ⟨by decide, by decide, Nat.le_of_ble_eq_true rfl, b6⟩ ?_
      refine tm_i (p1 := 58) (p2 := 56) rfl (fun h7 => ?_) (fun h7 => ?_)
      · replace hs := hs.1 h7
        refine tm_go 2 (pc' := 27) (L' := [some (.ref 99), some (.ref 2009), some (.int (x27_2 + (1 : Int32)))]) (S' := []) (w' := w5) rfl ?_
        exact ih _ _ hs hE
      · replace hs := hs.2 h7
        refine tm_go 1 (pc' := 57) (L' := [some (.ref 99), some (.ref 2009), some (.int x27_2)]) (S' := [.int 0]) (w' := w5) rfl ?_
        exact tm_r rfl ⟨_, rfl, by decide, hs⟩
set_option maxHeartbeats 4000000 in
set_option maxRecDepth 100000 in
theorem dm_Ro_iss99_2009 {d : Nat} {w : MW} {Q : Int32 → MW → Prop} (hs : p_Ro_iss99_2009 w Q) : Tc (d + 1) 192 [.ref 99, .ref 2009] w (RZ Q) := by
  unfold p_Ro_iss99_2009 at hs
  refine tm_go 2 (pc' := 4) (L' := [some (.ref 99), some (.ref 2009), none]) (S' := [.int (w.1 99 17)]) (w' := w) rfl ?_
  refine tm_i (p1 := 23) (p2 := 7) rfl (fun h1 => ?_) (fun h1 => ?_)
  · replace hs := hs.1 h1
    refine tm_go 1 (pc' := 24) (L' := [some (.ref 99), some (.ref 2009), none]) (S' := [.int 0]) (w' := w) rfl ?_
    exact tm_r rfl ⟨_, rfl, by decide, hs⟩
  · replace hs := hs.2 h1
    refine tm_go 7 (pc' := 20) (L' := [some (.ref 99), some (.ref 2009), none]) (S' := [.int 1, .int ((w.1 99 13) - (w.1 99 12))]) (w' := w) rfl ?_
    refine tm_i (p1 := 25) (p2 := 23) rfl (fun h2 => ?_) (fun h2 => ?_)
    · replace hs := hs.1 h2
      refine tm_go 2 (pc' := 27) (L' := [some (.ref 99), some (.ref 2009), some (.int 0)]) (S' := []) (w' := w) rfl ?_
      refine tx_Ro_iss99_2009_27 FU _ _ hs (fun  z8_0 z8_1 z8_2 w8 hs => ?_)
      refine tm_go 1 (pc' := 65) (L' := [z8_0, z8_1, z8_2]) (S' := [.int 1]) (w' := w8) rfl ?_
      exact tm_r rfl ⟨_, rfl, by decide, hs⟩
    · replace hs := hs.2 h2
      refine tm_go 1 (pc' := 24) (L' := [some (.ref 99), some (.ref 2009), none]) (S' := [.int 0]) (w' := w) rfl ?_
      exact tm_r rfl ⟨_, rfl, by decide, hs⟩
set_option maxHeartbeats 4000000 in
set_option maxRecDepth 100000 in
theorem tx_Ro_iss99_2010_27 {d : Nat} {E : MW → Prop} {Q : Int32 → MW → Prop} (n : Nat) : ∀ (x27_2 : Int32)   (w : MW), q_Ro_iss99_2010_27  E Q n x27_2 w → (∀  (v0 : Option Value) (v1 : Option Value) (v2 : Option Value) (w : MW), E  w → Tm (d + 1) 192 64 [v0, v1, v2] [] w (RZ Q)) → Tm (d + 1) 192 27 [some (.ref 99), some (.ref 2010), some (.int x27_2)] [] w (RZ Q) := by
  induction n with
  | zero => intro x27_2  w hs; rw [q_Ro_iss99_2010_27.eq_1] at hs; exact hs.elim
  | succ n ih =>
    intro x27_2  w hs hE
    rw [q_Ro_iss99_2010_27.eq_2] at hs
    refine tm_go 3 (pc' := 32) (L' := [some (.ref 99), some (.ref 2010), some (.int x27_2)]) (S' := [.int 1, .int x27_2]) (w' := w) rfl ?_
    refine tm_i (p1 := 64) (p2 := 35) rfl (fun h3 => ?_) (fun h3 => ?_)
    · replace hs := hs.1 h3
      exact hE _ _ _ _ hs
    · replace hs := hs.2 h3
      refine tm_go 1 (pc' := 36) (L' := [some (.ref 99), some (.ref 2010), some (.int x27_2)]) (S' := [.ref 99]) (w' := w) rfl ?_
      obtain ⟨b4, hs⟩ := hs
      refine tm_g (pc' := 39) (k := 99) (j := 11) rfl b4 ?_
      refine tm_go 4 (pc' := 45) (L' := [some (.ref 99), some (.ref 2010), some (.int x27_2)]) (S' := [.int ((w.1 99 12) + x27_2), .ref 1]) (w' := w) rfl ?_
      refine tm_c rfl (Nat.le_of_ble_eq_true rfl) (dm_Tp_at (d := d + 0) hs) (fun v w5 hq => ?_)
      obtain ⟨r5, rfl, hs⟩ := hq
      refine tm_go 2 (pc' := 50) (L' := [some (.ref 99), some (.ref 2010), some (.int x27_2)]) (S' := [.int x27_2, .ref 2010, .int r5]) (w' := w5) rfl ?_
      obtain ⟨b6, hs⟩ := hs
      refine tm_k (pc' := 53) (L' := [some (.ref 99), some (.ref 2010), some (.int x27_2)]) (S' := [.int (chT 10 x27_2), .int r5]) (w' := w5) rfl ⟨by decide, by decide, Nat.le_of_ble_eq_true rfl, b6⟩ ?_
      refine tm_i (p1 := 58) (p2 := 56) rfl (fun h7 => ?_) (fun h7 => ?_)
      · replace hs := hs.1 h7
        refine tm_go 2 (pc' := 27) (L' := [some (.ref 99), some (.ref 2010), some (.int (x27_2 + (1 : Int32)))]) (S' := []) (w' := w5) rfl ?_
        exact ih _ _ hs hE
      · replace hs := hs.2 h7
        refine tm_go 1 (pc' := 57) (L' := [some (.ref 99), some (.ref 2010), some (.int x27_2)]) (S' := [.int 0]) (w' := w5) rfl ?_
        exact tm_r rfl ⟨_, rfl, by decide, hs⟩
set_option maxHeartbeats 4000000 in
set_option maxRecDepth 100000 in
theorem dm_Ro_iss99_2010 {d : Nat} {w : MW} {Q : Int32 → MW → Prop} (hs : p_Ro_iss99_2010 w Q) : Tc (d + 1) 192 [.ref 99, .ref 2010] w (RZ Q) := by
  unfold p_Ro_iss99_2010 at hs
  refine tm_go 2 (pc' := 4) (L' := [some (.ref 99), some (.ref 2010), none]) (S' := [.int (w.1 99 17)]) (w' := w) rfl ?_
  refine tm_i (p1 := 23) (p2 := 7) rfl (fun h1 => ?_) (fun h1 => ?_)
  · replace hs := hs.1 h1
    refine tm_go 1 (pc' := 24) (L' := [some (.ref 99), some (.ref 2010), none]) (S' := [.int 0]) (w' := w) rfl ?_
    exact tm_r rfl ⟨_, rfl, by decide, hs⟩
  · replace hs := hs.2 h1
    refine tm_go 7 (pc' := 20) (L' := [some (.ref 99), some (.ref 2010), none]) (S' := [.int 1, .int ((w.1 99 13) - (w.1 99 12))]) (w' := w) rfl ?_
    refine tm_i (p1 := 25) (p2 := 23) rfl (fun h2 => ?_) (fun h2 => ?_)
    · replace hs := hs.1 h2
      refine tm_go 2 (pc' := 27) (L' := [some (.ref 99), some (.ref 2010), some (.int 0)]) (S' := []) (w' := w) rfl ?_
      refine tx_Ro_iss99_2010_27 FU _ _ hs (fun  z8_0 z8_1 z8_2 w8 hs => ?_)
      refine tm_go 1 (pc' := 65) (L' := [z8_0, z8_1, z8_2]) (S' := [.int 1]) (w' := w8) rfl ?_
      exact tm_r rfl ⟨_, rfl, by decide, hs⟩
    · replace hs := hs.2 h2
      refine tm_go 1 (pc' := 24) (L' := [some (.ref 99), some (.ref 2010), none]) (S' := [.int 0]) (w' := w) rfl ?_
      exact tm_r rfl ⟨_, rfl, by decide, hs⟩
set_option maxHeartbeats 4000000 in
set_option maxRecDepth 100000 in
theorem dm_Ro_takess99_2010 {d : Nat} {w : MW} {Q : Int32 → MW → Prop} (hs : p_Ro_takess99_2010 w Q) : Tc (d + 2) 193 [.ref 99, .ref 2010] w (RZ Q) := by
  unfold p_Ro_takess99_2010 at hs
  refine tm_go 2 (pc' := 2) (L' := [some (.ref 99), some (.ref 2010)]) (S' := [.ref 2010, .ref 99]) (w' := w) rfl ?_
  refine tm_c rfl (Nat.le_of_ble_eq_true rfl) (dm_Ro_iss99_2010 (d := d + 0) hs) (fun v w1 hq => ?_)
  obtain ⟨r1, rfl, hz1, hs⟩ := hq
  refine tm_i (p1 := 14) (p2 := 8) rfl (fun h2 => ?_) (fun h2 => ?_)
  · replace hs := hs.1 h2
    refine tm_go 1 (pc' := 15) (L' := [some (.ref 99), some (.ref 2010)]) (S' := [.ref 99]) (w' := w1) rfl ?_
    refine tm_c rfl (Nat.le_of_ble_eq_true rfl) (dm_Ro_nextWords99 (d := d + 0) hs) (fun v w3 hq => ?_)
    obtain ⟨rfl, hs⟩ := hq
    refine tm_go 1 (pc' := 19) (L' := [some (.ref 99), some (.ref 2010)]) (S' := [.int 1]) (w' := w3) rfl ?_
    exact tm_r rfl ⟨_, rfl, by decide, hs⟩
  · replace hs := hs.2 h2
    refine tm_go 1 (pc' := 9) (L' := [some (.ref 99), some (.ref 2010)]) (S' := [.ref 99]) (w' := w1) rfl ?_
    refine tm_c rfl (Nat.le_of_ble_eq_true rfl) (dm_Ro_fails99 (d := d + 1) hs) (fun v w4 hq => ?_)
    obtain ⟨rfl, hs⟩ := hq
    refine tm_go 1 (pc' := 13) (L' := [some (.ref 99), some (.ref 2010)]) (S' := [.int 0]) (w' := w4) rfl ?_
    exact tm_r rfl ⟨_, rfl, by decide, hs⟩
set_option maxHeartbeats 4000000 in
set_option maxRecDepth 100000 in
theorem tx_Ro_readAnds99_6 {d : Nat} {r_Ro_readAnds99 : MW → (MW → Prop) → Prop} {r_Ro_readOrs99 : MW → (MW → Prop) → Prop} {r_Ro_readParts99 : MW → (MW → Prop) → Prop} (hr_Ro_readAnds99 : ∀ (w : MW) (Q : MW → Prop), r_Ro_readAnds99 w Q → Tc (d + 2) 199 [.ref 99] w (RV Q)) (hr_Ro_readOrs99 : ∀ (w : MW) (Q : MW → Prop), r_Ro_readOrs99 w Q → Tc (d + 2) 198 [.ref 99] w (RV Q)) (hr_Ro_readParts99 : ∀ (w : MW) (Q : MW → Prop), r_Ro_readParts99 w Q → Tc (d + 2) 200 [.ref 99] w (RV Q)) {E : MW → Prop} {Q : MW → Prop} (n : Nat) : ∀ (x6_1 : Int32)   (w : MW), q_Ro_readAnds99_6 r_Ro_readAnds99 r_Ro_readOrs99 r_Ro_readParts99  E Q n x6_1 w → (∀  (v0 : Option Value) (v1 : Option Value) (w : MW), E  w → Tm (d + 3) 199 42 [v0, v1] [] w (RV Q)) → Tm (d + 3) 199 6 [some (.ref 99), some (.int x6_1)] [] w (RV Q) := by
  induction n with
  | zero => intro x6_1  w hs; rw [q_Ro_readAnds99_6.eq_1] at hs; exact hs.elim
  | succ n ih =>
    intro x6_1  w hs hE
    rw [q_Ro_readAnds99_6.eq_2] at hs
    refine tm_go 2 (pc' := 10) (L' := [some (.ref 99), some (.int x6_1)]) (S' := [.int 4000, .int x6_1]) (w' := w) rfl ?_
    refine tm_i (p1 := 42) (p2 := 13) rfl (fun h2 => ?_) (fun h2 => ?_)
    · replace hs := hs.1 h2
      exact hE _ _ _ hs
    · replace hs := hs.2 h2
      refine tm_go 2 (pc' := 16) (L' := [some (.ref 99), some (.int x6_1)]) (S' := [.ref 2011, .ref 99]) (w' := w) rfl ?_
      refine tm_c rfl (Nat.le_of_ble_eq_true rfl) (dm_Ro_iss99_2011 (d := d + 1) hs) (fun v w3 hq => ?_)
      obtain ⟨r3, rfl, hz3, hs⟩ := hq
      refine tm_i (p1 := 42) (p2 := 22) rfl (fun h4 => ?_) (fun h4 => ?_)
      · replace hs := hs.1 h4
        exact hE _ _ _ hs
      · replace hs := hs.2 h4
        refine tm_go 1 (pc' := 23) (L' := [some (.ref 99), some (.int x6_1)]) (S' := [.ref 99]) (w' := w3) rfl ?_
        refine tm_c rfl (Nat.le_of_ble_eq_true rfl) (dm_Ro_nextWords99 (d := d + 1) hs) (fun v w5 hq => ?_)
        obtain ⟨rfl, hs⟩ := hq
        refine tm_go 1 (pc' := 27) (L' := [some (.ref 99), some (.int x6_1)]) (S' := [.ref 99]) (w' := w5) rfl ?_
        refine tm_c rfl (Nat.le_of_ble_eq_true rfl) (hr_Ro_readParts99 _ _ hs) (fun v w6 hq => ?_)
        obtain ⟨rfl, hs⟩ := hq
        refine tm_go 2 (pc' := 33) (L' := [some (.ref 99), some (.int x6_1)]) (S' := [.int 17, .ref 99]) (w' := w6) rfl ?_
        refine tm_c rfl (Nat.le_of_ble_eq_true rfl) (dm_Ro_puts99 (d := d + 2) hs) (fun v w7 hq => ?_)
        obtain ⟨rfl, hs⟩ := hq
        refine tm_go 2 (pc' := 6) (L' := [some (.ref 99), some (.int (x6_1 + (1 : Int32)))]) (S' := []) (w' := w7) rfl ?_
        exact ih _ _ hs hE
set_option maxHeartbeats 4000000 in
set_option maxRecDepth 100000 in
theorem dmb_Ro_readAnds99 {d : Nat} {r_Ro_readAnds99 : MW → (MW → Prop) → Prop} {r_Ro_readOrs99 : MW → (MW → Prop) → Prop} {r_Ro_readParts99 : MW → (MW → Prop) → Prop} (hr_Ro_readAnds99 : ∀ (w : MW) (Q : MW → Prop), r_Ro_readAnds99 w Q → Tc (d + 2) 199 [.ref 99] w (RV Q)) (hr_Ro_readOrs99 : ∀ (w : MW) (Q : MW → Prop), r_Ro_readOrs99 w Q → Tc (d + 2) 198 [.ref 99] w (RV Q)) (hr_Ro_readParts99 : ∀ (w : MW) (Q : MW → Prop), r_Ro_readParts99 w Q → Tc (d + 2) 200 [.ref 99] w (RV Q)) {w : MW} {Q : MW → Prop} (hs : pb_Ro_readAnds99 r_Ro_readAnds99 r_Ro_readOrs99 r_Ro_readParts99 w Q) : Tc (d + 3) 199 [.ref 99] w (RV Q) := by
  unfold pb_Ro_readAnds99 at hs
  refine tm_go 1 (pc' := 1) (L' := [some (.ref 99), none]) (S' := [.ref 99]) (w' := w) rfl ?_
  refine tm_c rfl (Nat.le_of_ble_eq_true rfl) (hr_Ro_readParts99 _ _ hs) (fun v w1 hq => ?_)
  obtain ⟨rfl, hs⟩ := hq
  refine tm_go 2 (pc' := 6) (L' := [some (.ref 99), some (.int 0)]) (S' := []) (w' := w1) rfl ?_
  refine tx_Ro_readAnds99_6 hr_Ro_readAnds99 hr_Ro_readOrs99 hr_Ro_readParts99 FU _ _ hs (fun  z8_0 z8_1 w8 hs => ?_)
  exact tm_r rfl ⟨rfl, hs⟩
set_option maxHeartbeats 4000000 in
set_option maxRecDepth 100000 in
theorem tx_Ro_readOrs99_6 {d : Nat} {r_Ro_readAnds99 : MW → (MW → Prop) → Prop} {r_Ro_readOrs99 : MW → (MW → Prop) → Prop} {r_Ro_readParts99 : MW → (MW → Prop) → Prop} (hr_Ro_readAnds99 : ∀ (w : MW) (Q : MW → Prop), r_Ro_readAnds99 w Q → Tc (d + 2) 199 [.ref 99] w (RV Q)) (hr_Ro_readOrs99 : ∀ (w : MW) (Q : MW → Prop), r_Ro_readOrs99 w Q → Tc (d + 2) 198 [.ref 99] w (RV Q)) (hr_Ro_readParts99 : ∀ (w : MW) (Q : MW → Prop), r_Ro_readParts99 w Q → Tc (d + 2) 200 [.ref 99] w (RV Q)) {E : MW → Prop} {Q : MW → Prop} (n : Nat) : ∀ (x6_1 : Int32)   (w : MW), q_Ro_readOrs99_6 r_Ro_readAnds99 r_Ro_readOrs99 r_Ro_readParts99  E Q n x6_1 w → (∀  (v0 : Option Value) (v1 : Option Value) (w : MW), E  w → Tm (d + 3) 198 42 [v0, v1] [] w (RV Q)) → Tm (d + 3) 198 6 [some (.ref 99), some (.int x6_1)] [] w (RV Q) := by
  induction n with
  | zero => intro x6_1  w hs; rw [q_Ro_readOrs99_6.eq_1] at hs; exact hs.elim
  | succ n ih =>
    intro x6_1  w hs hE
    rw [q_Ro_readOrs99_6.eq_2] at hs
    refine tm_go 2 (pc' := 10) (L' := [some (.ref 99), some (.int x6_1)]) (S' := [.int 4000, .int x6_1]) (w' := w) rfl ?_
    refine tm_i (p1 := 42) (p2 := 13) rfl (fun h2 => ?_) (fun h2 => ?_)
    · replace hs := hs.1 h2
      exact hE _ _ _ hs
    · replace hs := hs.2 h2
      refine tm_go 2 (pc' := 16) (L' := [some (.ref 99), some (.int x6_1)]) (S' := [.ref 2012, .ref 99]) (w' := w) rfl ?_
      refine tm_c rfl (Nat.le_of_ble_eq_true rfl) (dm_Ro_iss99_2012 (d := d + 1) hs) (fun v w3 hq => ?_)
      obtain ⟨r3, rfl, hz3, hs⟩ := hq
      refine tm_i (p1 := 42) (p2 := 22) rfl (fun h4 => ?_) (fun h4 => ?_)
      · replace hs := hs.1 h4
        exact hE _ _ _ hs
      · replace hs := hs.2 h4
        refine tm_go 1 (pc' := 23) (L' := [some (.ref 99), some (.int x6_1)]) (S' := [.ref 99]) (w' := w3) rfl ?_
        refine tm_c rfl (Nat.le_of_ble_eq_true rfl) (dm_Ro_nextWords99 (d := d + 1) hs) (fun v w5 hq => ?_)
        obtain ⟨rfl, hs⟩ := hq
        refine tm_go 1 (pc' := 27) (L' := [some (.ref 99), some (.int x6_1)]) (S' := [.ref 99]) (w' := w5) rfl ?_
        refine tm_c rfl (Nat.le_of_ble_eq_true rfl) (hr_Ro_readAnds99 _ _ hs) (fun v w6 hq => ?_)
        obtain ⟨rfl, hs⟩ := hq
        refine tm_go 2 (pc' := 33) (L' := [some (.ref 99), some (.int x6_1)]) (S' := [.int 18, .ref 99]) (w' := w6) rfl ?_
        refine tm_c rfl (Nat.le_of_ble_eq_true rfl) (dm_Ro_puts99 (d := d + 2) hs) (fun v w7 hq => ?_)
        obtain ⟨rfl, hs⟩ := hq
        refine tm_go 2 (pc' := 6) (L' := [some (.ref 99), some (.int (x6_1 + (1 : Int32)))]) (S' := []) (w' := w7) rfl ?_
        exact ih _ _ hs hE
set_option maxHeartbeats 4000000 in
set_option maxRecDepth 100000 in
theorem dmb_Ro_readOrs99 {d : Nat} {r_Ro_readAnds99 : MW → (MW → Prop) → Prop} {r_Ro_readOrs99 : MW → (MW → Prop) → Prop} {r_Ro_readParts99 : MW → (MW → Prop) → Prop} (hr_Ro_readAnds99 : ∀ (w : MW) (Q : MW → Prop), r_Ro_readAnds99 w Q → Tc (d + 2) 199 [.ref 99] w (RV Q)) (hr_Ro_readOrs99 : ∀ (w : MW) (Q : MW → Prop), r_Ro_readOrs99 w Q → Tc (d + 2) 198 [.ref 99] w (RV Q)) (hr_Ro_readParts99 : ∀ (w : MW) (Q : MW → Prop), r_Ro_readParts99 w Q → Tc (d + 2) 200 [.ref 99] w (RV Q)) {w : MW} {Q : MW → Prop} (hs : pb_Ro_readOrs99 r_Ro_readAnds99 r_Ro_readOrs99 r_Ro_readParts99 w Q) : Tc (d + 3) 198 [.ref 99] w (RV Q) := by
  unfold pb_Ro_readOrs99 at hs
  refine tm_go 1 (pc' := 1) (L' := [some (.ref 99), none]) (S' := [.ref 99]) (w' := w) rfl ?_
  refine tm_c rfl (Nat.le_of_ble_eq_true rfl) (hr_Ro_readAnds99 _ _ hs) (fun v w1 hq => ?_)
  obtain ⟨rfl, hs⟩ := hq
  refine tm_go 2 (pc' := 6) (L' := [some (.ref 99), some (.int 0)]) (S' := []) (w' := w1) rfl ?_
  refine tx_Ro_readOrs99_6 hr_Ro_readAnds99 hr_Ro_readOrs99 hr_Ro_readParts99 FU _ _ hs (fun  z8_0 z8_1 w8 hs => ?_)
  exact tm_r rfl ⟨rfl, hs⟩
set_option maxHeartbeats 4000000 in
set_option maxRecDepth 100000 in
theorem tx_Ro_readParts99_20 {d : Nat} {r_Ro_readAnds99 : MW → (MW → Prop) → Prop} {r_Ro_readOrs99 : MW → (MW → Prop) → Prop} {r_Ro_readParts99 : MW → (MW → Prop) → Prop} (hr_Ro_readAnds99 : ∀ (w : MW) (Q : MW → Prop), r_Ro_readAnds99 w Q → Tc (d + 2) 199 [.ref 99] w (RV Q)) (hr_Ro_readOrs99 : ∀ (w : MW) (Q : MW → Prop), r_Ro_readOrs99 w Q → Tc (d + 2) 198 [.ref 99] w (RV Q)) (hr_Ro_readParts99 : ∀ (w : MW) (Q : MW → Prop), r_Ro_readParts99 w Q → Tc (d + 2) 200 [.ref 99] w (RV Q)) {y20_1 : Int32} {z2 : Option Value} {w : MW} {Q : MW → Prop} (hs : q_Ro_readParts99_20 r_Ro_readAnds99 r_Ro_readOrs99 r_Ro_readParts99 y20_1 w Q) : Tm (d + 3) 200 20 [some (.ref 99), some (.int y20_1), z2] [] w (RV Q) := by
  unfold q_Ro_readParts99_20 at hs
  refine tm_go 3 (pc' := 26) (L' := [some (.ref 99), some (.int y20_1), z2]) (S' := [.int 20, .int (w.1 99 15)]) (w' := w) rfl ?_
  refine tm_i (p1 := 34) (p2 := 29) rfl (fun h3 => ?_) (fun h3 => ?_)
  · replace hs := hs.1 h3
    refine tm_go 7 (pc' := 45) (L' := [some (.ref 99), some (.int y20_1), z2]) (S' := [.ref 99]) (w' := (sI w 99 15 ((w.1 99 15) + (1 : Int32)))) rfl ?_
    refine tm_c rfl (Nat.le_of_ble_eq_true rfl) (dm_Ro_nextWords99 (d := d + 1) hs) (fun v w4 hq => ?_)
    obtain ⟨rfl, hs⟩ := hq
    refine tm_go 1 (pc' := 49) (L' := [some (.ref 99), some (.int y20_1), z2]) (S' := [.int y20_1]) (w' := w4) rfl ?_
    refine tm_i (p1 := 65) (p2 := 52) rfl (fun h5 => ?_) (fun h5 => ?_)
    · replace hs := hs.1 h5
      refine tm_go 1 (pc' := 66) (L' := [some (.ref 99), some (.int y20_1), z2]) (S' := [.ref 99]) (w' := w4) rfl ?_
      refine tm_c rfl (Nat.le_of_ble_eq_true rfl) (hr_Ro_readOrs99 _ _ hs) (fun v w6 hq => ?_)
      obtain ⟨rfl, hs⟩ := hq
      refine tm_go 2 (pc' := 72) (L' := [some (.ref 99), some (.int y20_1), z2]) (S' := [.ref 2010, .ref 99]) (w' := w6) rfl ?_
      refine tm_c rfl (Nat.le_of_ble_eq_true rfl) (dm_Ro_takess99_2010 (d := d + 0) hs) (fun v w7 hq => ?_)
      obtain ⟨r7, rfl, hz7, hs⟩ := hq
      refine tm_go 7 (pc' := 86) (L' := [some (.ref 99), some (.int y20_1), z2]) (S' := []) (w' := (sI w7 99 15 ((w7.1 99 15) - (1 : Int32)))) rfl ?_
      exact tm_r rfl ⟨rfl, hs⟩
    · replace hs := hs.2 h5
      refine tm_go 1 (pc' := 53) (L' := [some (.ref 99), some (.int y20_1), z2]) (S' := [.ref 99]) (w' := w4) rfl ?_
      refine tm_c rfl (Nat.le_of_ble_eq_true rfl) (hr_Ro_readParts99 _ _ hs) (fun v w8 hq => ?_)
      obtain ⟨rfl, hs⟩ := hq
      refine tm_go 2 (pc' := 59) (L' := [some (.ref 99), some (.int y20_1), z2]) (S' := [.int 16, .ref 99]) (w' := w8) rfl ?_
      refine tm_c rfl (Nat.le_of_ble_eq_true rfl) (dm_Ro_puts99 (d := d + 2) hs) (fun v w9 hq => ?_)
      obtain ⟨rfl, hs⟩ := hq
      refine tm_go 7 (pc' := 86) (L' := [some (.ref 99), some (.int y20_1), z2]) (S' := []) (w' := (sI w9 99 15 ((w9.1 99 15) - (1 : Int32)))) rfl ?_
      exact tm_r rfl ⟨rfl, hs⟩
  · replace hs := hs.2 h3
    refine tm_go 1 (pc' := 30) (L' := [some (.ref 99), some (.int y20_1), z2]) (S' := [.ref 99]) (w' := w) rfl ?_
    refine tm_c rfl (Nat.le_of_ble_eq_true rfl) (dm_Ro_fails99 (d := d + 2) hs) (fun v w10 hq => ?_)
    obtain ⟨rfl, hs⟩ := hq
    exact tm_r rfl ⟨rfl, hs⟩
set_option maxHeartbeats 4000000 in
set_option maxRecDepth 100000 in
theorem tx_Ro_readParts99_114 {d : Nat} {r_Ro_readAnds99 : MW → (MW → Prop) → Prop} {r_Ro_readOrs99 : MW → (MW → Prop) → Prop} {r_Ro_readParts99 : MW → (MW → Prop) → Prop} (hr_Ro_readAnds99 : ∀ (w : MW) (Q : MW → Prop), r_Ro_readAnds99 w Q → Tc (d + 2) 199 [.ref 99] w (RV Q)) (hr_Ro_readOrs99 : ∀ (w : MW) (Q : MW → Prop), r_Ro_readOrs99 w Q → Tc (d + 2) 198 [.ref 99] w (RV Q)) (hr_Ro_readParts99 : ∀ (w : MW) (Q : MW → Prop), r_Ro_readParts99 w Q → Tc (d + 2) 200 [.ref 99] w (RV Q)) {ys114_0 : Int32} {z1 : Option Value} {z2 : Option Value} {w : MW} {Q : MW → Prop} (hs : q_Ro_readParts99_114 r_Ro_readAnds99 r_Ro_readOrs99 r_Ro_readParts99 ys114_0 w Q) : Tm (d + 3) 200 114 [some (.ref 99), z1, z2] [.int ys114_0] w (RV Q) := by
  unfold q_Ro_readParts99_114 at hs
  refine tm_go 3 (pc' := 119) (L' := [some (.ref 99), (ksl z1), some (.int ys114_0)]) (S' := [.int (w.1 99 17)]) (w' := w) rfl ?_
  refine tm_i (p1 := 135) (p2 := 122) rfl (fun h16 => ?_) (fun h16 => ?_)
  · replace hs := hs.1 h16
    refine tm_go 1 (pc' := 136) (L' := [some (.ref 99), (ksl z1), some (.int ys114_0)]) (S' := [.ref 99]) (w' := w) rfl ?_
    refine tm_c rfl (Nat.le_of_ble_eq_true rfl) (dm_Ro_fails99 (d := d + 2) hs) (fun v w17 hq => ?_)
    obtain ⟨rfl, hs⟩ := hq
    exact tm_r rfl ⟨rfl, hs⟩
  · replace hs := hs.2 h16
    refine tm_go 1 (pc' := 123) (L' := [some (.ref 99), (ksl z1), some (.int ys114_0)]) (S' := [.int ys114_0]) (w' := w) rfl ?_
    refine tm_i (p1 := 135) (p2 := 126) rfl (fun h18 => ?_) (fun h18 => ?_)
    · replace hs := hs.1 h18
      refine tm_go 1 (pc' := 136) (L' := [some (.ref 99), (ksl z1), some (.int ys114_0)]) (S' := [.ref 99]) (w' := w) rfl ?_
      refine tm_c rfl (Nat.le_of_ble_eq_true rfl) (dm_Ro_fails99 (d := d + 2) hs) (fun v w19 hq => ?_)
      obtain ⟨rfl, hs⟩ := hq
      exact tm_r rfl ⟨rfl, hs⟩
    · replace hs := hs.2 h18
      refine tm_go 3 (pc' := 132) (L' := [some (.ref 99), (ksl z1), some (.int ys114_0)]) (S' := [.int 32, .int (w.1 99 16)]) (w' := w) rfl ?_
      refine tm_i (p1 := 140) (p2 := 135) rfl (fun h20 => ?_) (fun h20 => ?_)
      · replace hs := hs.1 h20
        refine tm_go 8 (pc' := 152) (L' := [some (.ref 99), (ksl z1), some (.int ys114_0)]) (S' := [.int ys114_0, .ref 99]) (w' := (sI w 99 16 ((w.1 99 16) + (1 : Int32)))) rfl ?_
        refine tm_c rfl (Nat.le_of_ble_eq_true rfl) (dm_Ro_puts99 (d := d + 2) hs) (fun v w21 hq => ?_)
        obtain ⟨rfl, hs⟩ := hq
        refine tm_go 1 (pc' := 156) (L' := [some (.ref 99), (ksl z1), some (.int ys114_0)]) (S' := [.ref 99]) (w' := w21) rfl ?_
        refine tm_c rfl (Nat.le_of_ble_eq_true rfl) (dm_Ro_nextWords99 (d := d + 1) hs) (fun v w22 hq => ?_)
        obtain ⟨rfl, hs⟩ := hq
        exact tm_r rfl ⟨rfl, hs⟩
      · replace hs := hs.2 h20
        refine tm_go 1 (pc' := 136) (L' := [some (.ref 99), (ksl z1), some (.int ys114_0)]) (S' := [.ref 99]) (w' := w) rfl ?_
        refine tm_c rfl (Nat.le_of_ble_eq_true rfl) (dm_Ro_fails99 (d := d + 2) hs) (fun v w23 hq => ?_)
        obtain ⟨rfl, hs⟩ := hq
        exact tm_r rfl ⟨rfl, hs⟩
set_option maxHeartbeats 4000000 in
set_option maxRecDepth 100000 in
theorem dmb_Ro_readParts99 {d : Nat} {r_Ro_readAnds99 : MW → (MW → Prop) → Prop} {r_Ro_readOrs99 : MW → (MW → Prop) → Prop} {r_Ro_readParts99 : MW → (MW → Prop) → Prop} (hr_Ro_readAnds99 : ∀ (w : MW) (Q : MW → Prop), r_Ro_readAnds99 w Q → Tc (d + 2) 199 [.ref 99] w (RV Q)) (hr_Ro_readOrs99 : ∀ (w : MW) (Q : MW → Prop), r_Ro_readOrs99 w Q → Tc (d + 2) 198 [.ref 99] w (RV Q)) (hr_Ro_readParts99 : ∀ (w : MW) (Q : MW → Prop), r_Ro_readParts99 w Q → Tc (d + 2) 200 [.ref 99] w (RV Q)) {w : MW} {Q : MW → Prop} (hs : pb_Ro_readParts99 r_Ro_readAnds99 r_Ro_readOrs99 r_Ro_readParts99 w Q) : Tc (d + 3) 200 [.ref 99] w (RV Q) := by
  unfold pb_Ro_readParts99 at hs
  refine tm_go 2 (pc' := 3) (L' := [some (.ref 99), none, none]) (S' := [.ref 2008, .ref 99]) (w' := w) rfl ?_
  refine tm_c rfl (Nat.le_of_ble_eq_true rfl) (dm_Ro_iss99_2008 (d := d + 1) hs) (fun v w1 hq => ?_)
  obtain ⟨r1, rfl, hz1, hs⟩ := hq
  refine tm_go 2 (pc' := 8) (L' := [some (.ref 99), some (.int r1), none]) (S' := [.int r1]) (w' := w1) rfl ?_
  refine tm_i (p1 := 20) (p2 := 11) rfl (fun h2 => ?_) (fun h2 => ?_)
  · replace hs := hs.1 h2
    exact tx_Ro_readParts99_20 hr_Ro_readAnds99 hr_Ro_readOrs99 hr_Ro_readParts99 hs 
  · replace hs := hs.2 h2
    refine tm_go 2 (pc' := 14) (L' := [some (.ref 99), some (.int r1), none]) (S' := [.ref 2009, .ref 99]) (w' := w1) rfl ?_
    refine tm_c rfl (Nat.le_of_ble_eq_true rfl) (dm_Ro_iss99_2009 (d := d + 1) hs) (fun v w11 hq => ?_)
    obtain ⟨r11, rfl, hz11, hs⟩ := hq
    refine tm_i (p1 := 87) (p2 := 20) rfl (fun h12 => ?_) (fun h12 => ?_)
    · replace hs := hs.1 h12
      refine tm_go 1 (pc' := 88) (L' := [some (.ref 99), some (.int r1), none]) (S' := [.ref 99]) (w' := w11) rfl ?_
      obtain ⟨b13, hs⟩ := hs
      refine tm_g (pc' := 91) (k := 99) (j := 11) rfl b13 ?_
      refine tm_go 2 (pc' := 95) (L' := [some (.ref 99), some (.int r1), none]) (S' := [.int (w11.1 99 12), .ref 1]) (w' := w11) rfl ?_
      refine tm_c rfl (Nat.le_of_ble_eq_true rfl) (dm_Tp_at (d := d + 2) hs) (fun v w14 hq => ?_)
      obtain ⟨r14, rfl, hs⟩ := hq
      refine tm_go 1 (pc' := 100) (L' := [some (.ref 99), some (.int r1), none]) (S' := [.int 99, .int r14]) (w' := w14) rfl ?_
      refine tm_i (p1 := 113) (p2 := 103) rfl (fun h15 => ?_) (fun h15 => ?_)
      · replace hs := hs.1 h15
        refine tm_go 1 (pc' := 114) (L' := [some (.ref 99), some (.int r1), none]) (S' := [.int (-1)]) (w' := w14) rfl ?_
        exact tx_Ro_readParts99_114 hr_Ro_readAnds99 hr_Ro_readOrs99 hr_Ro_readParts99 hs 
      · replace hs := hs.2 h15
        refine tm_go 3 (pc' := 107) (L' := [some (.ref 99), some (.int r1), none]) (S' := [.int 15, .int 1, .ref 99]) (w' := w14) rfl ?_
        refine tm_c rfl (Nat.le_of_ble_eq_true rfl) (dm_Ro_numberBehinds99 (d := d + 1) hs) (fun v w24 hq => ?_)
        obtain ⟨r24, rfl, hs⟩ := hq
        refine tm_go 1 (pc' := 114) (L' := [some (.ref 99), some (.int r1), none]) (S' := [.int r24]) (w' := w24) rfl ?_
        exact tx_Ro_readParts99_114 hr_Ro_readAnds99 hr_Ro_readOrs99 hr_Ro_readParts99 hs 
    · replace hs := hs.2 h12
      exact tx_Ro_readParts99_20 hr_Ro_readAnds99 hr_Ro_readOrs99 hr_Ro_readParts99 hs 
theorem da_Ro_readAnds99 (n : Nat) : (∀ (w : MW) (Q : MW → Prop), pn_Ro_readAnds99 n w Q → Tc (n + 2) 199 [.ref 99] w (RV Q)) ∧ (∀ (w : MW) (Q : MW → Prop), pn_Ro_readOrs99 n w Q → Tc (n + 2) 198 [.ref 99] w (RV Q)) ∧ (∀ (w : MW) (Q : MW → Prop), pn_Ro_readParts99 n w Q → Tc (n + 2) 200 [.ref 99] w (RV Q)) := by
  induction n with
  | zero => exact ⟨fun _ _ h => h.elim, fun _ _ h => h.elim, fun _ _ h => h.elim⟩
  | succ n ih =>
    obtain ⟨h0, h1, h2⟩ := ih
    exact ⟨fun _ _ h => (dmb_Ro_readAnds99 (d := n) h0 h1 h2 h).le (by omega), fun _ _ h => (dmb_Ro_readOrs99 (d := n) h0 h1 h2 h).le (by omega), fun _ _ h => (dmb_Ro_readParts99 (d := n) h0 h1 h2 h).le (by omega)⟩
theorem dm_Ro_readAnds99 {d : Nat} {w : MW} {Q : MW → Prop} (hs : p_Ro_readAnds99 w Q) : Tc (d + 402) 199 [.ref 99] w (RV Q) := ((da_Ro_readAnds99 400).1 _ _ hs).le (by omega)
theorem dm_Ro_readOrs99 {d : Nat} {w : MW} {Q : MW → Prop} (hs : p_Ro_readOrs99 w Q) : Tc (d + 402) 198 [.ref 99] w (RV Q) := ((da_Ro_readAnds99 400).2.1 _ _ hs).le (by omega)
theorem dm_Ro_readParts99 {d : Nat} {w : MW} {Q : MW → Prop} (hs : p_Ro_readParts99 w Q) : Tc (d + 402) 200 [.ref 99] w (RV Q) := ((da_Ro_readAnds99 400).2.2 _ _ hs).le (by omega)
set_option maxHeartbeats 4000000 in
set_option maxRecDepth 100000 in
theorem tx_Ro_iss99_2006_27 {d : Nat} {E : MW → Prop} {Q : Int32 → MW → Prop} (n : Nat) : ∀ (x27_2 : Int32)   (w : MW), q_Ro_iss99_2006_27  E Q n x27_2 w → (∀  (v0 : Option Value) (v1 : Option Value) (v2 : Option Value) (w : MW), E  w → Tm (d + 1) 192 64 [v0, v1, v2] [] w (RZ Q)) → Tm (d + 1) 192 27 [some (.ref 99), some (.ref 2006), some (.int x27_2)] [] w (RZ Q) := by
  induction n with
  | zero => intro x27_2  w hs; rw [q_Ro_iss99_2006_27.eq_1] at hs; exact hs.elim
  | succ n ih =>
    intro x27_2  w hs hE
    rw [q_Ro_iss99_2006_27.eq_2] at hs
    refine tm_go 3 (pc' := 32) (L' := [some (.ref 99), some (.ref 2006), some (.int x27_2)]) (S' := [.int 3, .int x27_2]) (w' := w) rfl ?_
    refine tm_i (p1 := 64) (p2 := 35) rfl (fun h3 => ?_) (fun h3 => ?_)
    · replace hs := hs.1 h3
      exact hE _ _ _ _ hs
    · replace hs := hs.2 h3
      refine tm_go 1 (pc' := 36) (L' := [some (.ref 99), some (.ref 2006), some (.int x27_2)]) (S' := [.ref 99]) (w' := w) rfl ?_
      obtain ⟨b4, hs⟩ := hs
      refine tm_g (pc' := 39) (k := 99) (j := 11) rfl b4 ?_
      refine tm_go 4 (pc' := 45) (L' := [some (.ref 99), some (.ref 2006), some (.int x27_2)]) (S' := [.int ((w.1 99 12) + x27_2), .ref 1]) (w' := w) rfl ?_
      refine tm_c rfl (Nat.le_of_ble_eq_true rfl) (dm_Tp_at (d := d + 0) hs) (fun v w5 hq => ?_)
      obtain ⟨r5, rfl, hs⟩ := hq
      refine tm_go 2 (pc' := 50) (L' := [some (.ref 99), some (.ref 2006), some (.int x27_2)]) (S' := [.int x27_2, .ref 2006, .int r5]) (w' := w5) rfl ?_
      obtain ⟨b6, hs⟩ := hs
      refine tm_k (pc' := 53) (L' := [some (.ref 99), some (.ref 2006), some (.int x27_2)]) (S' := [.int (chT 6 x27_2), .int r5]) (w' := w5) rfl ⟨by decide, by decide, Nat.le_of_ble_eq_true rfl, b6⟩ ?_
      refine tm_i (p1 := 58) (p2 := 56) rfl (fun h7 => ?_) (fun h7 => ?_)
      · replace hs := hs.1 h7
        refine tm_go 2 (pc' := 27) (L' := [some (.ref 99), some (.ref 2006), some (.int (x27_2 + (1 : Int32)))]) (S' := []) (w' := w5) rfl ?_
        exact ih _ _ hs hE
      · replace hs := hs.2 h7
        refine tm_go 1 (pc' := 57) (L' := [some (.ref 99), some (.ref 2006), some (.int x27_2)]) (S' := [.int 0]) (w' := w5) rfl ?_
        exact tm_r rfl ⟨_, rfl, by decide, hs⟩
set_option maxHeartbeats 4000000 in
set_option maxRecDepth 100000 in
theorem dm_Ro_iss99_2006 {d : Nat} {w : MW} {Q : Int32 → MW → Prop} (hs : p_Ro_iss99_2006 w Q) : Tc (d + 1) 192 [.ref 99, .ref 2006] w (RZ Q) := by
  unfold p_Ro_iss99_2006 at hs
  refine tm_go 2 (pc' := 4) (L' := [some (.ref 99), some (.ref 2006), none]) (S' := [.int (w.1 99 17)]) (w' := w) rfl ?_
  refine tm_i (p1 := 23) (p2 := 7) rfl (fun h1 => ?_) (fun h1 => ?_)
  · replace hs := hs.1 h1
    refine tm_go 1 (pc' := 24) (L' := [some (.ref 99), some (.ref 2006), none]) (S' := [.int 0]) (w' := w) rfl ?_
    exact tm_r rfl ⟨_, rfl, by decide, hs⟩
  · replace hs := hs.2 h1
    refine tm_go 7 (pc' := 20) (L' := [some (.ref 99), some (.ref 2006), none]) (S' := [.int 3, .int ((w.1 99 13) - (w.1 99 12))]) (w' := w) rfl ?_
    refine tm_i (p1 := 25) (p2 := 23) rfl (fun h2 => ?_) (fun h2 => ?_)
    · replace hs := hs.1 h2
      refine tm_go 2 (pc' := 27) (L' := [some (.ref 99), some (.ref 2006), some (.int 0)]) (S' := []) (w' := w) rfl ?_
      refine tx_Ro_iss99_2006_27 FU _ _ hs (fun  z8_0 z8_1 z8_2 w8 hs => ?_)
      refine tm_go 1 (pc' := 65) (L' := [z8_0, z8_1, z8_2]) (S' := [.int 1]) (w' := w8) rfl ?_
      exact tm_r rfl ⟨_, rfl, by decide, hs⟩
    · replace hs := hs.2 h2
      refine tm_go 1 (pc' := 24) (L' := [some (.ref 99), some (.ref 2006), none]) (S' := [.int 0]) (w' := w) rfl ?_
      exact tm_r rfl ⟨_, rfl, by decide, hs⟩
set_option maxHeartbeats 4000000 in
set_option maxRecDepth 100000 in
theorem dm_Ro_takess99_2006 {d : Nat} {w : MW} {Q : Int32 → MW → Prop} (hs : p_Ro_takess99_2006 w Q) : Tc (d + 2) 193 [.ref 99, .ref 2006] w (RZ Q) := by
  unfold p_Ro_takess99_2006 at hs
  refine tm_go 2 (pc' := 2) (L' := [some (.ref 99), some (.ref 2006)]) (S' := [.ref 2006, .ref 99]) (w' := w) rfl ?_
  refine tm_c rfl (Nat.le_of_ble_eq_true rfl) (dm_Ro_iss99_2006 (d := d + 0) hs) (fun v w1 hq => ?_)
  obtain ⟨r1, rfl, hz1, hs⟩ := hq
  refine tm_i (p1 := 14) (p2 := 8) rfl (fun h2 => ?_) (fun h2 => ?_)
  · replace hs := hs.1 h2
    refine tm_go 1 (pc' := 15) (L' := [some (.ref 99), some (.ref 2006)]) (S' := [.ref 99]) (w' := w1) rfl ?_
    refine tm_c rfl (Nat.le_of_ble_eq_true rfl) (dm_Ro_nextWords99 (d := d + 0) hs) (fun v w3 hq => ?_)
    obtain ⟨rfl, hs⟩ := hq
    refine tm_go 1 (pc' := 19) (L' := [some (.ref 99), some (.ref 2006)]) (S' := [.int 1]) (w' := w3) rfl ?_
    exact tm_r rfl ⟨_, rfl, by decide, hs⟩
  · replace hs := hs.2 h2
    refine tm_go 1 (pc' := 9) (L' := [some (.ref 99), some (.ref 2006)]) (S' := [.ref 99]) (w' := w1) rfl ?_
    refine tm_c rfl (Nat.le_of_ble_eq_true rfl) (dm_Ro_fails99 (d := d + 1) hs) (fun v w4 hq => ?_)
    obtain ⟨rfl, hs⟩ := hq
    refine tm_go 1 (pc' := 13) (L' := [some (.ref 99), some (.ref 2006)]) (S' := [.int 0]) (w' := w4) rfl ?_
    exact tm_r rfl ⟨_, rfl, by decide, hs⟩
set_option maxHeartbeats 4000000 in
set_option maxRecDepth 100000 in
theorem dm_Ro_takess99_2007 {d : Nat} {w : MW} {Q : Int32 → MW → Prop} (hs : p_Ro_takess99_2007 w Q) : Tc (d + 2) 193 [.ref 99, .ref 2007] w (RZ Q) := by
  unfold p_Ro_takess99_2007 at hs
  refine tm_go 2 (pc' := 2) (L' := [some (.ref 99), some (.ref 2007)]) (S' := [.ref 2007, .ref 99]) (w' := w) rfl ?_
  refine tm_c rfl (Nat.le_of_ble_eq_true rfl) (dm_Ro_iss99_2007 (d := d + 0) hs) (fun v w1 hq => ?_)
  obtain ⟨r1, rfl, hz1, hs⟩ := hq
  refine tm_i (p1 := 14) (p2 := 8) rfl (fun h2 => ?_) (fun h2 => ?_)
  · replace hs := hs.1 h2
    refine tm_go 1 (pc' := 15) (L' := [some (.ref 99), some (.ref 2007)]) (S' := [.ref 99]) (w' := w1) rfl ?_
    refine tm_c rfl (Nat.le_of_ble_eq_true rfl) (dm_Ro_nextWords99 (d := d + 0) hs) (fun v w3 hq => ?_)
    obtain ⟨rfl, hs⟩ := hq
    refine tm_go 1 (pc' := 19) (L' := [some (.ref 99), some (.ref 2007)]) (S' := [.int 1]) (w' := w3) rfl ?_
    exact tm_r rfl ⟨_, rfl, by decide, hs⟩
  · replace hs := hs.2 h2
    refine tm_go 1 (pc' := 9) (L' := [some (.ref 99), some (.ref 2007)]) (S' := [.ref 99]) (w' := w1) rfl ?_
    refine tm_c rfl (Nat.le_of_ble_eq_true rfl) (dm_Ro_fails99 (d := d + 1) hs) (fun v w4 hq => ?_)
    obtain ⟨rfl, hs⟩ := hq
    refine tm_go 1 (pc' := 13) (L' := [some (.ref 99), some (.ref 2007)]) (S' := [.int 0]) (w' := w4) rfl ?_
    exact tm_r rfl ⟨_, rfl, by decide, hs⟩
set_option maxHeartbeats 4000000 in
set_option maxRecDepth 100000 in
theorem tx_Ro_iss99_2015_27 {d : Nat} {E : MW → Prop} {Q : Int32 → MW → Prop} (n : Nat) : ∀ (x27_2 : Int32)   (w : MW), q_Ro_iss99_2015_27  E Q n x27_2 w → (∀  (v0 : Option Value) (v1 : Option Value) (v2 : Option Value) (w : MW), E  w → Tm (d + 1) 192 64 [v0, v1, v2] [] w (RZ Q)) → Tm (d + 1) 192 27 [some (.ref 99), some (.ref 2015), some (.int x27_2)] [] w (RZ Q) := by
  induction n with
  | zero => intro x27_2  w hs; rw [q_Ro_iss99_2015_27.eq_1] at hs; exact hs.elim
  | succ n ih =>
    intro x27_2  w hs hE
    rw [q_Ro_iss99_2015_27.eq_2] at hs
    refine tm_go 3 (pc' := 32) (L' := [some (.ref 99), some (.ref 2015), some (.int x27_2)]) (S' := [.int 1, .int x27_2]) (w' := w) rfl ?_
    refine tm_i (p1 := 64) (p2 := 35) rfl (fun h3 => ?_) (fun h3 => ?_)
    · replace hs := hs.1 h3
      exact hE _ _ _ _ hs
    · replace hs := hs.2 h3
      refine tm_go 1 (pc' := 36) (L' := [some (.ref 99), some (.ref 2015), some (.int x27_2)]) (S' := [.ref 99]) (w' := w) rfl ?_
      obtain ⟨b4, hs⟩ := hs
      refine tm_g (pc' := 39) (k := 99) (j := 11) rfl b4 ?_
      refine tm_go 4 (pc' := 45) (L' := [some (.ref 99), some (.ref 2015), some (.int x27_2)]) (S' := [.int ((w.1 99 12) + x27_2), .ref 1]) (w' := w) rfl ?_
      refine tm_c rfl (Nat.le_of_ble_eq_true rfl) (dm_Tp_at (d := d + 0) hs) (fun v w5 hq => ?_)
      obtain ⟨r5, rfl, hs⟩ := hq
      refine tm_go 2 (pc' := 50) (L' := [some (.ref 99), some (.ref 2015), some (.int x27_2)]) (S' := [.int x27_2, .ref 2015, .int r5]) (w' := w5) rfl ?_
      obtain ⟨b6, hs⟩ := hs
      refine tm_k (pc' := 53) (L' := [some (.ref 99), some (.ref 2015), some (.int x27_2)]) (S' := [.int (chT 15 x27_2), .int r5]) (w' := w5) rfl ⟨by decide, by decide, Nat.le_of_ble_eq_true rfl, b6⟩ ?_
      refine tm_i (p1 := 58) (p2 := 56) rfl (fun h7 => ?_) (fun h7 => ?_)
      · replace hs := hs.1 h7
        refine tm_go 2 (pc' := 27) (L' := [some (.ref 99), some (.ref 2015), some (.int (x27_2 + (1 : Int32)))]) (S' := []) (w' := w5) rfl ?_
        exact ih _ _ hs hE
      · replace hs := hs.2 h7
        refine tm_go 1 (pc' := 57) (L' := [some (.ref 99), some (.ref 2015), some (.int x27_2)]) (S' := [.int 0]) (w' := w5) rfl ?_
        exact tm_r rfl ⟨_, rfl, by decide, hs⟩
set_option maxHeartbeats 4000000 in
set_option maxRecDepth 100000 in
theorem dm_Ro_iss99_2015 {d : Nat} {w : MW} {Q : Int32 → MW → Prop} (hs : p_Ro_iss99_2015 w Q) : Tc (d + 1) 192 [.ref 99, .ref 2015] w (RZ Q) := by
  unfold p_Ro_iss99_2015 at hs
  refine tm_go 2 (pc' := 4) (L' := [some (.ref 99), some (.ref 2015), none]) (S' := [.int (w.1 99 17)]) (w' := w) rfl ?_
  refine tm_i (p1 := 23) (p2 := 7) rfl (fun h1 => ?_) (fun h1 => ?_)
  · replace hs := hs.1 h1
    refine tm_go 1 (pc' := 24) (L' := [some (.ref 99), some (.ref 2015), none]) (S' := [.int 0]) (w' := w) rfl ?_
    exact tm_r rfl ⟨_, rfl, by decide, hs⟩
  · replace hs := hs.2 h1
    refine tm_go 7 (pc' := 20) (L' := [some (.ref 99), some (.ref 2015), none]) (S' := [.int 1, .int ((w.1 99 13) - (w.1 99 12))]) (w' := w) rfl ?_
    refine tm_i (p1 := 25) (p2 := 23) rfl (fun h2 => ?_) (fun h2 => ?_)
    · replace hs := hs.1 h2
      refine tm_go 2 (pc' := 27) (L' := [some (.ref 99), some (.ref 2015), some (.int 0)]) (S' := []) (w' := w) rfl ?_
      refine tx_Ro_iss99_2015_27 FU _ _ hs (fun  z8_0 z8_1 z8_2 w8 hs => ?_)
      refine tm_go 1 (pc' := 65) (L' := [z8_0, z8_1, z8_2]) (S' := [.int 1]) (w' := w8) rfl ?_
      exact tm_r rfl ⟨_, rfl, by decide, hs⟩
    · replace hs := hs.2 h2
      refine tm_go 1 (pc' := 24) (L' := [some (.ref 99), some (.ref 2015), none]) (S' := [.int 0]) (w' := w) rfl ?_
      exact tm_r rfl ⟨_, rfl, by decide, hs⟩
set_option maxHeartbeats 4000000 in
set_option maxRecDepth 100000 in
theorem dm_Ro_takess99_2015 {d : Nat} {w : MW} {Q : Int32 → MW → Prop} (hs : p_Ro_takess99_2015 w Q) : Tc (d + 2) 193 [.ref 99, .ref 2015] w (RZ Q) := by
  unfold p_Ro_takess99_2015 at hs
  refine tm_go 2 (pc' := 2) (L' := [some (.ref 99), some (.ref 2015)]) (S' := [.ref 2015, .ref 99]) (w' := w) rfl ?_
  refine tm_c rfl (Nat.le_of_ble_eq_true rfl) (dm_Ro_iss99_2015 (d := d + 0) hs) (fun v w1 hq => ?_)
  obtain ⟨r1, rfl, hz1, hs⟩ := hq
  refine tm_i (p1 := 14) (p2 := 8) rfl (fun h2 => ?_) (fun h2 => ?_)
  · replace hs := hs.1 h2
    refine tm_go 1 (pc' := 15) (L' := [some (.ref 99), some (.ref 2015)]) (S' := [.ref 99]) (w' := w1) rfl ?_
    refine tm_c rfl (Nat.le_of_ble_eq_true rfl) (dm_Ro_nextWords99 (d := d + 0) hs) (fun v w3 hq => ?_)
    obtain ⟨rfl, hs⟩ := hq
    refine tm_go 1 (pc' := 19) (L' := [some (.ref 99), some (.ref 2015)]) (S' := [.int 1]) (w' := w3) rfl ?_
    exact tm_r rfl ⟨_, rfl, by decide, hs⟩
  · replace hs := hs.2 h2
    refine tm_go 1 (pc' := 9) (L' := [some (.ref 99), some (.ref 2015)]) (S' := [.ref 99]) (w' := w1) rfl ?_
    refine tm_c rfl (Nat.le_of_ble_eq_true rfl) (dm_Ro_fails99 (d := d + 1) hs) (fun v w4 hq => ?_)
    obtain ⟨rfl, hs⟩ := hq
    refine tm_go 1 (pc' := 13) (L' := [some (.ref 99), some (.ref 2015)]) (S' := [.int 0]) (w' := w4) rfl ?_
    exact tm_r rfl ⟨_, rfl, by decide, hs⟩
