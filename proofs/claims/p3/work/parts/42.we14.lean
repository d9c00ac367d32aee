set_option maxHeartbeats 4000000 in
set_option maxRecDepth 100000 in
theorem tx_Tx_program_5 {d : Nat} {E : Int32 → MW → Prop} {Q : Int32 → MW → Prop} (n : Nat) : ∀ (x5_1 : Int32)  (z2 : Option Value) (w : MW), q_Tx_program_5  E Q n x5_1 w → (∀ (e5_1 : Int32)  (v2 : Option Value) (w : MW), E e5_1 w → Tm (d + 806) 333 44 [some (.ref 129), some (.int e5_1), v2] [] w (RZ Q)) → Tm (d + 806) 333 5 [some (.ref 129), some (.int x5_1), z2] [] w (RZ Q) := by
  induction n with
  | zero => intro x5_1 z2 w hs; rw [q_Tx_program_5.eq_1] at hs; exact hs.elim
  | succ n ih =>
    intro x5_1 z2 w hs hE
    rw [q_Tx_program_5.eq_2] at hs
    refine tm_go 1 (pc' := 6) (L' := [some (.ref 129), some (.int x5_1), z2]) (S' := [.int x5_1]) (w' := w) rfl ?_
    refine tm_i (p1 := 44) (p2 := 9) rfl (fun h2 => ?_) (fun h2 => ?_)
    · replace hs := hs.1 h2
      exact hE _ _ _ hs
    · replace hs := hs.2 h2
      refine tm_go 2 (pc' := 12) (L' := [some (.ref 129), some (.int x5_1), z2]) (S' := [.int 30, .ref 129]) (w' := w) rfl ?_
      refine tm_c rfl (Nat.le_of_ble_eq_true rfl) (dm_Tx_isWord (d := d + 805) hs) (fun v w3 hq => ?_)
      obtain ⟨r3, rfl, hz3, hs⟩ := hq
      refine tm_i (p1 := 36) (p2 := 18) rfl (fun h4 => ?_) (fun h4 => ?_)
      · replace hs := hs.1 h4
        refine tm_go 1 (pc' := 37) (L' := [some (.ref 129), some (.int x5_1), z2]) (S' := [.ref 129]) (w' := w3) rfl ?_
        refine tm_c rfl (Nat.le_of_ble_eq_true rfl) (dm_Tx_declaration (d := d + 0) hs) (fun v w5 hq => ?_)
        obtain ⟨r5, rfl, hz5, hs⟩ := hq
        refine tm_go 2 (pc' := 5) (L' := [some (.ref 129), some (.int r5), z2]) (S' := []) (w' := w5) rfl ?_
        exact ih _ _ _ hs hE
      · replace hs := hs.2 h4
        refine tm_go 2 (pc' := 21) (L' := [some (.ref 129), some (.int x5_1), z2]) (S' := [.int 31, .ref 129]) (w' := w3) rfl ?_
        refine tm_c rfl (Nat.le_of_ble_eq_true rfl) (dm_Tx_isWord (d := d + 805) hs) (fun v w6 hq => ?_)
        obtain ⟨r6, rfl, hz6, hs⟩ := hq
        refine tm_i (p1 := 36) (p2 := 27) rfl (fun h7 => ?_) (fun h7 => ?_)
        · replace hs := hs.1 h7
          refine tm_go 1 (pc' := 37) (L' := [some (.ref 129), some (.int x5_1), z2]) (S' := [.ref 129]) (w' := w6) rfl ?_
          refine tm_c rfl (Nat.le_of_ble_eq_true rfl) (dm_Tx_declaration (d := d + 0) hs) (fun v w8 hq => ?_)
          obtain ⟨r8, rfl, hz8, hs⟩ := hq
          refine tm_go 2 (pc' := 5) (L' := [some (.ref 129), some (.int r8), z2]) (S' := []) (w' := w8) rfl ?_
          exact ih _ _ _ hs hE
        · replace hs := hs.2 h7
          refine tm_go 2 (pc' := 30) (L' := [some (.ref 129), some (.int x5_1), z2]) (S' := [.int 24, .ref 129]) (w' := w6) rfl ?_
          refine tm_c rfl (Nat.le_of_ble_eq_true rfl) (dm_Tx_isWord (d := d + 805) hs) (fun v w9 hq => ?_)
          obtain ⟨r9, rfl, hz9, hs⟩ := hq
          refine tm_i (p1 := 44) (p2 := 36) rfl (fun h10 => ?_) (fun h10 => ?_)
          · replace hs := hs.1 h10
            exact hE _ _ _ hs
          · replace hs := hs.2 h10
            refine tm_go 1 (pc' := 37) (L' := [some (.ref 129), some (.int x5_1), z2]) (S' := [.ref 129]) (w' := w9) rfl ?_
            refine tm_c rfl (Nat.le_of_ble_eq_true rfl) (dm_Tx_declaration (d := d + 0) hs) (fun v w11 hq => ?_)
            obtain ⟨r11, rfl, hz11, hs⟩ := hq
            refine tm_go 2 (pc' := 5) (L' := [some (.ref 129), some (.int r11), z2]) (S' := []) (w' := w11) rfl ?_
            exact ih _ _ _ hs hE
set_option maxHeartbeats 4000000 in
set_option maxRecDepth 100000 in
theorem tx_Tx_program_70 {d : Nat} {y70_2 : Int32} {ys70_0 : Int32} {z1 : Option Value} {w : MW} {A : Int32 → MW → Prop} {E : Int32 → MW → Prop} {Q : Int32 → MW → Prop} (hs : q_Tx_program_70 y70_2 ys70_0 w A E Q) (hA : ∀ (x44_1 : Int32)  (z2 : Option Value) (w : MW), A x44_1 w → Tm (d + 806) 333 44 [some (.ref 129), some (.int x44_1), z2] [] w (RZ Q)) (hE : ∀ (e44_1 : Int32)  (v0 : Option Value) (v2 : Option Value) (w : MW), E e44_1 w → Tm (d + 806) 333 103 [v0, some (.int e44_1), v2] [] w (RZ Q)) : Tm (d + 806) 333 70 [some (.ref 129), z1, some (.int y70_2)] [.int ys70_0] w (RZ Q) := by
  unfold q_Tx_program_70 at hs
  refine tm_go 2 (pc' := 72) (L' := [some (.ref 129), some (.int ys70_0), some (.int y70_2)]) (S' := [.int ys70_0]) (w' := w) rfl ?_
  refine tm_i (p1 := 100) (p2 := 75) rfl (fun h17 => ?_) (fun h17 => ?_)
  · replace hs := hs.1 h17
    refine tm_go 1 (pc' := 44) (L' := [some (.ref 129), some (.int ys70_0), some (.int y70_2)]) (S' := []) (w' := w) rfl ?_
    exact hA _ _ _ hs
  · replace hs := hs.2 h17
    refine tm_go 3 (pc' := 80) (L' := [some (.ref 129), some (.int ys70_0), some (.int y70_2)]) (S' := [.ref 129, .ref 138]) (w' := w) rfl ?_
    refine tm_c rfl (Nat.le_of_ble_eq_true rfl) (dm_Tx_base (d := d + 805) hs) (fun v w18 hq => ?_)
    obtain ⟨r18, rfl, hs⟩ := hq
    refine tm_go 4 (pc' := 89) (L' := [some (.ref 129), some (.int ys70_0), some (.int y70_2)]) (S' := [.int y70_2, .int (r18 + (w18.1 129 23)), .ref 138]) (w' := w18) rfl ?_
    obtain ⟨b19, hs⟩ := hs
    refine tm_k (pc' := 90) (L' := [some (.ref 129), some (.int ys70_0), some (.int y70_2)]) (S' := []) (w' := (sI w18 138 ((r18 + (w18.1 129 23)).toInt.toNat) y70_2)) rfl b19 ?_
    refine tm_go 7 (pc' := 44) (L' := [some (.ref 129), some (.int ys70_0), some (.int y70_2)]) (S' := []) (w' := (sI (sI w18 138 ((r18 + (w18.1 129 23)).toInt.toNat) y70_2) 129 23 ((w18.1 129 23) + (1 : Int32)))) rfl ?_
    exact hA _ _ _ hs
set_option maxHeartbeats 4000000 in
set_option maxRecDepth 100000 in
theorem tx_Tx_program_44 {d : Nat} {E : Int32 → MW → Prop} {Q : Int32 → MW → Prop} (n : Nat) : ∀ (x44_1 : Int32)  (z2 : Option Value) (w : MW), q_Tx_program_44  E Q n x44_1 w → (∀ (e44_1 : Int32)  (v0 : Option Value) (v2 : Option Value) (w : MW), E e44_1 w → Tm (d + 806) 333 103 [v0, some (.int e44_1), v2] [] w (RZ Q)) → Tm (d + 806) 333 44 [some (.ref 129), some (.int x44_1), z2] [] w (RZ Q) := by
  induction n with
  | zero => intro x44_1 z2 w hs; rw [q_Tx_program_44.eq_1] at hs; exact hs.elim
  | succ n ih =>
    intro x44_1 z2 w hs hE
    rw [q_Tx_program_44.eq_2] at hs
    refine tm_go 1 (pc' := 45) (L' := [some (.ref 129), some (.int x44_1), z2]) (S' := [.int x44_1]) (w' := w) rfl ?_
    refine tm_i (p1 := 103) (p2 := 48) rfl (fun h13 => ?_) (fun h13 => ?_)
    · replace hs := hs.1 h13
      exact hE _ _ _ _ hs
    · replace hs := hs.2 h13
      refine tm_go 3 (pc' := 53) (L' := [some (.ref 129), some (.int x44_1), z2]) (S' := [.int 1, .int (w.1 129 4)]) (w' := w) rfl ?_
      refine tm_i (p1 := 103) (p2 := 56) rfl (fun h14 => ?_) (fun h14 => ?_)
      · replace hs := hs.1 h14
        exact hE _ _ _ _ hs
      · replace hs := hs.2 h14
        refine tm_go 1 (pc' := 57) (L' := [some (.ref 129), some (.int x44_1), z2]) (S' := [.ref 129]) (w' := w) rfl ?_
        refine tm_c rfl (Nat.le_of_ble_eq_true rfl) (dm_Tx_statement (d := d + 1) hs) (fun v w15 hq => ?_)
        obtain ⟨r15, rfl, hs⟩ := hq
        refine tm_go 2 (pc' := 62) (L' := [some (.ref 129), some (.int x44_1), some (.int r15)]) (S' := [.int r15]) (w' := w15) rfl ?_
        refine tm_i (p1 := 69) (p2 := 65) rfl (fun h16 => ?_) (fun h16 => ?_)
        · replace hs := hs.1 h16
          refine tm_go 1 (pc' := 70) (L' := [some (.ref 129), some (.int x44_1), some (.int r15)]) (S' := [.int 0]) (w' := w15) rfl ?_
          exact tx_Tx_program_70 hs (fun q0 q1 q2 hs => ih q0 q1 q2 hs hE) hE
        · replace hs := hs.2 h16
          refine tm_go 2 (pc' := 70) (L' := [some (.ref 129), some (.int x44_1), some (.int r15)]) (S' := [.int 1]) (w' := w15) rfl ?_
          exact tx_Tx_program_70 hs (fun q0 q1 q2 hs => ih q0 q1 q2 hs hE) hE
set_option maxHeartbeats 4000000 in
set_option maxRecDepth 100000 in
theorem dm_Tx_program {d : Nat} {w : MW} {Q : Int32 → MW → Prop} (hs : p_Tx_program w Q) : Tc (d + 806) 333 [.ref 129] w (RZ Q) := by
  unfold p_Tx_program at hs
  refine tm_go 1 (pc' := 1) (L' := [some (.ref 129), none, none]) (S' := [.ref 129]) (w' := w) rfl ?_
  refine tm_c rfl (Nat.le_of_ble_eq_true rfl) (dm_Tx_go (d := d + 803) hs) (fun v w1 hq => ?_)
  obtain ⟨r1, rfl, hz1, hs⟩ := hq
  refine tm_go 1 (pc' := 5) (L' := [some (.ref 129), some (.int r1), none]) (S' := []) (w' := w1) rfl ?_
  refine tx_Tx_program_5 FU _ _ _ hs (fun e5_1_12 z12_2 w12 hs => ?_)
  refine tx_Tx_program_44 FU _ _ _ hs (fun e44_1_20 z20_0 z20_2 w20 hs => ?_)
  refine tm_go 1 (pc' := 104) (L' := [z20_0, some (.int e44_1_20), z20_2]) (S' := [.int e44_1_20]) (w' := w20) rfl ?_
  obtain ⟨b21, hs⟩ := hs
  exact tm_rk rfl b21 ⟨_, rfl, b21, hs⟩
set_option maxHeartbeats 4000000 in
set_option maxRecDepth 100000 in
theorem tx_Tx_read_69 {d : Nat} {ys69_0 : Int32} {z1 : Option Value} {w : MW} {Q : Int32 → MW → Prop} (hs : q_Tx_read_69 ys69_0 w Q) : Tm (d + 807) 335 69 [some (.ref 129), z1] [.int ys69_0] w (RI Q) := by
  unfold q_Tx_read_69 at hs
  refine tm_go 5 (pc' := 76) (L' := [some (.ref 129), some (.int ys69_0)]) (S' := [.int ys69_0]) (w' := (sI w 129 1 0)) rfl ?_
  refine tm_i (p1 := 86) (p2 := 79) rfl (fun h3 => ?_) (fun h3 => ?_)
  · replace hs := hs.1 h3
    refine tm_go 24 (pc' := 132) (L' := [some (.ref 129), some (.int ys69_0)]) (S' := [.int (w.1 129 38)]) (w' := (sI (sI (sI (sI (sI (sI w 129 1 0) 129 12 ((1 : Int32) - (w.1 129 12))) 129 30 (w.1 129 13)) 129 31 (w.1 129 23)) 129 32 (w.1 129 24)) 129 33 (w.1 129 38))) rfl ?_
    exact tm_r rfl ⟨_, rfl, hs⟩
  · replace hs := hs.2 h3
    refine tm_go 4 (pc' := 85) (L' := [some (.ref 129), some (.int ys69_0)]) (S' := [.int (((-1) : Int32) - (w.1 129 10))]) (w' := (sI w 129 1 0)) rfl ?_
    exact tm_r rfl ⟨_, rfl, hs⟩
set_option maxHeartbeats 4000000 in
set_option maxRecDepth 100000 in
theorem dm_Tx_read {d : Nat} {w : MW} {Q : Int32 → MW → Prop} (hs : p_Tx_read w Q) : Tc (d + 807) 335 [.ref 129] w (RI Q) := by
  unfold p_Tx_read at hs
  refine tm_go 31 (pc' := 51) (L' := [some (.ref 129), none]) (S' := [.ref 129]) (w' := (sI (sI (sI (sI (sI (sI (sI (sI (sI (sI w 129 2 0) 129 3 1) 129 11 0) 129 13 0) 129 21 0) 129 23 0) 129 24 0) 129 35 0) 129 38 0) 129 10 (-1))) rfl ?_
  refine tm_c rfl (Nat.le_of_ble_eq_true rfl) (dm_Tx_program (d := d + 0) hs) (fun v w1 hq => ?_)
  obtain ⟨r1, rfl, hz1, hs⟩ := hq
  refine tm_i (p1 := 68) (p2 := 57) rfl (fun h2 => ?_) (fun h2 => ?_)
  · replace hs := hs.1 h2
    refine tm_go 1 (pc' := 69) (L' := [some (.ref 129), none]) (S' := [.int 0]) (w' := w1) rfl ?_
    exact tx_Tx_read_69 hs 
  · replace hs := hs.2 h2
    refine tm_go 1 (pc' := 58) (L' := [some (.ref 129), none]) (S' := [.ref 129]) (w' := w1) rfl ?_
    refine tm_c rfl (Nat.le_of_ble_eq_true rfl) (dm_Tx_isSmall (d := d + 805) hs) (fun v w4 hq => ?_)
    obtain ⟨r4, rfl, hz4, hs⟩ := hq
    refine tm_i (p1 := 68) (p2 := 64) rfl (fun h5 => ?_) (fun h5 => ?_)
    · replace hs := hs.1 h5
      refine tm_go 1 (pc' := 69) (L' := [some (.ref 129), none]) (S' := [.int 0]) (w' := w4) rfl ?_
      exact tx_Tx_read_69 hs 
    · replace hs := hs.2 h5
      refine tm_go 2 (pc' := 69) (L' := [some (.ref 129), none]) (S' := [.int 1]) (w' := w4) rfl ?_
      exact tx_Tx_read_69 hs 
set_option maxHeartbeats 4000000 in
set_option maxRecDepth 100000 in
theorem dm_Tx_unit {d : Nat} {w : MW} {a0 : Int32} {Q : Int32 → MW → Prop} (hs : p_Tx_unit w a0 Q) : Tc (d + 0) 303 [.ref 129, .int a0] w (RZ Q) := by
  unfold p_Tx_unit at hs
  refine tm_go 2 (pc' := 2) (L' := [some (.ref 129), some (.int a0)]) (S' := [.int 1, .int a0]) (w' := w) rfl ?_
  refine tm_i (p1 := 21) (p2 := 5) rfl (fun h1 => ?_) (fun h1 => ?_)
  · replace hs := hs.1 h1
    refine tm_go 1 (pc' := 22) (L' := [some (.ref 129), some (.int a0)]) (S' := [.int 0]) (w' := w) rfl ?_
    exact tm_r rfl ⟨_, rfl, by decide, hs⟩
  · replace hs := hs.2 h1
    refine tm_go 2 (pc' := 8) (L' := [some (.ref 129), some (.int a0)]) (S' := [.int 127, .int a0]) (w' := w) rfl ?_
    refine tm_i (p1 := 21) (p2 := 11) rfl (fun h2 => ?_) (fun h2 => ?_)
    · replace hs := hs.1 h2
      refine tm_go 1 (pc' := 22) (L' := [some (.ref 129), some (.int a0)]) (S' := [.int 0]) (w' := w) rfl ?_
      exact tm_r rfl ⟨_, rfl, by decide, hs⟩
    · replace hs := hs.2 h2
      refine tm_go 3 (pc' := 18) (L' := [some (.ref 129), some (.int a0)]) (S' := [.int 4020, .int (w.1 129 1)]) (w' := w) rfl ?_
      refine tm_i (p1 := 23) (p2 := 21) rfl (fun h3 => ?_) (fun h3 => ?_)
      · replace hs := hs.1 h3
        refine tm_go 6 (pc' := 33) (L' := [some (.ref 129), some (.int a0)]) (S' := [.int ((Int32.toInt8 a0).toInt32), .int (w.1 129 1), .ref 130]) (w' := w) rfl ?_
        obtain ⟨b4, hs⟩ := hs
        refine tm_k (pc' := 34) (L' := [some (.ref 129), some (.int a0)]) (S' := []) (w' := (sI w 130 ((w.1 129 1).toInt.toNat) (vp_nar .byte ((Int32.toInt8 a0).toInt32)))) rfl b4 ?_
        refine tm_go 7 (pc' := 45) (L' := [some (.ref 129), some (.int a0)]) (S' := [.int 1]) (w' := (sI (sI w 130 ((w.1 129 1).toInt.toNat) (vp_nar .byte ((Int32.toInt8 a0).toInt32))) 129 1 ((w.1 129 1) + (1 : Int32)))) rfl ?_
        exact tm_r rfl ⟨_, rfl, by decide, hs⟩
      · replace hs := hs.2 h3
        refine tm_go 1 (pc' := 22) (L' := [some (.ref 129), some (.int a0)]) (S' := [.int 0]) (w' := w) rfl ?_
        exact tm_r rfl ⟨_, rfl, by decide, hs⟩
set_option maxHeartbeats 4000000 in
set_option maxRecDepth 100000 in
theorem tx_Mo_end_37 {d : Nat} {x37_1 : Int32} {x37_2 : Int32} {E : Int32 → MW → Prop} {Q : Int32 → MW → Prop} (n : Nat) : ∀ (x37_3 : Int32) (x37_4 : Int32)  (z5 : Option Value) (w : MW), q_Mo_end_37 x37_1 x37_2 E Q n x37_3 x37_4 w → (∀ (e37_3 : Int32)  (v4 : Option Value) (v5 : Option Value) (w : MW), E e37_3 w → Tm (d + 808) 37 69 [some (.ref 127), some (.int x37_1), some (.int x37_2), some (.int e37_3), v4, v5] [] w (RI Q)) → Tm (d + 808) 37 37 [some (.ref 127), some (.int x37_1), some (.int x37_2), some (.int x37_3), some (.int x37_4), z5] [] w (RI Q) := by
  induction n with
  | zero => intro x37_3 x37_4 z5 w hs; rw [q_Mo_end_37.eq_1] at hs; exact hs.elim
  | succ n ih =>
    intro x37_3 x37_4 z5 w hs hE
    rw [q_Mo_end_37.eq_2] at hs
    refine tm_go 2 (pc' := 40) (L' := [some (.ref 127), some (.int x37_1), some (.int x37_2), some (.int x37_3), some (.int x37_4), z5]) (S' := [.int x37_2, .int x37_4]) (w' := w) rfl ?_
    refine tm_i (p1 := 69) (p2 := 43) rfl (fun h2 => ?_) (fun h2 => ?_)
    · replace hs := hs.1 h2
      exact hE _ _ _ _ hs
    · replace hs := hs.2 h2
      refine tm_go 1 (pc' := 44) (L' := [some (.ref 127), some (.int x37_1), some (.int x37_2), some (.int x37_3), some (.int x37_4), z5]) (S' := [.int x37_3]) (w' := w) rfl ?_
      refine tm_i (p1 := 69) (p2 := 47) rfl (fun h3 => ?_) (fun h3 => ?_)
      · replace hs := hs.1 h3
        exact hE _ _ _ _ hs
      · replace hs := hs.2 h3
        refine tm_go 3 (pc' := 53) (L' := [some (.ref 127), some (.int x37_1), some (.int x37_2), some (.int x37_3), some (.int x37_4), z5]) (S' := [.int x37_4, .ref 128]) (w' := w) rfl ?_
        obtain ⟨b4, hs⟩ := hs
        refine tm_k (pc' := 54) (L' := [some (.ref 127), some (.int x37_1), some (.int x37_2), some (.int x37_3), some (.int x37_4), z5]) (S' := [.int (w.1 128 x37_4.toInt.toNat)]) (w' := w) rfl b4 ?_
        refine tm_i (p1 := 61) (p2 := 57) rfl (fun h5 => ?_) (fun h5 => ?_)
        · replace hs := hs.1 h5
          refine tm_go 4 (pc' := 37) (L' := [some (.ref 127), some (.int x37_1), some (.int x37_2), some (.int 0), some (.int (x37_4 + (1 : Int32))), z5]) (S' := []) (w' := w) rfl ?_
          exact ih _ _ _ _ hs hE
        · replace hs := hs.2 h5
          refine tm_go 5 (pc' := 37) (L' := [some (.ref 127), some (.int x37_1), some (.int x37_2), some (.int 1), some (.int (x37_4 + (1 : Int32))), z5]) (S' := []) (w' := w) rfl ?_
          exact ih _ _ _ _ hs hE
set_option maxHeartbeats 4000000 in
set_option maxRecDepth 100000 in
theorem tx_Mo_end_97 {d : Nat} {x97_1 : Int32} {x97_2 : Int32} {E : MW → Prop} {Q : Int32 → MW → Prop} (n : Nat) : ∀ (x97_4 : Int32)  (z3 : Option Value) (z5 : Option Value) (w : MW), q_Mo_end_97 x97_1 x97_2 E Q n x97_4 w → (∀  (v2 : Option Value) (v3 : Option Value) (v4 : Option Value) (v5 : Option Value) (w : MW), E  w → Tm (d + 808) 37 147 [some (.ref 127), some (.int x97_1), v2, v3, v4, v5] [] w (RI Q)) → Tm (d + 808) 37 97 [some (.ref 127), some (.int x97_1), some (.int x97_2), z3, some (.int x97_4), z5] [] w (RI Q) := by
  induction n with
  | zero => intro x97_4 z3 z5 w hs; rw [q_Mo_end_97.eq_1] at hs; exact hs.elim
  | succ n ih =>
    intro x97_4 z3 z5 w hs hE
    rw [q_Mo_end_97.eq_2] at hs
    refine tm_go 2 (pc' := 100) (L' := [some (.ref 127), some (.int x97_1), some (.int x97_2), z3, some (.int x97_4), z5]) (S' := [.int x97_2, .int x97_4]) (w' := w) rfl ?_
    refine tm_i (p1 := 147) (p2 := 103) rfl (fun h9 => ?_) (fun h9 => ?_)
    · replace hs := hs.1 h9
      exact hE _ _ _ _ _ hs
    · replace hs := hs.2 h9
      refine tm_go 2 (pc' := 105) (L' := [some (.ref 127), some (.int x97_1), some (.int x97_2), z3, some (.int x97_4), z5]) (S' := [.int 1, .int x97_1]) (w' := w) rfl ?_
      refine tm_i (p1 := 125) (p2 := 108) rfl (fun h10 => ?_) (fun h10 => ?_)
      · replace hs := hs.1 h10
        refine tm_go 5 (pc' := 135) (L' := [some (.ref 127), some (.int x97_1), some (.int x97_2), z3, some (.int x97_4), z5]) (S' := [.int x97_4, .ref 128, .ref 129]) (w' := w) rfl ?_
        obtain ⟨b11, hs⟩ := hs
        refine tm_k (pc' := 136) (L' := [some (.ref 127), some (.int x97_1), some (.int x97_2), z3, some (.int x97_4), z5]) (S' := [.int (w.1 128 x97_4.toInt.toNat), .ref 129]) (w' := w) rfl b11 ?_
        refine tm_c rfl (Nat.le_of_ble_eq_true rfl) (dm_Tx_unit (d := d + 807) hs) (fun v w12 hq => ?_)
        obtain ⟨r12, rfl, hz12, hs⟩ := hq
        refine tm_go 3 (pc' := 97) (L' := [some (.ref 127), some (.int x97_1), some (.int x97_2), (ksl z3), some (.int (x97_4 + (1 : Int32))), some (.int r12)]) (S' := []) (w' := w12) rfl ?_
        exact ih _ _ _ _ hs hE
      · replace hs := hs.2 h10
        refine tm_go 5 (pc' := 118) (L' := [some (.ref 127), some (.int x97_1), some (.int x97_2), z3, some (.int x97_4), z5]) (S' := [.int x97_4, .ref 128, .ref 147]) (w' := w) rfl ?_
        obtain ⟨b13, hs⟩ := hs
        refine tm_k (pc' := 119) (L' := [some (.ref 127), some (.int x97_1), some (.int x97_2), z3, some (.int x97_4), z5]) (S' := [.int (w.1 128 x97_4.toInt.toNat), .ref 147]) (w' := w) rfl b13 ?_
        refine tm_c rfl (Nat.le_of_ble_eq_true rfl) (dm_Mr_unit (d := d + 807) hs) (fun v w14 hq => ?_)
        obtain ⟨r14, rfl, hz14, hs⟩ := hq
        refine tm_go 4 (pc' := 97) (L' := [some (.ref 127), some (.int x97_1), some (.int x97_2), (ksl z3), some (.int (x97_4 + (1 : Int32))), some (.int r14)]) (S' := []) (w' := w14) rfl ?_
        exact ih _ _ _ _ hs hE
set_option maxHeartbeats 4000000 in
set_option maxRecDepth 100000 in
theorem tx_Mo_end_193 {d : Nat} {x193_4 : Int32} {E : MW → Prop} {Q : Int32 → MW → Prop} (n : Nat) : ∀ (x193_5 : Int32)  (z1 : Option Value) (z2 : Option Value) (z3 : Option Value) (w : MW), q_Mo_end_193 x193_4 E Q n x193_5 w → (∀  (v0 : Option Value) (v1 : Option Value) (v2 : Option Value) (v3 : Option Value) (v5 : Option Value) (w : MW), E  w → Tm (d + 808) 37 222 [v0, v1, v2, v3, some (.int x193_4), v5] [] w (RI Q)) → Tm (d + 808) 37 193 [some (.ref 127), z1, z2, z3, some (.int x193_4), some (.int x193_5)] [] w (RI Q) := by
  induction n with
  | zero => intro x193_5 z1 z2 z3 w hs; rw [q_Mo_end_193.eq_1] at hs; exact hs.elim
  | succ n ih =>
    intro x193_5 z1 z2 z3 w hs hE
    rw [q_Mo_end_193.eq_2] at hs
    refine tm_go 2 (pc' := 197) (L' := [some (.ref 127), z1, z2, z3, some (.int x193_4), some (.int x193_5)]) (S' := [.int 40, .int x193_5]) (w' := w) rfl ?_
    refine tm_i (p1 := 222) (p2 := 200) rfl (fun h23 => ?_) (fun h23 => ?_)
    · replace hs := hs.1 h23
      exact hE _ _ _ _ _ _ hs
    · replace hs := hs.2 h23
      refine tm_go 4 (pc' := 207) (L' := [some (.ref 127), z1, z2, z3, some (.int x193_4), some (.int x193_5)]) (S' := [.int (-1), .int x193_5, .ref 201]) (w' := w) rfl ?_
      obtain ⟨b24, hs⟩ := hs
      refine tm_k (pc' := 208) (L' := [some (.ref 127), z1, z2, z3, some (.int x193_4), some (.int x193_5)]) (S' := []) (w' := (sI w 201 x193_5.toInt.toNat (-1))) rfl b24 ?_
      refine tm_go 4 (pc' := 215) (L' := [some (.ref 127), z1, z2, z3, some (.int x193_4), some (.int x193_5)]) (S' := [.long 0, .int x193_5, .ref 206]) (w' := (sI w 201 x193_5.toInt.toNat (-1))) rfl ?_
      obtain ⟨b25, hs⟩ := hs
      refine tm_k (pc' := 216) (L' := [some (.ref 127), z1, z2, z3, some (.int x193_4), some (.int x193_5)]) (S' := []) (w' := (sJ (sI w 201 x193_5.toInt.toNat (-1)) 206 x193_5.toInt.toNat 0)) rfl b25 ?_
      refine tm_go 2 (pc' := 193) (L' := [some (.ref 127), z1, z2, z3, some (.int x193_4), some (.int (x193_5 + (1 : Int32)))]) (S' := []) (w' := (sJ (sI w 201 x193_5.toInt.toNat (-1)) 206 x193_5.toInt.toNat 0)) rfl ?_
      exact ih _ _ _ _ _ hs hE
set_option maxHeartbeats 4000000 in
set_option maxRecDepth 100000 in
theorem tx_Mo_end_169 {d : Nat} {y169_1 : Int32} {ys169_0 : Int32} {z2 : Option Value} {z3 : Option Value} {z4 : Option Value} {z5 : Option Value} {w : MW} {Q : Int32 → MW → Prop} (hs : q_Mo_end_169 y169_1 ys169_0 w Q) : Tm (d + 808) 37 169 [some (.ref 127), some (.int y169_1), z2, z3, z4, z5] [.int ys169_0] w (RI Q) := by
  unfold q_Mo_end_169 at hs
  refine tm_go 3 (pc' := 173) (L' := [some (.ref 127), some (.int y169_1), z2, (ksl z3), some (.int ys169_0), z5]) (S' := [.int 2, .int y169_1]) (w' := w) rfl ?_
  refine tm_i (p1 := 222) (p2 := 176) rfl (fun h18 => ?_) (fun h18 => ?_)
  · replace hs := hs.1 h18
    refine tm_go 1 (pc' := 224) (L' := [some (.ref 127), some (.int y169_1), z2, (ksl z3), some (.int ys169_0), z5]) (S' := [.int ys169_0]) (w' := w) rfl ?_
    refine tm_i (p1 := 234) (p2 := 227) rfl (fun h19 => ?_) (fun h19 => ?_)
    · replace hs := hs.1 h19
      refine tm_go 1 (pc' := 236) (L' := [some (.ref 127), some (.int y169_1), z2, (ksl z3), some (.int ys169_0), z5]) (S' := [.int ys169_0]) (w' := w) rfl ?_
      exact tm_r rfl ⟨_, rfl, hs⟩
    · replace hs := hs.2 h19
      refine tm_go 4 (pc' := 236) (L' := [some (.ref 127), some (.int y169_1), z2, (ksl z3), some (.int ys169_0), z5]) (S' := [.int (ys169_0 - (2 : Int32))]) (w' := w) rfl ?_
      exact tm_r rfl ⟨_, rfl, hs⟩
  · replace hs := hs.2 h18
    refine tm_go 1 (pc' := 178) (L' := [some (.ref 127), some (.int y169_1), z2, (ksl z3), some (.int ys169_0), z5]) (S' := [.int ys169_0]) (w' := w) rfl ?_
    refine tm_i (p1 := 222) (p2 := 181) rfl (fun h20 => ?_) (fun h20 => ?_)
    · replace hs := hs.1 h20
      refine tm_go 1 (pc' := 224) (L' := [some (.ref 127), some (.int y169_1), z2, (ksl z3), some (.int ys169_0), z5]) (S' := [.int ys169_0]) (w' := w) rfl ?_
      refine tm_i (p1 := 234) (p2 := 227) rfl (fun h21 => ?_) (fun h21 => ?_)
      · replace hs := hs.1 h21
        refine tm_go 1 (pc' := 236) (L' := [some (.ref 127), some (.int y169_1), z2, (ksl z3), some (.int ys169_0), z5]) (S' := [.int ys169_0]) (w' := w) rfl ?_
        exact tm_r rfl ⟨_, rfl, hs⟩
      · replace hs := hs.2 h21
        refine tm_go 4 (pc' := 236) (L' := [some (.ref 127), some (.int y169_1), z2, (ksl z3), some (.int ys169_0), z5]) (S' := [.int (ys169_0 - (2 : Int32))]) (w' := w) rfl ?_
        exact tm_r rfl ⟨_, rfl, hs⟩
    · replace hs := hs.2 h20
      refine tm_go 4 (pc' := 187) (L' := [some (.ref 127), some (.int y169_1), z2, (ksl z3), some (.int ys169_0), z5]) (S' := [.ref 127]) (w' := (sI w 127 59 4)) rfl ?_
      refine tm_c rfl (Nat.le_of_ble_eq_true rfl) (dm_Mo_closeAll (d := d + 805) hs) (fun v w22 hq => ?_)
      obtain ⟨rfl, hs⟩ := hq
      refine tm_go 2 (pc' := 193) (L' := [some (.ref 127), some (.int y169_1), z2, (ksl z3), some (.int ys169_0), some (.int 0)]) (S' := []) (w' := w22) rfl ?_
      refine tx_Mo_end_193 FU _ _ _ _ _ hs (fun  z26_0 z26_1 z26_2 z26_3 z26_5 w26 hs => ?_)
      refine tm_go 1 (pc' := 224) (L' := [z26_0, z26_1, z26_2, z26_3, some (.int ys169_0), z26_5]) (S' := [.int ys169_0]) (w' := w26) rfl ?_
      refine tm_i (p1 := 234) (p2 := 227) rfl (fun h27 => ?_) (fun h27 => ?_)
      · replace hs := hs.1 h27
        refine tm_go 1 (pc' := 236) (L' := [z26_0, z26_1, z26_2, z26_3, some (.int ys169_0), z26_5]) (S' := [.int ys169_0]) (w' := w26) rfl ?_
        exact tm_r rfl ⟨_, rfl, hs⟩
      · replace hs := hs.2 h27
        refine tm_go 4 (pc' := 236) (L' := [z26_0, z26_1, z26_2, z26_3, some (.int ys169_0), z26_5]) (S' := [.int (ys169_0 - (2 : Int32))]) (w' := w26) rfl ?_
        exact tm_r rfl ⟨_, rfl, hs⟩
set_option maxHeartbeats 4000000 in
set_option maxRecDepth 100000 in
theorem tx_Mo_end_33 {d : Nat} {y33_1 : Int32} {y33_2 : Int32} {ys33_0 : Int32} {z3 : Option Value} {z4 : Option Value} {z5 : Option Value} {w : MW} {Q : Int32 → MW → Prop} (hs : q_Mo_end_33 y33_1 y33_2 ys33_0 w Q) : Tm (d + 808) 37 33 [some (.ref 127), some (.int y33_1), some (.int y33_2), z3, z4, z5] [.int ys33_0] w (RI Q) := by
  unfold q_Mo_end_33 at hs
  refine tm_go 3 (pc' := 37) (L' := [some (.ref 127), some (.int y33_1), some (.int y33_2), some (.int ys33_0), some (.int 0), z5]) (S' := []) (w' := w) rfl ?_
  refine tx_Mo_end_37 FU _ _ _ _ hs (fun e37_3_6 z6_4 z6_5 w6 hs => ?_)
  refine tm_go 4 (pc' := 75) (L' := [some (.ref 127), some (.int y33_1), some (.int y33_2), some (.int e37_3_6), z6_4, z6_5]) (S' := [.int e37_3_6]) (w' := (sI w6 127 1 0)) rfl ?_
  refine tm_i (p1 := 80) (p2 := 78) rfl (fun h7 => ?_) (fun h7 => ?_)
  · replace hs := hs.1 h7
    refine tm_go 1 (pc' := 81) (L' := [some (.ref 127), some (.int y33_1), some (.int y33_2), some (.int e37_3_6), z6_4, z6_5]) (S' := [.int y33_1]) (w' := (sI w6 127 1 0)) rfl ?_
    refine tm_i (p1 := 94) (p2 := 84) rfl (fun h8 => ?_) (fun h8 => ?_)
    · replace hs := hs.1 h8
      refine tm_go 2 (pc' := 97) (L' := [some (.ref 127), some (.int y33_1), some (.int y33_2), some (.int e37_3_6), some (.int 0), z6_5]) (S' := []) (w' := (sI w6 127 1 0)) rfl ?_
      refine tx_Mo_end_97 FU _ _ _ _ hs (fun  z15_2 z15_3 z15_4 z15_5 w15 hs => ?_)
      refine tm_go 2 (pc' := 149) (L' := [some (.ref 127), some (.int y33_1), z15_2, z15_3, z15_4, z15_5]) (S' := [.int 1, .int y33_1]) (w' := w15) rfl ?_
      refine tm_i (p1 := 162) (p2 := 152) rfl (fun h16 => ?_) (fun h16 => ?_)
      · replace hs := hs.1 h16
        refine tm_go 2 (pc' := 166) (L' := [some (.ref 127), some (.int y33_1), z15_2, z15_3, z15_4, z15_5]) (S' := [.ref 129]) (w' := w15) rfl ?_
        refine tm_c rfl (Nat.le_of_ble_eq_true rfl) (dm_Tx_read (d := d + 0) hs) (fun v w17 hq => ?_)
        obtain ⟨r17, rfl, hs⟩ := hq
        exact tx_Mo_end_169 hs 
      · replace hs := hs.2 h16
        refine tm_go 2 (pc' := 156) (L' := [some (.ref 127), some (.int y33_1), z15_2, z15_3, z15_4, z15_5]) (S' := [.ref 147]) (w' := w15) rfl ?_
        refine tm_c rfl (Nat.le_of_ble_eq_true rfl) (dm_Mr_read (d := d + 403) hs) (fun v w28 hq => ?_)
        obtain ⟨r28, rfl, hs⟩ := hq
        refine tm_go 1 (pc' := 169) (L' := [some (.ref 127), some (.int y33_1), z15_2, z15_3, z15_4, z15_5]) (S' := [.int r28]) (w' := w28) rfl ?_
        exact tx_Mo_end_169 hs 
    · replace hs := hs.2 h8
      refine tm_go 4 (pc' := 90) (L' := [some (.ref 127), some (.int y33_1), some (.int y33_2), some (.int e37_3_6), z6_4, z6_5]) (S' := [.ref 127]) (w' := (sI (sI w6 127 1 0) 127 22 y33_2)) rfl ?_
      refine tm_c rfl (Nat.le_of_ble_eq_true rfl) (dm_Mo_readPlant (d := d + 803) hs) (fun v w29 hq => ?_)
      obtain ⟨r29, rfl, hs⟩ := hq
      exact tm_r rfl ⟨_, rfl, hs⟩
  · replace hs := hs.2 h7
    refine tm_go 1 (pc' := 79) (L' := [some (.ref 127), some (.int y33_1), some (.int y33_2), some (.int e37_3_6), z6_4, z6_5]) (S' := [.int (-1)]) (w' := (sI w6 127 1 0)) rfl ?_
    exact tm_r rfl ⟨_, rfl, hs⟩
set_option maxHeartbeats 4000000 in
set_option maxRecDepth 100000 in
theorem dm_Mo_end {d : Nat} {w : MW} {a0 : Int32} {b0 : Int32} {Q : Int32 → MW → Prop} (hs : p_Mo_end w a0 b0 Q) : Tc (d + 808) 37 [.ref 127, .int a0, .int b0] w (RI Q) := by
  unfold p_Mo_end at hs
  refine tm_go 1 (pc' := 1) (L' := [some (.ref 127), some (.int a0), some (.int b0), none, none, none]) (S' := [.int a0]) (w' := w) rfl ?_
  refine tm_i (p1 := 32) (p2 := 4) rfl (fun h1 => ?_) (fun h1 => ?_)
  · replace hs := hs.1 h1
    refine tm_go 1 (pc' := 33) (L' := [some (.ref 127), some (.int a0), some (.int b0), none, none, none]) (S' := [.int 0]) (w' := w) rfl ?_
    exact tx_Mo_end_33 hs 
  · replace hs := hs.2 h1
    refine tm_go 2 (pc' := 6) (L' := [some (.ref 127), some (.int a0), some (.int b0), none, none, none]) (S' := [.int 2, .int a0]) (w' := w) rfl ?_
    refine tm_i (p1 := 32) (p2 := 9) rfl (fun h30 => ?_) (fun h30 => ?_)
    · replace hs := hs.1 h30
      refine tm_go 1 (pc' := 33) (L' := [some (.ref 127), some (.int a0), some (.int b0), none, none, none]) (S' := [.int 0]) (w' := w) rfl ?_
      exact tx_Mo_end_33 hs 
    · replace hs := hs.2 h30
      refine tm_go 1 (pc' := 10) (L' := [some (.ref 127), some (.int a0), some (.int b0), none, none, none]) (S' := [.int b0]) (w' := w) rfl ?_
      refine tm_i (p1 := 32) (p2 := 13) rfl (fun h31 => ?_) (fun h31 => ?_)
      · replace hs := hs.1 h31
        refine tm_go 1 (pc' := 33) (L' := [some (.ref 127), some (.int a0), some (.int b0), none, none, none]) (S' := [.int 0]) (w' := w) rfl ?_
        exact tx_Mo_end_33 hs 
      · replace hs := hs.2 h31
        refine tm_go 2 (pc' := 17) (L' := [some (.ref 127), some (.int a0), some (.int b0), none, none, none]) (S' := [.int 4000, .int b0]) (w' := w) rfl ?_
        refine tm_i (p1 := 32) (p2 := 20) rfl (fun h32 => ?_) (fun h32 => ?_)
        · replace hs := hs.1 h32
          refine tm_go 1 (pc' := 33) (L' := [some (.ref 127), some (.int a0), some (.int b0), none, none, none]) (S' := [.int 0]) (w' := w) rfl ?_
          exact tx_Mo_end_33 hs 
        · replace hs := hs.2 h32
          refine tm_go 3 (pc' := 25) (L' := [some (.ref 127), some (.int a0), some (.int b0), none, none, none]) (S' := [.int (w.1 127 1), .int b0]) (w' := w) rfl ?_
          refine tm_i (p1 := 32) (p2 := 28) rfl (fun h33 => ?_) (fun h33 => ?_)
          · replace hs := hs.1 h33
            refine tm_go 1 (pc' := 33) (L' := [some (.ref 127), some (.int a0), some (.int b0), none, none, none]) (S' := [.int 0]) (w' := w) rfl ?_
            exact tx_Mo_end_33 hs 
          · replace hs := hs.2 h33
            refine tm_go 2 (pc' := 33) (L' := [some (.ref 127), some (.int a0), some (.int b0), none, none, none]) (S' := [.int 1]) (w' := w) rfl ?_
            exact tx_Mo_end_33 hs 
set_option maxHeartbeats 4000000 in
set_option maxRecDepth 100000 in
theorem dm_Mo_letter {d : Nat} {w : MW} {a0 : Int32} {Q : MW → Prop} (hs : p_Mo_letter w a0 Q) : Tc (d + 0) 46 [.ref 127, .int a0] w (RV Q) := by
  unfold p_Mo_letter at hs
  refine tm_go 3 (pc' := 5) (L' := [some (.ref 127), some (.int a0)]) (S' := [.int (w.1 127 83), .ref 127]) (w' := w) rfl ?_
  refine tm_i (p1 := 12) (p2 := 8) rfl (fun h1 => ?_) (fun h1 => ?_)
  · replace hs := hs.1 h1
    refine tm_go 9 (pc' := 29) (L' := [some (.ref 127), some (.int a0)]) (S' := []) (w' := (sI (sI w 127 84 (w.1 127 84)) 127 83 ((w.1 127 83) - (1 : Int32)))) rfl ?_
    exact tm_r rfl ⟨rfl, hs⟩
  · replace hs := hs.2 h1
    refine tm_go 9 (pc' := 29) (L' := [some (.ref 127), some (.int a0)]) (S' := []) (w' := (sI (sI w 127 84 a0) 127 83 ((w.1 127 83) - (1 : Int32)))) rfl ?_
    exact tm_r rfl ⟨rfl, hs⟩
set_option maxHeartbeats 4000000 in
set_option maxRecDepth 100000 in
theorem tx_Mo_say_2 {d : Nat} {E : MW → Prop} {Q : MW → Prop} (n : Nat) : ∀ (x2_3 : Int64)  (z1 : Option Value) (z2 : Option Value) (w : MW), q_Mo_say_2  E Q n x2_3 w → (∀  (v0 : Option Value) (v1 : Option Value) (v2 : Option Value) (v3 : Option Value) (v4 : Option Value) (w : MW), E  w → Tm (d + 1) 47 26 [v0, v1, v2, v3, v4] [] w (RV Q)) → Tm (d + 1) 47 2 [some (.ref 127), z1, z2, some (.long x2_3), none] [] w (RV Q) := by
  induction n with
  | zero => intro x2_3 z1 z2 w hs; rw [q_Mo_say_2.eq_1] at hs; exact hs.elim
  | succ n ih =>
    intro x2_3 z1 z2 w hs hE
    rw [q_Mo_say_2.eq_2] at hs
    refine tm_go 3 (pc' := 5) (L' := [some (.ref 127), z1, z2, some (.long x2_3), none]) (S' := [.int (lg_cmp x2_3 (0 : Int64))]) (w' := w) rfl ?_
    refine tm_i (p1 := 26) (p2 := 8) rfl (fun h1 => ?_) (fun h1 => ?_)
    · replace hs := hs.1 h1
      exact hE _ _ _ _ _ _ hs
    · replace hs := hs.2 h1
      refine tm_go 5 (pc' := 15) (L' := [some (.ref 127), z1, z2, some (.long x2_3), none]) (S' := [.int (Int64.toInt32 (x2_3 &&& (255 : Int64))), .ref 127]) (w' := w) rfl ?_
      refine tm_c rfl (Nat.le_of_ble_eq_true rfl) (dm_Mo_letter (d := d + 0) hs) (fun v w2 hq => ?_)
      obtain ⟨rfl, hs⟩ := hq
      refine tm_go 5 (pc' := 2) (L' := [some (.ref 127), z1, (ksl z2), some (.long ((x2_3.toUInt64 >>> ((8 : Int32).toInt64.toUInt64 &&& Int64.toUInt64 63)).toInt64)), none]) (S' := []) (w' := w2) rfl ?_
      exact ih _ _ _ _ hs hE
set_option maxHeartbeats 4000000 in
set_option maxRecDepth 100000 in
theorem dm_Mo_say {d : Nat} {w : MW} {a0 : Int64} {Q : MW → Prop} (hs : p_Mo_say w a0 Q) : Tc (d + 1) 47 [.ref 127, .long a0] w (RV Q) := by
  unfold p_Mo_say at hs
  refine tm_go 2 (pc' := 2) (L' := [some (.ref 127), some (.long a0), none, some (.long a0), none]) (S' := []) (w' := w) rfl ?_
  refine tx_Mo_say_2 FU _ _ _ _ hs (fun  z3_0 z3_1 z3_2 z3_3 z3_4 w3 hs => ?_)
  exact tm_r rfl ⟨rfl, hs⟩
set_option maxHeartbeats 4000000 in
set_option maxRecDepth 100000 in
theorem tx_Mo_sayNumber_19 {d : Nat} {x19_1 : Int32} {E : Int32 → MW → Prop} {Q : MW → Prop} (n : Nat) : ∀ (x19_2 : Int32)  (z3 : Option Value) (w : MW), q_Mo_sayNumber_19 x19_1 E Q n x19_2 w → (∀ (e19_2 : Int32)  (v3 : Option Value) (w : MW), E e19_2 w → Tm (d + 1) 48 35 [some (.ref 127), some (.int x19_1), some (.int e19_2), v3] [] w (RV Q)) → Tm (d + 1) 48 19 [some (.ref 127), some (.int x19_1), some (.int x19_2), z3] [] w (RV Q) := by
  induction n with
  | zero => intro x19_2 z3 w hs; rw [q_Mo_sayNumber_19.eq_1] at hs; exact hs.elim
  | succ n ih =>
    intro x19_2 z3 w hs hE
    rw [q_Mo_sayNumber_19.eq_2] at hs
    refine tm_go 2 (pc' := 21) (L' := [some (.ref 127), some (.int x19_1), some (.int x19_2), z3]) (S' := [.int x19_2, .int x19_1]) (w' := w) rfl ?_
    obtain ⟨b3, hs⟩ := hs
    refine tm_k (pc' := 22) (L' := [some (.ref 127), some (.int x19_1), some (.int x19_2), z3]) (S' := [.int (x19_1 / x19_2)]) (w' := w) rfl b3 ?_
    refine tm_go 1 (pc' := 24) (L' := [some (.ref 127), some (.int x19_1), some (.int x19_2), z3]) (S' := [.int 10, .int (x19_1 / x19_2)]) (w' := w) rfl ?_
    refine tm_i (p1 := 35) (p2 := 27) rfl (fun h4 => ?_) (fun h4 => ?_)
    · replace hs := hs.1 h4
      exact hE _ _ _ hs
    · replace hs := hs.2 h4
      refine tm_go 5 (pc' := 19) (L' := [some (.ref 127), some (.int x19_1), some (.int (x19_2 * (10 : Int32))), z3]) (S' := []) (w' := w) rfl ?_
      exact ih _ _ _ hs hE
set_option maxHeartbeats 4000000 in
set_option maxRecDepth 100000 in
theorem tx_Mo_sayNumber_37 {d : Nat} {x37_1 : Int32} {E : MW → Prop} {Q : MW → Prop} (n : Nat) : ∀ (x37_3 : Int32)  (z2 : Option Value) (w : MW), q_Mo_sayNumber_37 x37_1 E Q n x37_3 w → (∀  (v0 : Option Value) (v1 : Option Value) (v2 : Option Value) (v3 : Option Value) (w : MW), E  w → Tm (d + 1) 48 62 [v0, v1, v2, v3] [] w (RV Q)) → Tm (d + 1) 48 37 [some (.ref 127), some (.int x37_1), z2, some (.int x37_3)] [] w (RV Q) := by
  induction n with
  | zero => intro x37_3 z2 w hs; rw [q_Mo_sayNumber_37.eq_1] at hs; exact hs.elim
  | succ n ih =>
    intro x37_3 z2 w hs hE
    rw [q_Mo_sayNumber_37.eq_2] at hs
    refine tm_go 1 (pc' := 38) (L' := [some (.ref 127), some (.int x37_1), z2, some (.int x37_3)]) (S' := [.int x37_3]) (w' := w) rfl ?_
    refine tm_i (p1 := 62) (p2 := 41) rfl (fun h6 => ?_) (fun h6 => ?_)
    · replace hs := hs.1 h6
      exact hE _ _ _ _ _ hs
    · replace hs := hs.2 h6
      refine tm_go 4 (pc' := 46) (L' := [some (.ref 127), some (.int x37_1), z2, some (.int x37_3)]) (S' := [.int x37_3, .int x37_1, .int 48, .ref 127]) (w' := w) rfl ?_
      obtain ⟨b7, hs⟩ := hs
      refine tm_k (pc' := 47) (L' := [some (.ref 127), some (.int x37_1), z2, some (.int x37_3)]) (S' := [.int (x37_1 / x37_3), .int 48, .ref 127]) (w' := w) rfl b7 ?_
      refine tm_go 3 (pc' := 51) (L' := [some (.ref 127), some (.int x37_1), z2, some (.int x37_3)]) (S' := [.int ((48 : Int32) + ((x37_1 / x37_3) - (x37_1 / x37_3) / (10 : Int32) * (10 : Int32))), .ref 127]) (w' := w) rfl ?_
      refine tm_c rfl (Nat.le_of_ble_eq_true rfl) (dm_Mo_letter (d := d + 0) hs) (fun v w8 hq => ?_)
      obtain ⟨rfl, hs⟩ := hq
      refine tm_go 5 (pc' := 37) (L' := [some (.ref 127), some (.int x37_1), (ksl z2), some (.int (x37_3 / (10 : Int32)))]) (S' := []) (w' := w8) rfl ?_
      exact ih _ _ _ hs hE
set_option maxHeartbeats 4000000 in
set_option maxRecDepth 100000 in
theorem dm_Mo_sayNumber {d : Nat} {w : MW} {a0 : Int32} {Q : MW → Prop} (hs : p_Mo_sayNumber w a0 Q) : Tc (d + 1) 48 [.ref 127, .int a0] w (RV Q) := by
  unfold p_Mo_sayNumber at hs
  refine tm_go 2 (pc' := 3) (L' := [some (.ref 127), some (.int a0), none, none]) (S' := [.int 32, .ref 127]) (w' := w) rfl ?_
  refine tm_c rfl (Nat.le_of_ble_eq_true rfl) (dm_Mo_letter (d := d + 0) hs) (fun v w1 hq => ?_)
  obtain ⟨rfl, hs⟩ := hq
  refine tm_go 1 (pc' := 7) (L' := [some (.ref 127), some (.int a0), none, none]) (S' := [.int a0]) (w' := w1) rfl ?_
  refine tm_i (p1 := 17) (p2 := 10) rfl (fun h2 => ?_) (fun h2 => ?_)
  · replace hs := hs.1 h2
    refine tm_go 2 (pc' := 19) (L' := [some (.ref 127), some (.int a0), some (.int 1), none]) (S' := []) (w' := w1) rfl ?_
    refine tx_Mo_sayNumber_19 FU _ _ _ hs (fun e19_2_5 z5_3 w5 hs => ?_)
    refine tm_go 2 (pc' := 37) (L' := [some (.ref 127), some (.int a0), some (.int e19_2_5), some (.int e19_2_5)]) (S' := []) (w' := w5) rfl ?_
    refine tx_Mo_sayNumber_37 FU _ _ _ hs (fun  z9_0 z9_1 z9_2 z9_3 w9 hs => ?_)
    exact tm_r rfl ⟨rfl, hs⟩
  · replace hs := hs.2 h2
    refine tm_go 2 (pc' := 13) (L' := [some (.ref 127), some (.int a0), none, none]) (S' := [.int 45, .ref 127]) (w' := w1) rfl ?_
    refine tm_c rfl (Nat.le_of_ble_eq_true rfl) (dm_Mo_letter (d := d + 0) hs) (fun v w10 hq => ?_)
    obtain ⟨rfl, hs⟩ := hq
    exact tm_r rfl ⟨rfl, hs⟩
set_option maxHeartbeats 4000000 in
set_option maxRecDepth 100000 in
theorem tx_Mo_write_59 {d : Nat} {x12_1 : Int32} {y59_2 : Int32} {ys59_0 : Int64}  {w : MW} {A : Int32 → MW → Prop} {E : MW → Prop} {Q : Int32 → MW → Prop} (hs : q_Mo_write_59 x12_1 y59_2 ys59_0 w A E Q) (hA : ∀ (x12_2 : Int32)   (w : MW), A x12_2 w → Tm (d + 2) 49 12 [some (.ref 127), some (.int x12_1), some (.int x12_2)] [] w (RI Q)) (hE : ∀  (v2 : Option Value) (w : MW), E  w → Tm (d + 2) 49 114 [some (.ref 127), some (.int x12_1), v2] [] w (RI Q)) : Tm (d + 2) 49 59 [some (.ref 127), some (.int x12_1), some (.int y59_2)] [.long ys59_0, .ref 127] w (RI Q) := by
  unfold q_Mo_write_59 at hs
  refine tm_c rfl (Nat.le_of_ble_eq_true rfl) (dm_Mo_say (d := d + 0) hs) (fun v w7 hq => ?_)
  obtain ⟨rfl, hs⟩ := hq
  refine tm_go 3 (pc' := 67) (L' := [some (.ref 127), some (.int x12_1), some (.int y59_2)]) (S' := [.int y59_2, .ref 163]) (w' := w7) rfl ?_
  obtain ⟨b8, hs⟩ := hs
  refine tm_k (pc' := 68) (L' := [some (.ref 127), some (.int x12_1), some (.int y59_2)]) (S' := [.int (w7.1 163 y59_2.toInt.toNat)]) (w' := w7) rfl b8 ?_
  refine tm_go 1 (pc' := 69) (L' := [some (.ref 127), some (.int x12_1), some (.int y59_2)]) (S' := [.int 1, .int (w7.1 163 y59_2.toInt.toNat)]) (w' := w7) rfl ?_
  refine tm_i (p1 := 102) (p2 := 72) rfl (fun h9 => ?_) (fun h9 => ?_)
  · replace hs := hs.1 h9
    refine tm_go 2 (pc' := 105) (L' := [some (.ref 127), some (.int x12_1), some (.int y59_2)]) (S' := [.int 10, .ref 127]) (w' := w7) rfl ?_
    refine tm_c rfl (Nat.le_of_ble_eq_true rfl) (dm_Mo_letter (d := d + 1) hs) (fun v w10 hq => ?_)
    obtain ⟨rfl, hs⟩ := hq
    refine tm_go 2 (pc' := 12) (L' := [some (.ref 127), some (.int x12_1), some (.int (y59_2 + (1 : Int32)))]) (S' := []) (w' := w10) rfl ?_
    exact hA _ _ hs
  · replace hs := hs.2 h9
    refine tm_go 4 (pc' := 78) (L' := [some (.ref 127), some (.int x12_1), some (.int y59_2)]) (S' := [.int y59_2, .ref 163, .ref 127]) (w' := w7) rfl ?_
    obtain ⟨b11, hs⟩ := hs
    refine tm_k (pc' := 79) (L' := [some (.ref 127), some (.int x12_1), some (.int y59_2)]) (S' := [.int (w7.1 163 y59_2.toInt.toNat), .ref 127]) (w' := w7) rfl b11 ?_
    refine tm_i (p1 := 91) (p2 := 82) rfl (fun h12 => ?_) (fun h12 => ?_)
    · replace hs := hs.1 h12
      refine tm_go 3 (pc' := 96) (L' := [some (.ref 127), some (.int x12_1), some (.int y59_2)]) (S' := [.int y59_2, .ref 163, .ref 127]) (w' := w7) rfl ?_
      obtain ⟨b13, hs⟩ := hs
      refine tm_k (pc' := 97) (L' := [some (.ref 127), some (.int x12_1), some (.int y59_2)]) (S' := [.int (w7.1 163 y59_2.toInt.toNat), .ref 127]) (w' := w7) rfl b13 ?_
      refine tm_go 2 (pc' := 99) (L' := [some (.ref 127), some (.int x12_1), some (.int y59_2)]) (S' := [.int ((w7.1 163 y59_2.toInt.toNat) - (2 : Int32)), .ref 127]) (w' := w7) rfl ?_
      refine tm_c rfl (Nat.le_of_ble_eq_true rfl) (dm_Mo_sayNumber (d := d + 0) hs) (fun v w14 hq => ?_)
      obtain ⟨rfl, hs⟩ := hq
      refine tm_go 2 (pc' := 105) (L' := [some (.ref 127), some (.int x12_1), some (.int y59_2)]) (S' := [.int 10, .ref 127]) (w' := w14) rfl ?_
      refine tm_c rfl (Nat.le_of_ble_eq_true rfl) (dm_Mo_letter (d := d + 1) hs) (fun v w15 hq => ?_)
      obtain ⟨rfl, hs⟩ := hq
      refine tm_go 2 (pc' := 12) (L' := [some (.ref 127), some (.int x12_1), some (.int (y59_2 + (1 : Int32)))]) (S' := []) (w' := w15) rfl ?_
      exact hA _ _ hs
    · replace hs := hs.2 h12
      refine tm_go 3 (pc' := 87) (L' := [some (.ref 127), some (.int x12_1), some (.int y59_2)]) (S' := [.int y59_2, .ref 164, .ref 127]) (w' := w7) rfl ?_
      obtain ⟨b16, hs⟩ := hs
      refine tm_k (pc' := 88) (L' := [some (.ref 127), some (.int x12_1), some (.int y59_2)]) (S' := [.int (w7.1 164 y59_2.toInt.toNat), .ref 127]) (w' := w7) rfl b16 ?_
      refine tm_go 1 (pc' := 99) (L' := [some (.ref 127), some (.int x12_1), some (.int y59_2)]) (S' := [.int (w7.1 164 y59_2.toInt.toNat), .ref 127]) (w' := w7) rfl ?_
      refine tm_c rfl (Nat.le_of_ble_eq_true rfl) (dm_Mo_sayNumber (d := d + 0) hs) (fun v w17 hq => ?_)
      obtain ⟨rfl, hs⟩ := hq
      refine tm_go 2 (pc' := 105) (L' := [some (.ref 127), some (.int x12_1), some (.int y59_2)]) (S' := [.int 10, .ref 127]) (w' := w17) rfl ?_
      refine tm_c rfl (Nat.le_of_ble_eq_true rfl) (dm_Mo_letter (d := d + 1) hs) (fun v w18 hq => ?_)
      obtain ⟨rfl, hs⟩ := hq
      refine tm_go 2 (pc' := 12) (L' := [some (.ref 127), some (.int x12_1), some (.int (y59_2 + (1 : Int32)))]) (S' := []) (w' := w18) rfl ?_
      exact hA _ _ hs
set_option maxHeartbeats 4000000 in
set_option maxRecDepth 100000 in
theorem tx_Mo_write_12 {d : Nat} {x12_1 : Int32} {E : MW → Prop} {Q : Int32 → MW → Prop} (n : Nat) : ∀ (x12_2 : Int32)   (w : MW), q_Mo_write_12 x12_1 E Q n x12_2 w → (∀  (v2 : Option Value) (w : MW), E  w → Tm (d + 2) 49 114 [some (.ref 127), some (.int x12_1), v2] [] w (RI Q)) → Tm (d + 2) 49 12 [some (.ref 127), some (.int x12_1), some (.int x12_2)] [] w (RI Q) := by
  induction n with
  | zero => intro x12_2  w hs; rw [q_Mo_write_12.eq_1] at hs; exact hs.elim
  | succ n ih =>
    intro x12_2  w hs hE
    rw [q_Mo_write_12.eq_2] at hs
    refine tm_go 3 (pc' := 17) (L' := [some (.ref 127), some (.int x12_1), some (.int x12_2)]) (S' := [.int (w.1 127 4), .int x12_2]) (w' := w) rfl ?_
    refine tm_i (p1 := 114) (p2 := 20) rfl (fun h1 => ?_) (fun h1 => ?_)
    · replace hs := hs.1 h1
      exact hE _ _ hs
    · replace hs := hs.2 h1
      refine tm_go 1 (pc' := 21) (L' := [some (.ref 127), some (.int x12_1), some (.int x12_2)]) (S' := [.int x12_1]) (w' := w) rfl ?_
      refine tm_i (p1 := 114) (p2 := 24) rfl (fun h2 => ?_) (fun h2 => ?_)
      · replace hs := hs.1 h2
        exact hE _ _ hs
      · replace hs := hs.2 h2
        refine tm_go 4 (pc' := 30) (L' := [some (.ref 127), some (.int x12_1), some (.int x12_2)]) (S' := [.int x12_2, .ref 163, .ref 127]) (w' := w) rfl ?_
        obtain ⟨b3, hs⟩ := hs
        refine tm_k (pc' := 31) (L' := [some (.ref 127), some (.int x12_1), some (.int x12_2)]) (S' := [.int (w.1 163 x12_2.toInt.toNat), .ref 127]) (w' := w) rfl b3 ?_
        refine tm_i (p1 := 40) (p2 := 34) rfl (fun h4 => ?_) (fun h4 => ?_)
        · replace hs := hs.1 h4
          refine tm_go 3 (pc' := 45) (L' := [some (.ref 127), some (.int x12_1), some (.int x12_2)]) (S' := [.int x12_2, .ref 163, .ref 127]) (w' := w) rfl ?_
          obtain ⟨b5, hs⟩ := hs
          refine tm_k (pc' := 46) (L' := [some (.ref 127), some (.int x12_1), some (.int x12_2)]) (S' := [.int (w.1 163 x12_2.toInt.toNat), .ref 127]) (w' := w) rfl b5 ?_
          refine tm_go 1 (pc' := 47) (L' := [some (.ref 127), some (.int x12_1), some (.int x12_2)]) (S' := [.int 1, .int (w.1 163 x12_2.toInt.toNat), .ref 127]) (w' := w) rfl ?_
          refine tm_i (p1 := 56) (p2 := 50) rfl (fun h6 => ?_) (fun h6 => ?_)
          · replace hs := hs.1 h6
            refine tm_go 1 (pc' := 59) (L' := [some (.ref 127), some (.int x12_1), some (.int x12_2)]) (S' := [.long 435778511222, .ref 127]) (w' := w) rfl ?_
            exact tx_Mo_write_59 hs (fun q0 q1 hs => ih q0 q1 hs hE) hE
          · replace hs := hs.2 h6
            refine tm_go 2 (pc' := 59) (L' := [some (.ref 127), some (.int x12_1), some (.int x12_2)]) (S' := [.long 1886221680, .ref 127]) (w' := w) rfl ?_
            exact tx_Mo_write_59 hs (fun q0 q1 hs => ih q0 q1 hs hE) hE
        · replace hs := hs.2 h4
          refine tm_go 2 (pc' := 59) (L' := [some (.ref 127), some (.int x12_1), some (.int x12_2)]) (S' := [.long 1802396020, .ref 127]) (w' := w) rfl ?_
          exact tx_Mo_write_59 hs (fun q0 q1 hs => ih q0 q1 hs hE) hE
set_option maxHeartbeats 4000000 in
set_option maxRecDepth 100000 in
theorem tx_Mo_write_116 {d : Nat} {x116_1 : Int32} {E : MW → Prop} {Q : Int32 → MW → Prop} (n : Nat) : ∀ (x116_2 : Int32)   (w : MW), q_Mo_write_116 x116_1 E Q n x116_2 w → (∀  (v1 : Option Value) (v2 : Option Value) (w : MW), E  w → Tm (d + 2) 49 183 [some (.ref 127), v1, v2] [] w (RI Q)) → Tm (d + 2) 49 116 [some (.ref 127), some (.int x116_1), some (.int x116_2)] [] w (RI Q) := by
  induction n with
  | zero => intro x116_2  w hs; rw [q_Mo_write_116.eq_1] at hs; exact hs.elim
  | succ n ih =>
    intro x116_2  w hs hE
    rw [q_Mo_write_116.eq_2] at hs
    refine tm_go 3 (pc' := 121) (L' := [some (.ref 127), some (.int x116_1), some (.int x116_2)]) (S' := [.int (w.1 127 11), .int x116_2]) (w' := w) rfl ?_
    refine tm_i (p1 := 183) (p2 := 124) rfl (fun h20 => ?_) (fun h20 => ?_)
    · replace hs := hs.1 h20
      exact hE _ _ _ hs
    · replace hs := hs.2 h20
      refine tm_go 1 (pc' := 125) (L' := [some (.ref 127), some (.int x116_1), some (.int x116_2)]) (S' := [.int x116_1]) (w' := w) rfl ?_
      refine tm_i (p1 := 183) (p2 := 128) rfl (fun h21 => ?_) (fun h21 => ?_)
      · replace hs := hs.1 h21
        exact hE _ _ _ hs
      · replace hs := hs.2 h21
        refine tm_go 2 (pc' := 132) (L' := [some (.ref 127), some (.int x116_1), some (.int x116_2)]) (S' := [.long 1701865840, .ref 127]) (w' := w) rfl ?_
        refine tm_c rfl (Nat.le_of_ble_eq_true rfl) (dm_Mo_say (d := d + 0) hs) (fun v w22 hq => ?_)
        obtain ⟨rfl, hs⟩ := hq
        refine tm_go 6 (pc' := 143) (L' := [some (.ref 127), some (.int x116_1), some (.int x116_2)]) (S' := [.int ((2 : Int32) * x116_2), .ref 170, .ref 127]) (w' := w22) rfl ?_
        obtain ⟨b23, hs⟩ := hs
        refine tm_k (pc' := 144) (L' := [some (.ref 127), some (.int x116_1), some (.int x116_2)]) (S' := [.int (w22.1 170 (((2 : Int32) * x116_2).toInt.toNat)), .ref 127]) (w' := w22) rfl b23 ?_
        refine tm_c rfl (Nat.le_of_ble_eq_true rfl) (dm_Mo_sayNumber (d := d + 0) hs) (fun v w24 hq => ?_)
        obtain ⟨rfl, hs⟩ := hq
        refine tm_go 8 (pc' := 157) (L' := [some (.ref 127), some (.int x116_1), some (.int x116_2)]) (S' := [.int (((2 : Int32) * x116_2) + (1 : Int32)), .ref 170, .ref 127]) (w' := w24) rfl ?_
        obtain ⟨b25, hs⟩ := hs
        refine tm_k (pc' := 158) (L' := [some (.ref 127), some (.int x116_1), some (.int x116_2)]) (S' := [.int (w24.1 170 ((((2 : Int32) * x116_2) + (1 : Int32)).toInt.toNat)), .ref 127]) (w' := w24) rfl b25 ?_
        refine tm_c rfl (Nat.le_of_ble_eq_true rfl) (dm_Mo_sayNumber (d := d + 0) hs) (fun v w26 hq => ?_)
        obtain ⟨rfl, hs⟩ := hq
        refine tm_go 4 (pc' := 167) (L' := [some (.ref 127), some (.int x116_1), some (.int x116_2)]) (S' := [.int x116_2, .ref 169, .ref 127]) (w' := w26) rfl ?_
        obtain ⟨b27, hs⟩ := hs
        refine tm_k (pc' := 168) (L' := [some (.ref 127), some (.int x116_1), some (.int x116_2)]) (S' := [.int (w26.1 169 x116_2.toInt.toNat), .ref 127]) (w' := w26) rfl b27 ?_
        refine tm_c rfl (Nat.le_of_ble_eq_true rfl) (dm_Mo_sayNumber (d := d + 0) hs) (fun v w28 hq => ?_)
        obtain ⟨rfl, hs⟩ := hq
        refine tm_go 2 (pc' := 174) (L' := [some (.ref 127), some (.int x116_1), some (.int x116_2)]) (S' := [.int 10, .ref 127]) (w' := w28) rfl ?_
        refine tm_c rfl (Nat.le_of_ble_eq_true rfl) (dm_Mo_letter (d := d + 1) hs) (fun v w29 hq => ?_)
        obtain ⟨rfl, hs⟩ := hq
        refine tm_go 2 (pc' := 116) (L' := [some (.ref 127), some (.int x116_1), some (.int (x116_2 + (1 : Int32)))]) (S' := []) (w' := w29) rfl ?_
        exact ih _ _ hs hE
set_option maxHeartbeats 4000000 in
set_option maxRecDepth 100000 in
theorem dm_Mo_write {d : Nat} {w : MW} {a0 : Int32} {Q : Int32 → MW → Prop} (hs : p_Mo_write w a0 Q) : Tc (d + 2) 49 [.ref 127, .int a0] w (RI Q) := by
  unfold p_Mo_write at hs
  refine tm_go 8 (pc' := 12) (L' := [some (.ref 127), some (.int a0), some (.int 0)]) (S' := []) (w' := (sI (sI w 127 83 a0) 127 84 (-1))) rfl ?_
  refine tx_Mo_write_12 FU _ _ hs (fun  z19_2 w19 hs => ?_)
  refine tm_go 2 (pc' := 116) (L' := [some (.ref 127), some (.int a0), some (.int 0)]) (S' := []) (w' := w19) rfl ?_
  refine tx_Mo_write_116 FU _ _ hs (fun  z30_1 z30_2 w30 hs => ?_)
  refine tm_go 2 (pc' := 187) (L' := [some (.ref 127), z30_1, z30_2]) (S' := [.int (w30.1 127 84)]) (w' := w30) rfl ?_
  exact tm_r rfl ⟨_, rfl, hs⟩
set_option maxHeartbeats 4000000 in
set_option maxRecDepth 100000 in
theorem tx_Mo_flood_5 {d : Nat} {x5_1 : Int32} {E : Int64 → MW → Prop} {Q : Int64 → MW → Prop} (n : Nat) : ∀ (x5_2 : Int64) (x5_4 : Int32)  (z5 : Option Value) (z6 : Option Value) (z7 : Option Value) (w : MW), q_Mo_flood_5 x5_1 E Q n x5_2 x5_4 w → (∀ (e5_2 : Int64)  (v1 : Option Value) (v4 : Option Value) (v5 : Option Value) (v6 : Option Value) (v7 : Option Value) (w : MW), E e5_2 w → Tm (d + 0) 64 47 [some (.ref 127), v1, some (.long e5_2), none, v4, v5, v6, v7] [] w (RJ Q)) → Tm (d + 0) 64 5 [some (.ref 127), some (.int x5_1), some (.long x5_2), none, some (.int x5_4), z5, z6, z7] [] w (RJ Q) := by
  induction n with
  | zero => intro x5_2 x5_4 z5 z6 z7 w hs; rw [q_Mo_flood_5.eq_1] at hs; exact hs.elim
  | succ n ih =>
    intro x5_2 x5_4 z5 z6 z7 w hs hE
    rw [q_Mo_flood_5.eq_2] at hs
    refine tm_go 6 (pc' := 16) (L' := [some (.ref 127), some (.int x5_1), some (.long x5_2), none, some (.int x5_4), z5, z6, z7]) (S' := [.int ((w.1 127 4) + (w.1 127 11)), .int x5_4]) (w' := w) rfl ?_
    refine tm_i (p1 := 47) (p2 := 19) rfl (fun h1 => ?_) (fun h1 => ?_)
    · replace hs := hs.1 h1
      exact hE _ _ _ _ _ _ _ hs
    · replace hs := hs.2 h1
      refine tm_go 4 (pc' := 26) (L' := [some (.ref 127), some (.int x5_1), some (.long x5_2), none, some (.int x5_4), z5, z6, z7]) (S' := [.int x5_4, .ref 194, .long x5_2]) (w' := w) rfl ?_
      obtain ⟨b2, hs⟩ := hs
      refine tm_k (pc' := 27) (L' := [some (.ref 127), some (.int x5_1), some (.long x5_2), none, some (.int x5_4), z5, z6, z7]) (S' := [.int (w.1 194 x5_4.toInt.toNat), .long x5_2]) (w' := w) rfl b2 ?_
      refine tm_go 1 (pc' := 28) (L' := [some (.ref 127), some (.int x5_1), some (.long x5_2), none, some (.int x5_4), z5, z6, z7]) (S' := [.int x5_1, .int (w.1 194 x5_4.toInt.toNat), .long x5_2]) (w' := w) rfl ?_
      refine tm_i (p1 := 38) (p2 := 31) rfl (fun h3 => ?_) (fun h3 => ?_)
      · replace hs := hs.1 h3
        refine tm_go 5 (pc' := 5) (L' := [some (.ref 127), some (.int x5_1), some (.long (x5_2 ||| (0 : Int64))), none, some (.int (x5_4 + (1 : Int32))), z5, z6, z7]) (S' := []) (w' := w) rfl ?_
        exact ih _ _ _ _ _ _ hs hE
      · replace hs := hs.2 h3
        refine tm_go 8 (pc' := 5) (L' := [some (.ref 127), some (.int x5_1), some (.long (x5_2 ||| ((1 : Int64) <<< (x5_4.toInt64 &&& 63)))), none, some (.int (x5_4 + (1 : Int32))), z5, z6, z7]) (S' := []) (w' := w) rfl ?_
        exact ih _ _ _ _ _ _ hs hE
set_option maxHeartbeats 4000000 in
set_option maxRecDepth 100000 in
theorem tx_Mo_flood_71 {d : Nat} {x71_5 : Int64} {E : Int64 → MW → Prop} {Q : Int64 → MW → Prop} (n : Nat) : ∀ (x71_2 : Int64) (x71_7 : Int32)  (z1 : Option Value) (z4 : Option Value) (w : MW), q_Mo_flood_71 x71_5 E Q n x71_2 x71_7 w → (∀ (e71_2 : Int64)  (v1 : Option Value) (v4 : Option Value) (v7 : Option Value) (w : MW), E e71_2 w → Tm (d + 0) 64 116 [some (.ref 127), v1, some (.long e71_2), none, v4, some (.long x71_5), none, v7] [] w (RJ Q)) → Tm (d + 0) 64 71 [some (.ref 127), z1, some (.long x71_2), none, z4, some (.long x71_5), none, some (.int x71_7)] [] w (RJ Q) := by
  induction n with
  | zero => intro x71_2 x71_7 z1 z4 w hs; rw [q_Mo_flood_71.eq_1] at hs; exact hs.elim
  | succ n ih =>
    intro x71_2 x71_7 z1 z4 w hs hE
    rw [q_Mo_flood_71.eq_2] at hs
    refine tm_go 6 (pc' := 82) (L' := [some (.ref 127), z1, some (.long x71_2), none, z4, some (.long x71_5), none, some (.int x71_7)]) (S' := [.int ((w.1 127 4) + (w.1 127 11)), .int x71_7]) (w' := w) rfl ?_
    refine tm_i (p1 := 116) (p2 := 85) rfl (fun h7 => ?_) (fun h7 => ?_)
    · replace hs := hs.1 h7
      exact hE _ _ _ _ _ hs
    · replace hs := hs.2 h7
      refine tm_go 8 (pc' := 94) (L' := [some (.ref 127), z1, some (.long x71_2), none, z4, some (.long x71_5), none, some (.int x71_7)]) (S' := [.int (lg_cmp ((x71_2 >>> (x71_7.toInt64 &&& 63)) &&& (1 : Int64)) (0 : Int64)), .long x71_2]) (w' := w) rfl ?_
      refine tm_i (p1 := 107) (p2 := 97) rfl (fun h8 => ?_) (fun h8 => ?_)
      · replace hs := hs.1 h8
        refine tm_go 5 (pc' := 71) (L' := [some (.ref 127), (ksl z1), some (.long (x71_2 ||| (0 : Int64))), none, z4, some (.long x71_5), none, some (.int (x71_7 + (1 : Int32)))]) (S' := []) (w' := w) rfl ?_
        exact ih _ _ _ _ _ hs hE
      · replace hs := hs.2 h8
        refine tm_go 3 (pc' := 103) (L' := [some (.ref 127), z1, some (.long x71_2), none, z4, some (.long x71_5), none, some (.int x71_7)]) (S' := [.int x71_7, .ref 195, .long x71_2]) (w' := w) rfl ?_
        obtain ⟨b9, hs⟩ := hs
        refine tm_k (pc' := 104) (L' := [some (.ref 127), z1, some (.long x71_2), none, z4, some (.long x71_5), none, some (.int x71_7)]) (S' := [.long (w.2.1 195 x71_7.toInt.toNat), .long x71_2]) (w' := w) rfl b9 ?_
        refine tm_go 5 (pc' := 71) (L' := [some (.ref 127), (ksl z1), some (.long (x71_2 ||| (w.2.1 195 x71_7.toInt.toNat))), none, z4, some (.long x71_5), none, some (.int (x71_7 + (1 : Int32)))]) (S' := []) (w' := w) rfl ?_
        exact ih _ _ _ _ _ hs hE
set_option maxHeartbeats 4000000 in
set_option maxRecDepth 100000 in
theorem tx_Mo_flood_60 {d : Nat} {E : Int64 → MW → Prop} {Q : Int64 → MW → Prop} (n : Nat) : ∀ (x60_2 : Int64) (x60_4 : Int32)  (z1 : Option Value) (z5 : Option Value) (z6 : Option Value) (z7 : Option Value) (w : MW), q_Mo_flood_60  E Q n x60_2 x60_4 w → (∀ (e60_2 : Int64)  (v0 : Option Value) (v1 : Option Value) (v4 : Option Value) (v5 : Option Value) (v6 : Option Value) (v7 : Option Value) (w : MW), E e60_2 w → Tm (d + 0) 64 133 [v0, v1, some (.long e60_2), none, v4, v5, v6, v7] [] w (RJ Q)) → Tm (d + 0) 64 60 [some (.ref 127), z1, some (.long x60_2), none, some (.int x60_4), z5, z6, z7] [] w (RJ Q) := by
  induction n with
  | zero => intro x60_2 x60_4 z1 z5 z6 z7 w hs; rw [q_Mo_flood_60.eq_1] at hs; exact hs.elim
  | succ n ih =>
    intro x60_2 x60_4 z1 z5 z6 z7 w hs hE
    rw [q_Mo_flood_60.eq_2] at hs
    refine tm_go 1 (pc' := 62) (L' := [some (.ref 127), z1, some (.long x60_2), none, some (.int x60_4), z5, z6, z7]) (S' := [.int x60_4]) (w' := w) rfl ?_
    refine tm_i (p1 := 133) (p2 := 65) rfl (fun h6 => ?_) (fun h6 => ?_)
    · replace hs := hs.1 h6
      exact hE _ _ _ _ _ _ _ _ hs
    · replace hs := hs.2 h6
      refine tm_go 4 (pc' := 71) (L' := [some (.ref 127), z1, some (.long x60_2), none, some (.int x60_4), some (.long x60_2), none, some (.int 0)]) (S' := []) (w' := w) rfl ?_
      refine tx_Mo_flood_71 FU _ _ _ _ _ hs (fun e71_2_10 z10_1 z10_4 z10_7 w10 hs => ?_)
      refine tm_go 3 (pc' := 120) (L' := [some (.ref 127), z10_1, some (.long e71_2_10), none, z10_4, some (.long x60_2), none, z10_7]) (S' := [.int (lg_cmp e71_2_10 x60_2)]) (w' := w10) rfl ?_
      refine tm_i (p1 := 127) (p2 := 123) rfl (fun h11 => ?_) (fun h11 => ?_)
      · replace hs := hs.1 h11
        refine tm_go 3 (pc' := 60) (L' := [some (.ref 127), z10_1, some (.long e71_2_10), none, some (.int 0), some (.long x60_2), none, z10_7]) (S' := []) (w' := w10) rfl ?_
        exact ih _ _ _ _ _ _ _ hs hE
      · replace hs := hs.2 h11
        refine tm_go 4 (pc' := 60) (L' := [some (.ref 127), z10_1, some (.long e71_2_10), none, some (.int 1), some (.long x60_2), none, z10_7]) (S' := []) (w' := w10) rfl ?_
        exact ih _ _ _ _ _ _ _ hs hE
set_option maxHeartbeats 4000000 in
set_option maxRecDepth 100000 in
theorem dm_Mo_flood {d : Nat} {w : MW} {a0 : Int32} {Q : Int64 → MW → Prop} (hs : p_Mo_flood w a0 Q) : Tc (d + 0) 64 [.ref 127, .int a0] w (RJ Q) := by
  unfold p_Mo_flood at hs
  refine tm_go 4 (pc' := 5) (L' := [some (.ref 127), some (.int a0), some (.long 0), none, some (.int 0), none, none, none]) (S' := []) (w' := w) rfl ?_
  refine tx_Mo_flood_5 FU _ _ _ _ _ _ hs (fun e5_2_4 z4_1 z4_4 z4_5 z4_6 z4_7 w4 hs => ?_)
  refine tm_go 3 (pc' := 50) (L' := [some (.ref 127), z4_1, some (.long e5_2_4), none, z4_4, z4_5, z4_6, z4_7]) (S' := [.int (lg_cmp e5_2_4 (0 : Int64))]) (w' := w4) rfl ?_
  refine tm_i (p1 := 57) (p2 := 53) rfl (fun h5 => ?_) (fun h5 => ?_)
  · replace hs := hs.1 h5
    refine tm_go 2 (pc' := 60) (L' := [some (.ref 127), z4_1, some (.long e5_2_4), none, some (.int 0), z4_5, z4_6, z4_7]) (S' := []) (w' := w4) rfl ?_
    refine tx_Mo_flood_60 FU _ _ _ _ _ _ _ hs (fun e60_2_12 z12_0 z12_1 z12_4 z12_5 z12_6 z12_7 w12 hs => ?_)
    refine tm_go 1 (pc' := 134) (L' := [z12_0, z12_1, some (.long e60_2_12), none, z12_4, z12_5, z12_6, z12_7]) (S' := [.long e60_2_12]) (w' := w12) rfl ?_
    exact tm_r rfl ⟨_, rfl, hs⟩
  · replace hs := hs.2 h5
    refine tm_go 3 (pc' := 60) (L' := [some (.ref 127), z4_1, some (.long e5_2_4), none, some (.int 1), z4_5, z4_6, z4_7]) (S' := []) (w' := w4) rfl ?_
    refine tx_Mo_flood_60 FU _ _ _ _ _ _ _ hs (fun e60_2_13 z13_0 z13_1 z13_4 z13_5 z13_6 z13_7 w13 hs => ?_)
    refine tm_go 1 (pc' := 134) (L' := [z13_0, z13_1, some (.long e60_2_13), none, z13_4, z13_5, z13_6, z13_7]) (S' := [.long e60_2_13]) (w' := w13) rfl ?_
    exact tm_r rfl ⟨_, rfl, hs⟩
set_option maxHeartbeats 4000000 in
set_option maxRecDepth 100000 in
theorem tx_Mo_passes_122 {d : Nat} {y122_1 : Int32} {y122_4 : Int32} {y122_5 : Int32} {z0 : Option Value} {z2 : Option Value} {z3 : Option Value} {z6 : Option Value} {w : MW} {Q : Int32 → MW → Prop} (hs : q_Mo_passes_122 y122_1 y122_4 y122_5 w Q) : Tm (d + 0) 61 122 [z0, some (.int y122_1), z2, z3, some (.int y122_4), some (.int y122_5), z6] [] w (RZ Q) := by
  unfold q_Mo_passes_122 at hs
  refine tm_go 2 (pc' := 124) (L' := [z0, some (.int y122_1), z2, z3, some (.int y122_4), some (.int y122_5), z6]) (S' := [.int 1, .int y122_1]) (w' := w) rfl ?_
  refine tm_i (p1 := 133) (p2 := 127) rfl (fun h11 => ?_) (fun h11 => ?_)
  · replace hs := hs.1 h11
    refine tm_go 2 (pc' := 135) (L' := [z0, some (.int y122_1), z2, z3, some (.int y122_4), some (.int y122_5), z6]) (S' := [.int 3, .int y122_1]) (w' := w) rfl ?_
    refine tm_i (p1 := 148) (p2 := 138) rfl (fun h12 => ?_) (fun h12 => ?_)
    · replace hs := hs.1 h12
      refine tm_go 1 (pc' := 149) (L' := [z0, some (.int y122_1), z2, z3, some (.int y122_4), some (.int y122_5), z6]) (S' := [.int 0]) (w' := w) rfl ?_
      exact tm_r rfl ⟨_, rfl, by decide, hs⟩
    · replace hs := hs.2 h12
      refine tm_go 2 (pc' := 141) (L' := [z0, some (.int y122_1), z2, z3, some (.int y122_4), some (.int y122_5), z6]) (S' := [.int 1, .int y122_4]) (w' := w) rfl ?_
      refine tm_i (p1 := 148) (p2 := 144) rfl (fun h13 => ?_) (fun h13 => ?_)
      · replace hs := hs.1 h13
        refine tm_go 1 (pc' := 149) (L' := [z0, some (.int y122_1), z2, z3, some (.int y122_4), some (.int y122_5), z6]) (S' := [.int 0]) (w' := w) rfl ?_
        exact tm_r rfl ⟨_, rfl, by decide, hs⟩
      · replace hs := hs.2 h13
        refine tm_go 2 (pc' := 149) (L' := [z0, some (.int y122_1), z2, z3, some (.int y122_4), some (.int y122_5), z6]) (S' := [.int 1]) (w' := w) rfl ?_
        exact tm_r rfl ⟨_, rfl, by decide, hs⟩
  · replace hs := hs.2 h11
    refine tm_go 2 (pc' := 130) (L' := [z0, some (.int y122_1), z2, z3, some (.int y122_4), some (.int y122_5), z6]) (S' := [.int 2, .int y122_5]) (w' := w) rfl ?_
    refine tm_i (p1 := 144) (p2 := 133) rfl (fun h14 => ?_) (fun h14 => ?_)
    · replace hs := hs.1 h14
      refine tm_go 2 (pc' := 149) (L' := [z0, some (.int y122_1), z2, z3, some (.int y122_4), some (.int y122_5), z6]) (S' := [.int 1]) (w' := w) rfl ?_
      exact tm_r rfl ⟨_, rfl, by decide, hs⟩
    · replace hs := hs.2 h14
      refine tm_go 2 (pc' := 135) (L' := [z0, some (.int y122_1), z2, z3, some (.int y122_4), some (.int y122_5), z6]) (S' := [.int 3, .int y122_1]) (w' := w) rfl ?_
      refine tm_i (p1 := 148) (p2 := 138) rfl (fun h15 => ?_) (fun h15 => ?_)
      · replace hs := hs.1 h15
        refine tm_go 1 (pc' := 149) (L' := [z0, some (.int y122_1), z2, z3, some (.int y122_4), some (.int y122_5), z6]) (S' := [.int 0]) (w' := w) rfl ?_
        exact tm_r rfl ⟨_, rfl, by decide, hs⟩
      · replace hs := hs.2 h15
        refine tm_go 2 (pc' := 141) (L' := [z0, some (.int y122_1), z2, z3, some (.int y122_4), some (.int y122_5), z6]) (S' := [.int 1, .int y122_4]) (w' := w) rfl ?_
        refine tm_i (p1 := 148) (p2 := 144) rfl (fun h16 => ?_) (fun h16 => ?_)
        · replace hs := hs.1 h16
          refine tm_go 1 (pc' := 149) (L' := [z0, some (.int y122_1), z2, z3, some (.int y122_4), some (.int y122_5), z6]) (S' := [.int 0]) (w' := w) rfl ?_
          exact tm_r rfl ⟨_, rfl, by decide, hs⟩
        · replace hs := hs.2 h16
          refine tm_go 2 (pc' := 149) (L' := [z0, some (.int y122_1), z2, z3, some (.int y122_4), some (.int y122_5), z6]) (S' := [.int 1]) (w' := w) rfl ?_
          exact tm_r rfl ⟨_, rfl, by decide, hs⟩
set_option maxHeartbeats 4000000 in
set_option maxRecDepth 100000 in
theorem tx_Mo_passes_166 {d : Nat} {y166_1 : Int32} {y166_4 : Int32} {y166_5 : Int32} {z0 : Option Value} {z2 : Option Value} {z3 : Option Value} {z6 : Option Value} {w : MW} {Q : Int32 → MW → Prop} (hs : q_Mo_passes_166 y166_1 y166_4 y166_5 w Q) : Tm (d + 0) 61 166 [z0, some (.int y166_1), z2, z3, some (.int y166_4), some (.int y166_5), z6] [] w (RZ Q) := by
  unfold q_Mo_passes_166 at hs
  refine tm_go 2 (pc' := 168) (L' := [z0, some (.int y166_1), z2, z3, some (.int y166_4), some (.int y166_5), z6]) (S' := [.int 2, .int y166_1]) (w' := w) rfl ?_
  refine tm_i (p1 := 182) (p2 := 171) rfl (fun h21 => ?_) (fun h21 => ?_)
  · replace hs := hs.1 h21
    refine tm_go 2 (pc' := 184) (L' := [z0, some (.int y166_1), z2, z3, some (.int y166_4), some (.int y166_5), z6]) (S' := [.int 3, .int y166_1]) (w' := w) rfl ?_
    refine tm_i (p1 := 197) (p2 := 187) rfl (fun h22 => ?_) (fun h22 => ?_)
    · replace hs := hs.1 h22
      refine tm_go 1 (pc' := 198) (L' := [z0, some (.int y166_1), z2, z3, some (.int y166_4), some (.int y166_5), z6]) (S' := [.int 0]) (w' := w) rfl ?_
      exact tm_r rfl ⟨_, rfl, by decide, hs⟩
    · replace hs := hs.2 h22
      refine tm_go 2 (pc' := 190) (L' := [z0, some (.int y166_1), z2, z3, some (.int y166_4), some (.int y166_5), z6]) (S' := [.int 1, .int y166_4]) (w' := w) rfl ?_
      refine tm_i (p1 := 197) (p2 := 193) rfl (fun h23 => ?_) (fun h23 => ?_)
      · replace hs := hs.1 h23
        refine tm_go 1 (pc' := 198) (L' := [z0, some (.int y166_1), z2, z3, some (.int y166_4), some (.int y166_5), z6]) (S' := [.int 0]) (w' := w) rfl ?_
        exact tm_r rfl ⟨_, rfl, by decide, hs⟩
      · replace hs := hs.2 h23
        refine tm_go 2 (pc' := 198) (L' := [z0, some (.int y166_1), z2, z3, some (.int y166_4), some (.int y166_5), z6]) (S' := [.int 1]) (w' := w) rfl ?_
        exact tm_r rfl ⟨_, rfl, by decide, hs⟩
  · replace hs := hs.2 h21
    refine tm_go 1 (pc' := 173) (L' := [z0, some (.int y166_1), z2, z3, some (.int y166_4), some (.int y166_5), z6]) (S' := [.int y166_4]) (w' := w) rfl ?_
    refine tm_i (p1 := 182) (p2 := 176) rfl (fun h24 => ?_) (fun h24 => ?_)
    · replace hs := hs.1 h24
      refine tm_go 2 (pc' := 184) (L' := [z0, some (.int y166_1), z2, z3, some (.int y166_4), some (.int y166_5), z6]) (S' := [.int 3, .int y166_1]) (w' := w) rfl ?_
      refine tm_i (p1 := 197) (p2 := 187) rfl (fun h25 => ?_) (fun h25 => ?_)
      · replace hs := hs.1 h25
        refine tm_go 1 (pc' := 198) (L' := [z0, some (.int y166_1), z2, z3, some (.int y166_4), some (.int y166_5), z6]) (S' := [.int 0]) (w' := w) rfl ?_
        exact tm_r rfl ⟨_, rfl, by decide, hs⟩
      · replace hs := hs.2 h25
        refine tm_go 2 (pc' := 190) (L' := [z0, some (.int y166_1), z2, z3, some (.int y166_4), some (.int y166_5), z6]) (S' := [.int 1, .int y166_4]) (w' := w) rfl ?_
        refine tm_i (p1 := 197) (p2 := 193) rfl (fun h26 => ?_) (fun h26 => ?_)
        · replace hs := hs.1 h26
          refine tm_go 1 (pc' := 198) (L' := [z0, some (.int y166_1), z2, z3, some (.int y166_4), some (.int y166_5), z6]) (S' := [.int 0]) (w' := w) rfl ?_
          exact tm_r rfl ⟨_, rfl, by decide, hs⟩
        · replace hs := hs.2 h26
          refine tm_go 2 (pc' := 198) (L' := [z0, some (.int y166_1), z2, z3, some (.int y166_4), some (.int y166_5), z6]) (S' := [.int 1]) (w' := w) rfl ?_
          exact tm_r rfl ⟨_, rfl, by decide, hs⟩
    · replace hs := hs.2 h24
      refine tm_go 2 (pc' := 179) (L' := [z0, some (.int y166_1), z2, z3, some (.int y166_4), some (.int y166_5), z6]) (S' := [.int 2, .int y166_5]) (w' := w) rfl ?_
      refine tm_i (p1 := 193) (p2 := 182) rfl (fun h27 => ?_) (fun h27 => ?_)
      · replace hs := hs.1 h27
        refine tm_go 2 (pc' := 198) (L' := [z0, some (.int y166_1), z2, z3, some (.int y166_4), some (.int y166_5), z6]) (S' := [.int 1]) (w' := w) rfl ?_
        exact tm_r rfl ⟨_, rfl, by decide, hs⟩
      · replace hs := hs.2 h27
        refine tm_go 2 (pc' := 184) (L' := [z0, some (.int y166_1), z2, z3, some (.int y166_4), some (.int y166_5), z6]) (S' := [.int 3, .int y166_1]) (w' := w) rfl ?_
        refine tm_i (p1 := 197) (p2 := 187) rfl (fun h28 => ?_) (fun h28 => ?_)
        · replace hs := hs.1 h28
          refine tm_go 1 (pc' := 198) (L' := [z0, some (.int y166_1), z2, z3, some (.int y166_4), some (.int y166_5), z6]) (S' := [.int 0]) (w' := w) rfl ?_
          exact tm_r rfl ⟨_, rfl, by decide, hs⟩
        · replace hs := hs.2 h28
          refine tm_go 2 (pc' := 190) (L' := [z0, some (.int y166_1), z2, z3, some (.int y166_4), some (.int y166_5), z6]) (S' := [.int 1, .int y166_4]) (w' := w) rfl ?_
          refine tm_i (p1 := 197) (p2 := 193) rfl (fun h29 => ?_) (fun h29 => ?_)
          · replace hs := hs.1 h29
            refine tm_go 1 (pc' := 198) (L' := [z0, some (.int y166_1), z2, z3, some (.int y166_4), some (.int y166_5), z6]) (S' := [.int 0]) (w' := w) rfl ?_
            exact tm_r rfl ⟨_, rfl, by decide, hs⟩
          · replace hs := hs.2 h29
            refine tm_go 2 (pc' := 198) (L' := [z0, some (.int y166_1), z2, z3, some (.int y166_4), some (.int y166_5), z6]) (S' := [.int 1]) (w' := w) rfl ?_
            exact tm_r rfl ⟨_, rfl, by decide, hs⟩
set_option maxHeartbeats 4000000 in
set_option maxRecDepth 100000 in
theorem tx_Mo_passes_45 {d : Nat} {y45_0 : Int32} {y45_1 : Int32} {y45_2 : Int32} {y45_4 : Int32} {y45_5 : Int32} {ys45_0 : Int32} {z3 : Option Value} {z6 : Option Value} {w : MW} {Q : Int32 → MW → Prop} (hs : q_Mo_passes_45 y45_0 y45_1 y45_2 y45_4 y45_5 ys45_0 w Q) : Tm (d + 0) 61 45 [some (.int y45_0), some (.int y45_1), some (.int y45_2), z3, some (.int y45_4), some (.int y45_5), z6] [.int ys45_0] w (RZ Q) := by
  unfold q_Mo_passes_45 at hs
  refine tm_go 2 (pc' := 48) (L' := [some (.int y45_0), some (.int y45_1), some (.int y45_2), z3, some (.int y45_4), some (.int y45_5), some (.int ys45_0)]) (S' := [.int y45_0]) (w' := w) rfl ?_
  by_cases h4 : y45_0.toInt = 0
  · replace hs := hs.1 h4
    refine tm_tab (dflt := 254) (lo := 0) (ts := [96, 107, 150, 199, 209, 254, 229, 239]) rfl (by rw [h4]; decide) (t := 96) (by rw [h4]; rfl) ?_
    refine tm_go 2 (pc' := 98) (L' := [some (.int y45_0), some (.int y45_1), some (.int y45_2), z3, some (.int y45_4), some (.int y45_5), some (.int ys45_0)]) (S' := [.int 1, .int y45_1]) (w' := w) rfl ?_
    refine tm_i (p1 := 105) (p2 := 101) rfl (fun h5 => ?_) (fun h5 => ?_)
    · replace hs := hs.1 h5
      refine tm_go 1 (pc' := 106) (L' := [some (.int y45_0), some (.int y45_1), some (.int y45_2), z3, some (.int y45_4), some (.int y45_5), some (.int ys45_0)]) (S' := [.int 0]) (w' := w) rfl ?_
      exact tm_r rfl ⟨_, rfl, by decide, hs⟩
    · replace hs := hs.2 h5
      refine tm_go 2 (pc' := 106) (L' := [some (.int y45_0), some (.int y45_1), some (.int y45_2), z3, some (.int y45_4), some (.int y45_5), some (.int ys45_0)]) (S' := [.int 1]) (w' := w) rfl ?_
      exact tm_r rfl ⟨_, rfl, by decide, hs⟩
  · replace hs := hs.2 h4
    by_cases h6 : y45_0.toInt = 1
    · replace hs := hs.1 h6
      refine tm_tab (dflt := 254) (lo := 0) (ts := [96, 107, 150, 199, 209, 254, 229, 239]) rfl (by rw [h6]; decide) (t := 107) (by rw [h6]; rfl) ?_
      refine tm_go 1 (pc' := 109) (L' := [some (.int y45_0), some (.int y45_1), some (.int y45_2), z3, some (.int y45_4), some (.int y45_5), some (.int ys45_0)]) (S' := [.int y45_4]) (w' := w) rfl ?_
      refine tm_i (p1 := 133) (p2 := 112) rfl (fun h7 => ?_) (fun h7 => ?_)
      · replace hs := hs.1 h7
        refine tm_go 2 (pc' := 135) (L' := [some (.int y45_0), some (.int y45_1), some (.int y45_2), z3, some (.int y45_4), some (.int y45_5), some (.int ys45_0)]) (S' := [.int 3, .int y45_1]) (w' := w) rfl ?_
        refine tm_i (p1 := 148) (p2 := 138) rfl (fun h8 => ?_) (fun h8 => ?_)
        · replace hs := hs.1 h8
          refine tm_go 1 (pc' := 149) (L' := [some (.int y45_0), some (.int y45_1), some (.int y45_2), z3, some (.int y45_4), some (.int y45_5), some (.int ys45_0)]) (S' := [.int 0]) (w' := w) rfl ?_
          exact tm_r rfl ⟨_, rfl, by decide, hs⟩
        · replace hs := hs.2 h8
          refine tm_go 2 (pc' := 141) (L' := [some (.int y45_0), some (.int y45_1), some (.int y45_2), z3, some (.int y45_4), some (.int y45_5), some (.int ys45_0)]) (S' := [.int 1, .int y45_4]) (w' := w) rfl ?_
          refine tm_i (p1 := 148) (p2 := 144) rfl (fun h9 => ?_) (fun h9 => ?_)
          · replace hs := hs.1 h9
            refine tm_go 1 (pc' := 149) (L' := [some (.int y45_0), some (.int y45_1), some (.int y45_2), z3, some (.int y45_4), some (.int y45_5), some (.int ys45_0)]) (S' := [.int 0]) (w' := w) rfl ?_
            exact tm_r rfl ⟨_, rfl, by decide, hs⟩
          · replace hs := hs.2 h9
            refine tm_go 2 (pc' := 149) (L' := [some (.int y45_0), some (.int y45_1), some (.int y45_2), z3, some (.int y45_4), some (.int y45_5), some (.int ys45_0)]) (S' := [.int 1]) (w' := w) rfl ?_
            exact tm_r rfl ⟨_, rfl, by decide, hs⟩
      · replace hs := hs.2 h7
        refine tm_go 1 (pc' := 113) (L' := [some (.int y45_0), some (.int y45_1), some (.int y45_2), z3, some (.int y45_4), some (.int y45_5), some (.int ys45_0)]) (S' := [.int y45_1]) (w' := w) rfl ?_
        refine tm_i (p1 := 122) (p2 := 116) rfl (fun h10 => ?_) (fun h10 => ?_)
        · replace hs := hs.1 h10
          exact tx_Mo_passes_122 hs 
        · replace hs := hs.2 h10
          refine tm_go 2 (pc' := 119) (L' := [some (.int y45_0), some (.int y45_1), some (.int y45_2), z3, some (.int y45_4), some (.int y45_5), some (.int ys45_0)]) (S' := [.int 1, .int y45_5]) (w' := w) rfl ?_
          refine tm_i (p1 := 144) (p2 := 122) rfl (fun h17 => ?_) (fun h17 => ?_)
          · replace hs := hs.1 h17
            refine tm_go 2 (pc' := 149) (L' := [some (.int y45_0), some (.int y45_1), some (.int y45_2), z3, some (.int y45_4), some (.int y45_5), some (.int ys45_0)]) (S' := [.int 1]) (w' := w) rfl ?_
            exact tm_r rfl ⟨_, rfl, by decide, hs⟩
          · replace hs := hs.2 h17
            exact tx_Mo_passes_122 hs 
    · replace hs := hs.2 h6
      by_cases h18 : y45_0.toInt = 2
      · replace hs := hs.1 h18
        refine tm_tab (dflt := 254) (lo := 0) (ts := [96, 107, 150, 199, 209, 254, 229, 239]) rfl (by rw [h18]; decide) (t := 150) (by rw [h18]; rfl) ?_
        refine tm_go 2 (pc' := 152) (L' := [some (.int y45_0), some (.int y45_1), some (.int y45_2), z3, some (.int y45_4), some (.int y45_5), some (.int ys45_0)]) (S' := [.int 4, .int y45_1]) (w' := w) rfl ?_
        refine tm_i (p1 := 193) (p2 := 155) rfl (fun h19 => ?_) (fun h19 => ?_)
        · replace hs := hs.1 h19
          refine tm_go 2 (pc' := 198) (L' := [some (.int y45_0), some (.int y45_1), some (.int y45_2), z3, some (.int y45_4), some (.int y45_5), some (.int ys45_0)]) (S' := [.int 1]) (w' := w) rfl ?_
          exact tm_r rfl ⟨_, rfl, by decide, hs⟩
        · replace hs := hs.2 h19
          refine tm_go 2 (pc' := 157) (L' := [some (.int y45_0), some (.int y45_1), some (.int y45_2), z3, some (.int y45_4), some (.int y45_5), some (.int ys45_0)]) (S' := [.int 1, .int y45_1]) (w' := w) rfl ?_
          refine tm_i (p1 := 166) (p2 := 160) rfl (fun h20 => ?_) (fun h20 => ?_)
          · replace hs := hs.1 h20
            exact tx_Mo_passes_166 hs 
          · replace hs := hs.2 h20
            refine tm_go 2 (pc' := 163) (L' := [some (.int y45_0), some (.int y45_1), some (.int y45_2), z3, some (.int y45_4), some (.int y45_5), some (.int ys45_0)]) (S' := [.int 1, .int y45_5]) (w' := w) rfl ?_
            refine tm_i (p1 := 193) (p2 := 166) rfl (fun h30 => ?_) (fun h30 => ?_)
            · replace hs := hs.1 h30
              refine tm_go 2 (pc' := 198) (L' := [some (.int y45_0), some (.int y45_1), some (.int y45_2), z3, some (.int y45_4), some (.int y45_5), some (.int ys45_0)]) (S' := [.int 1]) (w' := w) rfl ?_
              exact tm_r rfl ⟨_, rfl, by decide, hs⟩
            · replace hs := hs.2 h30
              exact tx_Mo_passes_166 hs 
      · replace hs := hs.2 h18
        by_cases h31 : y45_0.toInt = 3
        · replace hs := hs.1 h31
          refine tm_tab (dflt := 254) (lo := 0) (ts := [96, 107, 150, 199, 209, 254, 229, 239]) rfl (by rw [h31]; decide) (t := 199) (by rw [h31]; rfl) ?_
          refine tm_go 1 (pc' := 200) (L' := [some (.int y45_0), some (.int y45_1), some (.int y45_2), z3, some (.int y45_4), some (.int y45_5), some (.int ys45_0)]) (S' := [.int y45_2]) (w' := w) rfl ?_
          refine tm_i (p1 := 207) (p2 := 203) rfl (fun h32 => ?_) (fun h32 => ?_)
          · replace hs := hs.1 h32
            refine tm_go 1 (pc' := 208) (L' := [some (.int y45_0), some (.int y45_1), some (.int y45_2), z3, some (.int y45_4), some (.int y45_5), some (.int ys45_0)]) (S' := [.int 0]) (w' := w) rfl ?_
            exact tm_r rfl ⟨_, rfl, by decide, hs⟩
          · replace hs := hs.2 h32
            refine tm_go 2 (pc' := 208) (L' := [some (.int y45_0), some (.int y45_1), some (.int y45_2), z3, some (.int y45_4), some (.int y45_5), some (.int ys45_0)]) (S' := [.int 1]) (w' := w) rfl ?_
            exact tm_r rfl ⟨_, rfl, by decide, hs⟩
        · replace hs := hs.2 h31
          by_cases h33 : y45_0.toInt = 4
          · replace hs := hs.1 h33
            refine tm_tab (dflt := 254) (lo := 0) (ts := [96, 107, 150, 199, 209, 254, 229, 239]) rfl (by rw [h33]; decide) (t := 209) (by rw [h33]; rfl) ?_
            refine tm_go 1 (pc' := 210) (L' := [some (.int y45_0), some (.int y45_1), some (.int y45_2), z3, some (.int y45_4), some (.int y45_5), some (.int ys45_0)]) (S' := [.int y45_1]) (w' := w) rfl ?_
            refine tm_i (p1 := 218) (p2 := 213) rfl (fun h34 => ?_) (fun h34 => ?_)
            · replace hs := hs.1 h34
              refine tm_go 2 (pc' := 220) (L' := [some (.int y45_0), some (.int y45_1), some (.int y45_2), z3, some (.int y45_4), some (.int y45_5), some (.int ys45_0)]) (S' := [.int 1, .int y45_1]) (w' := w) rfl ?_
              refine tm_i (p1 := 227) (p2 := 223) rfl (fun h35 => ?_) (fun h35 => ?_)
              · replace hs := hs.1 h35
                refine tm_go 1 (pc' := 228) (L' := [some (.int y45_0), some (.int y45_1), some (.int y45_2), z3, some (.int y45_4), some (.int y45_5), some (.int ys45_0)]) (S' := [.int 0]) (w' := w) rfl ?_
                exact tm_r rfl ⟨_, rfl, by decide, hs⟩
              · replace hs := hs.2 h35
                refine tm_go 2 (pc' := 228) (L' := [some (.int y45_0), some (.int y45_1), some (.int y45_2), z3, some (.int y45_4), some (.int y45_5), some (.int ys45_0)]) (S' := [.int 1]) (w' := w) rfl ?_
                exact tm_r rfl ⟨_, rfl, by decide, hs⟩
            · replace hs := hs.2 h34
              refine tm_go 1 (pc' := 215) (L' := [some (.int y45_0), some (.int y45_1), some (.int y45_2), z3, some (.int y45_4), some (.int y45_5), some (.int ys45_0)]) (S' := [.int ys45_0]) (w' := w) rfl ?_
              refine tm_i (p1 := 223) (p2 := 218) rfl (fun h36 => ?_) (fun h36 => ?_)
              · replace hs := hs.1 h36
                refine tm_go 2 (pc' := 228) (L' := [some (.int y45_0), some (.int y45_1), some (.int y45_2), z3, some (.int y45_4), some (.int y45_5), some (.int ys45_0)]) (S' := [.int 1]) (w' := w) rfl ?_
                exact tm_r rfl ⟨_, rfl, by decide, hs⟩
              · replace hs := hs.2 h36
                refine tm_go 2 (pc' := 220) (L' := [some (.int y45_0), some (.int y45_1), some (.int y45_2), z3, some (.int y45_4), some (.int y45_5), some (.int ys45_0)]) (S' := [.int 1, .int y45_1]) (w' := w) rfl ?_
                refine tm_i (p1 := 227) (p2 := 223) rfl (fun h37 => ?_) (fun h37 => ?_)
                · replace hs := hs.1 h37
                  refine tm_go 1 (pc' := 228) (L' := [some (.int y45_0), some (.int y45_1), some (.int y45_2), z3, some (.int y45_4), some (.int y45_5), some (.int ys45_0)]) (S' := [.int 0]) (w' := w) rfl ?_
                  exact tm_r rfl ⟨_, rfl, by decide, hs⟩
                · replace hs := hs.2 h37
                  refine tm_go 2 (pc' := 228) (L' := [some (.int y45_0), some (.int y45_1), some (.int y45_2), z3, some (.int y45_4), some (.int y45_5), some (.int ys45_0)]) (S' := [.int 1]) (w' := w) rfl ?_
                  exact tm_r rfl ⟨_, rfl, by decide, hs⟩
          · replace hs := hs.2 h33
            by_cases h38 : y45_0.toInt = 5
            · replace hs := hs.1 h38
              refine tm_tab (dflt := 254) (lo := 0) (ts := [96, 107, 150, 199, 209, 254, 229, 239]) rfl (by rw [h38]; decide) (t := 254) (by rw [h38]; rfl) ?_
              refine tm_go 1 (pc' := 255) (L' := [some (.int y45_0), some (.int y45_1), some (.int y45_2), z3, some (.int y45_4), some (.int y45_5), some (.int ys45_0)]) (S' := [.int 0]) (w' := w) rfl ?_
              exact tm_r rfl ⟨_, rfl, by decide, hs⟩
            · replace hs := hs.2 h38
              by_cases h39 : y45_0.toInt = 6
              · replace hs := hs.1 h39
                refine tm_tab (dflt := 254) (lo := 0) (ts := [96, 107, 150, 199, 209, 254, 229, 239]) rfl (by rw [h39]; decide) (t := 229) (by rw [h39]; rfl) ?_
                refine tm_go 1 (pc' := 230) (L' := [some (.int y45_0), some (.int y45_1), some (.int y45_2), z3, some (.int y45_4), some (.int y45_5), some (.int ys45_0)]) (S' := [.int y45_1]) (w' := w) rfl ?_
                refine tm_i (p1 := 237) (p2 := 233) rfl (fun h40 => ?_) (fun h40 => ?_)
                · replace hs := hs.1 h40
                  refine tm_go 1 (pc' := 238) (L' := [some (.int y45_0), some (.int y45_1), some (.int y45_2), z3, some (.int y45_4), some (.int y45_5), some (.int ys45_0)]) (S' := [.int 0]) (w' := w) rfl ?_
                  exact tm_r rfl ⟨_, rfl, by decide, hs⟩
                · replace hs := hs.2 h40
                  refine tm_go 2 (pc' := 238) (L' := [some (.int y45_0), some (.int y45_1), some (.int y45_2), z3, some (.int y45_4), some (.int y45_5), some (.int ys45_0)]) (S' := [.int 1]) (w' := w) rfl ?_
                  exact tm_r rfl ⟨_, rfl, by decide, hs⟩
              · replace hs := hs.2 h39
                by_cases h41 : y45_0.toInt = 7
                · replace hs := hs.1 h41
                  refine tm_tab (dflt := 254) (lo := 0) (ts := [96, 107, 150, 199, 209, 254, 229, 239]) rfl (by rw [h41]; decide) (t := 239) (by rw [h41]; rfl) ?_
                  refine tm_go 2 (pc' := 241) (L' := [some (.int y45_0), some (.int y45_1), some (.int y45_2), z3, some (.int y45_4), some (.int y45_5), some (.int ys45_0)]) (S' := [.int 1, .int y45_1]) (w' := w) rfl ?_
                  refine tm_i (p1 := 252) (p2 := 244) rfl (fun h42 => ?_) (fun h42 => ?_)
                  · replace hs := hs.1 h42
                    refine tm_go 1 (pc' := 253) (L' := [some (.int y45_0), some (.int y45_1), some (.int y45_2), z3, some (.int y45_4), some (.int y45_5), some (.int ys45_0)]) (S' := [.int 0]) (w' := w) rfl ?_
                    exact tm_r rfl ⟨_, rfl, by decide, hs⟩
                  · replace hs := hs.2 h42
                    refine tm_go 1 (pc' := 245) (L' := [some (.int y45_0), some (.int y45_1), some (.int y45_2), z3, some (.int y45_4), some (.int y45_5), some (.int ys45_0)]) (S' := [.int y45_2]) (w' := w) rfl ?_
                    refine tm_i (p1 := 252) (p2 := 248) rfl (fun h43 => ?_) (fun h43 => ?_)
                    · replace hs := hs.1 h43
                      refine tm_go 1 (pc' := 253) (L' := [some (.int y45_0), some (.int y45_1), some (.int y45_2), z3, some (.int y45_4), some (.int y45_5), some (.int ys45_0)]) (S' := [.int 0]) (w' := w) rfl ?_
                      exact tm_r rfl ⟨_, rfl, by decide, hs⟩
                    · replace hs := hs.2 h43
                      refine tm_go 2 (pc' := 253) (L' := [some (.int y45_0), some (.int y45_1), some (.int y45_2), z3, some (.int y45_4), some (.int y45_5), some (.int ys45_0)]) (S' := [.int 1]) (w' := w) rfl ?_
                      exact tm_r rfl ⟨_, rfl, by decide, hs⟩
                · replace hs := hs.2 h41
                  refine tm_tad (dflt := 254) (lo := 0) (ts := [96, 107, 150, 199, 209, 254, 229, 239]) rfl (by simp only [List.length_cons, List.length_nil]; omega) ?_
                  refine tm_go 1 (pc' := 255) (L' := [some (.int y45_0), some (.int y45_1), some (.int y45_2), z3, some (.int y45_4), some (.int y45_5), some (.int ys45_0)]) (S' := [.int 0]) (w' := w) rfl ?_
                  exact tm_r rfl ⟨_, rfl, by decide, hs⟩
set_option maxHeartbeats 4000000 in
set_option maxRecDepth 100000 in
theorem tx_Mo_passes_22 {d : Nat} {y22_0 : Int32} {y22_1 : Int32} {y22_2 : Int32} {y22_4 : Int32} {ys22_0 : Int32} {z3 : Option Value} {z5 : Option Value} {z6 : Option Value} {w : MW} {Q : Int32 → MW → Prop} (hs : q_Mo_passes_22 y22_0 y22_1 y22_2 y22_4 ys22_0 w Q) : Tm (d + 0) 61 22 [some (.int y22_0), some (.int y22_1), some (.int y22_2), z3, some (.int y22_4), z5, z6] [.int ys22_0] w (RZ Q) := by
  unfold q_Mo_passes_22 at hs
  refine tm_go 5 (pc' := 30) (L' := [some (.int y22_0), some (.int y22_1), some (.int y22_2), z3, some (.int y22_4), some (.int ys22_0), z6]) (S' := [.int (y22_4 + (1 : Int32)), .int ys22_0]) (w' := w) rfl ?_
  refine tm_i (p1 := 44) (p2 := 33) rfl (fun h3 => ?_) (fun h3 => ?_)
  · replace hs := hs.1 h3
    refine tm_go 1 (pc' := 45) (L' := [some (.int y22_0), some (.int y22_1), some (.int y22_2), z3, some (.int y22_4), some (.int ys22_0), z6]) (S' := [.int 0]) (w' := w) rfl ?_
    exact tx_Mo_passes_45 hs 
  · replace hs := hs.2 h3
    refine tm_go 3 (pc' := 37) (L' := [some (.int y22_0), some (.int y22_1), some (.int y22_2), z3, some (.int y22_4), some (.int ys22_0), z6]) (S' := [.int (y22_4 - y22_4 / (2 : Int32) * (2 : Int32))]) (w' := w) rfl ?_
    refine tm_i (p1 := 44) (p2 := 40) rfl (fun h44 => ?_) (fun h44 => ?_)
    · replace hs := hs.1 h44
      refine tm_go 1 (pc' := 45) (L' := [some (.int y22_0), some (.int y22_1), some (.int y22_2), z3, some (.int y22_4), some (.int ys22_0), z6]) (S' := [.int 0]) (w' := w) rfl ?_
      exact tx_Mo_passes_45 hs 
    · replace hs := hs.2 h44
      refine tm_go 2 (pc' := 45) (L' := [some (.int y22_0), some (.int y22_1), some (.int y22_2), z3, some (.int y22_4), some (.int ys22_0), z6]) (S' := [.int 1]) (w' := w) rfl ?_
      exact tx_Mo_passes_45 hs 
set_option maxHeartbeats 4000000 in
set_option maxRecDepth 100000 in
theorem dm_Mo_passes {d : Nat} {w : MW} {a0 : Int32} {b0 : Int32} {c0 : Int32} {e0 : Int32} {Q : Int32 → MW → Prop} (hs : p_Mo_passes w a0 b0 c0 e0 Q) : Tc (d + 0) 61 [.int a0, .int b0, .int c0, .int e0] w (RZ Q) := by
  unfold p_Mo_passes at hs
  refine tm_go 2 (pc' := 2) (L' := [some (.int a0), some (.int b0), some (.int c0), some (.int e0), none, none, none]) (S' := [.int e0, .int c0]) (w' := w) rfl ?_
  refine tm_i (p1 := 9) (p2 := 5) rfl (fun h1 => ?_) (fun h1 => ?_)
  · replace hs := hs.1 h1
    refine tm_go 4 (pc' := 14) (L' := [some (.int a0), some (.int b0), some (.int c0), some (.int e0), some (.int e0), none, none]) (S' := [.int e0, .int c0]) (w' := w) rfl ?_
    refine tm_i (p1 := 21) (p2 := 17) rfl (fun _ => ?_) (fun h => absurd h1 h)
    refine tm_go 1 (pc' := 22) (L' := [some (.int a0), some (.int b0), some (.int c0), some (.int e0), some (.int e0), none, none]) (S' := [.int c0]) (w' := w) rfl ?_
    exact tx_Mo_passes_22 hs 
  · replace hs := hs.2 h1
    refine tm_go 5 (pc' := 14) (L' := [some (.int a0), some (.int b0), some (.int c0), some (.int e0), some (.int c0), none, none]) (S' := [.int e0, .int c0]) (w' := w) rfl ?_
    refine tm_i (p1 := 21) (p2 := 17) rfl (fun h => absurd h h1) (fun _ => ?_)
    refine tm_go 2 (pc' := 22) (L' := [some (.int a0), some (.int b0), some (.int c0), some (.int e0), some (.int c0), none, none]) (S' := [.int e0]) (w' := w) rfl ?_
    exact tx_Mo_passes_22 hs 
set_option maxHeartbeats 4000000 in
set_option maxRecDepth 100000 in
theorem tx_Mo_join_2 {d : Nat} {E : MW → Prop} {Q : MW → Prop} (n : Nat) : ∀ (x2_1 : Int32)  (z2 : Option Value) (z3 : Option Value) (z4 : Option Value) (z5 : Option Value) (w : MW), q_Mo_join_2  E Q n x2_1 w → (∀  (v1 : Option Value) (v2 : Option Value) (v3 : Option Value) (v4 : Option Value) (v5 : Option Value) (w : MW), E  w → Tm (d + 1) 63 28 [some (.ref 127), v1, v2, v3, v4, v5] [] w (RV Q)) → Tm (d + 1) 63 2 [some (.ref 127), some (.int x2_1), z2, z3, z4, z5] [] w (RV Q) := by
  induction n with
  | zero => intro x2_1 z2 z3 z4 z5 w hs; rw [q_Mo_join_2.eq_1] at hs; exact hs.elim
  | succ n ih =>
    intro x2_1 z2 z3 z4 z5 w hs hE
    rw [q_Mo_join_2.eq_2] at hs
    refine tm_go 6 (pc' := 12) (L' := [some (.ref 127), some (.int x2_1), z2, z3, z4, z5]) (S' := [.int ((w.1 127 4) + (w.1 127 11)), .int x2_1]) (w' := w) rfl ?_
    refine tm_i (p1 := 28) (p2 := 15) rfl (fun h1 => ?_) (fun h1 => ?_)
    · replace hs := hs.1 h1
      exact hE _ _ _ _ _ _ hs
    · replace hs := hs.2 h1
      refine tm_go 4 (pc' := 21) (L' := [some (.ref 127), some (.int x2_1), z2, z3, z4, z5]) (S' := [.long 0, .int x2_1, .ref 195]) (w' := w) rfl ?_
      obtain ⟨b2, hs⟩ := hs
      refine tm_k (pc' := 22) (L' := [some (.ref 127), some (.int x2_1), z2, z3, z4, z5]) (S' := []) (w' := (sJ w 195 x2_1.toInt.toNat 0)) rfl b2 ?_
      refine tm_go 2 (pc' := 2) (L' := [some (.ref 127), some (.int (x2_1 + (1 : Int32))), z2, z3, z4, z5]) (S' := []) (w' := (sJ w 195 x2_1.toInt.toNat 0)) rfl ?_
      exact ih _ _ _ _ _ _ hs hE
set_option maxHeartbeats 4000000 in
set_option maxRecDepth 100000 in
theorem tx_Mo_join_197 {d : Nat} {x96_1 : Int32} {x96_2 : Int32} {x96_3 : Int32} {y197_4 : Int32} {ys197_0 : Int32} {z5 : Option Value} {w : MW} {A : Int32 → MW → Prop} {E : MW → Prop} {Q : MW → Prop} (hs : q_Mo_join_197 x96_1 x96_2 x96_3 y197_4 ys197_0 w A E Q) (hA : ∀ (x96_4 : Int32)  (z5 : Option Value) (w : MW), A x96_4 w → Tm (d + 1) 63 96 [some (.ref 127), some (.int x96_1), some (.int x96_2), some (.int x96_3), some (.int x96_4), z5] [] w (RV Q)) (hE : ∀  (v2 : Option Value) (v3 : Option Value) (v4 : Option Value) (v5 : Option Value) (w : MW), E  w → Tm (d + 1) 63 230 [some (.ref 127), some (.int x96_1), v2, v3, v4, v5] [] w (RV Q)) : Tm (d + 1) 63 197 [some (.ref 127), some (.int x96_1), some (.int x96_2), some (.int x96_3), some (.int y197_4), z5] [.int ys197_0] w (RV Q) := by
  unfold q_Mo_join_197 at hs
  refine tm_go 2 (pc' := 201) (L' := [some (.ref 127), some (.int x96_1), some (.int x96_2), some (.int x96_3), some (.int y197_4), some (.int ys197_0)]) (S' := [.int ys197_0]) (w' := w) rfl ?_
  refine tm_i (p1 := 224) (p2 := 204) rfl (fun h13 => ?_) (fun h13 => ?_)
  · replace hs := hs.1 h13
    refine tm_go 2 (pc' := 96) (L' := [some (.ref 127), some (.int x96_1), some (.int x96_2), some (.int x96_3), some (.int (y197_4 + (1 : Int32))), some (.int ys197_0)]) (S' := []) (w' := w) rfl ?_
    exact hA _ _ _ hs
  · replace hs := hs.2 h13
    refine tm_go 4 (pc' := 210) (L' := [some (.ref 127), some (.int x96_1), some (.int x96_2), some (.int x96_3), some (.int y197_4), some (.int ys197_0)]) (S' := [.int x96_3, .ref 195, .int x96_3, .ref 195]) (w' := w) rfl ?_
    obtain ⟨b14, hs⟩ := hs
    refine tm_k (pc' := 211) (L' := [some (.ref 127), some (.int x96_1), some (.int x96_2), some (.int x96_3), some (.int y197_4), some (.int ys197_0)]) (S' := [.long (w.2.1 195 x96_3.toInt.toNat), .int x96_3, .ref 195]) (w' := w) rfl b14 ?_
    refine tm_go 9 (pc' := 223) (L' := [some (.ref 127), some (.int x96_1), some (.int x96_2), some (.int x96_3), some (.int y197_4), some (.int ys197_0)]) (S' := [.long ((w.2.1 195 x96_3.toInt.toNat) ||| ((1 : Int64) <<< (((w.1 127 4) + (y197_4 / (2 : Int32))).toInt64 &&& 63))), .int x96_3, .ref 195]) (w' := w) rfl ?_
    obtain ⟨b15, hs⟩ := hs
    refine tm_k (pc' := 224) (L' := [some (.ref 127), some (.int x96_1), some (.int x96_2), some (.int x96_3), some (.int y197_4), some (.int ys197_0)]) (S' := []) (w' := (sJ w 195 x96_3.toInt.toNat ((w.2.1 195 x96_3.toInt.toNat) ||| ((1 : Int64) <<< (((w.1 127 4) + (y197_4 / (2 : Int32))).toInt64 &&& 63))))) rfl b15 ?_
    refine tm_go 2 (pc' := 96) (L' := [some (.ref 127), some (.int x96_1), some (.int x96_2), some (.int x96_3), some (.int (y197_4 + (1 : Int32))), some (.int ys197_0)]) (S' := []) (w' := (sJ w 195 x96_3.toInt.toNat ((w.2.1 195 x96_3.toInt.toNat) ||| ((1 : Int64) <<< (((w.1 127 4) + (y197_4 / (2 : Int32))).toInt64 &&& 63))))) rfl ?_
    exact hA _ _ _ hs
set_option maxHeartbeats 4000000 in
set_option maxRecDepth 100000 in
theorem tx_Mo_join_96 {d : Nat} {x96_1 : Int32} {x96_2 : Int32} {x96_3 : Int32} {E : MW → Prop} {Q : MW → Prop} (n : Nat) : ∀ (x96_4 : Int32)  (z5 : Option Value) (w : MW), q_Mo_join_96 x96_1 x96_2 x96_3 E Q n x96_4 w → (∀  (v2 : Option Value) (v3 : Option Value) (v4 : Option Value) (v5 : Option Value) (w : MW), E  w → Tm (d + 1) 63 230 [some (.ref 127), some (.int x96_1), v2, v3, v4, v5] [] w (RV Q)) → Tm (d + 1) 63 96 [some (.ref 127), some (.int x96_1), some (.int x96_2), some (.int x96_3), some (.int x96_4), z5] [] w (RV Q) := by
  induction n with
  | zero => intro x96_4 z5 w hs; rw [q_Mo_join_96.eq_1] at hs; exact hs.elim
  | succ n ih =>
    intro x96_4 z5 w hs hE
    rw [q_Mo_join_96.eq_2] at hs
    refine tm_go 5 (pc' := 104) (L' := [some (.ref 127), some (.int x96_1), some (.int x96_2), some (.int x96_3), some (.int x96_4), z5]) (S' := [.int ((2 : Int32) * (w.1 127 11)), .int x96_4]) (w' := w) rfl ?_
    refine tm_i (p1 := 230) (p2 := 107) rfl (fun h7 => ?_) (fun h7 => ?_)
    · replace hs := hs.1 h7
      exact hE _ _ _ _ _ hs
    · replace hs := hs.2 h7
      refine tm_go 1 (pc' := 108) (L' := [some (.ref 127), some (.int x96_1), some (.int x96_2), some (.int x96_3), some (.int x96_4), z5]) (S' := [.int x96_2]) (w' := w) rfl ?_
      refine tm_i (p1 := 230) (p2 := 111) rfl (fun h8 => ?_) (fun h8 => ?_)
      · replace hs := hs.1 h8
        exact hE _ _ _ _ _ hs
      · replace hs := hs.2 h8
        refine tm_go 3 (pc' := 116) (L' := [some (.ref 127), some (.int x96_1), some (.int x96_2), some (.int x96_3), some (.int x96_4), z5]) (S' := [.int x96_2, .ref 163]) (w' := w) rfl ?_
        obtain ⟨b9, hs⟩ := hs
        refine tm_k (pc' := 117) (L' := [some (.ref 127), some (.int x96_1), some (.int x96_2), some (.int x96_3), some (.int x96_4), z5]) (S' := [.int (w.1 163 x96_2.toInt.toNat)]) (w' := w) rfl b9 ?_
        refine tm_i (p1 := 230) (p2 := 120) rfl (fun h10 => ?_) (fun h10 => ?_)
        · replace hs := hs.1 h10
          exact hE _ _ _ _ _ hs
        · replace hs := hs.2 h10
          refine tm_go 3 (pc' := 126) (L' := [some (.ref 127), some (.int x96_1), some (.int x96_2), some (.int x96_3), some (.int x96_4), z5]) (S' := [.int x96_4, .ref 170]) (w' := w) rfl ?_
          obtain ⟨b11, hs⟩ := hs
          refine tm_k (pc' := 127) (L' := [some (.ref 127), some (.int x96_1), some (.int x96_2), some (.int x96_3), some (.int x96_4), z5]) (S' := [.int (w.1 170 x96_4.toInt.toNat)]) (w' := w) rfl b11 ?_
          refine tm_go 1 (pc' := 128) (L' := [some (.ref 127), some (.int x96_1), some (.int x96_2), some (.int x96_3), some (.int x96_4), z5]) (S' := [.int x96_2, .int (w.1 170 x96_4.toInt.toNat)]) (w' := w) rfl ?_
          refine tm_i (p1 := 196) (p2 := 131) rfl (fun h12 => ?_) (fun h12 => ?_)
          · replace hs := hs.1 h12
            refine tm_go 1 (pc' := 197) (L' := [some (.ref 127), some (.int x96_1), some (.int x96_2), some (.int x96_3), some (.int x96_4), z5]) (S' := [.int 0]) (w' := w) rfl ?_
            exact tx_Mo_join_197 hs (fun q0 q1 q2 hs => ih q0 q1 q2 hs hE) hE
          · replace hs := hs.2 h12
            refine tm_go 2 (pc' := 134) (L' := [some (.ref 127), some (.int x96_1), some (.int x96_2), some (.int x96_3), some (.int x96_4), z5]) (S' := [.int x96_1, .int x96_4]) (w' := w) rfl ?_
            refine tm_i (p1 := 196) (p2 := 137) rfl (fun h16 => ?_) (fun h16 => ?_)
            · replace hs := hs.1 h16
              refine tm_go 1 (pc' := 197) (L' := [some (.ref 127), some (.int x96_1), some (.int x96_2), some (.int x96_3), some (.int x96_4), z5]) (S' := [.int 0]) (w' := w) rfl ?_
              exact tx_Mo_join_197 hs (fun q0 q1 q2 hs => ih q0 q1 q2 hs hE) hE
            · replace hs := hs.2 h16
              refine tm_go 3 (pc' := 142) (L' := [some (.ref 127), some (.int x96_1), some (.int x96_2), some (.int x96_3), some (.int x96_4), z5]) (S' := [.int x96_2, .ref 163]) (w' := w) rfl ?_
              obtain ⟨b17, hs⟩ := hs
              refine tm_k (pc' := 143) (L' := [some (.ref 127), some (.int x96_1), some (.int x96_2), some (.int x96_3), some (.int x96_4), z5]) (S' := [.int (w.1 163 x96_2.toInt.toNat)]) (w' := w) rfl b17 ?_
              refine tm_go 1 (pc' := 144) (L' := [some (.ref 127), some (.int x96_1), some (.int x96_2), some (.int x96_3), some (.int x96_4), z5]) (S' := [.int 1, .int (w.1 163 x96_2.toInt.toNat)]) (w' := w) rfl ?_
              refine tm_i (p1 := 159) (p2 := 147) rfl (fun h18 => ?_) (fun h18 => ?_)
              · replace hs := hs.1 h18
                refine tm_go 3 (pc' := 164) (L' := [some (.ref 127), some (.int x96_1), some (.int x96_2), some (.int x96_3), some (.int x96_4), z5]) (S' := [.int x96_2, .ref 163]) (w' := w) rfl ?_
                obtain ⟨b19, hs⟩ := hs
                refine tm_k (pc' := 165) (L' := [some (.ref 127), some (.int x96_1), some (.int x96_2), some (.int x96_3), some (.int x96_4), z5]) (S' := [.int (w.1 163 x96_2.toInt.toNat)]) (w' := w) rfl b19 ?_
                refine tm_go 5 (pc' := 172) (L' := [some (.ref 127), some (.int x96_1), some (.int x96_2), some (.int x96_3), some (.int x96_4), z5]) (S' := [.int x96_2, .ref 167, .int ((w.1 163 x96_2.toInt.toNat) - (2 : Int32))]) (w' := w) rfl ?_
                obtain ⟨b20, hs⟩ := hs
                refine tm_k (pc' := 173) (L' := [some (.ref 127), some (.int x96_1), some (.int x96_2), some (.int x96_3), some (.int x96_4), z5]) (S' := [.int (w.1 167 x96_2.toInt.toNat), .int ((w.1 163 x96_2.toInt.toNat) - (2 : Int32))]) (w' := w) rfl b20 ?_
                refine tm_go 3 (pc' := 178) (L' := [some (.ref 127), some (.int x96_1), some (.int x96_2), some (.int x96_3), some (.int x96_4), z5]) (S' := [.int x96_1, .ref 171, .int (w.1 167 x96_2.toInt.toNat), .int ((w.1 163 x96_2.toInt.toNat) - (2 : Int32))]) (w' := w) rfl ?_
                obtain ⟨b21, hs⟩ := hs
                refine tm_k (pc' := 179) (L' := [some (.ref 127), some (.int x96_1), some (.int x96_2), some (.int x96_3), some (.int x96_4), z5]) (S' := [.int (w.1 171 x96_1.toInt.toNat), .int (w.1 167 x96_2.toInt.toNat), .int ((w.1 163 x96_2.toInt.toNat) - (2 : Int32))]) (w' := w) rfl b21 ?_
                refine tm_go 3 (pc' := 185) (L' := [some (.ref 127), some (.int x96_1), some (.int x96_2), some (.int x96_3), some (.int x96_4), z5]) (S' := [.int x96_4, .ref 171, .int (w.1 171 x96_1.toInt.toNat), .int (w.1 167 x96_2.toInt.toNat), .int ((w.1 163 x96_2.toInt.toNat) - (2 : Int32))]) (w' := w) rfl ?_
                obtain ⟨b22, hs⟩ := hs
                refine tm_k (pc' := 186) (L' := [some (.ref 127), some (.int x96_1), some (.int x96_2), some (.int x96_3), some (.int x96_4), z5]) (S' := [.int (w.1 171 x96_4.toInt.toNat), .int (w.1 171 x96_1.toInt.toNat), .int (w.1 167 x96_2.toInt.toNat), .int ((w.1 163 x96_2.toInt.toNat) - (2 : Int32))]) (w' := w) rfl b22 ?_
                refine tm_c rfl (Nat.le_of_ble_eq_true rfl) (dm_Mo_passes (d := d + 0) hs) (fun v w23 hq => ?_)
                obtain ⟨r23, rfl, hz23, hs⟩ := hq
                refine tm_i (p1 := 196) (p2 := 192) rfl (fun h24 => ?_) (fun h24 => ?_)
                · replace hs := hs.1 h24
                  refine tm_go 1 (pc' := 197) (L' := [some (.ref 127), some (.int x96_1), some (.int x96_2), some (.int x96_3), some (.int x96_4), z5]) (S' := [.int 0]) (w' := w23) rfl ?_
                  exact tx_Mo_join_197 hs (fun q0 q1 q2 hs => ih q0 q1 q2 hs hE) hE
                · replace hs := hs.2 h24
                  refine tm_go 2 (pc' := 197) (L' := [some (.ref 127), some (.int x96_1), some (.int x96_2), some (.int x96_3), some (.int x96_4), z5]) (S' := [.int 1]) (w' := w23) rfl ?_
                  exact tx_Mo_join_197 hs (fun q0 q1 q2 hs => ih q0 q1 q2 hs hE) hE
              · replace hs := hs.2 h18
                refine tm_go 3 (pc' := 152) (L' := [some (.ref 127), some (.int x96_1), some (.int x96_2), some (.int x96_3), some (.int x96_4), z5]) (S' := [.int x96_1, .ref 171]) (w' := w) rfl ?_
                obtain ⟨b25, hs⟩ := hs
                refine tm_k (pc' := 153) (L' := [some (.ref 127), some (.int x96_1), some (.int x96_2), some (.int x96_3), some (.int x96_4), z5]) (S' := [.int (w.1 171 x96_1.toInt.toNat)]) (w' := w) rfl b25 ?_
                refine tm_i (p1 := 196) (p2 := 156) rfl (fun h26 => ?_) (fun h26 => ?_)
                · replace hs := hs.1 h26
                  refine tm_go 1 (pc' := 197) (L' := [some (.ref 127), some (.int x96_1), some (.int x96_2), some (.int x96_3), some (.int x96_4), z5]) (S' := [.int 0]) (w' := w) rfl ?_
                  exact tx_Mo_join_197 hs (fun q0 q1 q2 hs => ih q0 q1 q2 hs hE) hE
                · replace hs := hs.2 h26
                  refine tm_go 3 (pc' := 197) (L' := [some (.ref 127), some (.int x96_1), some (.int x96_2), some (.int x96_3), some (.int x96_4), z5]) (S' := [.int 1]) (w' := w) rfl ?_
                  exact tx_Mo_join_197 hs (fun q0 q1 q2 hs => ih q0 q1 q2 hs hE) hE
set_option maxHeartbeats 4000000 in
set_option maxRecDepth 100000 in
theorem tx_Mo_join_30 {d : Nat} {E : MW → Prop} {Q : MW → Prop} (n : Nat) : ∀ (x30_1 : Int32)  (z2 : Option Value) (z3 : Option Value) (z4 : Option Value) (z5 : Option Value) (w : MW), q_Mo_join_30  E Q n x30_1 w → (∀  (v0 : Option Value) (v1 : Option Value) (v2 : Option Value) (v3 : Option Value) (v4 : Option Value) (v5 : Option Value) (w : MW), E  w → Tm (d + 1) 63 236 [v0, v1, v2, v3, v4, v5] [] w (RV Q)) → Tm (d + 1) 63 30 [some (.ref 127), some (.int x30_1), z2, z3, z4, z5] [] w (RV Q) := by
  induction n with
  | zero => intro x30_1 z2 z3 z4 z5 w hs; rw [q_Mo_join_30.eq_1] at hs; exact hs.elim
  | succ n ih =>
    intro x30_1 z2 z3 z4 z5 w hs hE
    rw [q_Mo_join_30.eq_2] at hs
    refine tm_go 5 (pc' := 37) (L' := [some (.ref 127), some (.int x30_1), z2, z3, z4, z5]) (S' := [.int ((2 : Int32) * (w.1 127 11)), .int x30_1]) (w' := w) rfl ?_
    refine tm_i (p1 := 236) (p2 := 40) rfl (fun h4 => ?_) (fun h4 => ?_)
    · replace hs := hs.1 h4
      exact hE _ _ _ _ _ _ _ hs
    · replace hs := hs.2 h4
      refine tm_go 3 (pc' := 45) (L' := [some (.ref 127), some (.int x30_1), z2, z3, z4, z5]) (S' := [.int x30_1, .ref 170]) (w' := w) rfl ?_
      obtain ⟨b5, hs⟩ := hs
      refine tm_k (pc' := 46) (L' := [some (.ref 127), some (.int x30_1), z2, z3, z4, z5]) (S' := [.int (w.1 170 x30_1.toInt.toNat)]) (w' := w) rfl b5 ?_
      refine tm_go 9 (pc' := 57) (L' := [some (.ref 127), some (.int x30_1), some (.int (w.1 170 x30_1.toInt.toNat)), some (.int ((w.1 127 4) + (x30_1 / (2 : Int32)))), z4, z5]) (S' := [.int (w.1 170 x30_1.toInt.toNat)]) (w' := w) rfl ?_
      refine tm_i (p1 := 93) (p2 := 60) rfl (fun h6 => ?_) (fun h6 => ?_)
      · replace hs := hs.1 h6
        refine tm_go 2 (pc' := 96) (L' := [some (.ref 127), some (.int x30_1), some (.int (w.1 170 x30_1.toInt.toNat)), some (.int ((w.1 127 4) + (x30_1 / (2 : Int32)))), some (.int 0), z5]) (S' := []) (w' := w) rfl ?_
        refine tx_Mo_join_96 FU _ _ _ hs (fun  z27_2 z27_3 z27_4 z27_5 w27 hs => ?_)
        refine tm_go 2 (pc' := 30) (L' := [some (.ref 127), some (.int (x30_1 + (1 : Int32))), z27_2, z27_3, z27_4, z27_5]) (S' := []) (w' := w27) rfl ?_
        exact ih _ _ _ _ _ _ hs hE
      · replace hs := hs.2 h6
        refine tm_go 3 (pc' := 65) (L' := [some (.ref 127), some (.int x30_1), some (.int (w.1 170 x30_1.toInt.toNat)), some (.int ((w.1 127 4) + (x30_1 / (2 : Int32)))), z4, z5]) (S' := [.int (w.1 170 x30_1.toInt.toNat), .ref 163]) (w' := w) rfl ?_
        obtain ⟨b28, hs⟩ := hs
        refine tm_k (pc' := 66) (L' := [some (.ref 127), some (.int x30_1), some (.int (w.1 170 x30_1.toInt.toNat)), some (.int ((w.1 127 4) + (x30_1 / (2 : Int32)))), z4, z5]) (S' := [.int (w.1 163 ((w.1 170 x30_1.toInt.toNat).toInt.toNat))]) (w' := w) rfl b28 ?_
        refine tm_i (p1 := 93) (p2 := 69) rfl (fun h29 => ?_) (fun h29 => ?_)
        · replace hs := hs.1 h29
          refine tm_go 2 (pc' := 96) (L' := [some (.ref 127), some (.int x30_1), some (.int (w.1 170 x30_1.toInt.toNat)), some (.int ((w.1 127 4) + (x30_1 / (2 : Int32)))), some (.int 0), z5]) (S' := []) (w' := w) rfl ?_
          refine tx_Mo_join_96 FU _ _ _ hs (fun  z30_2 z30_3 z30_4 z30_5 w30 hs => ?_)
          refine tm_go 2 (pc' := 30) (L' := [some (.ref 127), some (.int (x30_1 + (1 : Int32))), z30_2, z30_3, z30_4, z30_5]) (S' := []) (w' := w30) rfl ?_
          exact ih _ _ _ _ _ _ hs hE
        · replace hs := hs.2 h29
          refine tm_go 4 (pc' := 75) (L' := [some (.ref 127), some (.int x30_1), some (.int (w.1 170 x30_1.toInt.toNat)), some (.int ((w.1 127 4) + (x30_1 / (2 : Int32)))), z4, z5]) (S' := [.int ((w.1 127 4) + (x30_1 / (2 : Int32))), .ref 195, .int ((w.1 127 4) + (x30_1 / (2 : Int32))), .ref 195]) (w' := w) rfl ?_
          obtain ⟨b31, hs⟩ := hs
          refine tm_k (pc' := 76) (L' := [some (.ref 127), some (.int x30_1), some (.int (w.1 170 x30_1.toInt.toNat)), some (.int ((w.1 127 4) + (x30_1 / (2 : Int32)))), z4, z5]) (S' := [.long (w.2.1 195 (((w.1 127 4) + (x30_1 / (2 : Int32))).toInt.toNat)), .int ((w.1 127 4) + (x30_1 / (2 : Int32))), .ref 195]) (w' := w) rfl b31 ?_
          refine tm_go 4 (pc' := 80) (L' := [some (.ref 127), some (.int x30_1), some (.int (w.1 170 x30_1.toInt.toNat)), some (.int ((w.1 127 4) + (x30_1 / (2 : Int32)))), z4, z5]) (S' := [.long ((w.2.1 195 (((w.1 127 4) + (x30_1 / (2 : Int32))).toInt.toNat)) ||| ((1 : Int64) <<< ((w.1 170 x30_1.toInt.toNat).toInt64 &&& 63))), .int ((w.1 127 4) + (x30_1 / (2 : Int32))), .ref 195]) (w' := w) rfl ?_
          obtain ⟨b32, hs⟩ := hs
          refine tm_k (pc' := 81) (L' := [some (.ref 127), some (.int x30_1), some (.int (w.1 170 x30_1.toInt.toNat)), some (.int ((w.1 127 4) + (x30_1 / (2 : Int32)))), z4, z5]) (S' := []) (w' := (sJ w 195 (((w.1 127 4) + (x30_1 / (2 : Int32))).toInt.toNat) ((w.2.1 195 (((w.1 127 4) + (x30_1 / (2 : Int32))).toInt.toNat)) ||| ((1 : Int64) <<< ((w.1 170 x30_1.toInt.toNat).toInt64 &&& 63))))) rfl b32 ?_
          refine tm_go 4 (pc' := 87) (L' := [some (.ref 127), some (.int x30_1), some (.int (w.1 170 x30_1.toInt.toNat)), some (.int ((w.1 127 4) + (x30_1 / (2 : Int32)))), z4, z5]) (S' := [.int (w.1 170 x30_1.toInt.toNat), .ref 195, .int (w.1 170 x30_1.toInt.toNat), .ref 195]) (w' := (sJ w 195 (((w.1 127 4) + (x30_1 / (2 : Int32))).toInt.toNat) ((w.2.1 195 (((w.1 127 4) + (x30_1 / (2 : Int32))).toInt.toNat)) ||| ((1 : Int64) <<< ((w.1 170 x30_1.toInt.toNat).toInt64 &&& 63))))) rfl ?_
          obtain ⟨b33, hs⟩ := hs
          refine tm_k (pc' := 88) (L' := [some (.ref 127), some (.int x30_1), some (.int (w.1 170 x30_1.toInt.toNat)), some (.int ((w.1 127 4) + (x30_1 / (2 : Int32)))), z4, z5]) (S' := [.long ((sJ w 195 (((w.1 127 4) + (x30_1 / (2 : Int32))).toInt.toNat) ((w.2.1 195 (((w.1 127 4) + (x30_1 / (2 : Int32))).toInt.toNat)) ||| ((1 : Int64) <<< ((w.1 170 x30_1.toInt.toNat).toInt64 &&& 63)))).2.1 195 ((w.1 170 x30_1.toInt.toNat).toInt.toNat)), .int (w.1 170 x30_1.toInt.toNat), .ref 195]) (w' := (sJ w 195 (((w.1 127 4) + (x30_1 / (2 : Int32))).toInt.toNat) ((w.2.1 195 (((w.1 127 4) + (x30_1 / (2 : Int32))).toInt.toNat)) ||| ((1 : Int64) <<< ((w.1 170 x30_1.toInt.toNat).toInt64 &&& 63))))) rfl b33 ?_
          refine tm_go 4 (pc' := 92) (L' := [some (.ref 127), some (.int x30_1), some (.int (w.1 170 x30_1.toInt.toNat)), some (.int ((w.1 127 4) + (x30_1 / (2 : Int32)))), z4, z5]) (S' := [.long (((sJ w 195 (((w.1 127 4) + (x30_1 / (2 : Int32))).toInt.toNat) ((w.2.1 195 (((w.1 127 4) + (x30_1 / (2 : Int32))).toInt.toNat)) ||| ((1 : Int64) <<< ((w.1 170 x30_1.toInt.toNat).toInt64 &&& 63)))).2.1 195 ((w.1 170 x30_1.toInt.toNat).toInt.toNat)) ||| ((1 : Int64) <<< (((w.1 127 4) + (x30_1 / (2 : Int32))).toInt64 &&& 63))), .int (w.1 170 x30_1.toInt.toNat), .ref 195]) (w' := (sJ w 195 (((w.1 127 4) + (x30_1 / (2 : Int32))).toInt.toNat) ((w.2.1 195 (((w.1 127 4) + (x30_1 / (2 : Int32))).toInt.toNat)) ||| ((1 : Int64) <<< ((w.1 170 x30_1.toInt.toNat).toInt64 &&& 63))))) rfl ?_
          obtain ⟨b34, hs⟩ := hs
          refine tm_k (pc' := 93) (L' := [some (.ref 127), some (.int x30_1), some (.int (w.1 170 x30_1.toInt.toNat)), some (.int ((w.1 127 4) + (x30_1 / (2 : Int32)))), z4, z5]) (S' := []) (w' := (sJ (sJ w 195 (((w.1 127 4) + (x30_1 / (2 : Int32))).toInt.toNat) ((w.2.1 195 (((w.1 127 4) + (x30_1 / (2 : Int32))).toInt.toNat)) ||| ((1 : Int64) <<< ((w.1 170 x30_1.toInt.toNat).toInt64 &&& 63)))) 195 ((w.1 170 x30_1.toInt.toNat).toInt.toNat) (((sJ w 195 (((w.1 127 4) + (x30_1 / (2 : Int32))).toInt.toNat) ((w.2.1 195 (((w.1 127 4) + (x30_1 / (2 : Int32))).toInt.toNat)) ||| ((1 : Int64) <<< ((w.1 170 x30_1.toInt.toNat).toInt64 &&& 63)))).2.1 195 ((w.1 170 x30_1.toInt.toNat).toInt.toNat)) ||| ((1 : Int64) <<< (((w.1 127 4) + (x30_1 / (2 : Int32))).toInt64 &&& 63))))) rfl b34 ?_
          refine tm_go 2 (pc' := 96) (L' := [some (.ref 127), some (.int x30_1), some (.int (w.1 170 x30_1.toInt.toNat)), some (.int ((w.1 127 4) + (x30_1 / (2 : Int32)))), some (.int 0), z5]) (S' := []) (w' := (sJ (sJ w 195 (((w.1 127 4) + (x30_1 / (2 : Int32))).toInt.toNat) ((w.2.1 195 (((w.1 127 4) + (x30_1 / (2 : Int32))).toInt.toNat)) ||| ((1 : Int64) <<< ((w.1 170 x30_1.toInt.toNat).toInt64 &&& 63)))) 195 ((w.1 170 x30_1.toInt.toNat).toInt.toNat) (((sJ w 195 (((w.1 127 4) + (x30_1 / (2 : Int32))).toInt.toNat) ((w.2.1 195 (((w.1 127 4) + (x30_1 / (2 : Int32))).toInt.toNat)) ||| ((1 : Int64) <<< ((w.1 170 x30_1.toInt.toNat).toInt64 &&& 63)))).2.1 195 ((w.1 170 x30_1.toInt.toNat).toInt.toNat)) ||| ((1 : Int64) <<< (((w.1 127 4) + (x30_1 / (2 : Int32))).toInt64 &&& 63))))) rfl ?_
          refine tx_Mo_join_96 FU _ _ _ hs (fun  z35_2 z35_3 z35_4 z35_5 w35 hs => ?_)
          refine tm_go 2 (pc' := 30) (L' := [some (.ref 127), some (.int (x30_1 + (1 : Int32))), z35_2, z35_3, z35_4, z35_5]) (S' := []) (w' := w35) rfl ?_
          exact ih _ _ _ _ _ _ hs hE
set_option maxHeartbeats 4000000 in
set_option maxRecDepth 100000 in
theorem dm_Mo_join {d : Nat} {w : MW} {Q : MW → Prop} (hs : p_Mo_join w Q) : Tc (d + 1) 63 [.ref 127] w (RV Q) := by
  unfold p_Mo_join at hs
  refine tm_go 2 (pc' := 2) (L' := [some (.ref 127), some (.int 0), none, none, none, none]) (S' := []) (w' := w) rfl ?_
  refine tx_Mo_join_2 FU _ _ _ _ _ _ hs (fun  z3_1 z3_2 z3_3 z3_4 z3_5 w3 hs => ?_)
  refine tm_go 2 (pc' := 30) (L' := [some (.ref 127), some (.int 0), z3_2, z3_3, z3_4, z3_5]) (S' := []) (w' := w3) rfl ?_
  refine tx_Mo_join_30 FU _ _ _ _ _ _ hs (fun  z36_0 z36_1 z36_2 z36_3 z36_4 z36_5 w36 hs => ?_)
  exact tm_r rfl ⟨rfl, hs⟩
set_option maxHeartbeats 4000000 in
set_option maxRecDepth 100000 in
theorem dm_Mo_mayMeet {d : Nat} {w : MW} {a0 : Int32} {b0 : Int32} {Q : Int32 → MW → Prop} (hs : p_Mo_mayMeet w a0 b0 Q) : Tc (d + 0) 65 [.ref 127, .int a0, .int b0] w (RZ Q) := by
  unfold p_Mo_mayMeet at hs
  refine tm_go 2 (pc' := 2) (L' := [some (.ref 127), some (.int a0), some (.int b0)]) (S' := [.int b0, .int a0]) (w' := w) rfl ?_
  refine tm_i (p1 := 31) (p2 := 5) rfl (fun h1 => ?_) (fun h1 => ?_)
  · replace hs := hs.1 h1
    refine tm_go 2 (pc' := 36) (L' := [some (.ref 127), some (.int a0), some (.int b0)]) (S' := [.int 1]) (w' := w) rfl ?_
    exact tm_r rfl ⟨_, rfl, by decide, hs⟩
  · replace hs := hs.2 h1
    refine tm_go 2 (pc' := 8) (L' := [some (.ref 127), some (.int a0), some (.int b0)]) (S' := [.int 15, .int a0]) (w' := w) rfl ?_
    refine tm_i (p1 := 35) (p2 := 11) rfl (fun h2 => ?_) (fun h2 => ?_)
    · replace hs := hs.1 h2
      refine tm_go 1 (pc' := 36) (L' := [some (.ref 127), some (.int a0), some (.int b0)]) (S' := [.int 0]) (w' := w) rfl ?_
      exact tm_r rfl ⟨_, rfl, by decide, hs⟩
    · replace hs := hs.2 h2
      refine tm_go 2 (pc' := 14) (L' := [some (.ref 127), some (.int a0), some (.int b0)]) (S' := [.int 15, .int b0]) (w' := w) rfl ?_
      refine tm_i (p1 := 35) (p2 := 17) rfl (fun h3 => ?_) (fun h3 => ?_)
      · replace hs := hs.1 h3
        refine tm_go 1 (pc' := 36) (L' := [some (.ref 127), some (.int a0), some (.int b0)]) (S' := [.int 0]) (w' := w) rfl ?_
        exact tm_r rfl ⟨_, rfl, by decide, hs⟩
      · replace hs := hs.2 h3
        refine tm_go 7 (pc' := 27) (L' := [some (.ref 127), some (.int a0), some (.int b0)]) (S' := [.int (((16 : Int32) * a0) + b0), .ref 175]) (w' := w) rfl ?_
        obtain ⟨b4, hs⟩ := hs
        refine tm_k (pc' := 28) (L' := [some (.ref 127), some (.int a0), some (.int b0)]) (S' := [.int (w.1 175 ((((16 : Int32) * a0) + b0).toInt.toNat))]) (w' := w) rfl b4 ?_
        refine tm_i (p1 := 35) (p2 := 31) rfl (fun h5 => ?_) (fun h5 => ?_)
        · replace hs := hs.1 h5
          refine tm_go 1 (pc' := 36) (L' := [some (.ref 127), some (.int a0), some (.int b0)]) (S' := [.int 0]) (w' := w) rfl ?_
          exact tm_r rfl ⟨_, rfl, by decide, hs⟩
        · replace hs := hs.2 h5
          refine tm_go 2 (pc' := 36) (L' := [some (.ref 127), some (.int a0), some (.int b0)]) (S' := [.int 1]) (w' := w) rfl ?_
          exact tm_r rfl ⟨_, rfl, by decide, hs⟩
