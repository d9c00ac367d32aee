set_option maxHeartbeats 4000000 in
set_option maxRecDepth 100000 in
theorem dm_Tx_sumOf {d : Nat} {w : MW} {a0 : Int32} {Q : Int32 → MW → Prop} (hs : p_Tx_sumOf w a0 Q) : Tc (d + 404) 329 [.ref 129, .int a0] w (RZ Q) := by
  unfold p_Tx_sumOf at hs
  refine tm_go 1 (pc' := 1) (L' := [some (.ref 129), some (.int a0), none]) (S' := [.ref 129]) (w' := w) rfl ?_
  refine tm_c rfl (Nat.le_of_ble_eq_true rfl) (dm_Tx_sum (d := d + 0) hs) (fun v w1 hq => ?_)
  obtain ⟨r1, rfl, hs⟩ := hq
  refine tm_go 2 (pc' := 6) (L' := [some (.ref 129), some (.int a0), some (.int r1)]) (S' := [.int r1]) (w' := w1) rfl ?_
  refine tm_i (p1 := 11) (p2 := 9) rfl (fun h2 => ?_) (fun h2 => ?_)
  · replace hs := hs.1 h2
    refine tm_go 2 (pc' := 13) (L' := [some (.ref 129), some (.int a0), some (.int r1)]) (S' := [.int r1, .ref 129]) (w' := w1) rfl ?_
    refine tm_c rfl (Nat.le_of_ble_eq_true rfl) (dm_Tx_unitIn (d := d + 402) hs) (fun v w3 hq => ?_)
    obtain ⟨r3, rfl, hs⟩ := hq
    refine tm_go 1 (pc' := 17) (L' := [some (.ref 129), some (.int a0), some (.int r1)]) (S' := [.int a0, .int r3]) (w' := w3) rfl ?_
    refine tm_i (p1 := 30) (p2 := 20) rfl (fun h4 => ?_) (fun h4 => ?_)
    · replace hs := hs.1 h4
      refine tm_go 2 (pc' := 32) (L' := [some (.ref 129), some (.int a0), some (.int r1)]) (S' := [.int r1, .ref 129]) (w' := w3) rfl ?_
      refine tm_c rfl (Nat.le_of_ble_eq_true rfl) (dm_Tx_push (d := d + 403) hs) (fun v w5 hq => ?_)
      obtain ⟨rfl, hs⟩ := hq
      refine tm_go 1 (pc' := 36) (L' := [some (.ref 129), some (.int a0), some (.int r1)]) (S' := [.int 1]) (w' := w5) rfl ?_
      exact tm_r rfl ⟨_, rfl, by decide, hs⟩
    · replace hs := hs.2 h4
      refine tm_go 5 (pc' := 29) (L' := [some (.ref 129), some (.int a0), some (.int r1)]) (S' := [.int 0]) (w' := (sI w3 129 10 (w3.1 129 5))) rfl ?_
      exact tm_r rfl ⟨_, rfl, by decide, hs⟩
  · replace hs := hs.2 h2
    refine tm_go 1 (pc' := 10) (L' := [some (.ref 129), some (.int a0), some (.int r1)]) (S' := [.int 0]) (w' := w1) rfl ?_
    exact tm_r rfl ⟨_, rfl, by decide, hs⟩
set_option maxHeartbeats 4000000 in
set_option maxRecDepth 100000 in
theorem tx_Tx_test_94 {d : Nat} {y94_1 : Int32} {y94_2 : Int32} {y94_3 : Int32} {ys94_0 : Int32} {z4 : Option Value} {w : MW} {Q : Int32 → MW → Prop} (hs : q_Tx_test_94 y94_1 y94_2 y94_3 ys94_0 w Q) : Tm (d + 404) 324 94 [some (.ref 129), some (.int y94_1), some (.int y94_2), some (.int y94_3), z4] [.int ys94_0] w (RI Q) := by
  unfold q_Tx_test_94 at hs
  refine tm_go 2 (pc' := 98) (L' := [some (.ref 129), some (.int y94_1), some (.int y94_2), some (.int y94_3), some (.int ys94_0)]) (S' := [.int ys94_0]) (w' := w) rfl ?_
  refine tm_i (p1 := 103) (p2 := 101) rfl (fun h8 => ?_) (fun h8 => ?_)
  · replace hs := hs.1 h8
    refine tm_go 2 (pc' := 105) (L' := [some (.ref 129), some (.int y94_1), some (.int y94_2), some (.int y94_3), some (.int ys94_0)]) (S' := [.int y94_1, .ref 129]) (w' := w) rfl ?_
    refine tm_c rfl (Nat.le_of_ble_eq_true rfl) (dm_Tx_unitIn (d := d + 402) hs) (fun v w9 hq => ?_)
    obtain ⟨r9, rfl, hs⟩ := hq
    refine tm_go 2 (pc' := 111) (L' := [some (.ref 129), some (.int y94_1), some (.int y94_2), some (.int y94_3), some (.int ys94_0)]) (S' := [.int ys94_0, .ref 129, .int r9]) (w' := w9) rfl ?_
    refine tm_c rfl (Nat.le_of_ble_eq_true rfl) (dm_Tx_unitIn (d := d + 402) hs) (fun v w10 hq => ?_)
    obtain ⟨r10, rfl, hs⟩ := hq
    refine tm_i (p1 := 124) (p2 := 117) rfl (fun h11 => ?_) (fun h11 => ?_)
    · replace hs := hs.1 h11
      refine tm_go 5 (pc' := 130) (L' := [some (.ref 129), some (.int y94_1), some (.int y94_2), some (.int y94_3), some (.int ys94_0)]) (S' := [.int (-1), .int ys94_0, .int y94_1, .int y94_2, .ref 129]) (w' := w10) rfl ?_
      refine tm_c rfl (Nat.le_of_ble_eq_true rfl) (dm_Tx_two (d := d + 401) hs) (fun v w12 hq => ?_)
      obtain ⟨r12, rfl, hs⟩ := hq
      exact tm_r rfl ⟨_, rfl, hs⟩
    · replace hs := hs.2 h11
      refine tm_go 4 (pc' := 123) (L' := [some (.ref 129), some (.int y94_1), some (.int y94_2), some (.int y94_3), some (.int ys94_0)]) (S' := [.int (-1)]) (w' := (sI w10 129 10 y94_3)) rfl ?_
      exact tm_r rfl ⟨_, rfl, hs⟩
  · replace hs := hs.2 h8
    refine tm_go 1 (pc' := 102) (L' := [some (.ref 129), some (.int y94_1), some (.int y94_2), some (.int y94_3), some (.int ys94_0)]) (S' := [.int (-1)]) (w' := w) rfl ?_
    exact tm_r rfl ⟨_, rfl, hs⟩
set_option maxHeartbeats 4000000 in
set_option maxRecDepth 100000 in
theorem tx_Tx_test_43 {d : Nat} {y43_1 : Int32} {z2 : Option Value} {z3 : Option Value} {z4 : Option Value} {w : MW} {Q : Int32 → MW → Prop} (hs : q_Tx_test_43 y43_1 w Q) : Tm (d + 404) 324 43 [some (.ref 129), some (.int y43_1), z2, z3, z4] [] w (RI Q) := by
  unfold q_Tx_test_43 at hs
  refine tm_go 3 (pc' := 49) (L' := [some (.ref 129), some (.int y43_1), z2, z3, z4]) (S' := [.int 60, .int (w.1 129 4)]) (w' := w) rfl ?_
  refine tm_i (p1 := 57) (p2 := 52) rfl (fun h4 => ?_) (fun h4 => ?_)
  · replace hs := hs.1 h4
    refine tm_go 3 (pc' := 63) (L' := [some (.ref 129), some (.int y43_1), z2, z3, z4]) (S' := [.int 61, .int (w.1 129 4)]) (w' := w) rfl ?_
    refine tm_i (p1 := 71) (p2 := 66) rfl (fun h5 => ?_) (fun h5 => ?_)
    · replace hs := hs.1 h5
      refine tm_go 6 (pc' := 80) (L' := [some (.ref 129), some (.int y43_1), some (.int 9), some (.int (w.1 129 5)), z4]) (S' := [.ref 129]) (w' := w) rfl ?_
      refine tm_c rfl (Nat.le_of_ble_eq_true rfl) (dm_Tx_go (d := d + 401) hs) (fun v w6 hq => ?_)
      obtain ⟨r6, rfl, hz6, hs⟩ := hq
      refine tm_i (p1 := 93) (p2 := 86) rfl (fun h7 => ?_) (fun h7 => ?_)
      · replace hs := hs.1 h7
        refine tm_go 1 (pc' := 94) (L' := [some (.ref 129), some (.int y43_1), some (.int 9), some (.int (w.1 129 5)), z4]) (S' := [.int (-1)]) (w' := w6) rfl ?_
        exact tx_Tx_test_94 hs 
      · replace hs := hs.2 h7
        refine tm_go 1 (pc' := 87) (L' := [some (.ref 129), some (.int y43_1), some (.int 9), some (.int (w.1 129 5)), z4]) (S' := [.ref 129]) (w' := w6) rfl ?_
        refine tm_c rfl (Nat.le_of_ble_eq_true rfl) (dm_Tx_sum (d := d + 0) hs) (fun v w13 hq => ?_)
        obtain ⟨r13, rfl, hs⟩ := hq
        refine tm_go 1 (pc' := 94) (L' := [some (.ref 129), some (.int y43_1), some (.int 9), some (.int (w.1 129 5)), z4]) (S' := [.int r13]) (w' := w13) rfl ?_
        exact tx_Tx_test_94 hs 
    · replace hs := hs.2 h5
      refine tm_go 7 (pc' := 80) (L' := [some (.ref 129), some (.int y43_1), some (.int 8), some (.int (w.1 129 5)), z4]) (S' := [.ref 129]) (w' := w) rfl ?_
      refine tm_c rfl (Nat.le_of_ble_eq_true rfl) (dm_Tx_go (d := d + 401) hs) (fun v w14 hq => ?_)
      obtain ⟨r14, rfl, hz14, hs⟩ := hq
      refine tm_i (p1 := 93) (p2 := 86) rfl (fun h15 => ?_) (fun h15 => ?_)
      · replace hs := hs.1 h15
        refine tm_go 1 (pc' := 94) (L' := [some (.ref 129), some (.int y43_1), some (.int 8), some (.int (w.1 129 5)), z4]) (S' := [.int (-1)]) (w' := w14) rfl ?_
        exact tx_Tx_test_94 hs 
      · replace hs := hs.2 h15
        refine tm_go 1 (pc' := 87) (L' := [some (.ref 129), some (.int y43_1), some (.int 8), some (.int (w.1 129 5)), z4]) (S' := [.ref 129]) (w' := w14) rfl ?_
        refine tm_c rfl (Nat.le_of_ble_eq_true rfl) (dm_Tx_sum (d := d + 0) hs) (fun v w16 hq => ?_)
        obtain ⟨r16, rfl, hs⟩ := hq
        refine tm_go 1 (pc' := 94) (L' := [some (.ref 129), some (.int y43_1), some (.int 8), some (.int (w.1 129 5)), z4]) (S' := [.int r16]) (w' := w16) rfl ?_
        exact tx_Tx_test_94 hs 
  · replace hs := hs.2 h4
    refine tm_go 7 (pc' := 80) (L' := [some (.ref 129), some (.int y43_1), some (.int 7), some (.int (w.1 129 5)), z4]) (S' := [.ref 129]) (w' := w) rfl ?_
    refine tm_c rfl (Nat.le_of_ble_eq_true rfl) (dm_Tx_go (d := d + 401) hs) (fun v w17 hq => ?_)
    obtain ⟨r17, rfl, hz17, hs⟩ := hq
    refine tm_i (p1 := 93) (p2 := 86) rfl (fun h18 => ?_) (fun h18 => ?_)
    · replace hs := hs.1 h18
      refine tm_go 1 (pc' := 94) (L' := [some (.ref 129), some (.int y43_1), some (.int 7), some (.int (w.1 129 5)), z4]) (S' := [.int (-1)]) (w' := w17) rfl ?_
      exact tx_Tx_test_94 hs 
    · replace hs := hs.2 h18
      refine tm_go 1 (pc' := 87) (L' := [some (.ref 129), some (.int y43_1), some (.int 7), some (.int (w.1 129 5)), z4]) (S' := [.ref 129]) (w' := w17) rfl ?_
      refine tm_c rfl (Nat.le_of_ble_eq_true rfl) (dm_Tx_sum (d := d + 0) hs) (fun v w19 hq => ?_)
      obtain ⟨r19, rfl, hs⟩ := hq
      refine tm_go 1 (pc' := 94) (L' := [some (.ref 129), some (.int y43_1), some (.int 7), some (.int (w.1 129 5)), z4]) (S' := [.int r19]) (w' := w19) rfl ?_
      exact tx_Tx_test_94 hs 
set_option maxHeartbeats 4000000 in
set_option maxRecDepth 100000 in
theorem dm_Tx_test {d : Nat} {w : MW} {Q : Int32 → MW → Prop} (hs : p_Tx_test w Q) : Tc (d + 404) 324 [.ref 129] w (RI Q) := by
  unfold p_Tx_test at hs
  refine tm_go 1 (pc' := 1) (L' := [some (.ref 129), none, none, none, none]) (S' := [.ref 129]) (w' := w) rfl ?_
  refine tm_c rfl (Nat.le_of_ble_eq_true rfl) (dm_Tx_sum (d := d + 0) hs) (fun v w1 hq => ?_)
  obtain ⟨r1, rfl, hs⟩ := hq
  refine tm_go 2 (pc' := 6) (L' := [some (.ref 129), some (.int r1), none, none, none]) (S' := [.int r1]) (w' := w1) rfl ?_
  refine tm_i (p1 := 11) (p2 := 9) rfl (fun h2 => ?_) (fun h2 => ?_)
  · replace hs := hs.1 h2
    refine tm_go 3 (pc' := 17) (L' := [some (.ref 129), some (.int r1), none, none, none]) (S' := [.int 60, .int (w1.1 129 4)]) (w' := w1) rfl ?_
    refine tm_i (p1 := 43) (p2 := 20) rfl (fun h3 => ?_) (fun h3 => ?_)
    · replace hs := hs.1 h3
      exact tx_Tx_test_43 hs 
    · replace hs := hs.2 h3
      refine tm_go 3 (pc' := 26) (L' := [some (.ref 129), some (.int r1), none, none, none]) (S' := [.int 61, .int (w1.1 129 4)]) (w' := w1) rfl ?_
      refine tm_i (p1 := 43) (p2 := 29) rfl (fun h20 => ?_) (fun h20 => ?_)
      · replace hs := hs.1 h20
        exact tx_Tx_test_43 hs 
      · replace hs := hs.2 h20
        refine tm_go 3 (pc' := 35) (L' := [some (.ref 129), some (.int r1), none, none, none]) (S' := [.int 62, .int (w1.1 129 4)]) (w' := w1) rfl ?_
        refine tm_i (p1 := 43) (p2 := 38) rfl (fun h21 => ?_) (fun h21 => ?_)
        · replace hs := hs.1 h21
          exact tx_Tx_test_43 hs 
        · replace hs := hs.2 h21
          refine tm_go 1 (pc' := 39) (L' := [some (.ref 129), some (.int r1), none, none, none]) (S' := [.ref 129]) (w' := w1) rfl ?_
          refine tm_c rfl (Nat.le_of_ble_eq_true rfl) (dm_Tx_bad (d := d + 403) hs) (fun v w22 hq => ?_)
          obtain ⟨r22, rfl, hs⟩ := hq
          exact tm_r rfl ⟨_, rfl, hs⟩
  · replace hs := hs.2 h2
    refine tm_go 1 (pc' := 10) (L' := [some (.ref 129), some (.int r1), none, none, none]) (S' := [.int (-1)]) (w' := w1) rfl ?_
    exact tm_r rfl ⟨_, rfl, hs⟩
set_option maxHeartbeats 4000000 in
set_option maxRecDepth 100000 in
theorem tx_Tx_block_52 {d : Nat} {r_Tx_block : MW → (Int32 → MW → Prop) → Prop} {r_Tx_statement : MW → (Int32 → MW → Prop) → Prop} (hr_Tx_block : ∀ (w : MW) (Q : Int32 → MW → Prop), r_Tx_block w Q → Tc (d + 404) 328 [.ref 129] w (RI Q)) (hr_Tx_statement : ∀ (w : MW) (Q : Int32 → MW → Prop), r_Tx_statement w Q → Tc (d + 404) 331 [.ref 129] w (RI Q)) {x52_1 : Int32} {x52_2 : Int32} {E : MW → Prop} {Q : Int32 → MW → Prop} (n : Nat) : ∀  (z3 : Option Value) (w : MW), q_Tx_block_52 r_Tx_block r_Tx_statement x52_1 x52_2 E Q n  w → (∀  (v3 : Option Value) (w : MW), E  w → Tm (d + 405) 328 80 [some (.ref 129), some (.int x52_1), some (.int x52_2), v3] [] w (RI Q)) → Tm (d + 405) 328 52 [some (.ref 129), some (.int x52_1), some (.int x52_2), z3] [] w (RI Q) := by
  induction n with
  | zero => intro  z3 w hs; rw [q_Tx_block_52.eq_1] at hs; exact hs.elim
  | succ n ih =>
    intro  z3 w hs hE
    rw [q_Tx_block_52.eq_2] at hs
    refine tm_go 3 (pc' := 58) (L' := [some (.ref 129), some (.int x52_1), some (.int x52_2), z3]) (S' := [.int 125, .int (w.1 129 4)]) (w' := w) rfl ?_
    refine tm_i (p1 := 80) (p2 := 61) rfl (fun h6 => ?_) (fun h6 => ?_)
    · replace hs := hs.1 h6
      exact hE _ _ hs
    · replace hs := hs.2 h6
      refine tm_go 1 (pc' := 62) (L' := [some (.ref 129), some (.int x52_1), some (.int x52_2), z3]) (S' := [.ref 129]) (w' := w) rfl ?_
      refine tm_c rfl (Nat.le_of_ble_eq_true rfl) (hr_Tx_statement _ _ hs) (fun v w7 hq => ?_)
      obtain ⟨r7, rfl, hs⟩ := hq
      refine tm_go 2 (pc' := 67) (L' := [some (.ref 129), some (.int x52_1), some (.int x52_2), some (.int r7)]) (S' := [.int r7]) (w' := w7) rfl ?_
      refine tm_i (p1 := 72) (p2 := 70) rfl (fun h8 => ?_) (fun h8 => ?_)
      · replace hs := hs.1 h8
        refine tm_go 2 (pc' := 74) (L' := [some (.ref 129), some (.int x52_1), some (.int x52_2), some (.int r7)]) (S' := [.int r7, .ref 129]) (w' := w7) rfl ?_
        refine tm_c rfl (Nat.le_of_ble_eq_true rfl) (dm_Tx_push (d := d + 404) hs) (fun v w9 hq => ?_)
        obtain ⟨rfl, hs⟩ := hq
        refine tm_go 1 (pc' := 52) (L' := [some (.ref 129), some (.int x52_1), some (.int x52_2), some (.int r7)]) (S' := []) (w' := w9) rfl ?_
        exact ih _ _ hs hE
      · replace hs := hs.2 h8
        refine tm_go 1 (pc' := 71) (L' := [some (.ref 129), some (.int x52_1), some (.int x52_2), some (.int r7)]) (S' := [.int (-1)]) (w' := w7) rfl ?_
        exact tm_r rfl ⟨_, rfl, hs⟩
set_option maxHeartbeats 4000000 in
set_option maxRecDepth 100000 in
theorem dmb_Tx_block {d : Nat} {r_Tx_block : MW → (Int32 → MW → Prop) → Prop} {r_Tx_statement : MW → (Int32 → MW → Prop) → Prop} (hr_Tx_block : ∀ (w : MW) (Q : Int32 → MW → Prop), r_Tx_block w Q → Tc (d + 404) 328 [.ref 129] w (RI Q)) (hr_Tx_statement : ∀ (w : MW) (Q : Int32 → MW → Prop), r_Tx_statement w Q → Tc (d + 404) 331 [.ref 129] w (RI Q)) {w : MW} {Q : Int32 → MW → Prop} (hs : pb_Tx_block r_Tx_block r_Tx_statement w Q) : Tc (d + 405) 328 [.ref 129] w (RI Q) := by
  unfold pb_Tx_block at hs
  refine tm_go 6 (pc' := 11) (L' := [some (.ref 129), some (.int (w.1 129 7)), none, none]) (S' := [.int 123, .int (w.1 129 4)]) (w' := w) rfl ?_
  refine tm_i (p1 := 23) (p2 := 14) rfl (fun h1 => ?_) (fun h1 => ?_)
  · replace hs := hs.1 h1
    refine tm_go 1 (pc' := 24) (L' := [some (.ref 129), some (.int (w.1 129 7)), none, none]) (S' := [.ref 129]) (w' := w) rfl ?_
    refine tm_c rfl (Nat.le_of_ble_eq_true rfl) (dm_Tx_bad (d := d + 404) hs) (fun v w2 hq => ?_)
    obtain ⟨r2, rfl, hs⟩ := hq
    exact tm_r rfl ⟨_, rfl, hs⟩
  · replace hs := hs.2 h1
    refine tm_go 3 (pc' := 20) (L' := [some (.ref 129), some (.int (w.1 129 7)), none, none]) (S' := [.int 20, .int (w.1 129 11)]) (w' := w) rfl ?_
    refine tm_i (p1 := 28) (p2 := 23) rfl (fun h3 => ?_) (fun h3 => ?_)
    · replace hs := hs.1 h3
      refine tm_go 10 (pc' := 44) (L' := [some (.ref 129), some (.int (w.1 129 7)), some (.int (w.1 129 35)), none]) (S' := [.ref 129]) (w' := (sI w 129 11 ((w.1 129 11) + (1 : Int32)))) rfl ?_
      refine tm_c rfl (Nat.le_of_ble_eq_true rfl) (dm_Tx_go (d := d + 402) hs) (fun v w4 hq => ?_)
      obtain ⟨r4, rfl, hz4, hs⟩ := hq
      refine tm_i (p1 := 52) (p2 := 50) rfl (fun h5 => ?_) (fun h5 => ?_)
      · replace hs := hs.1 h5
        refine tx_Tx_block_52 hr_Tx_block hr_Tx_statement FU _ _ hs (fun  z10_3 w10 hs => ?_)
        refine tm_go 7 (pc' := 91) (L' := [some (.ref 129), some (.int (w.1 129 7)), some (.int (w.1 129 35)), z10_3]) (S' := [.ref 129]) (w' := (sI w10 129 11 ((w10.1 129 11) - (1 : Int32)))) rfl ?_
        refine tm_c rfl (Nat.le_of_ble_eq_true rfl) (dm_Tx_go (d := d + 402) hs) (fun v w11 hq => ?_)
        obtain ⟨r11, rfl, hz11, hs⟩ := hq
        refine tm_i (p1 := 110) (p2 := 97) rfl (fun h12 => ?_) (fun h12 => ?_)
        · replace hs := hs.1 h12
          refine tm_go 1 (pc' := 111) (L' := [some (.ref 129), some (.int (w.1 129 7)), some (.int (w.1 129 35)), z10_3]) (S' := [.int (-1)]) (w' := w11) rfl ?_
          exact tm_r rfl ⟨_, rfl, hs⟩
        · replace hs := hs.2 h12
          refine tm_go 6 (pc' := 104) (L' := [some (.ref 129), some (.int (w.1 129 7)), some (.int (w.1 129 35)), z10_3]) (S' := [.int (w.1 129 35), .int (-1), .int (w.1 129 7), .long 0, .int 23, .ref 129]) (w' := w11) rfl ?_
          refine tm_c rfl (Nat.le_of_ble_eq_true rfl) (dm_Tx_node0 (d := d + 403) hs) (fun v w13 hq => ?_)
          obtain ⟨r13, rfl, hs⟩ := hq
          refine tm_go 1 (pc' := 111) (L' := [some (.ref 129), some (.int (w.1 129 7)), some (.int (w.1 129 35)), z10_3]) (S' := [.int r13]) (w' := w13) rfl ?_
          exact tm_r rfl ⟨_, rfl, hs⟩
      · replace hs := hs.2 h5
        refine tm_go 1 (pc' := 51) (L' := [some (.ref 129), some (.int (w.1 129 7)), some (.int (w.1 129 35)), none]) (S' := [.int (-1)]) (w' := w4) rfl ?_
        exact tm_r rfl ⟨_, rfl, hs⟩
    · replace hs := hs.2 h3
      refine tm_go 1 (pc' := 24) (L' := [some (.ref 129), some (.int (w.1 129 7)), none, none]) (S' := [.ref 129]) (w' := w) rfl ?_
      refine tm_c rfl (Nat.le_of_ble_eq_true rfl) (dm_Tx_bad (d := d + 404) hs) (fun v w14 hq => ?_)
      obtain ⟨r14, rfl, hs⟩ := hq
      exact tm_r rfl ⟨_, rfl, hs⟩
set_option maxHeartbeats 4000000 in
set_option maxRecDepth 100000 in
theorem tx_Tx_statement_195 {d : Nat} {r_Tx_block : MW → (Int32 → MW → Prop) → Prop} {r_Tx_statement : MW → (Int32 → MW → Prop) → Prop} (hr_Tx_block : ∀ (w : MW) (Q : Int32 → MW → Prop), r_Tx_block w Q → Tc (d + 404) 328 [.ref 129] w (RI Q)) (hr_Tx_statement : ∀ (w : MW) (Q : Int32 → MW → Prop), r_Tx_statement w Q → Tc (d + 404) 331 [.ref 129] w (RI Q)) {y195_1 : Int32} {y195_2 : Int32} {y195_3 : Int32} {y195_4 : Int32} {ys195_0 : Int32} {z5 : Option Value} {w : MW} {Q : Int32 → MW → Prop} (hs : q_Tx_statement_195 r_Tx_block r_Tx_statement y195_1 y195_2 y195_3 y195_4 ys195_0 w Q) : Tm (d + 405) 331 195 [some (.ref 129), some (.int y195_1), some (.int y195_2), some (.int y195_3), some (.int y195_4), z5] [.int ys195_0] w (RI Q) := by
  unfold q_Tx_statement_195 at hs
  refine tm_go 3 (pc' := 589) (L' := [some (.ref 129), some (.int y195_1), some (.int y195_2), some (.int y195_3), some (.int y195_4), some (.int ys195_0)]) (S' := [.int ys195_0]) (w' := w) rfl ?_
  refine tm_i (p1 := 594) (p2 := 592) rfl (fun h9 => ?_) (fun h9 => ?_)
  · replace hs := hs.1 h9
    refine tm_go 13 (pc' := 612) (L' := [some (.ref 129), some (.int y195_1), some (.int y195_2), some (.int y195_3), some (.int y195_4), some (.int ys195_0)]) (S' := [.int y195_3, .int (-1), .int y195_2, .long (Int32.toInt64 y195_4), .int y195_1, .ref 129]) (w' := (sI w 129 38 ((w.1 129 38) + (1 : Int32)))) rfl ?_
    refine tm_c rfl (Nat.le_of_ble_eq_true rfl) (dm_Tx_node0 (d := d + 403) hs) (fun v w10 hq => ?_)
    obtain ⟨r10, rfl, hs⟩ := hq
    exact tm_r rfl ⟨_, rfl, hs⟩
  · replace hs := hs.2 h9
    refine tm_go 1 (pc' := 593) (L' := [some (.ref 129), some (.int y195_1), some (.int y195_2), some (.int y195_3), some (.int y195_4), some (.int ys195_0)]) (S' := [.int (-1)]) (w' := w) rfl ?_
    exact tm_r rfl ⟨_, rfl, hs⟩
set_option maxHeartbeats 4000000 in
set_option maxRecDepth 100000 in
theorem tx_Tx_statement_222 {d : Nat} {r_Tx_block : MW → (Int32 → MW → Prop) → Prop} {r_Tx_statement : MW → (Int32 → MW → Prop) → Prop} (hr_Tx_block : ∀ (w : MW) (Q : Int32 → MW → Prop), r_Tx_block w Q → Tc (d + 404) 328 [.ref 129] w (RI Q)) (hr_Tx_statement : ∀ (w : MW) (Q : Int32 → MW → Prop), r_Tx_statement w Q → Tc (d + 404) 331 [.ref 129] w (RI Q)) {y222_1 : Int32} {y222_2 : Int32} {y222_3 : Int32} {y222_4 : Int32} {ys222_0 : Int32} {z5 : Option Value} {w : MW} {Q : Int32 → MW → Prop} (hs : q_Tx_statement_222 r_Tx_block r_Tx_statement y222_1 y222_2 y222_3 y222_4 ys222_0 w Q) : Tm (d + 405) 331 222 [some (.ref 129), some (.int y222_1), some (.int y222_2), some (.int y222_3), some (.int y222_4), z5] [.int ys222_0] w (RI Q) := by
  unfold q_Tx_statement_222 at hs
  refine tm_go 3 (pc' := 589) (L' := [some (.ref 129), some (.int y222_1), some (.int y222_2), some (.int y222_3), some (.int y222_4), some (.int ys222_0)]) (S' := [.int ys222_0]) (w' := w) rfl ?_
  refine tm_i (p1 := 594) (p2 := 592) rfl (fun h20 => ?_) (fun h20 => ?_)
  · replace hs := hs.1 h20
    refine tm_go 13 (pc' := 612) (L' := [some (.ref 129), some (.int y222_1), some (.int y222_2), some (.int y222_3), some (.int y222_4), some (.int ys222_0)]) (S' := [.int y222_3, .int (-1), .int y222_2, .long (Int32.toInt64 y222_4), .int y222_1, .ref 129]) (w' := (sI w 129 38 ((w.1 129 38) + (1 : Int32)))) rfl ?_
    refine tm_c rfl (Nat.le_of_ble_eq_true rfl) (dm_Tx_node0 (d := d + 403) hs) (fun v w21 hq => ?_)
    obtain ⟨r21, rfl, hs⟩ := hq
    exact tm_r rfl ⟨_, rfl, hs⟩
  · replace hs := hs.2 h20
    refine tm_go 1 (pc' := 593) (L' := [some (.ref 129), some (.int y222_1), some (.int y222_2), some (.int y222_3), some (.int y222_4), some (.int ys222_0)]) (S' := [.int (-1)]) (w' := w) rfl ?_
    exact tm_r rfl ⟨_, rfl, hs⟩
set_option maxHeartbeats 4000000 in
set_option maxRecDepth 100000 in
theorem tx_Tx_statement_252 {d : Nat} {r_Tx_block : MW → (Int32 → MW → Prop) → Prop} {r_Tx_statement : MW → (Int32 → MW → Prop) → Prop} (hr_Tx_block : ∀ (w : MW) (Q : Int32 → MW → Prop), r_Tx_block w Q → Tc (d + 404) 328 [.ref 129] w (RI Q)) (hr_Tx_statement : ∀ (w : MW) (Q : Int32 → MW → Prop), r_Tx_statement w Q → Tc (d + 404) 331 [.ref 129] w (RI Q)) {y252_1 : Int32} {y252_2 : Int32} {y252_3 : Int32} {y252_4 : Int32} {ys252_0 : Int32} {z5 : Option Value} {w : MW} {Q : Int32 → MW → Prop} (hs : q_Tx_statement_252 r_Tx_block r_Tx_statement y252_1 y252_2 y252_3 y252_4 ys252_0 w Q) : Tm (d + 405) 331 252 [some (.ref 129), some (.int y252_1), some (.int y252_2), some (.int y252_3), some (.int y252_4), z5] [.int ys252_0] w (RI Q) := by
  unfold q_Tx_statement_252 at hs
  refine tm_go 3 (pc' := 589) (L' := [some (.ref 129), some (.int y252_1), some (.int y252_2), some (.int y252_3), some (.int y252_4), some (.int ys252_0)]) (S' := [.int ys252_0]) (w' := w) rfl ?_
  refine tm_i (p1 := 594) (p2 := 592) rfl (fun h28 => ?_) (fun h28 => ?_)
  · replace hs := hs.1 h28
    refine tm_go 13 (pc' := 612) (L' := [some (.ref 129), some (.int y252_1), some (.int y252_2), some (.int y252_3), some (.int y252_4), some (.int ys252_0)]) (S' := [.int y252_3, .int (-1), .int y252_2, .long (Int32.toInt64 y252_4), .int y252_1, .ref 129]) (w' := (sI w 129 38 ((w.1 129 38) + (1 : Int32)))) rfl ?_
    refine tm_c rfl (Nat.le_of_ble_eq_true rfl) (dm_Tx_node0 (d := d + 403) hs) (fun v w29 hq => ?_)
    obtain ⟨r29, rfl, hs⟩ := hq
    exact tm_r rfl ⟨_, rfl, hs⟩
  · replace hs := hs.2 h28
    refine tm_go 1 (pc' := 593) (L' := [some (.ref 129), some (.int y252_1), some (.int y252_2), some (.int y252_3), some (.int y252_4), some (.int ys252_0)]) (S' := [.int (-1)]) (w' := w) rfl ?_
    exact tm_r rfl ⟨_, rfl, hs⟩
set_option maxHeartbeats 4000000 in
set_option maxRecDepth 100000 in
theorem tx_Tx_statement_286 {d : Nat} {r_Tx_block : MW → (Int32 → MW → Prop) → Prop} {r_Tx_statement : MW → (Int32 → MW → Prop) → Prop} (hr_Tx_block : ∀ (w : MW) (Q : Int32 → MW → Prop), r_Tx_block w Q → Tc (d + 404) 328 [.ref 129] w (RI Q)) (hr_Tx_statement : ∀ (w : MW) (Q : Int32 → MW → Prop), r_Tx_statement w Q → Tc (d + 404) 331 [.ref 129] w (RI Q)) {x286_1 : Int32} {x286_2 : Int32} {x286_3 : Int32} {x286_4 : Int32} {E : Int32 → MW → Prop} {Q : Int32 → MW → Prop} (n : Nat) : ∀ (x286_5 : Int32)   (w : MW), q_Tx_statement_286 r_Tx_block r_Tx_statement x286_1 x286_2 x286_3 x286_4 E Q n x286_5 w → (∀ (e286_5 : Int32)   (w : MW), E e286_5 w → Tm (d + 405) 331 587 [some (.ref 129), some (.int x286_1), some (.int x286_2), some (.int x286_3), some (.int x286_4), some (.int e286_5)] [] w (RI Q)) → Tm (d + 405) 331 286 [some (.ref 129), some (.int x286_1), some (.int x286_2), some (.int x286_3), some (.int x286_4), some (.int x286_5)] [] w (RI Q) := by
  induction n with
  | zero => intro x286_5  w hs; rw [q_Tx_statement_286.eq_1] at hs; exact hs.elim
  | succ n ih =>
    intro x286_5  w hs hE
    rw [q_Tx_statement_286.eq_2] at hs
    refine tm_go 1 (pc' := 288) (L' := [some (.ref 129), some (.int x286_1), some (.int x286_2), some (.int x286_3), some (.int x286_4), some (.int x286_5)]) (S' := [.int x286_5]) (w' := w) rfl ?_
    refine tm_i (p1 := 587) (p2 := 291) rfl (fun h49 => ?_) (fun h49 => ?_)
    · replace hs := hs.1 h49
      exact hE _ _ hs
    · replace hs := hs.2 h49
      refine tm_go 3 (pc' := 297) (L' := [some (.ref 129), some (.int x286_1), some (.int x286_2), some (.int x286_3), some (.int x286_4), some (.int x286_5)]) (S' := [.int 123, .int (w.1 129 4)]) (w' := w) rfl ?_
      refine tm_i (p1 := 587) (p2 := 300) rfl (fun h50 => ?_) (fun h50 => ?_)
      · replace hs := hs.1 h50
        exact hE _ _ hs
      · replace hs := hs.2 h50
        refine tm_go 2 (pc' := 302) (L' := [some (.ref 129), some (.int x286_1), some (.int x286_2), some (.int x286_3), some (.int x286_4), some (.int x286_5)]) (S' := [.ref 129, .ref 129]) (w' := w) rfl ?_
        refine tm_c rfl (Nat.le_of_ble_eq_true rfl) (hr_Tx_block _ _ hs) (fun v w51 hq => ?_)
        obtain ⟨r51, rfl, hs⟩ := hq
        refine tm_c rfl (Nat.le_of_ble_eq_true rfl) (dm_Tx_pushed (d := d + 403) hs) (fun v w52 hq => ?_)
        obtain ⟨r52, rfl, hz52, hs⟩ := hq
        refine tm_go 2 (pc' := 286) (L' := [some (.ref 129), some (.int x286_1), some (.int x286_2), some (.int x286_3), some (.int x286_4), some (.int r52)]) (S' := []) (w' := w52) rfl ?_
        exact ih _ _ hs hE
set_option maxHeartbeats 4000000 in
set_option maxRecDepth 100000 in
theorem tx_Tx_statement_284 {d : Nat} {r_Tx_block : MW → (Int32 → MW → Prop) → Prop} {r_Tx_statement : MW → (Int32 → MW → Prop) → Prop} (hr_Tx_block : ∀ (w : MW) (Q : Int32 → MW → Prop), r_Tx_block w Q → Tc (d + 404) 328 [.ref 129] w (RI Q)) (hr_Tx_statement : ∀ (w : MW) (Q : Int32 → MW → Prop), r_Tx_statement w Q → Tc (d + 404) 331 [.ref 129] w (RI Q)) {y284_1 : Int32} {y284_2 : Int32} {y284_3 : Int32} {y284_4 : Int32} {ys284_0 : Int32} {z5 : Option Value} {w : MW} {Q : Int32 → MW → Prop} (hs : q_Tx_statement_284 r_Tx_block r_Tx_statement y284_1 y284_2 y284_3 y284_4 ys284_0 w Q) : Tm (d + 405) 331 284 [some (.ref 129), some (.int y284_1), some (.int y284_2), some (.int y284_3), some (.int y284_4), z5] [.int ys284_0] w (RI Q) := by
  unfold q_Tx_statement_284 at hs
  refine tm_go 1 (pc' := 286) (L' := [some (.ref 129), some (.int y284_1), some (.int y284_2), some (.int y284_3), some (.int y284_4), some (.int ys284_0)]) (S' := []) (w' := w) rfl ?_
  refine tx_Tx_statement_286 hr_Tx_block hr_Tx_statement FU _ _ hs (fun e286_5_53  w53 hs => ?_)
  refine tm_go 1 (pc' := 589) (L' := [some (.ref 129), some (.int y284_1), some (.int y284_2), some (.int y284_3), some (.int y284_4), some (.int e286_5_53)]) (S' := [.int e286_5_53]) (w' := w53) rfl ?_
  refine tm_i (p1 := 594) (p2 := 592) rfl (fun h54 => ?_) (fun h54 => ?_)
  · replace hs := hs.1 h54
    refine tm_go 13 (pc' := 612) (L' := [some (.ref 129), some (.int y284_1), some (.int y284_2), some (.int y284_3), some (.int y284_4), some (.int e286_5_53)]) (S' := [.int y284_3, .int (-1), .int y284_2, .long (Int32.toInt64 y284_4), .int y284_1, .ref 129]) (w' := (sI w53 129 38 ((w53.1 129 38) + (1 : Int32)))) rfl ?_
    refine tm_c rfl (Nat.le_of_ble_eq_true rfl) (dm_Tx_node0 (d := d + 403) hs) (fun v w55 hq => ?_)
    obtain ⟨r55, rfl, hs⟩ := hq
    exact tm_r rfl ⟨_, rfl, hs⟩
  · replace hs := hs.2 h54
    refine tm_go 1 (pc' := 593) (L' := [some (.ref 129), some (.int y284_1), some (.int y284_2), some (.int y284_3), some (.int y284_4), some (.int e286_5_53)]) (S' := [.int (-1)]) (w' := w53) rfl ?_
    exact tm_r rfl ⟨_, rfl, hs⟩
set_option maxHeartbeats 4000000 in
set_option maxRecDepth 100000 in
theorem tx_Tx_statement_379 {d : Nat} {r_Tx_block : MW → (Int32 → MW → Prop) → Prop} {r_Tx_statement : MW → (Int32 → MW → Prop) → Prop} (hr_Tx_block : ∀ (w : MW) (Q : Int32 → MW → Prop), r_Tx_block w Q → Tc (d + 404) 328 [.ref 129] w (RI Q)) (hr_Tx_statement : ∀ (w : MW) (Q : Int32 → MW → Prop), r_Tx_statement w Q → Tc (d + 404) 331 [.ref 129] w (RI Q)) {y379_1 : Int32} {y379_2 : Int32} {y379_3 : Int32} {y379_4 : Int32} {ys379_0 : Int32} {z5 : Option Value} {w : MW} {Q : Int32 → MW → Prop} (hs : q_Tx_statement_379 r_Tx_block r_Tx_statement y379_1 y379_2 y379_3 y379_4 ys379_0 w Q) : Tm (d + 405) 331 379 [some (.ref 129), some (.int y379_1), some (.int y379_2), some (.int y379_3), some (.int y379_4), z5] [.int ys379_0] w (RI Q) := by
  unfold q_Tx_statement_379 at hs
  refine tm_go 3 (pc' := 589) (L' := [some (.ref 129), some (.int y379_1), some (.int y379_2), some (.int y379_3), some (.int y379_4), some (.int ys379_0)]) (S' := [.int ys379_0]) (w' := w) rfl ?_
  refine tm_i (p1 := 594) (p2 := 592) rfl (fun h72 => ?_) (fun h72 => ?_)
  · replace hs := hs.1 h72
    refine tm_go 13 (pc' := 612) (L' := [some (.ref 129), some (.int y379_1), some (.int y379_2), some (.int y379_3), some (.int y379_4), some (.int ys379_0)]) (S' := [.int y379_3, .int (-1), .int y379_2, .long (Int32.toInt64 y379_4), .int y379_1, .ref 129]) (w' := (sI w 129 38 ((w.1 129 38) + (1 : Int32)))) rfl ?_
    refine tm_c rfl (Nat.le_of_ble_eq_true rfl) (dm_Tx_node0 (d := d + 403) hs) (fun v w73 hq => ?_)
    obtain ⟨r73, rfl, hs⟩ := hq
    exact tm_r rfl ⟨_, rfl, hs⟩
  · replace hs := hs.2 h72
    refine tm_go 1 (pc' := 593) (L' := [some (.ref 129), some (.int y379_1), some (.int y379_2), some (.int y379_3), some (.int y379_4), some (.int ys379_0)]) (S' := [.int (-1)]) (w' := w) rfl ?_
    exact tm_r rfl ⟨_, rfl, hs⟩
set_option maxHeartbeats 4000000 in
set_option maxRecDepth 100000 in
theorem tx_Tx_statement_340 {d : Nat} {r_Tx_block : MW → (Int32 → MW → Prop) → Prop} {r_Tx_statement : MW → (Int32 → MW → Prop) → Prop} (hr_Tx_block : ∀ (w : MW) (Q : Int32 → MW → Prop), r_Tx_block w Q → Tc (d + 404) 328 [.ref 129] w (RI Q)) (hr_Tx_statement : ∀ (w : MW) (Q : Int32 → MW → Prop), r_Tx_statement w Q → Tc (d + 404) 331 [.ref 129] w (RI Q)) {y340_1 : Int32} {y340_2 : Int32} {y340_3 : Int32} {y340_4 : Int32} {ys340_0 : Int32} {z5 : Option Value} {w : MW} {Q : Int32 → MW → Prop} (hs : q_Tx_statement_340 r_Tx_block r_Tx_statement y340_1 y340_2 y340_3 y340_4 ys340_0 w Q) : Tm (d + 405) 331 340 [some (.ref 129), some (.int y340_1), some (.int y340_2), some (.int y340_3), some (.int y340_4), z5] [.int ys340_0] w (RI Q) := by
  unfold q_Tx_statement_340 at hs
  refine tm_go 2 (pc' := 344) (L' := [some (.ref 129), some (.int y340_1), some (.int y340_2), some (.int y340_3), some (.int y340_4), some (.int ys340_0)]) (S' := [.int ys340_0]) (w' := w) rfl ?_
  refine tm_i (p1 := 587) (p2 := 347) rfl (fun h63 => ?_) (fun h63 => ?_)
  · replace hs := hs.1 h63
    refine tm_go 1 (pc' := 589) (L' := [some (.ref 129), some (.int y340_1), some (.int y340_2), some (.int y340_3), some (.int y340_4), some (.int ys340_0)]) (S' := [.int ys340_0]) (w' := w) rfl ?_
    refine tm_i (p1 := 594) (p2 := 592) rfl (fun h64 => ?_) (fun h64 => ?_)
    · replace hs := hs.1 h64
      refine tm_go 13 (pc' := 612) (L' := [some (.ref 129), some (.int y340_1), some (.int y340_2), some (.int y340_3), some (.int y340_4), some (.int ys340_0)]) (S' := [.int y340_3, .int (-1), .int y340_2, .long (Int32.toInt64 y340_4), .int y340_1, .ref 129]) (w' := (sI w 129 38 ((w.1 129 38) + (1 : Int32)))) rfl ?_
      refine tm_c rfl (Nat.le_of_ble_eq_true rfl) (dm_Tx_node0 (d := d + 403) hs) (fun v w65 hq => ?_)
      obtain ⟨r65, rfl, hs⟩ := hq
      exact tm_r rfl ⟨_, rfl, hs⟩
    · replace hs := hs.2 h64
      refine tm_go 1 (pc' := 593) (L' := [some (.ref 129), some (.int y340_1), some (.int y340_2), some (.int y340_3), some (.int y340_4), some (.int ys340_0)]) (S' := [.int (-1)]) (w' := w) rfl ?_
      exact tm_r rfl ⟨_, rfl, hs⟩
  · replace hs := hs.2 h63
    refine tm_go 2 (pc' := 350) (L' := [some (.ref 129), some (.int y340_1), some (.int y340_2), some (.int y340_3), some (.int y340_4), some (.int ys340_0)]) (S' := [.int 33, .ref 129]) (w' := w) rfl ?_
    refine tm_c rfl (Nat.le_of_ble_eq_true rfl) (dm_Tx_isWord (d := d + 404) hs) (fun v w66 hq => ?_)
    obtain ⟨r66, rfl, hz66, hs⟩ := hq
    refine tm_i (p1 := 587) (p2 := 356) rfl (fun h67 => ?_) (fun h67 => ?_)
    · replace hs := hs.1 h67
      refine tm_go 1 (pc' := 589) (L' := [some (.ref 129), some (.int y340_1), some (.int y340_2), some (.int y340_3), some (.int y340_4), some (.int ys340_0)]) (S' := [.int ys340_0]) (w' := w66) rfl ?_
      refine tm_i (p1 := 594) (p2 := 592) rfl (fun h68 => ?_) (fun h68 => ?_)
      · replace hs := hs.1 h68
        refine tm_go 13 (pc' := 612) (L' := [some (.ref 129), some (.int y340_1), some (.int y340_2), some (.int y340_3), some (.int y340_4), some (.int ys340_0)]) (S' := [.int y340_3, .int (-1), .int y340_2, .long (Int32.toInt64 y340_4), .int y340_1, .ref 129]) (w' := (sI w66 129 38 ((w66.1 129 38) + (1 : Int32)))) rfl ?_
        refine tm_c rfl (Nat.le_of_ble_eq_true rfl) (dm_Tx_node0 (d := d + 403) hs) (fun v w69 hq => ?_)
        obtain ⟨r69, rfl, hs⟩ := hq
        exact tm_r rfl ⟨_, rfl, hs⟩
      · replace hs := hs.2 h68
        refine tm_go 1 (pc' := 593) (L' := [some (.ref 129), some (.int y340_1), some (.int y340_2), some (.int y340_3), some (.int y340_4), some (.int ys340_0)]) (S' := [.int (-1)]) (w' := w66) rfl ?_
        exact tm_r rfl ⟨_, rfl, hs⟩
    · replace hs := hs.2 h67
      refine tm_go 1 (pc' := 357) (L' := [some (.ref 129), some (.int y340_1), some (.int y340_2), some (.int y340_3), some (.int y340_4), some (.int ys340_0)]) (S' := [.ref 129]) (w' := w66) rfl ?_
      refine tm_c rfl (Nat.le_of_ble_eq_true rfl) (dm_Tx_go (d := d + 402) hs) (fun v w70 hq => ?_)
      obtain ⟨r70, rfl, hz70, hs⟩ := hq
      refine tm_i (p1 := 378) (p2 := 363) rfl (fun h71 => ?_) (fun h71 => ?_)
      · replace hs := hs.1 h71
        refine tm_go 1 (pc' := 379) (L' := [some (.ref 129), some (.int y340_1), some (.int y340_2), some (.int y340_3), some (.int y340_4), some (.int ys340_0)]) (S' := [.int 0]) (w' := w70) rfl ?_
        exact tx_Tx_statement_379 hr_Tx_block hr_Tx_statement hs 
      · replace hs := hs.2 h71
        refine tm_go 2 (pc' := 365) (L' := [some (.ref 129), some (.int y340_1), some (.int y340_2), some (.int y340_3), some (.int y340_4), some (.int ys340_0)]) (S' := [.ref 129, .ref 129]) (w' := w70) rfl ?_
        refine tm_c rfl (Nat.le_of_ble_eq_true rfl) (hr_Tx_block _ _ hs) (fun v w74 hq => ?_)
        obtain ⟨r74, rfl, hs⟩ := hq
        refine tm_c rfl (Nat.le_of_ble_eq_true rfl) (dm_Tx_pushed (d := d + 403) hs) (fun v w75 hq => ?_)
        obtain ⟨r75, rfl, hz75, hs⟩ := hq
        refine tm_i (p1 := 378) (p2 := 374) rfl (fun h76 => ?_) (fun h76 => ?_)
        · replace hs := hs.1 h76
          refine tm_go 1 (pc' := 379) (L' := [some (.ref 129), some (.int y340_1), some (.int y340_2), some (.int y340_3), some (.int y340_4), some (.int ys340_0)]) (S' := [.int 0]) (w' := w75) rfl ?_
          exact tx_Tx_statement_379 hr_Tx_block hr_Tx_statement hs 
        · replace hs := hs.2 h76
          refine tm_go 2 (pc' := 379) (L' := [some (.ref 129), some (.int y340_1), some (.int y340_2), some (.int y340_3), some (.int y340_4), some (.int ys340_0)]) (S' := [.int 1]) (w' := w75) rfl ?_
          exact tx_Tx_statement_379 hr_Tx_block hr_Tx_statement hs 
set_option maxHeartbeats 4000000 in
set_option maxRecDepth 100000 in
theorem tx_Tx_statement_408 {d : Nat} {r_Tx_block : MW → (Int32 → MW → Prop) → Prop} {r_Tx_statement : MW → (Int32 → MW → Prop) → Prop} (hr_Tx_block : ∀ (w : MW) (Q : Int32 → MW → Prop), r_Tx_block w Q → Tc (d + 404) 328 [.ref 129] w (RI Q)) (hr_Tx_statement : ∀ (w : MW) (Q : Int32 → MW → Prop), r_Tx_statement w Q → Tc (d + 404) 331 [.ref 129] w (RI Q)) {y408_1 : Int32} {y408_2 : Int32} {y408_3 : Int32} {y408_4 : Int32} {ys408_0 : Int32} {z5 : Option Value} {w : MW} {Q : Int32 → MW → Prop} (hs : q_Tx_statement_408 r_Tx_block r_Tx_statement y408_1 y408_2 y408_3 y408_4 ys408_0 w Q) : Tm (d + 405) 331 408 [some (.ref 129), some (.int y408_1), some (.int y408_2), some (.int y408_3), some (.int y408_4), z5] [.int ys408_0] w (RI Q) := by
  unfold q_Tx_statement_408 at hs
  refine tm_go 3 (pc' := 589) (L' := [some (.ref 129), some (.int y408_1), some (.int y408_2), some (.int y408_3), some (.int y408_4), some (.int ys408_0)]) (S' := [.int ys408_0]) (w' := w) rfl ?_
  refine tm_i (p1 := 594) (p2 := 592) rfl (fun h83 => ?_) (fun h83 => ?_)
  · replace hs := hs.1 h83
    refine tm_go 13 (pc' := 612) (L' := [some (.ref 129), some (.int y408_1), some (.int y408_2), some (.int y408_3), some (.int y408_4), some (.int ys408_0)]) (S' := [.int y408_3, .int (-1), .int y408_2, .long (Int32.toInt64 y408_4), .int y408_1, .ref 129]) (w' := (sI w 129 38 ((w.1 129 38) + (1 : Int32)))) rfl ?_
    refine tm_c rfl (Nat.le_of_ble_eq_true rfl) (dm_Tx_node0 (d := d + 403) hs) (fun v w84 hq => ?_)
    obtain ⟨r84, rfl, hs⟩ := hq
    exact tm_r rfl ⟨_, rfl, hs⟩
  · replace hs := hs.2 h83
    refine tm_go 1 (pc' := 593) (L' := [some (.ref 129), some (.int y408_1), some (.int y408_2), some (.int y408_3), some (.int y408_4), some (.int ys408_0)]) (S' := [.int (-1)]) (w' := w) rfl ?_
    exact tm_r rfl ⟨_, rfl, hs⟩
set_option maxHeartbeats 4000000 in
set_option maxRecDepth 100000 in
theorem tx_Tx_statement_461 {d : Nat} {r_Tx_block : MW → (Int32 → MW → Prop) → Prop} {r_Tx_statement : MW → (Int32 → MW → Prop) → Prop} (hr_Tx_block : ∀ (w : MW) (Q : Int32 → MW → Prop), r_Tx_block w Q → Tc (d + 404) 328 [.ref 129] w (RI Q)) (hr_Tx_statement : ∀ (w : MW) (Q : Int32 → MW → Prop), r_Tx_statement w Q → Tc (d + 404) 331 [.ref 129] w (RI Q)) {y461_1 : Int32} {y461_2 : Int32} {y461_3 : Int32} {y461_4 : Int32} {ys461_0 : Int32} {z5 : Option Value} {w : MW} {Q : Int32 → MW → Prop} (hs : q_Tx_statement_461 r_Tx_block r_Tx_statement y461_1 y461_2 y461_3 y461_4 ys461_0 w Q) : Tm (d + 405) 331 461 [some (.ref 129), some (.int y461_1), some (.int y461_2), some (.int y461_3), some (.int y461_4), z5] [.int ys461_0] w (RI Q) := by
  unfold q_Tx_statement_461 at hs
  refine tm_go 3 (pc' := 589) (L' := [some (.ref 129), some (.int y461_1), some (.int y461_2), some (.int y461_3), some (.int y461_4), some (.int ys461_0)]) (S' := [.int ys461_0]) (w' := w) rfl ?_
  refine tm_i (p1 := 594) (p2 := 592) rfl (fun h92 => ?_) (fun h92 => ?_)
  · replace hs := hs.1 h92
    refine tm_go 13 (pc' := 612) (L' := [some (.ref 129), some (.int y461_1), some (.int y461_2), some (.int y461_3), some (.int y461_4), some (.int ys461_0)]) (S' := [.int y461_3, .int (-1), .int y461_2, .long (Int32.toInt64 y461_4), .int y461_1, .ref 129]) (w' := (sI w 129 38 ((w.1 129 38) + (1 : Int32)))) rfl ?_
    refine tm_c rfl (Nat.le_of_ble_eq_true rfl) (dm_Tx_node0 (d := d + 403) hs) (fun v w93 hq => ?_)
    obtain ⟨r93, rfl, hs⟩ := hq
    exact tm_r rfl ⟨_, rfl, hs⟩
  · replace hs := hs.2 h92
    refine tm_go 1 (pc' := 593) (L' := [some (.ref 129), some (.int y461_1), some (.int y461_2), some (.int y461_3), some (.int y461_4), some (.int ys461_0)]) (S' := [.int (-1)]) (w' := w) rfl ?_
    exact tm_r rfl ⟨_, rfl, hs⟩
set_option maxHeartbeats 4000000 in
set_option maxRecDepth 100000 in
theorem tx_Tx_statement_504 {d : Nat} {r_Tx_block : MW → (Int32 → MW → Prop) → Prop} {r_Tx_statement : MW → (Int32 → MW → Prop) → Prop} (hr_Tx_block : ∀ (w : MW) (Q : Int32 → MW → Prop), r_Tx_block w Q → Tc (d + 404) 328 [.ref 129] w (RI Q)) (hr_Tx_statement : ∀ (w : MW) (Q : Int32 → MW → Prop), r_Tx_statement w Q → Tc (d + 404) 331 [.ref 129] w (RI Q)) {y504_1 : Int32} {y504_2 : Int32} {y504_3 : Int32} {y504_4 : Int32} {ys504_0 : Int32} {z5 : Option Value} {w : MW} {Q : Int32 → MW → Prop} (hs : q_Tx_statement_504 r_Tx_block r_Tx_statement y504_1 y504_2 y504_3 y504_4 ys504_0 w Q) : Tm (d + 405) 331 504 [some (.ref 129), some (.int y504_1), some (.int y504_2), some (.int y504_3), some (.int y504_4), z5] [.int ys504_0] w (RI Q) := by
  unfold q_Tx_statement_504 at hs
  refine tm_go 3 (pc' := 589) (L' := [some (.ref 129), some (.int y504_1), some (.int y504_2), some (.int y504_3), some (.int y504_4), some (.int ys504_0)]) (S' := [.int ys504_0]) (w' := w) rfl ?_
  refine tm_i (p1 := 594) (p2 := 592) rfl (fun h106 => ?_) (fun h106 => ?_)
  · replace hs := hs.1 h106
    refine tm_go 13 (pc' := 612) (L' := [some (.ref 129), some (.int y504_1), some (.int y504_2), some (.int y504_3), some (.int y504_4), some (.int ys504_0)]) (S' := [.int y504_3, .int (-1), .int y504_2, .long (Int32.toInt64 y504_4), .int y504_1, .ref 129]) (w' := (sI w 129 38 ((w.1 129 38) + (1 : Int32)))) rfl ?_
    refine tm_c rfl (Nat.le_of_ble_eq_true rfl) (dm_Tx_node0 (d := d + 403) hs) (fun v w107 hq => ?_)
    obtain ⟨r107, rfl, hs⟩ := hq
    exact tm_r rfl ⟨_, rfl, hs⟩
  · replace hs := hs.2 h106
    refine tm_go 1 (pc' := 593) (L' := [some (.ref 129), some (.int y504_1), some (.int y504_2), some (.int y504_3), some (.int y504_4), some (.int ys504_0)]) (S' := [.int (-1)]) (w' := w) rfl ?_
    exact tm_r rfl ⟨_, rfl, hs⟩
set_option maxHeartbeats 4000000 in
set_option maxRecDepth 100000 in
theorem tx_Tx_statement_480 {d : Nat} {r_Tx_block : MW → (Int32 → MW → Prop) → Prop} {r_Tx_statement : MW → (Int32 → MW → Prop) → Prop} (hr_Tx_block : ∀ (w : MW) (Q : Int32 → MW → Prop), r_Tx_block w Q → Tc (d + 404) 328 [.ref 129] w (RI Q)) (hr_Tx_statement : ∀ (w : MW) (Q : Int32 → MW → Prop), r_Tx_statement w Q → Tc (d + 404) 331 [.ref 129] w (RI Q)) {y480_1 : Int32} {y480_2 : Int32} {y480_3 : Int32} {ys480_0 : Int32} {z4 : Option Value} {z5 : Option Value} {w : MW} {Q : Int32 → MW → Prop} (hs : q_Tx_statement_480 r_Tx_block r_Tx_statement y480_1 y480_2 y480_3 ys480_0 w Q) : Tm (d + 405) 331 480 [some (.ref 129), some (.int y480_1), some (.int y480_2), some (.int y480_3), z4, z5] [.int ys480_0, .ref 129] w (RI Q) := by
  unfold q_Tx_statement_480 at hs
  refine tm_c rfl (Nat.le_of_ble_eq_true rfl) (dm_Tx_known (d := d + 401) hs) (fun v w104 hq => ?_)
  obtain ⟨r104, rfl, hs⟩ := hq
  refine tm_go 2 (pc' := 487) (L' := [some (.ref 129), some (.int y480_1), some (.int y480_2), some (.int y480_3), some (.int r104), z5]) (S' := [.int r104]) (w' := w104) rfl ?_
  refine tm_i (p1 := 503) (p2 := 490) rfl (fun h105 => ?_) (fun h105 => ?_)
  · replace hs := hs.1 h105
    refine tm_go 1 (pc' := 504) (L' := [some (.ref 129), some (.int y480_1), some (.int y480_2), some (.int y480_3), some (.int r104), z5]) (S' := [.int 0]) (w' := w104) rfl ?_
    exact tx_Tx_statement_504 hr_Tx_block hr_Tx_statement hs 
  · replace hs := hs.2 h105
    refine tm_go 2 (pc' := 493) (L' := [some (.ref 129), some (.int y480_1), some (.int y480_2), some (.int y480_3), some (.int r104), z5]) (S' := [.int 59, .ref 129]) (w' := w104) rfl ?_
    refine tm_c rfl (Nat.le_of_ble_eq_true rfl) (dm_Tx_over (d := d + 401) hs) (fun v w108 hq => ?_)
    obtain ⟨r108, rfl, hz108, hs⟩ := hq
    refine tm_i (p1 := 503) (p2 := 499) rfl (fun h109 => ?_) (fun h109 => ?_)
    · replace hs := hs.1 h109
      refine tm_go 1 (pc' := 504) (L' := [some (.ref 129), some (.int y480_1), some (.int y480_2), some (.int y480_3), some (.int r104), z5]) (S' := [.int 0]) (w' := w108) rfl ?_
      exact tx_Tx_statement_504 hr_Tx_block hr_Tx_statement hs 
    · replace hs := hs.2 h109
      refine tm_go 2 (pc' := 504) (L' := [some (.ref 129), some (.int y480_1), some (.int y480_2), some (.int y480_3), some (.int r104), z5]) (S' := [.int 1]) (w' := w108) rfl ?_
      exact tx_Tx_statement_504 hr_Tx_block hr_Tx_statement hs 
set_option maxHeartbeats 4000000 in
set_option maxRecDepth 100000 in
theorem tx_Tx_statement_574 {d : Nat} {r_Tx_block : MW → (Int32 → MW → Prop) → Prop} {r_Tx_statement : MW → (Int32 → MW → Prop) → Prop} (hr_Tx_block : ∀ (w : MW) (Q : Int32 → MW → Prop), r_Tx_block w Q → Tc (d + 404) 328 [.ref 129] w (RI Q)) (hr_Tx_statement : ∀ (w : MW) (Q : Int32 → MW → Prop), r_Tx_statement w Q → Tc (d + 404) 331 [.ref 129] w (RI Q)) {y574_1 : Int32} {y574_2 : Int32} {y574_3 : Int32} {y574_4 : Int32} {ys574_0 : Int32} {z5 : Option Value} {w : MW} {Q : Int32 → MW → Prop} (hs : q_Tx_statement_574 r_Tx_block r_Tx_statement y574_1 y574_2 y574_3 y574_4 ys574_0 w Q) : Tm (d + 405) 331 574 [some (.ref 129), some (.int y574_1), some (.int y574_2), some (.int y574_3), some (.int y574_4), z5] [.int ys574_0] w (RI Q) := by
  unfold q_Tx_statement_574 at hs
  refine tm_go 3 (pc' := 589) (L' := [some (.ref 129), some (.int y574_1), some (.int y574_2), some (.int y574_3), some (.int y574_4), some (.int ys574_0)]) (S' := [.int ys574_0]) (w' := w) rfl ?_
  refine tm_i (p1 := 594) (p2 := 592) rfl (fun h128 => ?_) (fun h128 => ?_)
  · replace hs := hs.1 h128
    refine tm_go 13 (pc' := 612) (L' := [some (.ref 129), some (.int y574_1), some (.int y574_2), some (.int y574_3), some (.int y574_4), some (.int ys574_0)]) (S' := [.int y574_3, .int (-1), .int y574_2, .long (Int32.toInt64 y574_4), .int y574_1, .ref 129]) (w' := (sI w 129 38 ((w.1 129 38) + (1 : Int32)))) rfl ?_
    refine tm_c rfl (Nat.le_of_ble_eq_true rfl) (dm_Tx_node0 (d := d + 403) hs) (fun v w129 hq => ?_)
    obtain ⟨r129, rfl, hs⟩ := hq
    exact tm_r rfl ⟨_, rfl, hs⟩
  · replace hs := hs.2 h128
    refine tm_go 1 (pc' := 593) (L' := [some (.ref 129), some (.int y574_1), some (.int y574_2), some (.int y574_3), some (.int y574_4), some (.int ys574_0)]) (S' := [.int (-1)]) (w' := w) rfl ?_
    exact tm_r rfl ⟨_, rfl, hs⟩
set_option maxHeartbeats 4000000 in
set_option maxRecDepth 100000 in
theorem dmb_Tx_statement {d : Nat} {r_Tx_block : MW → (Int32 → MW → Prop) → Prop} {r_Tx_statement : MW → (Int32 → MW → Prop) → Prop} (hr_Tx_block : ∀ (w : MW) (Q : Int32 → MW → Prop), r_Tx_block w Q → Tc (d + 404) 328 [.ref 129] w (RI Q)) (hr_Tx_statement : ∀ (w : MW) (Q : Int32 → MW → Prop), r_Tx_statement w Q → Tc (d + 404) 331 [.ref 129] w (RI Q)) {w : MW} {Q : Int32 → MW → Prop} (hs : pb_Tx_statement r_Tx_block r_Tx_statement w Q) : Tc (d + 405) 331 [.ref 129] w (RI Q) := by
  unfold pb_Tx_statement at hs
  refine tm_go 10 (pc' := 17) (L' := [some (.ref 129), some (.int ((w.1 129 4) - (1000 : Int32))), some (.int (w.1 129 7)), none, none, none]) (S' := [.int 10, .int ((w.1 129 4) - (1000 : Int32))]) (w' := w) rfl ?_
  refine tm_i (p1 := 26) (p2 := 20) rfl (fun h1 => ?_) (fun h1 => ?_)
  · replace hs := hs.1 h1
    refine tm_go 1 (pc' := 27) (L' := [some (.ref 129), some (.int ((w.1 129 4) - (1000 : Int32))), some (.int (w.1 129 7)), none, none, none]) (S' := [.ref 129]) (w' := w) rfl ?_
    refine tm_c rfl (Nat.le_of_ble_eq_true rfl) (dm_Tx_bad (d := d + 404) hs) (fun v w2 hq => ?_)
    obtain ⟨r2, rfl, hs⟩ := hq
    exact tm_r rfl ⟨_, rfl, hs⟩
  · replace hs := hs.2 h1
    refine tm_go 2 (pc' := 23) (L' := [some (.ref 129), some (.int ((w.1 129 4) - (1000 : Int32))), some (.int (w.1 129 7)), none, none, none]) (S' := [.int 22, .int ((w.1 129 4) - (1000 : Int32))]) (w' := w) rfl ?_
    refine tm_i (p1 := 31) (p2 := 26) rfl (fun h3 => ?_) (fun h3 => ?_)
    · replace hs := hs.1 h3
      refine tm_go 1 (pc' := 32) (L' := [some (.ref 129), some (.int ((w.1 129 4) - (1000 : Int32))), some (.int (w.1 129 7)), none, none, none]) (S' := [.ref 129]) (w' := w) rfl ?_
      refine tm_c rfl (Nat.le_of_ble_eq_true rfl) (dm_Tx_go (d := d + 402) hs) (fun v w4 hq => ?_)
      obtain ⟨r4, rfl, hz4, hs⟩ := hq
      refine tm_i (p1 := 40) (p2 := 38) rfl (fun h5 => ?_) (fun h5 => ?_)
      · replace hs := hs.1 h5
        refine tm_go 8 (pc' := 52) (L' := [some (.ref 129), some (.int ((w.1 129 4) - (1000 : Int32))), some (.int (w.1 129 7)), some (.int (w4.1 129 35)), some (.int 0), some (.int 1)]) (S' := [.int ((w.1 129 4) - (1000 : Int32))]) (w' := w4) rfl ?_
        by_cases h6 : ((w.1 129 4) - (1000 : Int32)).toInt = 10
        · replace hs := hs.1 h6
          refine tm_tab (dflt := 579) (lo := 10) (ts := [120, 200, 227, 120, 257, 313, 384, 413, 466, 466, 579, 579, 509]) rfl (by rw [h6]; decide) (t := 120) (by rw [h6]; rfl) ?_
          refine tm_go 2 (pc' := 123) (L' := [some (.ref 129), some (.int ((w.1 129 4) - (1000 : Int32))), some (.int (w.1 129 7)), some (.int (w4.1 129 35)), some (.int 0), some (.int 1)]) (S' := [.int 31, .ref 129]) (w' := w4) rfl ?_
          refine tm_c rfl (Nat.le_of_ble_eq_true rfl) (dm_Tx_known (d := d + 401) hs) (fun v w7 hq => ?_)
          obtain ⟨r7, rfl, hs⟩ := hq
          refine tm_go 2 (pc' := 130) (L' := [some (.ref 129), some (.int ((w.1 129 4) - (1000 : Int32))), some (.int (w.1 129 7)), some (.int (w4.1 129 35)), some (.int r7), some (.int 1)]) (S' := [.int r7]) (w' := w7) rfl ?_
          refine tm_i (p1 := 194) (p2 := 133) rfl (fun h8 => ?_) (fun h8 => ?_)
          · replace hs := hs.1 h8
            refine tm_go 1 (pc' := 195) (L' := [some (.ref 129), some (.int ((w.1 129 4) - (1000 : Int32))), some (.int (w.1 129 7)), some (.int (w4.1 129 35)), some (.int r7), some (.int 1)]) (S' := [.int 0]) (w' := w7) rfl ?_
            exact tx_Tx_statement_195 hr_Tx_block hr_Tx_statement hs 
          · replace hs := hs.2 h8
            refine tm_go 11 (pc' := 150) (L' := [some (.ref 129), some (.int ((w.1 129 4) - (1000 : Int32))), some (.int (w.1 129 7)), some (.int (w4.1 129 35)), some (.int r7), some (.int 1)]) (S' := [.int (((40 : Int32) * ((1 : Int32) - (w7.1 129 12))) + r7), .ref 142, .ref 129]) (w' := w7) rfl ?_
            obtain ⟨b11, hs⟩ := hs
            refine tm_k (pc' := 151) (L' := [some (.ref 129), some (.int ((w.1 129 4) - (1000 : Int32))), some (.int (w.1 129 7)), some (.int (w4.1 129 35)), some (.int r7), some (.int 1)]) (S' := [.int (w7.1 142 ((((40 : Int32) * ((1 : Int32) - (w7.1 129 12))) + r7).toInt.toNat)), .ref 129]) (w' := w7) rfl b11 ?_
            refine tm_c rfl (Nat.le_of_ble_eq_true rfl) (dm_Tx_sumOf (d := d + 0) hs) (fun v w12 hq => ?_)
            obtain ⟨r12, rfl, hz12, hs⟩ := hq
            refine tm_i (p1 := 194) (p2 := 157) rfl (fun h13 => ?_) (fun h13 => ?_)
            · replace hs := hs.1 h13
              refine tm_go 1 (pc' := 195) (L' := [some (.ref 129), some (.int ((w.1 129 4) - (1000 : Int32))), some (.int (w.1 129 7)), some (.int (w4.1 129 35)), some (.int r7), some (.int 1)]) (S' := [.int 0]) (w' := w12) rfl ?_
              exact tx_Tx_statement_195 hr_Tx_block hr_Tx_statement hs 
            · replace hs := hs.2 h13
              refine tm_go 2 (pc' := 160) (L' := [some (.ref 129), some (.int ((w.1 129 4) - (1000 : Int32))), some (.int (w.1 129 7)), some (.int (w4.1 129 35)), some (.int r7), some (.int 1)]) (S' := [.int 10, .int ((w.1 129 4) - (1000 : Int32))]) (w' := w12) rfl ?_
              refine tm_i (p1 := 181) (p2 := 163) rfl (fun _ => ?_) (fun h => absurd h6 h)
              refine tm_go 2 (pc' := 184) (L' := [some (.ref 129), some (.int ((w.1 129 4) - (1000 : Int32))), some (.int (w.1 129 7)), some (.int (w4.1 129 35)), some (.int r7), some (.int 1)]) (S' := [.int 59, .ref 129]) (w' := w12) rfl ?_
              refine tm_c rfl (Nat.le_of_ble_eq_true rfl) (dm_Tx_over (d := d + 401) hs) (fun v w15 hq => ?_)
              obtain ⟨r15, rfl, hz15, hs⟩ := hq
              refine tm_i (p1 := 194) (p2 := 190) rfl (fun h16 => ?_) (fun h16 => ?_)
              · replace hs := hs.1 h16
                refine tm_go 1 (pc' := 195) (L' := [some (.ref 129), some (.int ((w.1 129 4) - (1000 : Int32))), some (.int (w.1 129 7)), some (.int (w4.1 129 35)), some (.int r7), some (.int 1)]) (S' := [.int 0]) (w' := w15) rfl ?_
                exact tx_Tx_statement_195 hr_Tx_block hr_Tx_statement hs 
              · replace hs := hs.2 h16
                refine tm_go 2 (pc' := 195) (L' := [some (.ref 129), some (.int ((w.1 129 4) - (1000 : Int32))), some (.int (w.1 129 7)), some (.int (w4.1 129 35)), some (.int r7), some (.int 1)]) (S' := [.int 1]) (w' := w15) rfl ?_
                exact tx_Tx_statement_195 hr_Tx_block hr_Tx_statement hs 
        · replace hs := hs.2 h6
          by_cases h17 : ((w.1 129 4) - (1000 : Int32)).toInt = 11
          · replace hs := hs.1 h17
            refine tm_tab (dflt := 579) (lo := 10) (ts := [120, 200, 227, 120, 257, 313, 384, 413, 466, 466, 579, 579, 509]) rfl (by rw [h17]; decide) (t := 200) (by rw [h17]; rfl) ?_
            refine tm_go 2 (pc' := 202) (L' := [some (.ref 129), some (.int ((w.1 129 4) - (1000 : Int32))), some (.int (w.1 129 7)), some (.int (w4.1 129 35)), some (.int 0), some (.int 1)]) (S' := [.int 3, .ref 129]) (w' := w4) rfl ?_
            refine tm_c rfl (Nat.le_of_ble_eq_true rfl) (dm_Tx_sumOf (d := d + 0) hs) (fun v w18 hq => ?_)
            obtain ⟨r18, rfl, hz18, hs⟩ := hq
            refine tm_i (p1 := 221) (p2 := 208) rfl (fun h19 => ?_) (fun h19 => ?_)
            · replace hs := hs.1 h19
              refine tm_go 1 (pc' := 222) (L' := [some (.ref 129), some (.int ((w.1 129 4) - (1000 : Int32))), some (.int (w.1 129 7)), some (.int (w4.1 129 35)), some (.int 0), some (.int 1)]) (S' := [.int 0]) (w' := w18) rfl ?_
              exact tx_Tx_statement_222 hr_Tx_block hr_Tx_statement hs 
            · replace hs := hs.2 h19
              refine tm_go 2 (pc' := 211) (L' := [some (.ref 129), some (.int ((w.1 129 4) - (1000 : Int32))), some (.int (w.1 129 7)), some (.int (w4.1 129 35)), some (.int 0), some (.int 1)]) (S' := [.int 59, .ref 129]) (w' := w18) rfl ?_
              refine tm_c rfl (Nat.le_of_ble_eq_true rfl) (dm_Tx_over (d := d + 401) hs) (fun v w22 hq => ?_)
              obtain ⟨r22, rfl, hz22, hs⟩ := hq
              refine tm_i (p1 := 221) (p2 := 217) rfl (fun h23 => ?_) (fun h23 => ?_)
              · replace hs := hs.1 h23
                refine tm_go 1 (pc' := 222) (L' := [some (.ref 129), some (.int ((w.1 129 4) - (1000 : Int32))), some (.int (w.1 129 7)), some (.int (w4.1 129 35)), some (.int 0), some (.int 1)]) (S' := [.int 0]) (w' := w22) rfl ?_
                exact tx_Tx_statement_222 hr_Tx_block hr_Tx_statement hs 
              · replace hs := hs.2 h23
                refine tm_go 2 (pc' := 222) (L' := [some (.ref 129), some (.int ((w.1 129 4) - (1000 : Int32))), some (.int (w.1 129 7)), some (.int (w4.1 129 35)), some (.int 0), some (.int 1)]) (S' := [.int 1]) (w' := w22) rfl ?_
                exact tx_Tx_statement_222 hr_Tx_block hr_Tx_statement hs 
          · replace hs := hs.2 h17
            by_cases h24 : ((w.1 129 4) - (1000 : Int32)).toInt = 12
            · replace hs := hs.1 h24
              refine tm_tab (dflt := 579) (lo := 10) (ts := [120, 200, 227, 120, 257, 313, 384, 413, 466, 466, 579, 579, 509]) rfl (by rw [h24]; decide) (t := 227) (by rw [h24]; rfl) ?_
              refine tm_go 2 (pc' := 229) (L' := [some (.ref 129), some (.int ((w.1 129 4) - (1000 : Int32))), some (.int (w.1 129 7)), some (.int (w4.1 129 35)), some (.int 0), some (.int 1)]) (S' := [.ref 129, .ref 129]) (w' := w4) rfl ?_
              refine tm_c rfl (Nat.le_of_ble_eq_true rfl) (dm_Tx_test (d := d + 0) hs) (fun v w25 hq => ?_)
              obtain ⟨r25, rfl, hs⟩ := hq
              refine tm_c rfl (Nat.le_of_ble_eq_true rfl) (dm_Tx_pushed (d := d + 403) hs) (fun v w26 hq => ?_)
              obtain ⟨r26, rfl, hz26, hs⟩ := hq
              refine tm_i (p1 := 251) (p2 := 238) rfl (fun h27 => ?_) (fun h27 => ?_)
              · replace hs := hs.1 h27
                refine tm_go 1 (pc' := 252) (L' := [some (.ref 129), some (.int ((w.1 129 4) - (1000 : Int32))), some (.int (w.1 129 7)), some (.int (w4.1 129 35)), some (.int 0), some (.int 1)]) (S' := [.int 0]) (w' := w26) rfl ?_
                exact tx_Tx_statement_252 hr_Tx_block hr_Tx_statement hs 
              · replace hs := hs.2 h27
                refine tm_go 2 (pc' := 241) (L' := [some (.ref 129), some (.int ((w.1 129 4) - (1000 : Int32))), some (.int (w.1 129 7)), some (.int (w4.1 129 35)), some (.int 0), some (.int 1)]) (S' := [.int 59, .ref 129]) (w' := w26) rfl ?_
                refine tm_c rfl (Nat.le_of_ble_eq_true rfl) (dm_Tx_over (d := d + 401) hs) (fun v w30 hq => ?_)
                obtain ⟨r30, rfl, hz30, hs⟩ := hq
                refine tm_i (p1 := 251) (p2 := 247) rfl (fun h31 => ?_) (fun h31 => ?_)
                · replace hs := hs.1 h31
                  refine tm_go 1 (pc' := 252) (L' := [some (.ref 129), some (.int ((w.1 129 4) - (1000 : Int32))), some (.int (w.1 129 7)), some (.int (w4.1 129 35)), some (.int 0), some (.int 1)]) (S' := [.int 0]) (w' := w30) rfl ?_
                  exact tx_Tx_statement_252 hr_Tx_block hr_Tx_statement hs 
                · replace hs := hs.2 h31
                  refine tm_go 2 (pc' := 252) (L' := [some (.ref 129), some (.int ((w.1 129 4) - (1000 : Int32))), some (.int (w.1 129 7)), some (.int (w4.1 129 35)), some (.int 0), some (.int 1)]) (S' := [.int 1]) (w' := w30) rfl ?_
                  exact tx_Tx_statement_252 hr_Tx_block hr_Tx_statement hs 
            · replace hs := hs.2 h24
              by_cases h32 : ((w.1 129 4) - (1000 : Int32)).toInt = 13
              · replace hs := hs.1 h32
                refine tm_tab (dflt := 579) (lo := 10) (ts := [120, 200, 227, 120, 257, 313, 384, 413, 466, 466, 579, 579, 509]) rfl (by rw [h32]; decide) (t := 120) (by rw [h32]; rfl) ?_
                refine tm_go 2 (pc' := 123) (L' := [some (.ref 129), some (.int ((w.1 129 4) - (1000 : Int32))), some (.int (w.1 129 7)), some (.int (w4.1 129 35)), some (.int 0), some (.int 1)]) (S' := [.int 31, .ref 129]) (w' := w4) rfl ?_
                refine tm_c rfl (Nat.le_of_ble_eq_true rfl) (dm_Tx_known (d := d + 401) hs) (fun v w33 hq => ?_)
                obtain ⟨r33, rfl, hs⟩ := hq
                refine tm_go 2 (pc' := 130) (L' := [some (.ref 129), some (.int ((w.1 129 4) - (1000 : Int32))), some (.int (w.1 129 7)), some (.int (w4.1 129 35)), some (.int r33), some (.int 1)]) (S' := [.int r33]) (w' := w33) rfl ?_
                refine tm_i (p1 := 194) (p2 := 133) rfl (fun h34 => ?_) (fun h34 => ?_)
                · replace hs := hs.1 h34
                  refine tm_go 1 (pc' := 195) (L' := [some (.ref 129), some (.int ((w.1 129 4) - (1000 : Int32))), some (.int (w.1 129 7)), some (.int (w4.1 129 35)), some (.int r33), some (.int 1)]) (S' := [.int 0]) (w' := w33) rfl ?_
                  exact tx_Tx_statement_195 hr_Tx_block hr_Tx_statement hs 
                · replace hs := hs.2 h34
                  refine tm_go 11 (pc' := 150) (L' := [some (.ref 129), some (.int ((w.1 129 4) - (1000 : Int32))), some (.int (w.1 129 7)), some (.int (w4.1 129 35)), some (.int r33), some (.int 1)]) (S' := [.int (((40 : Int32) * ((1 : Int32) - (w33.1 129 12))) + r33), .ref 142, .ref 129]) (w' := w33) rfl ?_
                  obtain ⟨b35, hs⟩ := hs
                  refine tm_k (pc' := 151) (L' := [some (.ref 129), some (.int ((w.1 129 4) - (1000 : Int32))), some (.int (w.1 129 7)), some (.int (w4.1 129 35)), some (.int r33), some (.int 1)]) (S' := [.int (w33.1 142 ((((40 : Int32) * ((1 : Int32) - (w33.1 129 12))) + r33).toInt.toNat)), .ref 129]) (w' := w33) rfl b35 ?_
                  refine tm_c rfl (Nat.le_of_ble_eq_true rfl) (dm_Tx_sumOf (d := d + 0) hs) (fun v w36 hq => ?_)
                  obtain ⟨r36, rfl, hz36, hs⟩ := hq
                  refine tm_i (p1 := 194) (p2 := 157) rfl (fun h37 => ?_) (fun h37 => ?_)
                  · replace hs := hs.1 h37
                    refine tm_go 1 (pc' := 195) (L' := [some (.ref 129), some (.int ((w.1 129 4) - (1000 : Int32))), some (.int (w.1 129 7)), some (.int (w4.1 129 35)), some (.int r33), some (.int 1)]) (S' := [.int 0]) (w' := w36) rfl ?_
                    exact tx_Tx_statement_195 hr_Tx_block hr_Tx_statement hs 
                  · replace hs := hs.2 h37
                    refine tm_go 2 (pc' := 160) (L' := [some (.ref 129), some (.int ((w.1 129 4) - (1000 : Int32))), some (.int (w.1 129 7)), some (.int (w4.1 129 35)), some (.int r33), some (.int 1)]) (S' := [.int 10, .int ((w.1 129 4) - (1000 : Int32))]) (w' := w36) rfl ?_
                    refine tm_i (p1 := 181) (p2 := 163) rfl (fun h => absurd h h6) (fun _ => ?_)
                    refine tm_go 2 (pc' := 167) (L' := [some (.ref 129), some (.int ((w.1 129 4) - (1000 : Int32))), some (.int (w.1 129 7)), some (.int (w4.1 129 35)), some (.int r33), some (.int 1)]) (S' := [.int 1032, .ref 129]) (w' := w36) rfl ?_
                    refine tm_c rfl (Nat.le_of_ble_eq_true rfl) (dm_Tx_over (d := d + 401) hs) (fun v w39 hq => ?_)
                    obtain ⟨r39, rfl, hz39, hs⟩ := hq
                    refine tm_i (p1 := 194) (p2 := 173) rfl (fun h40 => ?_) (fun h40 => ?_)
                    · replace hs := hs.1 h40
                      refine tm_go 1 (pc' := 195) (L' := [some (.ref 129), some (.int ((w.1 129 4) - (1000 : Int32))), some (.int (w.1 129 7)), some (.int (w4.1 129 35)), some (.int r33), some (.int 1)]) (S' := [.int 0]) (w' := w39) rfl ?_
                      exact tx_Tx_statement_195 hr_Tx_block hr_Tx_statement hs 
                    · replace hs := hs.2 h40
                      refine tm_go 2 (pc' := 175) (L' := [some (.ref 129), some (.int ((w.1 129 4) - (1000 : Int32))), some (.int (w.1 129 7)), some (.int (w4.1 129 35)), some (.int r33), some (.int 1)]) (S' := [.int 3, .ref 129]) (w' := w39) rfl ?_
                      refine tm_c rfl (Nat.le_of_ble_eq_true rfl) (dm_Tx_sumOf (d := d + 0) hs) (fun v w41 hq => ?_)
                      obtain ⟨r41, rfl, hz41, hs⟩ := hq
                      refine tm_i (p1 := 194) (p2 := 181) rfl (fun h42 => ?_) (fun h42 => ?_)
                      · replace hs := hs.1 h42
                        refine tm_go 1 (pc' := 195) (L' := [some (.ref 129), some (.int ((w.1 129 4) - (1000 : Int32))), some (.int (w.1 129 7)), some (.int (w4.1 129 35)), some (.int r33), some (.int 1)]) (S' := [.int 0]) (w' := w41) rfl ?_
                        exact tx_Tx_statement_195 hr_Tx_block hr_Tx_statement hs 
                      · replace hs := hs.2 h42
                        refine tm_go 2 (pc' := 184) (L' := [some (.ref 129), some (.int ((w.1 129 4) - (1000 : Int32))), some (.int (w.1 129 7)), some (.int (w4.1 129 35)), some (.int r33), some (.int 1)]) (S' := [.int 59, .ref 129]) (w' := w41) rfl ?_
                        refine tm_c rfl (Nat.le_of_ble_eq_true rfl) (dm_Tx_over (d := d + 401) hs) (fun v w43 hq => ?_)
                        obtain ⟨r43, rfl, hz43, hs⟩ := hq
                        refine tm_i (p1 := 194) (p2 := 190) rfl (fun h44 => ?_) (fun h44 => ?_)
                        · replace hs := hs.1 h44
                          refine tm_go 1 (pc' := 195) (L' := [some (.ref 129), some (.int ((w.1 129 4) - (1000 : Int32))), some (.int (w.1 129 7)), some (.int (w4.1 129 35)), some (.int r33), some (.int 1)]) (S' := [.int 0]) (w' := w43) rfl ?_
                          exact tx_Tx_statement_195 hr_Tx_block hr_Tx_statement hs 
                        · replace hs := hs.2 h44
                          refine tm_go 2 (pc' := 195) (L' := [some (.ref 129), some (.int ((w.1 129 4) - (1000 : Int32))), some (.int (w.1 129 7)), some (.int (w4.1 129 35)), some (.int r33), some (.int 1)]) (S' := [.int 1]) (w' := w43) rfl ?_
                          exact tx_Tx_statement_195 hr_Tx_block hr_Tx_statement hs 
              · replace hs := hs.2 h32
                by_cases h45 : ((w.1 129 4) - (1000 : Int32)).toInt = 14
                · replace hs := hs.1 h45
                  refine tm_tab (dflt := 579) (lo := 10) (ts := [120, 200, 227, 120, 257, 313, 384, 413, 466, 466, 579, 579, 509]) rfl (by rw [h45]; decide) (t := 257) (by rw [h45]; rfl) ?_
                  refine tm_go 2 (pc' := 259) (L' := [some (.ref 129), some (.int ((w.1 129 4) - (1000 : Int32))), some (.int (w.1 129 7)), some (.int (w4.1 129 35)), some (.int 0), some (.int 1)]) (S' := [.ref 129, .ref 129]) (w' := w4) rfl ?_
                  refine tm_c rfl (Nat.le_of_ble_eq_true rfl) (hr_Tx_block _ _ hs) (fun v w46 hq => ?_)
                  obtain ⟨r46, rfl, hs⟩ := hq
                  refine tm_c rfl (Nat.le_of_ble_eq_true rfl) (dm_Tx_pushed (d := d + 403) hs) (fun v w47 hq => ?_)
                  obtain ⟨r47, rfl, hz47, hs⟩ := hq
                  refine tm_i (p1 := 283) (p2 := 268) rfl (fun h48 => ?_) (fun h48 => ?_)
                  · replace hs := hs.1 h48
                    refine tm_go 1 (pc' := 284) (L' := [some (.ref 129), some (.int ((w.1 129 4) - (1000 : Int32))), some (.int (w.1 129 7)), some (.int (w4.1 129 35)), some (.int 0), some (.int 1)]) (S' := [.int 0]) (w' := w47) rfl ?_
                    exact tx_Tx_statement_284 hr_Tx_block hr_Tx_statement hs 
                  · replace hs := hs.2 h48
                    refine tm_go 2 (pc' := 270) (L' := [some (.ref 129), some (.int ((w.1 129 4) - (1000 : Int32))), some (.int (w.1 129 7)), some (.int (w4.1 129 35)), some (.int 0), some (.int 1)]) (S' := [.ref 129, .ref 129]) (w' := w47) rfl ?_
                    refine tm_c rfl (Nat.le_of_ble_eq_true rfl) (hr_Tx_block _ _ hs) (fun v w56 hq => ?_)
                    obtain ⟨r56, rfl, hs⟩ := hq
                    refine tm_c rfl (Nat.le_of_ble_eq_true rfl) (dm_Tx_pushed (d := d + 403) hs) (fun v w57 hq => ?_)
                    obtain ⟨r57, rfl, hz57, hs⟩ := hq
                    refine tm_i (p1 := 283) (p2 := 279) rfl (fun h58 => ?_) (fun h58 => ?_)
                    · replace hs := hs.1 h58
                      refine tm_go 1 (pc' := 284) (L' := [some (.ref 129), some (.int ((w.1 129 4) - (1000 : Int32))), some (.int (w.1 129 7)), some (.int (w4.1 129 35)), some (.int 0), some (.int 1)]) (S' := [.int 0]) (w' := w57) rfl ?_
                      exact tx_Tx_statement_284 hr_Tx_block hr_Tx_statement hs 
                    · replace hs := hs.2 h58
                      refine tm_go 2 (pc' := 284) (L' := [some (.ref 129), some (.int ((w.1 129 4) - (1000 : Int32))), some (.int (w.1 129 7)), some (.int (w4.1 129 35)), some (.int 0), some (.int 1)]) (S' := [.int 1]) (w' := w57) rfl ?_
                      exact tx_Tx_statement_284 hr_Tx_block hr_Tx_statement hs 
                · replace hs := hs.2 h45
                  by_cases h59 : ((w.1 129 4) - (1000 : Int32)).toInt = 15
                  · replace hs := hs.1 h59
                    refine tm_tab (dflt := 579) (lo := 10) (ts := [120, 200, 227, 120, 257, 313, 384, 413, 466, 466, 579, 579, 509]) rfl (by rw [h59]; decide) (t := 313) (by rw [h59]; rfl) ?_
                    refine tm_go 2 (pc' := 315) (L' := [some (.ref 129), some (.int ((w.1 129 4) - (1000 : Int32))), some (.int (w.1 129 7)), some (.int (w4.1 129 35)), some (.int 0), some (.int 1)]) (S' := [.ref 129, .ref 129]) (w' := w4) rfl ?_
                    refine tm_c rfl (Nat.le_of_ble_eq_true rfl) (dm_Tx_test (d := d + 0) hs) (fun v w60 hq => ?_)
                    obtain ⟨r60, rfl, hs⟩ := hq
                    refine tm_c rfl (Nat.le_of_ble_eq_true rfl) (dm_Tx_pushed (d := d + 403) hs) (fun v w61 hq => ?_)
                    obtain ⟨r61, rfl, hz61, hs⟩ := hq
                    refine tm_i (p1 := 339) (p2 := 324) rfl (fun h62 => ?_) (fun h62 => ?_)
                    · replace hs := hs.1 h62
                      refine tm_go 1 (pc' := 340) (L' := [some (.ref 129), some (.int ((w.1 129 4) - (1000 : Int32))), some (.int (w.1 129 7)), some (.int (w4.1 129 35)), some (.int 0), some (.int 1)]) (S' := [.int 0]) (w' := w61) rfl ?_
                      exact tx_Tx_statement_340 hr_Tx_block hr_Tx_statement hs 
                    · replace hs := hs.2 h62
                      refine tm_go 2 (pc' := 326) (L' := [some (.ref 129), some (.int ((w.1 129 4) - (1000 : Int32))), some (.int (w.1 129 7)), some (.int (w4.1 129 35)), some (.int 0), some (.int 1)]) (S' := [.ref 129, .ref 129]) (w' := w61) rfl ?_
                      refine tm_c rfl (Nat.le_of_ble_eq_true rfl) (hr_Tx_block _ _ hs) (fun v w77 hq => ?_)
                      obtain ⟨r77, rfl, hs⟩ := hq
                      refine tm_c rfl (Nat.le_of_ble_eq_true rfl) (dm_Tx_pushed (d := d + 403) hs) (fun v w78 hq => ?_)
                      obtain ⟨r78, rfl, hz78, hs⟩ := hq
                      refine tm_i (p1 := 339) (p2 := 335) rfl (fun h79 => ?_) (fun h79 => ?_)
                      · replace hs := hs.1 h79
                        refine tm_go 1 (pc' := 340) (L' := [some (.ref 129), some (.int ((w.1 129 4) - (1000 : Int32))), some (.int (w.1 129 7)), some (.int (w4.1 129 35)), some (.int 0), some (.int 1)]) (S' := [.int 0]) (w' := w78) rfl ?_
                        exact tx_Tx_statement_340 hr_Tx_block hr_Tx_statement hs 
                      · replace hs := hs.2 h79
                        refine tm_go 2 (pc' := 340) (L' := [some (.ref 129), some (.int ((w.1 129 4) - (1000 : Int32))), some (.int (w.1 129 7)), some (.int (w4.1 129 35)), some (.int 0), some (.int 1)]) (S' := [.int 1]) (w' := w78) rfl ?_
                        exact tx_Tx_statement_340 hr_Tx_block hr_Tx_statement hs 
                  · replace hs := hs.2 h59
                    by_cases h80 : ((w.1 129 4) - (1000 : Int32)).toInt = 16
                    · replace hs := hs.1 h80
                      refine tm_tab (dflt := 579) (lo := 10) (ts := [120, 200, 227, 120, 257, 313, 384, 413, 466, 466, 579, 579, 509]) rfl (by rw [h80]; decide) (t := 384) (by rw [h80]; rfl) ?_
                      refine tm_go 2 (pc' := 386) (L' := [some (.ref 129), some (.int ((w.1 129 4) - (1000 : Int32))), some (.int (w.1 129 7)), some (.int (w4.1 129 35)), some (.int 0), some (.int 1)]) (S' := [.int 0, .ref 129]) (w' := w4) rfl ?_
                      refine tm_c rfl (Nat.le_of_ble_eq_true rfl) (dm_Tx_sumOf (d := d + 0) hs) (fun v w81 hq => ?_)
                      obtain ⟨r81, rfl, hz81, hs⟩ := hq
                      refine tm_i (p1 := 407) (p2 := 392) rfl (fun h82 => ?_) (fun h82 => ?_)
                      · replace hs := hs.1 h82
                        refine tm_go 1 (pc' := 408) (L' := [some (.ref 129), some (.int ((w.1 129 4) - (1000 : Int32))), some (.int (w.1 129 7)), some (.int (w4.1 129 35)), some (.int 0), some (.int 1)]) (S' := [.int 0]) (w' := w81) rfl ?_
                        exact tx_Tx_statement_408 hr_Tx_block hr_Tx_statement hs 
                      · replace hs := hs.2 h82
                        refine tm_go 2 (pc' := 394) (L' := [some (.ref 129), some (.int ((w.1 129 4) - (1000 : Int32))), some (.int (w.1 129 7)), some (.int (w4.1 129 35)), some (.int 0), some (.int 1)]) (S' := [.ref 129, .ref 129]) (w' := w81) rfl ?_
                        refine tm_c rfl (Nat.le_of_ble_eq_true rfl) (hr_Tx_block _ _ hs) (fun v w85 hq => ?_)
                        obtain ⟨r85, rfl, hs⟩ := hq
                        refine tm_c rfl (Nat.le_of_ble_eq_true rfl) (dm_Tx_pushed (d := d + 403) hs) (fun v w86 hq => ?_)
                        obtain ⟨r86, rfl, hz86, hs⟩ := hq
                        refine tm_i (p1 := 407) (p2 := 403) rfl (fun h87 => ?_) (fun h87 => ?_)
                        · replace hs := hs.1 h87
                          refine tm_go 1 (pc' := 408) (L' := [some (.ref 129), some (.int ((w.1 129 4) - (1000 : Int32))), some (.int (w.1 129 7)), some (.int (w4.1 129 35)), some (.int 0), some (.int 1)]) (S' := [.int 0]) (w' := w86) rfl ?_
                          exact tx_Tx_statement_408 hr_Tx_block hr_Tx_statement hs 
                        · replace hs := hs.2 h87
                          refine tm_go 2 (pc' := 408) (L' := [some (.ref 129), some (.int ((w.1 129 4) - (1000 : Int32))), some (.int (w.1 129 7)), some (.int (w4.1 129 35)), some (.int 0), some (.int 1)]) (S' := [.int 1]) (w' := w86) rfl ?_
                          exact tx_Tx_statement_408 hr_Tx_block hr_Tx_statement hs 
                    · replace hs := hs.2 h80
                      by_cases h88 : ((w.1 129 4) - (1000 : Int32)).toInt = 17
                      · replace hs := hs.1 h88
                        refine tm_tab (dflt := 579) (lo := 10) (ts := [120, 200, 227, 120, 257, 313, 384, 413, 466, 466, 579, 579, 509]) rfl (by rw [h88]; decide) (t := 413) (by rw [h88]; rfl) ?_
                        refine tm_go 2 (pc' := 415) (L' := [some (.ref 129), some (.int ((w.1 129 4) - (1000 : Int32))), some (.int (w.1 129 7)), some (.int (w4.1 129 35)), some (.int 0), some (.int 1)]) (S' := [.ref 129, .ref 129]) (w' := w4) rfl ?_
                        refine tm_c rfl (Nat.le_of_ble_eq_true rfl) (dm_Tx_test (d := d + 0) hs) (fun v w89 hq => ?_)
                        obtain ⟨r89, rfl, hs⟩ := hq
                        refine tm_c rfl (Nat.le_of_ble_eq_true rfl) (dm_Tx_pushed (d := d + 403) hs) (fun v w90 hq => ?_)
                        obtain ⟨r90, rfl, hz90, hs⟩ := hq
                        refine tm_i (p1 := 460) (p2 := 424) rfl (fun h91 => ?_) (fun h91 => ?_)
                        · replace hs := hs.1 h91
                          refine tm_go 1 (pc' := 461) (L' := [some (.ref 129), some (.int ((w.1 129 4) - (1000 : Int32))), some (.int (w.1 129 7)), some (.int (w4.1 129 35)), some (.int 0), some (.int 1)]) (S' := [.int 0]) (w' := w90) rfl ?_
                          exact tx_Tx_statement_461 hr_Tx_block hr_Tx_statement hs 
                        · replace hs := hs.2 h91
                          refine tm_go 2 (pc' := 426) (L' := [some (.ref 129), some (.int ((w.1 129 4) - (1000 : Int32))), some (.int (w.1 129 7)), some (.int (w4.1 129 35)), some (.int 0), some (.int 1)]) (S' := [.ref 129, .ref 129]) (w' := w90) rfl ?_
                          refine tm_c rfl (Nat.le_of_ble_eq_true rfl) (hr_Tx_block _ _ hs) (fun v w94 hq => ?_)
                          obtain ⟨r94, rfl, hs⟩ := hq
                          refine tm_c rfl (Nat.le_of_ble_eq_true rfl) (dm_Tx_pushed (d := d + 403) hs) (fun v w95 hq => ?_)
                          obtain ⟨r95, rfl, hz95, hs⟩ := hq
                          refine tm_i (p1 := 460) (p2 := 435) rfl (fun h96 => ?_) (fun h96 => ?_)
                          · replace hs := hs.1 h96
                            refine tm_go 1 (pc' := 461) (L' := [some (.ref 129), some (.int ((w.1 129 4) - (1000 : Int32))), some (.int (w.1 129 7)), some (.int (w4.1 129 35)), some (.int 0), some (.int 1)]) (S' := [.int 0]) (w' := w95) rfl ?_
                            exact tx_Tx_statement_461 hr_Tx_block hr_Tx_statement hs 
                          · replace hs := hs.2 h96
                            refine tm_go 2 (pc' := 439) (L' := [some (.ref 129), some (.int ((w.1 129 4) - (1000 : Int32))), some (.int (w.1 129 7)), some (.int (w4.1 129 35)), some (.int 0), some (.int 1)]) (S' := [.int 1034, .ref 129]) (w' := w95) rfl ?_
                            refine tm_c rfl (Nat.le_of_ble_eq_true rfl) (dm_Tx_over (d := d + 401) hs) (fun v w97 hq => ?_)
                            obtain ⟨r97, rfl, hz97, hs⟩ := hq
                            refine tm_i (p1 := 460) (p2 := 445) rfl (fun h98 => ?_) (fun h98 => ?_)
                            · replace hs := hs.1 h98
                              refine tm_go 1 (pc' := 461) (L' := [some (.ref 129), some (.int ((w.1 129 4) - (1000 : Int32))), some (.int (w.1 129 7)), some (.int (w4.1 129 35)), some (.int 0), some (.int 1)]) (S' := [.int 0]) (w' := w97) rfl ?_
                              exact tx_Tx_statement_461 hr_Tx_block hr_Tx_statement hs 
                            · replace hs := hs.2 h98
                              refine tm_go 2 (pc' := 447) (L' := [some (.ref 129), some (.int ((w.1 129 4) - (1000 : Int32))), some (.int (w.1 129 7)), some (.int (w4.1 129 35)), some (.int 0), some (.int 1)]) (S' := [.ref 129, .ref 129]) (w' := w97) rfl ?_
                              refine tm_c rfl (Nat.le_of_ble_eq_true rfl) (hr_Tx_block _ _ hs) (fun v w99 hq => ?_)
                              obtain ⟨r99, rfl, hs⟩ := hq
                              refine tm_c rfl (Nat.le_of_ble_eq_true rfl) (dm_Tx_pushed (d := d + 403) hs) (fun v w100 hq => ?_)
                              obtain ⟨r100, rfl, hz100, hs⟩ := hq
                              refine tm_i (p1 := 460) (p2 := 456) rfl (fun h101 => ?_) (fun h101 => ?_)
                              · replace hs := hs.1 h101
                                refine tm_go 1 (pc' := 461) (L' := [some (.ref 129), some (.int ((w.1 129 4) - (1000 : Int32))), some (.int (w.1 129 7)), some (.int (w4.1 129 35)), some (.int 0), some (.int 1)]) (S' := [.int 0]) (w' := w100) rfl ?_
                                exact tx_Tx_statement_461 hr_Tx_block hr_Tx_statement hs 
                              · replace hs := hs.2 h101
                                refine tm_go 2 (pc' := 461) (L' := [some (.ref 129), some (.int ((w.1 129 4) - (1000 : Int32))), some (.int (w.1 129 7)), some (.int (w4.1 129 35)), some (.int 0), some (.int 1)]) (S' := [.int 1]) (w' := w100) rfl ?_
                                exact tx_Tx_statement_461 hr_Tx_block hr_Tx_statement hs 
                      · replace hs := hs.2 h88
                        by_cases h102 : ((w.1 129 4) - (1000 : Int32)).toInt = 18
                        · replace hs := hs.1 h102
                          refine tm_tab (dflt := 579) (lo := 10) (ts := [120, 200, 227, 120, 257, 313, 384, 413, 466, 466, 579, 579, 509]) rfl (by rw [h102]; decide) (t := 466) (by rw [h102]; rfl) ?_
                          refine tm_go 3 (pc' := 470) (L' := [some (.ref 129), some (.int ((w.1 129 4) - (1000 : Int32))), some (.int (w.1 129 7)), some (.int (w4.1 129 35)), some (.int 0), some (.int 1)]) (S' := [.int 18, .int ((w.1 129 4) - (1000 : Int32)), .ref 129]) (w' := w4) rfl ?_
                          refine tm_i (p1 := 478) (p2 := 473) rfl (fun h103 => ?_) (fun h103 => ?_)
                          · replace hs := hs.1 h103
                            refine tm_go 1 (pc' := 480) (L' := [some (.ref 129), some (.int ((w.1 129 4) - (1000 : Int32))), some (.int (w.1 129 7)), some (.int (w4.1 129 35)), some (.int 0), some (.int 1)]) (S' := [.int 24, .ref 129]) (w' := w4) rfl ?_
                            exact tx_Tx_statement_480 hr_Tx_block hr_Tx_statement hs 
                          · replace hs := hs.2 h103
                            refine tm_go 2 (pc' := 480) (L' := [some (.ref 129), some (.int ((w.1 129 4) - (1000 : Int32))), some (.int (w.1 129 7)), some (.int (w4.1 129 35)), some (.int 0), some (.int 1)]) (S' := [.int 30, .ref 129]) (w' := w4) rfl ?_
                            exact tx_Tx_statement_480 hr_Tx_block hr_Tx_statement hs 
                        · replace hs := hs.2 h102
                          by_cases h110 : ((w.1 129 4) - (1000 : Int32)).toInt = 19
                          · replace hs := hs.1 h110
                            refine tm_tab (dflt := 579) (lo := 10) (ts := [120, 200, 227, 120, 257, 313, 384, 413, 466, 466, 579, 579, 509]) rfl (by rw [h110]; decide) (t := 466) (by rw [h110]; rfl) ?_
                            refine tm_go 3 (pc' := 470) (L' := [some (.ref 129), some (.int ((w.1 129 4) - (1000 : Int32))), some (.int (w.1 129 7)), some (.int (w4.1 129 35)), some (.int 0), some (.int 1)]) (S' := [.int 18, .int ((w.1 129 4) - (1000 : Int32)), .ref 129]) (w' := w4) rfl ?_
                            refine tm_i (p1 := 478) (p2 := 473) rfl (fun h111 => ?_) (fun h111 => ?_)
                            · replace hs := hs.1 h111
                              refine tm_go 1 (pc' := 480) (L' := [some (.ref 129), some (.int ((w.1 129 4) - (1000 : Int32))), some (.int (w.1 129 7)), some (.int (w4.1 129 35)), some (.int 0), some (.int 1)]) (S' := [.int 24, .ref 129]) (w' := w4) rfl ?_
                              exact tx_Tx_statement_480 hr_Tx_block hr_Tx_statement hs 
                            · replace hs := hs.2 h111
                              refine tm_go 2 (pc' := 480) (L' := [some (.ref 129), some (.int ((w.1 129 4) - (1000 : Int32))), some (.int (w.1 129 7)), some (.int (w4.1 129 35)), some (.int 0), some (.int 1)]) (S' := [.int 30, .ref 129]) (w' := w4) rfl ?_
                              exact tx_Tx_statement_480 hr_Tx_block hr_Tx_statement hs 
                          · replace hs := hs.2 h110
                            by_cases h112 : ((w.1 129 4) - (1000 : Int32)).toInt = 20
                            · replace hs := hs.1 h112
                              refine tm_tab (dflt := 579) (lo := 10) (ts := [120, 200, 227, 120, 257, 313, 384, 413, 466, 466, 579, 579, 509]) rfl (by rw [h112]; decide) (t := 579) (by rw [h112]; rfl) ?_
                              refine tm_go 2 (pc' := 582) (L' := [some (.ref 129), some (.int ((w.1 129 4) - (1000 : Int32))), some (.int (w.1 129 7)), some (.int (w4.1 129 35)), some (.int 0), some (.int 1)]) (S' := [.int 59, .ref 129]) (w' := w4) rfl ?_
                              refine tm_c rfl (Nat.le_of_ble_eq_true rfl) (dm_Tx_over (d := d + 401) hs) (fun v w113 hq => ?_)
                              obtain ⟨r113, rfl, hz113, hs⟩ := hq
                              refine tm_go 2 (pc' := 589) (L' := [some (.ref 129), some (.int ((w.1 129 4) - (1000 : Int32))), some (.int (w.1 129 7)), some (.int (w4.1 129 35)), some (.int 0), some (.int r113)]) (S' := [.int r113]) (w' := w113) rfl ?_
                              refine tm_i (p1 := 594) (p2 := 592) rfl (fun h114 => ?_) (fun h114 => ?_)
                              · replace hs := hs.1 h114
                                refine tm_go 13 (pc' := 612) (L' := [some (.ref 129), some (.int ((w.1 129 4) - (1000 : Int32))), some (.int (w.1 129 7)), some (.int (w4.1 129 35)), some (.int 0), some (.int r113)]) (S' := [.int (w4.1 129 35), .int (-1), .int (w.1 129 7), .long (Int32.toInt64 (0 : Int32)), .int ((w.1 129 4) - (1000 : Int32)), .ref 129]) (w' := (sI w113 129 38 ((w113.1 129 38) + (1 : Int32)))) rfl ?_
                                refine tm_c rfl (Nat.le_of_ble_eq_true rfl) (dm_Tx_node0 (d := d + 403) hs) (fun v w115 hq => ?_)
                                obtain ⟨r115, rfl, hs⟩ := hq
                                exact tm_r rfl ⟨_, rfl, hs⟩
                              · replace hs := hs.2 h114
                                refine tm_go 1 (pc' := 593) (L' := [some (.ref 129), some (.int ((w.1 129 4) - (1000 : Int32))), some (.int (w.1 129 7)), some (.int (w4.1 129 35)), some (.int 0), some (.int r113)]) (S' := [.int (-1)]) (w' := w113) rfl ?_
                                exact tm_r rfl ⟨_, rfl, hs⟩
                            · replace hs := hs.2 h112
                              by_cases h116 : ((w.1 129 4) - (1000 : Int32)).toInt = 21
                              · replace hs := hs.1 h116
                                refine tm_tab (dflt := 579) (lo := 10) (ts := [120, 200, 227, 120, 257, 313, 384, 413, 466, 466, 579, 579, 509]) rfl (by rw [h116]; decide) (t := 579) (by rw [h116]; rfl) ?_
                                refine tm_go 2 (pc' := 582) (L' := [some (.ref 129), some (.int ((w.1 129 4) - (1000 : Int32))), some (.int (w.1 129 7)), some (.int (w4.1 129 35)), some (.int 0), some (.int 1)]) (S' := [.int 59, .ref 129]) (w' := w4) rfl ?_
                                refine tm_c rfl (Nat.le_of_ble_eq_true rfl) (dm_Tx_over (d := d + 401) hs) (fun v w117 hq => ?_)
                                obtain ⟨r117, rfl, hz117, hs⟩ := hq
                                refine tm_go 2 (pc' := 589) (L' := [some (.ref 129), some (.int ((w.1 129 4) - (1000 : Int32))), some (.int (w.1 129 7)), some (.int (w4.1 129 35)), some (.int 0), some (.int r117)]) (S' := [.int r117]) (w' := w117) rfl ?_
                                refine tm_i (p1 := 594) (p2 := 592) rfl (fun h118 => ?_) (fun h118 => ?_)
                                · replace hs := hs.1 h118
                                  refine tm_go 13 (pc' := 612) (L' := [some (.ref 129), some (.int ((w.1 129 4) - (1000 : Int32))), some (.int (w.1 129 7)), some (.int (w4.1 129 35)), some (.int 0), some (.int r117)]) (S' := [.int (w4.1 129 35), .int (-1), .int (w.1 129 7), .long (Int32.toInt64 (0 : Int32)), .int ((w.1 129 4) - (1000 : Int32)), .ref 129]) (w' := (sI w117 129 38 ((w117.1 129 38) + (1 : Int32)))) rfl ?_
                                  refine tm_c rfl (Nat.le_of_ble_eq_true rfl) (dm_Tx_node0 (d := d + 403) hs) (fun v w119 hq => ?_)
                                  obtain ⟨r119, rfl, hs⟩ := hq
                                  exact tm_r rfl ⟨_, rfl, hs⟩
                                · replace hs := hs.2 h118
                                  refine tm_go 1 (pc' := 593) (L' := [some (.ref 129), some (.int ((w.1 129 4) - (1000 : Int32))), some (.int (w.1 129 7)), some (.int (w4.1 129 35)), some (.int 0), some (.int r117)]) (S' := [.int (-1)]) (w' := w117) rfl ?_
                                  exact tm_r rfl ⟨_, rfl, hs⟩
                              · replace hs := hs.2 h116
                                by_cases h120 : ((w.1 129 4) - (1000 : Int32)).toInt = 22
                                · replace hs := hs.1 h120
                                  refine tm_tab (dflt := 579) (lo := 10) (ts := [120, 200, 227, 120, 257, 313, 384, 413, 466, 466, 579, 579, 509]) rfl (by rw [h120]; decide) (t := 509) (by rw [h120]; rfl) ?_
                                  refine tm_go 3 (pc' := 516) (L' := [some (.ref 129), some (.int ((w.1 129 4) - (1000 : Int32))), some (.int (w.1 129 7)), some (.int (w4.1 129 35)), some (.int 0), some (.int 1)]) (S' := [.int 2000, .int (w4.1 129 4)]) (w' := w4) rfl ?_
                                  refine tm_i (p1 := 537) (p2 := 519) rfl (fun h121 => ?_) (fun h121 => ?_)
                                  · replace hs := hs.1 h121
                                    refine tm_go 1 (pc' := 538) (L' := [some (.ref 129), some (.int ((w.1 129 4) - (1000 : Int32))), some (.int (w.1 129 7)), some (.int (w4.1 129 35)), some (.int 0), some (.int 1)]) (S' := [.ref 129]) (w' := w4) rfl ?_
                                    refine tm_c rfl (Nat.le_of_ble_eq_true rfl) (dm_Tx_bad (d := d + 404) hs) (fun v w122 hq => ?_)
                                    obtain ⟨r122, rfl, hs⟩ := hq
                                    exact tm_r rfl ⟨_, rfl, hs⟩
                                  · replace hs := hs.2 h121
                                    refine tm_go 2 (pc' := 523) (L' := [some (.ref 129), some (.int ((w.1 129 4) - (1000 : Int32))), some (.int (w.1 129 7)), some (.int (w4.1 129 35)), some (.int 0), some (.int 1)]) (S' := [.int (w4.1 129 9)]) (w' := w4) rfl ?_
                                    refine tm_i (p1 := 537) (p2 := 526) rfl (fun h123 => ?_) (fun h123 => ?_)
                                    · replace hs := hs.1 h123
                                      refine tm_go 1 (pc' := 538) (L' := [some (.ref 129), some (.int ((w.1 129 4) - (1000 : Int32))), some (.int (w.1 129 7)), some (.int (w4.1 129 35)), some (.int 0), some (.int 1)]) (S' := [.ref 129]) (w' := w4) rfl ?_
                                      refine tm_c rfl (Nat.le_of_ble_eq_true rfl) (dm_Tx_bad (d := d + 404) hs) (fun v w124 hq => ?_)
                                      obtain ⟨r124, rfl, hs⟩ := hq
                                      exact tm_r rfl ⟨_, rfl, hs⟩
                                    · replace hs := hs.2 h123
                                      refine tm_go 4 (pc' := 534) (L' := [some (.ref 129), some (.int ((w.1 129 4) - (1000 : Int32))), some (.int (w.1 129 7)), some (.int (w4.1 129 35)), some (.int 0), some (.int 1)]) (S' := [.int (lg_cmp (w4.2.1 129 8) (32000 : Int64))]) (w' := w4) rfl ?_
                                      refine tm_i (p1 := 542) (p2 := 537) rfl (fun h125 => ?_) (fun h125 => ?_)
                                      · replace hs := hs.1 h125
                                        refine tm_go 7 (pc' := 554) (L' := [some (.ref 129), some (.int ((w.1 129 4) - (1000 : Int32))), some (.int (w.1 129 7)), some (.int (w4.1 129 35)), some (.int (Int64.toInt32 ((w4.2.1 129 8) / (1000 : Int64)))), some (.int 1)]) (S' := [.ref 129]) (w' := w4) rfl ?_
                                        refine tm_c rfl (Nat.le_of_ble_eq_true rfl) (dm_Tx_go (d := d + 402) hs) (fun v w126 hq => ?_)
                                        obtain ⟨r126, rfl, hz126, hs⟩ := hq
                                        refine tm_i (p1 := 573) (p2 := 560) rfl (fun h127 => ?_) (fun h127 => ?_)
                                        · replace hs := hs.1 h127
                                          refine tm_go 1 (pc' := 574) (L' := [some (.ref 129), some (.int ((w.1 129 4) - (1000 : Int32))), some (.int (w.1 129 7)), some (.int (w4.1 129 35)), some (.int (Int64.toInt32 ((w4.2.1 129 8) / (1000 : Int64)))), some (.int 1)]) (S' := [.int 0]) (w' := w126) rfl ?_
                                          exact tx_Tx_statement_574 hr_Tx_block hr_Tx_statement hs 
                                        · replace hs := hs.2 h127
                                          refine tm_go 2 (pc' := 563) (L' := [some (.ref 129), some (.int ((w.1 129 4) - (1000 : Int32))), some (.int (w.1 129 7)), some (.int (w4.1 129 35)), some (.int (Int64.toInt32 ((w4.2.1 129 8) / (1000 : Int64)))), some (.int 1)]) (S' := [.int 59, .ref 129]) (w' := w126) rfl ?_
                                          refine tm_c rfl (Nat.le_of_ble_eq_true rfl) (dm_Tx_over (d := d + 401) hs) (fun v w130 hq => ?_)
                                          obtain ⟨r130, rfl, hz130, hs⟩ := hq
                                          refine tm_i (p1 := 573) (p2 := 569) rfl (fun h131 => ?_) (fun h131 => ?_)
                                          · replace hs := hs.1 h131
                                            refine tm_go 1 (pc' := 574) (L' := [some (.ref 129), some (.int ((w.1 129 4) - (1000 : Int32))), some (.int (w.1 129 7)), some (.int (w4.1 129 35)), some (.int (Int64.toInt32 ((w4.2.1 129 8) / (1000 : Int64)))), some (.int 1)]) (S' := [.int 0]) (w' := w130) rfl ?_
                                            exact tx_Tx_statement_574 hr_Tx_block hr_Tx_statement hs 
                                          · replace hs := hs.2 h131
                                            refine tm_go 2 (pc' := 574) (L' := [some (.ref 129), some (.int ((w.1 129 4) - (1000 : Int32))), some (.int (w.1 129 7)), some (.int (w4.1 129 35)), some (.int (Int64.toInt32 ((w4.2.1 129 8) / (1000 : Int64)))), some (.int 1)]) (S' := [.int 1]) (w' := w130) rfl ?_
                                            exact tx_Tx_statement_574 hr_Tx_block hr_Tx_statement hs 
                                      · replace hs := hs.2 h125
                                        refine tm_go 1 (pc' := 538) (L' := [some (.ref 129), some (.int ((w.1 129 4) - (1000 : Int32))), some (.int (w.1 129 7)), some (.int (w4.1 129 35)), some (.int 0), some (.int 1)]) (S' := [.ref 129]) (w' := w4) rfl ?_
                                        refine tm_c rfl (Nat.le_of_ble_eq_true rfl) (dm_Tx_bad (d := d + 404) hs) (fun v w132 hq => ?_)
                                        obtain ⟨r132, rfl, hs⟩ := hq
                                        exact tm_r rfl ⟨_, rfl, hs⟩
                                · replace hs := hs.2 h120
                                  refine tm_tad (dflt := 579) (lo := 10) (ts := [120, 200, 227, 120, 257, 313, 384, 413, 466, 466, 579, 579, 509]) rfl (by simp only [List.length_cons, List.length_nil]; omega) ?_
                                  refine tm_go 2 (pc' := 582) (L' := [some (.ref 129), some (.int ((w.1 129 4) - (1000 : Int32))), some (.int (w.1 129 7)), some (.int (w4.1 129 35)), some (.int 0), some (.int 1)]) (S' := [.int 59, .ref 129]) (w' := w4) rfl ?_
                                  refine tm_c rfl (Nat.le_of_ble_eq_true rfl) (dm_Tx_over (d := d + 401) hs) (fun v w133 hq => ?_)
                                  obtain ⟨r133, rfl, hz133, hs⟩ := hq
                                  refine tm_go 2 (pc' := 589) (L' := [some (.ref 129), some (.int ((w.1 129 4) - (1000 : Int32))), some (.int (w.1 129 7)), some (.int (w4.1 129 35)), some (.int 0), some (.int r133)]) (S' := [.int r133]) (w' := w133) rfl ?_
                                  refine tm_i (p1 := 594) (p2 := 592) rfl (fun h134 => ?_) (fun h134 => ?_)
                                  · replace hs := hs.1 h134
                                    refine tm_go 13 (pc' := 612) (L' := [some (.ref 129), some (.int ((w.1 129 4) - (1000 : Int32))), some (.int (w.1 129 7)), some (.int (w4.1 129 35)), some (.int 0), some (.int r133)]) (S' := [.int (w4.1 129 35), .int (-1), .int (w.1 129 7), .long (Int32.toInt64 (0 : Int32)), .int ((w.1 129 4) - (1000 : Int32)), .ref 129]) (w' := (sI w133 129 38 ((w133.1 129 38) + (1 : Int32)))) rfl ?_
                                    refine tm_c rfl (Nat.le_of_ble_eq_true rfl) (dm_Tx_node0 (d := d + 403) hs) (fun v w135 hq => ?_)
                                    obtain ⟨r135, rfl, hs⟩ := hq
                                    exact tm_r rfl ⟨_, rfl, hs⟩
                                  · replace hs := hs.2 h134
                                    refine tm_go 1 (pc' := 593) (L' := [some (.ref 129), some (.int ((w.1 129 4) - (1000 : Int32))), some (.int (w.1 129 7)), some (.int (w4.1 129 35)), some (.int 0), some (.int r133)]) (S' := [.int (-1)]) (w' := w133) rfl ?_
                                    exact tm_r rfl ⟨_, rfl, hs⟩
      · replace hs := hs.2 h5
        refine tm_go 1 (pc' := 39) (L' := [some (.ref 129), some (.int ((w.1 129 4) - (1000 : Int32))), some (.int (w.1 129 7)), none, none, none]) (S' := [.int (-1)]) (w' := w4) rfl ?_
        exact tm_r rfl ⟨_, rfl, hs⟩
    · replace hs := hs.2 h3
      refine tm_go 1 (pc' := 27) (L' := [some (.ref 129), some (.int ((w.1 129 4) - (1000 : Int32))), some (.int (w.1 129 7)), none, none, none]) (S' := [.ref 129]) (w' := w) rfl ?_
      refine tm_c rfl (Nat.le_of_ble_eq_true rfl) (dm_Tx_bad (d := d + 404) hs) (fun v w136 hq => ?_)
      obtain ⟨r136, rfl, hs⟩ := hq
      exact tm_r rfl ⟨_, rfl, hs⟩
theorem da_Tx_block (n : Nat) : (∀ (w : MW) (Q : Int32 → MW → Prop), pn_Tx_block n w Q → Tc (n + 404) 328 [.ref 129] w (RI Q)) ∧ (∀ (w : MW) (Q : Int32 → MW → Prop), pn_Tx_statement n w Q → Tc (n + 404) 331 [.ref 129] w (RI Q)) := by
  induction n with
  | zero => exact ⟨fun _ _ h => h.elim, fun _ _ h => h.elim⟩
  | succ n ih =>
    obtain ⟨h0, h1⟩ := ih
    exact ⟨fun _ _ h => (dmb_Tx_block (d := n) h0 h1 h).le (by omega), fun _ _ h => (dmb_Tx_statement (d := n) h0 h1 h).le (by omega)⟩
theorem dm_Tx_block {d : Nat} {w : MW} {Q : Int32 → MW → Prop} (hs : p_Tx_block w Q) : Tc (d + 804) 328 [.ref 129] w (RI Q) := ((da_Tx_block 400).1 _ _ hs).le (by omega)
theorem dm_Tx_statement {d : Nat} {w : MW} {Q : Int32 → MW → Prop} (hs : p_Tx_statement w Q) : Tc (d + 804) 331 [.ref 129] w (RI Q) := ((da_Tx_block 400).2 _ _ hs).le (by omega)
set_option maxHeartbeats 4000000 in
set_option maxRecDepth 100000 in
theorem tx_Tx_tell_49 {d : Nat} {x49_1 : Int32} {x49_2 : Int32} {E : MW → Prop} {Q : Int32 → MW → Prop} (n : Nat) : ∀ (x49_3 : Int32)   (w : MW), q_Tx_tell_49 x49_1 x49_2 E Q n x49_3 w → (∀  (v3 : Option Value) (w : MW), E  w → Tm (d + 1) 326 85 [some (.ref 129), some (.int x49_1), some (.int x49_2), v3] [] w (RI Q)) → Tm (d + 1) 326 49 [some (.ref 129), some (.int x49_1), some (.int x49_2), some (.int x49_3)] [] w (RI Q) := by
  induction n with
  | zero => intro x49_3  w hs; rw [q_Tx_tell_49.eq_1] at hs; exact hs.elim
  | succ n ih =>
    intro x49_3  w hs hE
    rw [q_Tx_tell_49.eq_2] at hs
    refine tm_go 3 (pc' := 54) (L' := [some (.ref 129), some (.int x49_1), some (.int x49_2), some (.int x49_3)]) (S' := [.int (w.1 129 6), .int x49_3]) (w' := w) rfl ?_
    refine tm_i (p1 := 85) (p2 := 57) rfl (fun h8 => ?_) (fun h8 => ?_)
    · replace hs := hs.1 h8
      exact hE _ _ hs
    · replace hs := hs.2 h8
      refine tm_go 13 (pc' := 77) (L' := [some (.ref 129), some (.int x49_1), some (.int x49_2), some (.int x49_3)]) (S' := [.int x49_3, .ref 130, .int ((((12 : Int32) * x49_2) + x49_3) - (w.1 129 5)), .ref 139]) (w' := w) rfl ?_
      obtain ⟨b9, hs⟩ := hs
      refine tm_k (pc' := 78) (L' := [some (.ref 129), some (.int x49_1), some (.int x49_2), some (.int x49_3)]) (S' := [.int (w.1 130 x49_3.toInt.toNat), .int ((((12 : Int32) * x49_2) + x49_3) - (w.1 129 5)), .ref 139]) (w' := w) rfl b9 ?_
      obtain ⟨b10, hs⟩ := hs
      refine tm_k (pc' := 79) (L' := [some (.ref 129), some (.int x49_1), some (.int x49_2), some (.int x49_3)]) (S' := []) (w' := (sI w 139 (((((12 : Int32) * x49_2) + x49_3) - (w.1 129 5)).toInt.toNat) (vp_nar .byte (w.1 130 x49_3.toInt.toNat)))) rfl b10 ?_
      refine tm_go 2 (pc' := 49) (L' := [some (.ref 129), some (.int x49_1), some (.int x49_2), some (.int (x49_3 + (1 : Int32)))]) (S' := []) (w' := (sI w 139 (((((12 : Int32) * x49_2) + x49_3) - (w.1 129 5)).toInt.toNat) (vp_nar .byte (w.1 130 x49_3.toInt.toNat)))) rfl ?_
      exact ih _ _ hs hE
set_option maxHeartbeats 4000000 in
set_option maxRecDepth 100000 in
theorem dm_Tx_tell {d : Nat} {w : MW} {a0 : Int32} {Q : Int32 → MW → Prop} (hs : p_Tx_tell w a0 Q) : Tc (d + 1) 326 [.ref 129, .int a0] w (RI Q) := by
  unfold p_Tx_tell at hs
  refine tm_go 2 (pc' := 2) (L' := [some (.ref 129), some (.int a0), none, none]) (S' := [.int (-1), .ref 129]) (w' := w) rfl ?_
  refine tm_c rfl (Nat.le_of_ble_eq_true rfl) (dm_Tx_isWord (d := d + 0) hs) (fun v w1 hq => ?_)
  obtain ⟨r1, rfl, hz1, hs⟩ := hq
  refine tm_i (p1 := 24) (p2 := 8) rfl (fun h2 => ?_) (fun h2 => ?_)
  · replace hs := hs.1 h2
    refine tm_go 1 (pc' := 25) (L' := [some (.ref 129), some (.int a0), none, none]) (S' := [.ref 129]) (w' := w1) rfl ?_
    refine tm_c rfl (Nat.le_of_ble_eq_true rfl) (dm_Tx_bad (d := d + 0) hs) (fun v w3 hq => ?_)
    obtain ⟨r3, rfl, hs⟩ := hq
    exact tm_r rfl ⟨_, rfl, hs⟩
  · replace hs := hs.2 h2
    refine tm_go 1 (pc' := 9) (L' := [some (.ref 129), some (.int a0), none, none]) (S' := [.ref 129]) (w' := w1) rfl ?_
    refine tm_c rfl (Nat.le_of_ble_eq_true rfl) (dm_Tx_nameOf (d := d + 0) hs) (fun v w4 hq => ?_)
    obtain ⟨r4, rfl, hs⟩ := hq
    refine tm_i (p1 := 24) (p2 := 15) rfl (fun h5 => ?_) (fun h5 => ?_)
    · replace hs := hs.1 h5
      refine tm_go 1 (pc' := 25) (L' := [some (.ref 129), some (.int a0), none, none]) (S' := [.ref 129]) (w' := w4) rfl ?_
      refine tm_c rfl (Nat.le_of_ble_eq_true rfl) (dm_Tx_bad (d := d + 0) hs) (fun v w6 hq => ?_)
      obtain ⟨r6, rfl, hs⟩ := hq
      exact tm_r rfl ⟨_, rfl, hs⟩
    · replace hs := hs.2 h5
      refine tm_go 3 (pc' := 21) (L' := [some (.ref 129), some (.int a0), none, none]) (S' := [.int 40, .int (w4.1 129 24)]) (w' := w4) rfl ?_
      refine tm_i (p1 := 29) (p2 := 24) rfl (fun h7 => ?_) (fun h7 => ?_)
      · replace hs := hs.1 h7
        refine tm_go 13 (pc' := 49) (L' := [some (.ref 129), some (.int a0), some (.int (((40 : Int32) * ((1 : Int32) - (w4.1 129 12))) + (w4.1 129 24))), some (.int (w4.1 129 5))]) (S' := []) (w' := w4) rfl ?_
        refine tx_Tx_tell_49 FU _ _ hs (fun  z11_3 w11 hs => ?_)
        refine tm_go 8 (pc' := 99) (L' := [some (.ref 129), some (.int a0), some (.int (((40 : Int32) * ((1 : Int32) - (w4.1 129 12))) + (w4.1 129 24))), z11_3]) (S' := [.int ((w11.1 129 6) - (w11.1 129 5)), .int (((40 : Int32) * ((1 : Int32) - (w4.1 129 12))) + (w4.1 129 24)), .ref 140]) (w' := w11) rfl ?_
        obtain ⟨b12, hs⟩ := hs
        refine tm_k (pc' := 100) (L' := [some (.ref 129), some (.int a0), some (.int (((40 : Int32) * ((1 : Int32) - (w4.1 129 12))) + (w4.1 129 24))), z11_3]) (S' := []) (w' := (sI w11 140 ((((40 : Int32) * ((1 : Int32) - (w4.1 129 12))) + (w4.1 129 24)).toInt.toNat) ((w11.1 129 6) - (w11.1 129 5)))) rfl b12 ?_
        refine tm_go 4 (pc' := 106) (L' := [some (.ref 129), some (.int a0), some (.int (((40 : Int32) * ((1 : Int32) - (w4.1 129 12))) + (w4.1 129 24))), z11_3]) (S' := [.int a0, .int (((40 : Int32) * ((1 : Int32) - (w4.1 129 12))) + (w4.1 129 24)), .ref 141]) (w' := (sI w11 140 ((((40 : Int32) * ((1 : Int32) - (w4.1 129 12))) + (w4.1 129 24)).toInt.toNat) ((w11.1 129 6) - (w11.1 129 5)))) rfl ?_
        obtain ⟨b13, hs⟩ := hs
        refine tm_k (pc' := 107) (L' := [some (.ref 129), some (.int a0), some (.int (((40 : Int32) * ((1 : Int32) - (w4.1 129 12))) + (w4.1 129 24))), z11_3]) (S' := []) (w' := (sI (sI w11 140 ((((40 : Int32) * ((1 : Int32) - (w4.1 129 12))) + (w4.1 129 24)).toInt.toNat) ((w11.1 129 6) - (w11.1 129 5))) 141 ((((40 : Int32) * ((1 : Int32) - (w4.1 129 12))) + (w4.1 129 24)).toInt.toNat) a0)) rfl b13 ?_
        refine tm_go 4 (pc' := 113) (L' := [some (.ref 129), some (.int a0), some (.int (((40 : Int32) * ((1 : Int32) - (w4.1 129 12))) + (w4.1 129 24))), z11_3]) (S' := [.int 0, .int (((40 : Int32) * ((1 : Int32) - (w4.1 129 12))) + (w4.1 129 24)), .ref 142]) (w' := (sI (sI w11 140 ((((40 : Int32) * ((1 : Int32) - (w4.1 129 12))) + (w4.1 129 24)).toInt.toNat) ((w11.1 129 6) - (w11.1 129 5))) 141 ((((40 : Int32) * ((1 : Int32) - (w4.1 129 12))) + (w4.1 129 24)).toInt.toNat) a0)) rfl ?_
        obtain ⟨b14, hs⟩ := hs
        refine tm_k (pc' := 114) (L' := [some (.ref 129), some (.int a0), some (.int (((40 : Int32) * ((1 : Int32) - (w4.1 129 12))) + (w4.1 129 24))), z11_3]) (S' := []) (w' := (sI (sI (sI w11 140 ((((40 : Int32) * ((1 : Int32) - (w4.1 129 12))) + (w4.1 129 24)).toInt.toNat) ((w11.1 129 6) - (w11.1 129 5))) 141 ((((40 : Int32) * ((1 : Int32) - (w4.1 129 12))) + (w4.1 129 24)).toInt.toNat) a0) 142 ((((40 : Int32) * ((1 : Int32) - (w4.1 129 12))) + (w4.1 129 24)).toInt.toNat) 0)) rfl b14 ?_
        refine tm_go 4 (pc' := 120) (L' := [some (.ref 129), some (.int a0), some (.int (((40 : Int32) * ((1 : Int32) - (w4.1 129 12))) + (w4.1 129 24))), z11_3]) (S' := [.int (-1), .int (((40 : Int32) * ((1 : Int32) - (w4.1 129 12))) + (w4.1 129 24)), .ref 143]) (w' := (sI (sI (sI w11 140 ((((40 : Int32) * ((1 : Int32) - (w4.1 129 12))) + (w4.1 129 24)).toInt.toNat) ((w11.1 129 6) - (w11.1 129 5))) 141 ((((40 : Int32) * ((1 : Int32) - (w4.1 129 12))) + (w4.1 129 24)).toInt.toNat) a0) 142 ((((40 : Int32) * ((1 : Int32) - (w4.1 129 12))) + (w4.1 129 24)).toInt.toNat) 0)) rfl ?_
        obtain ⟨b15, hs⟩ := hs
        refine tm_k (pc' := 121) (L' := [some (.ref 129), some (.int a0), some (.int (((40 : Int32) * ((1 : Int32) - (w4.1 129 12))) + (w4.1 129 24))), z11_3]) (S' := []) (w' := (sI (sI (sI (sI w11 140 ((((40 : Int32) * ((1 : Int32) - (w4.1 129 12))) + (w4.1 129 24)).toInt.toNat) ((w11.1 129 6) - (w11.1 129 5))) 141 ((((40 : Int32) * ((1 : Int32) - (w4.1 129 12))) + (w4.1 129 24)).toInt.toNat) a0) 142 ((((40 : Int32) * ((1 : Int32) - (w4.1 129 12))) + (w4.1 129 24)).toInt.toNat) 0) 143 ((((40 : Int32) * ((1 : Int32) - (w4.1 129 12))) + (w4.1 129 24)).toInt.toNat) (-1))) rfl b15 ?_
        refine tm_go 10 (pc' := 137) (L' := [some (.ref 129), some (.int a0), some (.int (((40 : Int32) * ((1 : Int32) - (w4.1 129 12))) + (w4.1 129 24))), z11_3]) (S' := [.int (((w11.1 129 24) + (1 : Int32)) - (1 : Int32))]) (w' := (sI (sI (sI (sI (sI w11 140 ((((40 : Int32) * ((1 : Int32) - (w4.1 129 12))) + (w4.1 129 24)).toInt.toNat) ((w11.1 129 6) - (w11.1 129 5))) 141 ((((40 : Int32) * ((1 : Int32) - (w4.1 129 12))) + (w4.1 129 24)).toInt.toNat) a0) 142 ((((40 : Int32) * ((1 : Int32) - (w4.1 129 12))) + (w4.1 129 24)).toInt.toNat) 0) 143 ((((40 : Int32) * ((1 : Int32) - (w4.1 129 12))) + (w4.1 129 24)).toInt.toNat) (-1)) 129 24 ((w11.1 129 24) + (1 : Int32)))) rfl ?_
        exact tm_r rfl ⟨_, rfl, hs⟩
      · replace hs := hs.2 h7
        refine tm_go 1 (pc' := 25) (L' := [some (.ref 129), some (.int a0), none, none]) (S' := [.ref 129]) (w' := w4) rfl ?_
        refine tm_c rfl (Nat.le_of_ble_eq_true rfl) (dm_Tx_bad (d := d + 0) hs) (fun v w16 hq => ?_)
        obtain ⟨r16, rfl, hs⟩ := hq
        exact tm_r rfl ⟨_, rfl, hs⟩
set_option maxHeartbeats 4000000 in
set_option maxRecDepth 100000 in
theorem dm_Tx_declaration {d : Nat} {w : MW} {Q : Int32 → MW → Prop} (hs : p_Tx_declaration w Q) : Tc (d + 805) 332 [.ref 129] w (RZ Q) := by
  unfold p_Tx_declaration at hs
  refine tm_go 9 (pc' := 15) (L' := [some (.ref 129), some (.int ((w.1 129 4) - (1000 : Int32))), some (.int (w.1 129 7)), none, none, none]) (S' := [.ref 129]) (w' := w) rfl ?_
  refine tm_c rfl (Nat.le_of_ble_eq_true rfl) (dm_Tx_go (d := d + 802) hs) (fun v w1 hq => ?_)
  obtain ⟨r1, rfl, hz1, hs⟩ := hq
  refine tm_i (p1 := 23) (p2 := 21) rfl (fun h2 => ?_) (fun h2 => ?_)
  · replace hs := hs.1 h2
    refine tm_go 2 (pc' := 25) (L' := [some (.ref 129), some (.int ((w.1 129 4) - (1000 : Int32))), some (.int (w.1 129 7)), none, none, none]) (S' := [.int ((w.1 129 4) - (1000 : Int32)), .ref 129]) (w' := w1) rfl ?_
    refine tm_c rfl (Nat.le_of_ble_eq_true rfl) (dm_Tx_tell (d := d + 803) hs) (fun v w3 hq => ?_)
    obtain ⟨r3, rfl, hs⟩ := hq
    refine tm_go 2 (pc' := 30) (L' := [some (.ref 129), some (.int ((w.1 129 4) - (1000 : Int32))), some (.int (w.1 129 7)), some (.int r3), none, none]) (S' := [.int r3]) (w' := w3) rfl ?_
    refine tm_i (p1 := 40) (p2 := 33) rfl (fun h4 => ?_) (fun h4 => ?_)
    · replace hs := hs.1 h4
      refine tm_go 1 (pc' := 41) (L' := [some (.ref 129), some (.int ((w.1 129 4) - (1000 : Int32))), some (.int (w.1 129 7)), some (.int r3), none, none]) (S' := [.int 0]) (w' := w3) rfl ?_
      exact tm_r rfl ⟨_, rfl, by decide, hs⟩
    · replace hs := hs.2 h4
      refine tm_go 1 (pc' := 34) (L' := [some (.ref 129), some (.int ((w.1 129 4) - (1000 : Int32))), some (.int (w.1 129 7)), some (.int r3), none, none]) (S' := [.ref 129]) (w' := w3) rfl ?_
      refine tm_c rfl (Nat.le_of_ble_eq_true rfl) (dm_Tx_go (d := d + 802) hs) (fun v w5 hq => ?_)
      obtain ⟨r5, rfl, hz5, hs⟩ := hq
      refine tm_i (p1 := 42) (p2 := 40) rfl (fun h6 => ?_) (fun h6 => ?_)
      · replace hs := hs.1 h6
        refine tm_go 2 (pc' := 45) (L' := [some (.ref 129), some (.int ((w.1 129 4) - (1000 : Int32))), some (.int (w.1 129 7)), some (.int r3), none, none]) (S' := [.int 24, .int ((w.1 129 4) - (1000 : Int32))]) (w' := w5) rfl ?_
        refine tm_i (p1 := 99) (p2 := 48) rfl (fun h7 => ?_) (fun h7 => ?_)
        · replace hs := hs.1 h7
          refine tm_go 5 (pc' := 107) (L' := [some (.ref 129), some (.int ((w.1 129 4) - (1000 : Int32))), some (.int (w.1 129 7)), some (.int r3), some (.int (w5.1 129 35)), none]) (S' := [.ref 129, .ref 129]) (w' := w5) rfl ?_
          refine tm_c rfl (Nat.le_of_ble_eq_true rfl) (dm_Tx_block (d := d + 0) hs) (fun v w8 hq => ?_)
          obtain ⟨r8, rfl, hs⟩ := hq
          refine tm_c rfl (Nat.le_of_ble_eq_true rfl) (dm_Tx_pushed (d := d + 803) hs) (fun v w9 hq => ?_)
          obtain ⟨r9, rfl, hz9, hs⟩ := hq
          refine tm_i (p1 := 118) (p2 := 116) rfl (fun h10 => ?_) (fun h10 => ?_)
          · replace hs := hs.1 h10
            refine tm_go 7 (pc' := 127) (L' := [some (.ref 129), some (.int ((w.1 129 4) - (1000 : Int32))), some (.int (w.1 129 7)), some (.int r3), some (.int (w5.1 129 35)), none]) (S' := [.int (w5.1 129 35), .int (-1), .int (w.1 129 7), .long (Int32.toInt64 r3), .int 24, .ref 129]) (w' := w9) rfl ?_
            refine tm_c rfl (Nat.le_of_ble_eq_true rfl) (dm_Tx_node0 (d := d + 803) hs) (fun v w11 hq => ?_)
            obtain ⟨r11, rfl, hs⟩ := hq
            refine tm_go 2 (pc' := 134) (L' := [some (.ref 129), some (.int ((w.1 129 4) - (1000 : Int32))), some (.int (w.1 129 7)), some (.int r3), some (.int (w5.1 129 35)), some (.int r11)]) (S' := [.int r11]) (w' := w11) rfl ?_
            refine tm_i (p1 := 139) (p2 := 137) rfl (fun h12 => ?_) (fun h12 => ?_)
            · replace hs := hs.1 h12
              refine tm_go 11 (pc' := 156) (L' := [some (.ref 129), some (.int ((w.1 129 4) - (1000 : Int32))), some (.int (w.1 129 7)), some (.int r3), some (.int (w5.1 129 35)), some (.int r11)]) (S' := [.int r11, .int (((40 : Int32) * ((1 : Int32) - (w11.1 129 12))) + r3), .ref 143]) (w' := w11) rfl ?_
              obtain ⟨b13, hs⟩ := hs
              refine tm_k (pc' := 157) (L' := [some (.ref 129), some (.int ((w.1 129 4) - (1000 : Int32))), some (.int (w.1 129 7)), some (.int r3), some (.int (w5.1 129 35)), some (.int r11)]) (S' := []) (w' := (sI w11 143 ((((40 : Int32) * ((1 : Int32) - (w11.1 129 12))) + r3).toInt.toNat) r11)) rfl b13 ?_
              refine tm_go 3 (pc' := 162) (L' := [some (.ref 129), some (.int ((w.1 129 4) - (1000 : Int32))), some (.int (w.1 129 7)), some (.int r3), some (.int (w5.1 129 35)), some (.int r11)]) (S' := [.ref 129, .ref 138]) (w' := (sI w11 143 ((((40 : Int32) * ((1 : Int32) - (w11.1 129 12))) + r3).toInt.toNat) r11)) rfl ?_
              refine tm_c rfl (Nat.le_of_ble_eq_true rfl) (dm_Tx_base (d := d + 804) hs) (fun v w14 hq => ?_)
              obtain ⟨r14, rfl, hs⟩ := hq
              refine tm_go 4 (pc' := 172) (L' := [some (.ref 129), some (.int ((w.1 129 4) - (1000 : Int32))), some (.int (w.1 129 7)), some (.int r3), some (.int (w5.1 129 35)), some (.int r11)]) (S' := [.int r11, .int (r14 + (w14.1 129 23)), .ref 138]) (w' := w14) rfl ?_
              obtain ⟨b15, hs⟩ := hs
              refine tm_k (pc' := 173) (L' := [some (.ref 129), some (.int ((w.1 129 4) - (1000 : Int32))), some (.int (w.1 129 7)), some (.int r3), some (.int (w5.1 129 35)), some (.int r11)]) (S' := []) (w' := (sI w14 138 ((r14 + (w14.1 129 23)).toInt.toNat) r11)) rfl b15 ?_
              refine tm_go 7 (pc' := 184) (L' := [some (.ref 129), some (.int ((w.1 129 4) - (1000 : Int32))), some (.int (w.1 129 7)), some (.int r3), some (.int (w5.1 129 35)), some (.int r11)]) (S' := [.int 1]) (w' := (sI (sI w14 138 ((r14 + (w14.1 129 23)).toInt.toNat) r11) 129 23 ((w14.1 129 23) + (1 : Int32)))) rfl ?_
              exact tm_r rfl ⟨_, rfl, by decide, hs⟩
            · replace hs := hs.2 h12
              refine tm_go 1 (pc' := 138) (L' := [some (.ref 129), some (.int ((w.1 129 4) - (1000 : Int32))), some (.int (w.1 129 7)), some (.int r3), some (.int (w5.1 129 35)), some (.int r11)]) (S' := [.int 0]) (w' := w11) rfl ?_
              exact tm_r rfl ⟨_, rfl, by decide, hs⟩
          · replace hs := hs.2 h10
            refine tm_go 1 (pc' := 117) (L' := [some (.ref 129), some (.int ((w.1 129 4) - (1000 : Int32))), some (.int (w.1 129 7)), some (.int r3), some (.int (w5.1 129 35)), none]) (S' := [.int 0]) (w' := w9) rfl ?_
            exact tm_r rfl ⟨_, rfl, by decide, hs⟩
        · replace hs := hs.2 h7
          refine tm_go 1 (pc' := 49) (L' := [some (.ref 129), some (.int ((w.1 129 4) - (1000 : Int32))), some (.int (w.1 129 7)), some (.int r3), none, none]) (S' := [.ref 129]) (w' := w5) rfl ?_
          refine tm_c rfl (Nat.le_of_ble_eq_true rfl) (dm_Tx_unitWord (d := d + 804) hs) (fun v w16 hq => ?_)
          obtain ⟨r16, rfl, hs⟩ := hq
          refine tm_go 12 (pc' := 71) (L' := [some (.ref 129), some (.int ((w.1 129 4) - (1000 : Int32))), some (.int (w.1 129 7)), some (.int r3), some (.int r16), none]) (S' := [.int r16, .int (((40 : Int32) * ((1 : Int32) - (w16.1 129 12))) + r3), .ref 142]) (w' := w16) rfl ?_
          obtain ⟨b17, hs⟩ := hs
          refine tm_k (pc' := 72) (L' := [some (.ref 129), some (.int ((w.1 129 4) - (1000 : Int32))), some (.int (w.1 129 7)), some (.int r3), some (.int r16), none]) (S' := []) (w' := (sI w16 142 ((((40 : Int32) * ((1 : Int32) - (w16.1 129 12))) + r3).toInt.toNat) r16)) rfl b17 ?_
          refine tm_go 1 (pc' := 74) (L' := [some (.ref 129), some (.int ((w.1 129 4) - (1000 : Int32))), some (.int (w.1 129 7)), some (.int r3), some (.int r16), none]) (S' := [.int r16]) (w' := (sI w16 142 ((((40 : Int32) * ((1 : Int32) - (w16.1 129 12))) + r3).toInt.toNat) r16)) rfl ?_
          refine tm_i (p1 := 84) (p2 := 77) rfl (fun h18 => ?_) (fun h18 => ?_)
          · replace hs := hs.1 h18
            refine tm_go 2 (pc' := 87) (L' := [some (.ref 129), some (.int ((w.1 129 4) - (1000 : Int32))), some (.int (w.1 129 7)), some (.int r3), some (.int r16), none]) (S' := [.int 59, .ref 129]) (w' := (sI w16 142 ((((40 : Int32) * ((1 : Int32) - (w16.1 129 12))) + r3).toInt.toNat) r16)) rfl ?_
            refine tm_c rfl (Nat.le_of_ble_eq_true rfl) (dm_Tx_over (d := d + 801) hs) (fun v w19 hq => ?_)
            obtain ⟨r19, rfl, hz19, hs⟩ := hq
            refine tm_i (p1 := 97) (p2 := 93) rfl (fun h20 => ?_) (fun h20 => ?_)
            · replace hs := hs.1 h20
              refine tm_go 1 (pc' := 98) (L' := [some (.ref 129), some (.int ((w.1 129 4) - (1000 : Int32))), some (.int (w.1 129 7)), some (.int r3), some (.int r16), none]) (S' := [.int 0]) (w' := w19) rfl ?_
              exact tm_r rfl ⟨_, rfl, by decide, hs⟩
            · replace hs := hs.2 h20
              refine tm_go 2 (pc' := 98) (L' := [some (.ref 129), some (.int ((w.1 129 4) - (1000 : Int32))), some (.int (w.1 129 7)), some (.int r3), some (.int r16), none]) (S' := [.int 1]) (w' := w19) rfl ?_
              exact tm_r rfl ⟨_, rfl, by decide, hs⟩
          · replace hs := hs.2 h18
            refine tm_go 1 (pc' := 78) (L' := [some (.ref 129), some (.int ((w.1 129 4) - (1000 : Int32))), some (.int (w.1 129 7)), some (.int r3), some (.int r16), none]) (S' := [.ref 129]) (w' := (sI w16 142 ((((40 : Int32) * ((1 : Int32) - (w16.1 129 12))) + r3).toInt.toNat) r16)) rfl ?_
            refine tm_c rfl (Nat.le_of_ble_eq_true rfl) (dm_Tx_go (d := d + 802) hs) (fun v w21 hq => ?_)
            obtain ⟨r21, rfl, hz21, hs⟩ := hq
            refine tm_i (p1 := 97) (p2 := 84) rfl (fun h22 => ?_) (fun h22 => ?_)
            · replace hs := hs.1 h22
              refine tm_go 1 (pc' := 98) (L' := [some (.ref 129), some (.int ((w.1 129 4) - (1000 : Int32))), some (.int (w.1 129 7)), some (.int r3), some (.int r16), none]) (S' := [.int 0]) (w' := w21) rfl ?_
              exact tm_r rfl ⟨_, rfl, by decide, hs⟩
            · replace hs := hs.2 h22
              refine tm_go 2 (pc' := 87) (L' := [some (.ref 129), some (.int ((w.1 129 4) - (1000 : Int32))), some (.int (w.1 129 7)), some (.int r3), some (.int r16), none]) (S' := [.int 59, .ref 129]) (w' := w21) rfl ?_
              refine tm_c rfl (Nat.le_of_ble_eq_true rfl) (dm_Tx_over (d := d + 801) hs) (fun v w23 hq => ?_)
              obtain ⟨r23, rfl, hz23, hs⟩ := hq
              refine tm_i (p1 := 97) (p2 := 93) rfl (fun h24 => ?_) (fun h24 => ?_)
              · replace hs := hs.1 h24
                refine tm_go 1 (pc' := 98) (L' := [some (.ref 129), some (.int ((w.1 129 4) - (1000 : Int32))), some (.int (w.1 129 7)), some (.int r3), some (.int r16), none]) (S' := [.int 0]) (w' := w23) rfl ?_
                exact tm_r rfl ⟨_, rfl, by decide, hs⟩
              · replace hs := hs.2 h24
                refine tm_go 2 (pc' := 98) (L' := [some (.ref 129), some (.int ((w.1 129 4) - (1000 : Int32))), some (.int (w.1 129 7)), some (.int r3), some (.int r16), none]) (S' := [.int 1]) (w' := w23) rfl ?_
                exact tm_r rfl ⟨_, rfl, by decide, hs⟩
      · replace hs := hs.2 h6
        refine tm_go 1 (pc' := 41) (L' := [some (.ref 129), some (.int ((w.1 129 4) - (1000 : Int32))), some (.int (w.1 129 7)), some (.int r3), none, none]) (S' := [.int 0]) (w' := w5) rfl ?_
        exact tm_r rfl ⟨_, rfl, by decide, hs⟩
  · replace hs := hs.2 h2
    refine tm_go 1 (pc' := 22) (L' := [some (.ref 129), some (.int ((w.1 129 4) - (1000 : Int32))), some (.int (w.1 129 7)), none, none, none]) (S' := [.int 0]) (w' := w1) rfl ?_
    exact tm_r rfl ⟨_, rfl, by decide, hs⟩
