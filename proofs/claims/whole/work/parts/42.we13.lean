set_option maxHeartbeats 4000000 in
set_option maxRecDepth 100000 in
theorem dm_Tx_sumOf {d : Nat} {w : MW} {a0 : Int32} {Q : Int32 → MW → Prop} (hs : p_Tx_sumOf w a0 Q) : Tc (d + 404) 329 [.ref 129, .int a0] w (RZ Q) := by
  unfold p_Tx_sumOf at hs
  refine tm_go 1 (pc' := 1) (L' := [some (.ref 129), some (.int a0), none]) (S' := [.ref 129]) (w' := w) rfl ?_
  refine tm_c rfl (Nat.le_of_ble_eq_true rfl) (dm_Tx_sum (d := d + 0) hs) (fun v w1 hq => ?_)
  obtain ⟨r1, rfl, hs⟩ := hq
  refine tm_go 2 (pc' := 6) (L' := [some (.ref 129), some (.int a0), some (.int r1)]) (S' := [.int r1]) (w' := w1) rfl ?_
  refine tm_i (p1 := 11) (p2 := 9) rfl (fun h2 => ?_) (fun h2 => ?_)
  · replace hs := hs.1 h2
    refine tm_go 2 (pc' := 13) (L' := [some (.ref 129), some (.int a0), some (.int r1)]) (S' := [.int r1, .ref 129]) (w' := w1) rfl ?_
    refine tm_c rfl (Nat.le_of_ble_eq_true rfl) (dm_Tx_unitIn (d := d + 402) hs) (fun v w3 hq => ?_)
    obtain ⟨r3, rfl, hs⟩ := hq
    refine tm_go 1 (pc' := 17) (L' := [some (.ref 129), some (.int a0), some (.int r1)]) (S' := [.int a0, .int r3]) (w' := w3) rfl ?_
    refine tm_i (p1 := 30) (p2 := 20) rfl (fun h4 => ?_) (fun h4 => ?_)
    · replace hs := hs.1 h4
      refine tm_go 2 (pc' := 32) (L' := [some (.ref 129), some (.int a0), some (.int r1)]) (S' := [.int r1, .ref 129]) (w' := w3) rfl ?_
      refine tm_c rfl (Nat.le_of_ble_eq_true rfl) (dm_Tx_push (d := d + 403) hs) (fun v w5 hq => ?_)
      obtain ⟨rfl, hs⟩ := hq
      refine tm_go 1 (pc' := 36) (L' := [some (.ref 129), some (.int a0), some (.int r1)]) (S' := [.int 1]) (w' := w5) rfl ?_
      exact tm_r rfl ⟨_, rfl, by decide, hs⟩
    · replace hs := hs.2 h4
      refine tm_go 5 (pc' := 29) (L' := [some (.ref 129), some (.int a0), some (.int r1)]) (S' := [.int 0]) (w' := (sI w3 129 10 (w3.1 129 5))) rfl ?_
      exact tm_r rfl ⟨_, rfl, by decide, hs⟩
  · replace hs := hs.2 h2
    refine tm_go 1 (pc' := 10) (L' := [some (.ref 129), some (.int a0), some (.int r1)]) (S' := [.int 0]) (w' := w1) rfl ?_
    exact tm_r rfl ⟨_, rfl, by decide, hs⟩
set_option maxHeartbeats 4000000 in
set_option maxRecDepth 100000 in
theorem tx_Tx_test_94 {d : Nat} {y94_1 : Int32} {y94_2 : Int32} {y94_3 : Int32} {ys94_0 : Int32} {z4 : Option Value} {w : MW} {Q : Int32 → MW → Prop} (hs : q_Tx_test_94 y94_1 y94_2 y94_3 ys94_0 w Q) : Tm (d + 404) 324 94 [some (.ref 129), some (.int y94_1), some (.int y94_2), some (.int y94_3), z4] [.int ys94_0] w (RI Q) := by
  unfold q_Tx_test_94 at hs
  refine tm_go 2 (pc' := 98) (L' := [some (.ref 129), some (.int y94_1), some (.int y94_2), some (.int y94_3), some (.int ys94_0)]) (S' := [.int ys94_0]) (w' := w) rfl ?_
  refine tm_i (p1 := 103) (p2 := 101) rfl (fun h8 => ?_) (fun h8 => ?_)
  · replace hs := hs.1 h8
    refine tm_go 2 (pc' := 105) (L' := [some (.ref 129), some (.int y94_1), some (.int y94_2), some (.int y94_3), some (.int ys94_0)]) (S' := [.int y94_1, .ref 129]) (w' := w) rfl ?_
    refine tm_c rfl (Nat.le_of_ble_eq_true rfl) (dm_Tx_unitIn (d := d + 402) hs) (fun v w9 hq => ?_)
    obtain ⟨r9, rfl, hs⟩ := hq
    refine tm_go 2 (pc' := 111) (L' := [some (.ref 129), some (.int y94_1), some (.int y94_2), some (.int y94_3), some (.int ys94_0)]) (S' := [.int ys94_0, .ref 129, .int r9]) (w' := w9) rfl ?_
    refine tm_c rfl (Nat.le_of_ble_eq_true rfl) (dm_Tx_unitIn (d := d + 402) hs) (fun v w10 hq => ?_)
    obtain ⟨r10, rfl, hs⟩ := hq
    refine tm_i (p1 := 124) (p2 := 117) rfl (fun h11 => ?_) (fun h11 => ?_)
    · replace hs := hs.1 h11
      refine tm_go 5 (pc' := 130) (L' := [some (.ref 129), some (.int y94_1), some (.int y94_2), some (.int y94_3), some (.int ys94_0)]) (S' := [.int (-1), .int ys94_0, .int y94_1, .int y94_2, .ref 129]) (w' := w10) rfl ?_
      refine tm_c rfl (Nat.le_of_ble_eq_true rfl) (dm_Tx_two (d := d + 401) hs) (fun v w12 hq => ?_)
      obtain ⟨r12, rfl, hs⟩ := hq
      exact tm_r rfl ⟨_, rfl, hs⟩
    · replace hs := hs.2 h11
      refine tm_go 4 (pc' := 123) (L' := [some (.ref 129), some (.int y94_1), some (.int y94_2), some (.int y94_3), some (.int ys94_0)]) (S' := [.int (-1)]) (w' := (sI w10 129 10 y94_3)) rfl ?_
      exact tm_r rfl ⟨_, rfl, hs⟩
  · replace hs := hs.2 h8
    refine tm_go 1 (pc' := 102) (L' := [some (.ref 129), some (.int y94_1), some (.int y94_2), some (.int y94_3), some (.int ys94_0)]) (S' := [.int (-1)]) (w' := w) rfl ?_
    exact tm_r rfl ⟨_, rfl, hs⟩
set_option maxHeartbeats 4000000 in
set_option maxRecDepth 100000 in
theorem tx_Tx_test_43 {d : Nat} {y43_1 : Int32} {z2 : Option Value} {z3 : Option Value} {z4 : Option Value} {w : MW} {Q : Int32 → MW → Prop} (hs : q_Tx_test_43 y43_1 w Q) : Tm (d + 404) 324 43 [some (.ref 129), some (.int y43_1), z2, z3, z4] [] w (RI Q) := by
  unfold q_Tx_test_43 at hs
  refine tm_go 3 (pc' := 49) (L' := [some (.ref 129), some (.int y43_1), z2, z3, z4]) (S' := [.int 60, .int (w.1 129 4)]) (w' := w) rfl ?_
  refine tm_i (p1 := 57) (p2 := 52) rfl (fun h4 => ?_) (fun h4 => ?_)
  · replace hs := hs.1 h4
    refine tm_go 3 (pc' := 63) (L' := [some (.ref 129), some (.int y43_1), z2, z3, z4]) (S' := [.int 61, .int (w.1 129 4)]) (w' := w) rfl ?_
    refine tm_i (p1 := 71) (p2 := 66) rfl (fun h5 => ?_) (fun h5 => ?_)
    · replace hs := hs.1 h5
      refine tm_go 6 (pc' := 80) (L' := [some (.ref 129), some (.int y43_1), some (.int 9), some (.int (w.1 129 5)), z4]) (S' := [.ref 129]) (w' := w) rfl ?_
      refine tm_c rfl (Nat.le_of_ble_eq_true rfl) (dm_Tx_go (d := d + 401) hs) (fun v w6 hq => ?_)
      obtain ⟨r6, rfl, hz6, hs⟩ := hq
      refine tm_i (p1 := 93) (p2 := 86) rfl (fun h7 => ?_) (fun h7 => ?_)
      · replace hs := hs.1 h7
        refine tm_go 1 (pc' := 94) (L' := [some (.ref 129), some (.int y43_1), some (.int 9), some (.int (w.1 129 5)), z4]) (S' := [.int (-1)]) (w' := w6) rfl ?_
        exact tx_Tx_test_94 hs 
      · replace hs := hs.2 h7
        refine tm_go 1 (pc' := 87) (L' := [some (.ref 129), some (.int y43_1), some (.int 9), some (.int (w.1 129 5)), z4]) (S' := [.ref 129]) (w' := w6) rfl ?_
        refine tm_c rfl (Nat.le_of_ble_eq_true rfl) (dm_Tx_sum (d := d + 0) hs) (fun v w13 hq => ?_)
        obtain ⟨r13, rfl, hs⟩ := hq
        refine tm_go 1 (pc' := 94) (L' := [some (.ref 129), some (.int y43_1), some (.int 9), some (.int (w.1 129 5)), z4]) (S' := [.int r13]) (w' := w13) rfl ?_
        exact tx_Tx_test_94 hs 
    · replace hs := hs.2 h5
      refine tm_go 7 (pc' := 80) (L' := [some (.ref 129), some (.int y43_1), some (.int 8), some (.int (w.1 129 5)), z4]) (S' := [.ref 129]) (w' := w) rfl ?_
      refine tm_c rfl (Nat.le_of_ble_eq_true rfl) (dm_Tx_go (d := d + 401) hs) (fun v w14 hq => ?_)
      obtain ⟨r14, rfl, hz14, hs⟩ := hq
      refine tm_i (p1 := 93) (p2 := 86) rfl (fun h15 => ?_) (fun h15 => ?_)
      · replace hs := hs.1 h15
        refine tm_go 1 (pc' := 94) (L' := [some (.ref 129), some (.int y43_1), some (.int 8), some (.int (w.1 129 5)), z4]) (S' := [.int (-1)]) (w' := w14) rfl ?_
        exact tx_Tx_test_94 hs 
      · replace hs := hs.2 h15
        refine tm_go 1 (pc' := 87) (L' := [some (.ref 129), some (.int y43_1), some (.int 8), some (.int (w.1 129 5)), z4]) (S' := [.ref 129]) (w' := w14) rfl ?_
        refine tm_c rfl (Nat.le_of_ble_eq_true rfl) (dm_Tx_sum (d := d + 0) hs) (fun v w16 hq => ?_)
        obtain ⟨r16, rfl, hs⟩ := hq
        refine tm_go 1 (pc' := 94) (L' := [some (.ref 129), some (.int y43_1), some (.int 8), some (.int (w.1 129 5)), z4]) (S' := [.int r16]) (w' := w16) rfl ?_
        exact tx_Tx_test_94 hs 
  · replace hs := hs.2 h4
    refine tm_go 7 (pc' := 80) (L' := [some (.ref 129), some (.int y43_1), some (.int 7), some (.int (w.1 129 5)), z4]) (S' := [.ref 129]) (w' := w) rfl ?_
    refine tm_c rfl (Nat.le_of_ble_eq_true rfl) (dm_Tx_go (d := d + 401) hs) (fun v w17 hq => ?_)
    obtain ⟨r17, rfl, hz17, hs⟩ := hq
    refine tm_i (p1 := 93) (p2 := 86) rfl (fun h18 => ?_) (fun h18 => ?_)
    · replace hs := hs.1 h18
      refine tm_go 1 (pc' := 94) (L' := [some (.ref 129), some (.int y43_1), some (.int 7), some (.int (w.1 129 5)), z4]) (S' := [.int (-1)]) (w' := w17) rfl ?_
      exact tx_Tx_test_94 hs 
    · replace hs := hs.2 h18
      refine tm_go 1 (pc' := 87) (L' := [some (.ref 129), some (.int y43_1), some (.int 7), some (.int (w.1 129 5)), z4]) (S' := [.ref 129]) (w' := w17) rfl ?_
      refine tm_c rfl (Nat.le_of_ble_eq_true rfl) (dm_Tx_sum (d := d + 0) hs) (fun v w19 hq => ?_)
      obtain ⟨r19, rfl, hs⟩ := hq
      refine tm_go 1 (pc' := 94) (L' := [some (.ref 129), some (.int y43_1), some (.int 7), some (.int (w.1 129 5)), z4]) (S' := [.int r19]) (w' := w19) rfl ?_
      exact tx_Tx_test_94 hs 
set_option maxHeartbeats 4000000 in
set_option maxRecDepth 100000 in
theorem dm_Tx_test {d : Nat} {w : MW} {Q : Int32 → MW → Prop} (hs : p_Tx_test w Q) : Tc (d + 404) 324 [.ref 129] w (RI Q) := by
  unfold p_Tx_test at hs
  refine tm_go 1 (pc' := 1) (L' := [some (.ref 129), none, none, none, none]) (S' := [.ref 129]) (w' := w) rfl ?_
  refine tm_c rfl (Nat.le_of_ble_eq_true rfl) (dm_Tx_sum (d := d + 0) hs) (fun v w1 hq => ?_)
  obtain ⟨r1, rfl, hs⟩ := hq
  refine tm_go 2 (pc' := 6) (L' := [some (.ref 129), some (.int r1), none, none, none]) (S' := [.int r1]) (w' := w1) rfl ?_
  refine tm_i (p1 := 11) (p2 := 9) rfl (fun h2 => ?_) (fun h2 => ?_)
  · replace hs := hs.1 h2
    refine tm_go 3 (pc' := 17) (L' := [some (.ref 129), some (.int r1), none, none, none]) (S' := [.int 60, .int (w1.1 129 4)]) (w' := w1) rfl ?_
    refine tm_i (p1 := 43) (p2 := 20) rfl (fun h3 => ?_) (fun h3 => ?_)
    · replace hs := hs.1 h3
      exact tx_Tx_test_43 hs 
    · replace hs := hs.2 h3
      refine tm_go 3 (pc' := 26) (L' := [some (.ref 129), some (.int r1), none, none, none]) (S' := [.int 61, .int (w1.1 129 4)]) (w' := w1) rfl ?_
      refine tm_i (p1 := 43) (p2 := 29) rfl (fun h20 => ?_) (fun h20 => ?_)
      · replace hs := hs.1 h20
        exact tx_Tx_test_43 hs 
      · replace hs := hs.2 h20
        refine tm_go 3 (pc' := 35) (L' := [some (.ref 129), some (.int r1), none, none, none]) (S' := [.int 62, .int (w1.1 129 4)]) (w' := w1) rfl ?_
        refine tm_i (p1 := 43) (p2 := 38) rfl (fun h21 => ?_) (fun h21 => ?_)
        · replace hs := hs.1 h21
          exact tx_Tx_test_43 hs 
        · replace hs := hs.2 h21
          refine tm_go 1 (pc' := 39) (L' := [some (.ref 129), some (.int r1), none, none, none]) (S' := [.ref 129]) (w' := w1) rfl ?_
          refine tm_c rfl (Nat.le_of_ble_eq_true rfl) (dm_Tx_bad (d := d + 403) hs) (fun v w22 hq => ?_)
          obtain ⟨r22, rfl, hs⟩ := hq
          exact tm_r rfl ⟨_, rfl, hs⟩
  · replace hs := hs.2 h2
    refine tm_go 1 (pc' := 10) (L' := [some (.ref 129), some (.int r1), none, none, none]) (S' := [.int (-1)]) (w' := w1) rfl ?_
    exact tm_r rfl ⟨_, rfl, hs⟩
set_option maxHeartbeats 4000000 in
set_option maxRecDepth 100000 in
theorem tx_Tx_block_52 {d : Nat} {r_Tx_block : MW → (Int32 → MW → Prop) → Prop} {r_Tx_statement : MW → (Int32 → MW → Prop) → Prop} (hr_Tx_block : ∀ (w : MW) (Q : Int32 → MW → Prop), r_Tx_block w Q → Tc (d + 404) 328 [.ref 129] w (RI Q)) (hr_Tx_statement : ∀ (w : MW) (Q : Int32 → MW → Prop), r_Tx_statement w Q → Tc (d + 404) 331 [.ref 129] w (RI Q)) {x52_1 : Int32} {x52_2 : Int32} {E : MW → Prop} {Q : Int32 → MW → Prop} (n : Nat) : ∀  (z3 : Option Value) (w : MW), q_Tx_block_52 r_Tx_block r_Tx_statement x52_1 x52_2 E Q n  w → (∀  (v3 : Option Value) (w : MW), E  w → Tm (d + 405) 328 80 [some (.ref 129), some (.int x52_1), some (.int x52_2), v3] [] w (RI Q)) → Tm (d + 405) 328 52 [some (.ref 129), some (.int x52_1), some (.int x52_2), z3] [] w (RI Q) := by
  induction n with
  | zero => intro  z3 w hs; rw [q_Tx_block_52.eq_1] at hs; exact hs.elim
  | succ n ih =>
    intro  z3 w hs hE
    rw [q_Tx_block_52.eq_2] at hs
    refine tm_go 3 (pc' := 58) (L' := [some (.ref 129), some (.int x52_1), some (.int x52_2), z3]) (S' := [.int 125, .int (w.1 129 4)]) (w' := w) rfl ?_
    refine tm_i (p1 := 80) (p2 := 61) rfl (fun h6 => ?_) (fun h6 => ?_)
    · replace hs := hs.1 h6
      exact hE _ _ hs
    · replace hs := hs.2 h6
      refine tm_go 1 (pc' := 62) (L' := [some (.ref 129), some (.int x52_1), some (.int x52_2), z3]) (S' := [.ref 129]) (w' := w) rfl ?_
      refine tm_c rfl (Nat.le_of_ble_eq_true rfl) (hr_Tx_statement _ _ hs) (fun v w7 hq => ?_)
      obtain ⟨r7, rfl, hs⟩ := hq
      refine tm_go 2 (pc' := 67) (L' := [some (.ref 129), some (.int x52_1), some (.int x52_2), some (.int r7)]) (S' := [.int r7]) (w' := w7) rfl ?_
      refine tm_i (p1 := 72) (p2 := 70) rfl (fun h8 => ?_) (fun h8 => ?_)
      · replace hs := hs.1 h8
        refine tm_go 2 (pc' := 74) (L' := [some (.ref 129), some (.int x52_1), some (.int x52_2), some (.int r7)]) (S' := [.int r7, .ref 129]) (w' := w7) rfl ?_
        refine tm_c rfl (Nat.le_of_ble_eq_true rfl) (dm_Tx_push (d := d + 404) hs) (fun v w9 hq => ?_)
        obtain ⟨rfl, hs⟩ := hq
        refine tm_go 1 (pc' := 52) (L' := [some (.ref 129), some (.int x52_1), some (.int x52_2), some (.int r7)]) (S' := []) (w' := w9) rfl ?_
        exact ih _ _ hs hE
      · replace hs := hs.2 h8
        refine tm_go 1 (pc' := 71) (L' := [some (.ref 129), some (.int x52_1), some (.int x52_2), some (.int r7)]) (S' := [.int (-1)]) (w' := w7) rfl ?_
        exact tm_r rfl ⟨_, rfl, hs⟩
set_option maxHeartbeats 4000000 in
set_option maxRecDepth 100000 in
theorem dmb_Tx_block {d : Nat} {r_Tx_block : MW → (Int32 → MW → Prop) → Prop} {r_Tx_statement : MW → (Int32 → MW → Prop) → Prop} (hr_Tx_block : ∀ (w : MW) (Q : Int32 → MW → Prop), r_Tx_block w Q → Tc (d + 404) 328 [.ref 129] w (RI Q)) (hr_Tx_statement : ∀ (w : MW) (Q : Int32 → MW → Prop), r_Tx_statement w Q → Tc (d + 404) 331 [.ref 129] w (RI Q)) {w : MW} {Q : Int32 → MW → Prop} (hs : pb_Tx_block r_Tx_block r_Tx_statement w Q) : Tc (d + 405) 328 [.ref 129] w (RI Q) := by
  unfold pb_Tx_block at hs
  refine tm_go 6 (pc' := 11) (L' := [some (.ref 129), some (.int (w.1 129 7)), none, none]) (S' := [.int 123, .int (w.1 129 4)]) (w' := w) rfl ?_
  refine tm_i (p1 := 23) (p2 := 14) rfl (fun h1 => ?_) (fun h1 => ?_)
  · replace hs := hs.1 h1
    refine tm_go 1 (pc' := 24) (L' := [some (.ref 129), some (.int (w.1 129 7)), none, none]) (S' := [.ref 129]) (w' := w) rfl ?_
    refine tm_c rfl (Nat.le_of_ble_eq_true rfl) (dm_Tx_bad (d := d + 404) hs) (fun v w2 hq => ?_)
    obtain ⟨r2, rfl, hs⟩ := hq
    exact tm_r rfl ⟨_, rfl, hs⟩
  · replace hs := hs.2 h1
    refine tm_go 3 (pc' := 20) (L' := [some (.ref 129), some (.int (w.1 129 7)), none, none]) (S' := [.int 20, .int (w.1 129 11)]) (w' := w) rfl ?_
    refine tm_i (p1 := 28) (p2 := 23) rfl (fun h3 => ?_) (fun h3 => ?_)
    · replace hs := hs.1 h3
      refine tm_go 10 (pc' := 44) (L' := [some (.ref 129), some (.int (w.1 129 7)), some (.int (w.1 129 35)), none]) (S' := [.ref 129]) (w' := (sI w 129 11 ((w.1 129 11) + (1 : Int32)))) rfl ?_
      refine tm_c rfl (Nat.le_of_ble_eq_true rfl) (dm_Tx_go (d := d + 402) hs) (fun v w4 hq => ?_)
      obtain ⟨r4, rfl, hz4, hs⟩ := hq
      refine tm_i (p1 := 52) (p2 := 50) rfl (fun h5 => ?_) (fun h5 => ?_)
      · replace hs := hs.1 h5
        refine tx_Tx_block_52 hr_Tx_block hr_Tx_statement FU _ _ hs (fun  z10_3 w10 hs => ?_)
        refine tm_go 7 (pc' := 91) (L' := [some (.ref 129), some (.int (w.1 129 7)), some (.int (w.1 129 35)), z10_3]) (S' := [.ref 129]) (w' := (sI w10 129 11 ((w10.1 129 11) - (1 : Int32)))) rfl ?_
        refine tm_c rfl (Nat.le_of_ble_eq_true rfl) (dm_Tx_go (d := d + 402) hs) (fun v w11 hq => ?_)
        obtain ⟨r11, rfl, hz11, hs⟩ := hq
        refine tm_i (p1 := 110) (p2 := 97) rfl (fun h12 => ?_) (fun h12 => ?_)
        · replace hs := hs.1 h12
          refine tm_go 1 (pc' := 111) (L' := [some (.ref 129), some (.int (w.1 129 7)), some (.int (w.1 129 35)), z10_3]) (S' := [.int (-1)]) (w' := w11) rfl ?_
          exact tm_r rfl ⟨_, rfl, hs⟩
        · replace hs := hs.2 h12
          refine tm_go 6 (pc' := 104) (L' := [some (.ref 129), some (.int (w.1 129 7)), some (.int (w.1 129 35)), z10_3]) (S' := [.int (w.1 129 35), .int (-1), .int (w.1 129 7), .long 0, .int 23, .ref 129]) (w' := w11) rfl ?_
          refine tm_c rfl (Nat.le_of_ble_eq_true rfl) (dm_Tx_node0 (d := d + 403) hs) (fun v w13 hq => ?_)
          obtain ⟨r13, rfl, hs⟩ := hq
          refine tm_go 1 (pc' := 111) (L' := [some (.ref 129), some (.int (w.1 129 7)), some (.int (w.1 129 35)), z10_3]) (S' := [.int r13]) (w' := w13) rfl ?_
          exact tm_r rfl ⟨_, rfl, hs⟩
      · replace hs := hs.2 h5
        refine tm_go 1 (pc' := 51) (L' := [some (.ref 129), some (.int (w.1 129 7)), some (.int (w.1 129 35)), none]) (S' := [.int (-1)]) (w' := w4) rfl ?_
        exact tm_r rfl ⟨_, rfl, hs⟩
    · replace hs := hs.2 h3
      refine tm_go 1 (pc' := 24) (L' := [some (.ref 129), some (.int (w.1 129 7)), none, none]) (S' := [.ref 129]) (w' := w) rfl ?_
      refine tm_c rfl (Nat.le_of_ble_eq_true rfl) (dm_Tx_bad (d := d + 404) hs) (fun v w14 hq => ?_)
      obtain ⟨r14, rfl, hs⟩ := hq
      exact tm_r rfl ⟨_, rfl, hs⟩
set_option maxHeartbeats 4000000 in
set_option maxRecDepth 100000 in
theorem tx_Tx_statement_587 {d : Nat} {r_Tx_block : MW → (Int32 → MW → Prop) → Prop} {r_Tx_statement : MW → (Int32 → MW → Prop) → Prop} (hr_Tx_block : ∀ (w : MW) (Q : Int32 → MW → Prop), r_Tx_block w Q → Tc (d + 404) 328 [.ref 129] w (RI Q)) (hr_Tx_statement : ∀ (w : MW) (Q : Int32 → MW → Prop), r_Tx_statement w Q → Tc (d + 404) 331 [.ref 129] w (RI Q)) {y587_1 : Int32} {y587_2 : Int32} {y587_3 : Int32} {y587_4 : Int32} {y587_5 : Int32}  {w : MW} {Q : Int32 → MW → Prop} (hs : q_Tx_statement_587 r_Tx_block r_Tx_statement y587_1 y587_2 y587_3 y587_4 y587_5 w Q) : Tm (d + 405) 331 587 [some (.ref 129), some (.int y587_1), some (.int y587_2), some (.int y587_3), some (.int y587_4), some (.int y587_5)] [] w (RI Q) := by
  unfold q_Tx_statement_587 at hs
  refine tm_go 1 (pc' := 589) (L' := [some (.ref 129), some (.int y587_1), some (.int y587_2), some (.int y587_3), some (.int y587_4), some (.int y587_5)]) (S' := [.int y587_5]) (w' := w) rfl ?_
  refine tm_i (p1 := 594) (p2 := 592) rfl (fun h9 => ?_) (fun h9 => ?_)
  · replace hs := hs.1 h9
    refine tm_go 13 (pc' := 612) (L' := [some (.ref 129), some (.int y587_1), some (.int y587_2), some (.int y587_3), some (.int y587_4), some (.int y587_5)]) (S' := [.int y587_3, .int (-1), .int y587_2, .long (Int32.toInt64 y587_4), .int y587_1, .ref 129]) (w' := (sI w 129 38 ((w.1 129 38) + (1 : Int32)))) rfl ?_
    refine tm_c rfl (Nat.le_of_ble_eq_true rfl) (dm_Tx_node0 (d := d + 403) hs) (fun v w10 hq => ?_)
    obtain ⟨r10, rfl, hs⟩ := hq
    exact tm_r rfl ⟨_, rfl, hs⟩
  · replace hs := hs.2 h9
    refine tm_go 1 (pc' := 593) (L' := [some (.ref 129), some (.int y587_1), some (.int y587_2), some (.int y587_3), some (.int y587_4), some (.int y587_5)]) (S' := [.int (-1)]) (w' := w) rfl ?_
    exact tm_r rfl ⟨_, rfl, hs⟩
set_option maxHeartbeats 4000000 in
set_option maxRecDepth 100000 in
theorem tx_Tx_statement_286 {d : Nat} {r_Tx_block : MW → (Int32 → MW → Prop) → Prop} {r_Tx_statement : MW → (Int32 → MW → Prop) → Prop} (hr_Tx_block : ∀ (w : MW) (Q : Int32 → MW → Prop), r_Tx_block w Q → Tc (d + 404) 328 [.ref 129] w (RI Q)) (hr_Tx_statement : ∀ (w : MW) (Q : Int32 → MW → Prop), r_Tx_statement w Q → Tc (d + 404) 331 [.ref 129] w (RI Q)) {x286_1 : Int32} {x286_2 : Int32} {x286_3 : Int32} {x286_4 : Int32} {E : MW → Prop} {Q : Int32 → MW → Prop} (n : Nat) : ∀ (x286_5 : Int32)   (w : MW), q_Tx_statement_286 r_Tx_block r_Tx_statement x286_1 x286_2 x286_3 x286_4 E Q n x286_5 w → (∀  (v5 : Option Value) (w : MW), E  w → Tm (d + 405) 331 313 [some (.ref 129), some (.int x286_1), some (.int x286_2), some (.int x286_3), some (.int x286_4), v5] [] w (RI Q)) → Tm (d + 405) 331 286 [some (.ref 129), some (.int x286_1), some (.int x286_2), some (.int x286_3), some (.int x286_4), some (.int x286_5)] [] w (RI Q) := by
  induction n with
  | zero => intro x286_5  w hs; rw [q_Tx_statement_286.eq_1] at hs; exact hs.elim
  | succ n ih =>
    intro x286_5  w hs hE
    rw [q_Tx_statement_286.eq_2] at hs
    refine tm_go 1 (pc' := 288) (L' := [some (.ref 129), some (.int x286_1), some (.int x286_2), some (.int x286_3), some (.int x286_4), some (.int x286_5)]) (S' := [.int x286_5]) (w' := w) rfl ?_
    refine tm_i (p1 := 587) (p2 := 291) rfl (fun h45 => ?_) (fun h45 => ?_)
    · replace hs := hs.1 h45
      exact tx_Tx_statement_587 hr_Tx_block hr_Tx_statement hs (fun q0 q1 hs => ih q0 q1 hs hE) hE
    · replace hs := hs.2 h45
      refine tm_go 3 (pc' := 297) (L' := [some (.ref 129), some (.int x286_1), some (.int x286_2), some (.int x286_3), some (.int x286_4), some (.int x286_5)]) (S' := [.int 123, .int (w.1 129 4)]) (w' := w) rfl ?_
      refine tm_i (p1 := 587) (p2 := 300) rfl (fun h46 => ?_) (fun h46 => ?_)
      · replace hs := hs.1 h46
        exact tx_Tx_statement_587 hr_Tx_block hr_Tx_statement hs (fun q0 q1 hs => ih q0 q1 hs hE) hE
      · replace hs := hs.2 h46
        refine tm_go 2 (pc' := 302) (L' := [some (.ref 129), some (.int x286_1), some (.int x286_2), some (.int x286_3), some (.int x286_4), some (.int x286_5)]) (S' := [.ref 129, .ref 129]) (w' := w) rfl ?_
        refine tm_c rfl (Nat.le_of_ble_eq_true rfl) (hr_Tx_block _ _ hs) (fun v w47 hq => ?_)
        obtain ⟨r47, rfl, hs⟩ := hq
        refine tm_c rfl (Nat.le_of_ble_eq_true rfl) (dm_Tx_pushed (d := d + 403) hs) (fun v w48 hq => ?_)
        obtain ⟨r48, rfl, hz48, hs⟩ := hq
        refine tm_go 2 (pc' := 286) (L' := [some (.ref 129), some (.int x286_1), some (.int x286_2), some (.int x286_3), some (.int x286_4), some (.int r48)]) (S' := []) (w' := w48) rfl ?_
        exact ih _ _ hs hE
set_option maxHeartbeats 4000000 in
set_option maxRecDepth 100000 in
theorem tx_Tx_statement_340 {d : Nat} {r_Tx_block : MW → (Int32 → MW → Prop) → Prop} {r_Tx_statement : MW → (Int32 → MW → Prop) → Prop} (hr_Tx_block : ∀ (w : MW) (Q : Int32 → MW → Prop), r_Tx_block w Q → Tc (d + 404) 328 [.ref 129] w (RI Q)) (hr_Tx_statement : ∀ (w : MW) (Q : Int32 → MW → Prop), r_Tx_statement w Q → Tc (d + 404) 331 [.ref 129] w (RI Q)) {y340_1 : Int32} {y340_2 : Int32} {y340_3 : Int32} {y340_4 : Int32} {ys340_0 : Int32} {z5 : Option Value} {w : MW} {Q : Int32 → MW → Prop} (hs : q_Tx_statement_340 r_Tx_block r_Tx_statement y340_1 y340_2 y340_3 y340_4 ys340_0 w Q) : Tm (d + 405) 331 340 [some (.ref 129), some (.int y340_1), some (.int y340_2), some (.int y340_3), some (.int y340_4), z5] [.int ys340_0] w (RI Q) := by
  unfold q_Tx_statement_340 at hs
  refine tm_go 2 (pc' := 344) (L' := [some (.ref 129), some (.int y340_1), some (.int y340_2), some (.int y340_3), some (.int y340_4), some (.int ys340_0)]) (S' := [.int ys340_0]) (w' := w) rfl ?_
  refine tm_i (p1 := 587) (p2 := 347) rfl (fun h53 => ?_) (fun h53 => ?_)
  · replace hs := hs.1 h53
    exact tx_Tx_statement_587 hr_Tx_block hr_Tx_statement hs 
  · replace hs := hs.2 h53
    refine tm_go 2 (pc' := 350) (L' := [some (.ref 129), some (.int y340_1), some (.int y340_2), some (.int y340_3), some (.int y340_4), some (.int ys340_0)]) (S' := [.int 33, .ref 129]) (w' := w) rfl ?_
    refine tm_c rfl (Nat.le_of_ble_eq_true rfl) (dm_Tx_isWord (d := d + 404) hs) (fun v w54 hq => ?_)
    obtain ⟨r54, rfl, hz54, hs⟩ := hq
    refine tm_i (p1 := 587) (p2 := 356) rfl (fun h55 => ?_) (fun h55 => ?_)
    · replace hs := hs.1 h55
      exact tx_Tx_statement_587 hr_Tx_block hr_Tx_statement hs 
    · replace hs := hs.2 h55
      refine tm_go 1 (pc' := 357) (L' := [some (.ref 129), some (.int y340_1), some (.int y340_2), some (.int y340_3), some (.int y340_4), some (.int ys340_0)]) (S' := [.ref 129]) (w' := w54) rfl ?_
      refine tm_c rfl (Nat.le_of_ble_eq_true rfl) (dm_Tx_go (d := d + 402) hs) (fun v w56 hq => ?_)
      obtain ⟨r56, rfl, hz56, hs⟩ := hq
      refine tm_i (p1 := 378) (p2 := 363) rfl (fun h57 => ?_) (fun h57 => ?_)
      · replace hs := hs.1 h57
        refine tm_go 3 (pc' := 587) (L' := [some (.ref 129), some (.int y340_1), some (.int y340_2), some (.int y340_3), some (.int y340_4), some (.int 0)]) (S' := []) (w' := w56) rfl ?_
        exact tx_Tx_statement_587 hr_Tx_block hr_Tx_statement hs 
      · replace hs := hs.2 h57
        refine tm_go 2 (pc' := 365) (L' := [some (.ref 129), some (.int y340_1), some (.int y340_2), some (.int y340_3), some (.int y340_4), some (.int ys340_0)]) (S' := [.ref 129, .ref 129]) (w' := w56) rfl ?_
        refine tm_c rfl (Nat.le_of_ble_eq_true rfl) (hr_Tx_block _ _ hs) (fun v w58 hq => ?_)
        obtain ⟨r58, rfl, hs⟩ := hq
        refine tm_c rfl (Nat.le_of_ble_eq_true rfl) (dm_Tx_pushed (d := d + 403) hs) (fun v w59 hq => ?_)
        obtain ⟨r59, rfl, hz59, hs⟩ := hq
        refine tm_i (p1 := 378) (p2 := 374) rfl (fun h60 => ?_) (fun h60 => ?_)
        · replace hs := hs.1 h60
          refine tm_go 3 (pc' := 587) (L' := [some (.ref 129), some (.int y340_1), some (.int y340_2), some (.int y340_3), some (.int y340_4), some (.int 0)]) (S' := []) (w' := w59) rfl ?_
          exact tx_Tx_statement_587 hr_Tx_block hr_Tx_statement hs 
        · replace hs := hs.2 h60
          refine tm_go 4 (pc' := 587) (L' := [some (.ref 129), some (.int y340_1), some (.int y340_2), some (.int y340_3), some (.int y340_4), some (.int 1)]) (S' := []) (w' := w59) rfl ?_
          exact tx_Tx_statement_587 hr_Tx_block hr_Tx_statement hs 
set_option maxHeartbeats 4000000 in
set_option maxRecDepth 100000 in
theorem tx_Tx_statement_284 {d : Nat} {r_Tx_block : MW → (Int32 → MW → Prop) → Prop} {r_Tx_statement : MW → (Int32 → MW → Prop) → Prop} (hr_Tx_block : ∀ (w : MW) (Q : Int32 → MW → Prop), r_Tx_block w Q → Tc (d + 404) 328 [.ref 129] w (RI Q)) (hr_Tx_statement : ∀ (w : MW) (Q : Int32 → MW → Prop), r_Tx_statement w Q → Tc (d + 404) 331 [.ref 129] w (RI Q)) {y284_1 : Int32} {y284_2 : Int32} {y284_3 : Int32} {y284_4 : Int32} {ys284_0 : Int32} {z5 : Option Value} {w : MW} {Q : Int32 → MW → Prop} (hs : q_Tx_statement_284 r_Tx_block r_Tx_statement y284_1 y284_2 y284_3 y284_4 ys284_0 w Q) : Tm (d + 405) 331 284 [some (.ref 129), some (.int y284_1), some (.int y284_2), some (.int y284_3), some (.int y284_4), z5] [.int ys284_0] w (RI Q) := by
  unfold q_Tx_statement_284 at hs
  refine tm_go 1 (pc' := 286) (L' := [some (.ref 129), some (.int y284_1), some (.int y284_2), some (.int y284_3), some (.int y284_4), some (.int ys284_0)]) (S' := []) (w' := w) rfl ?_
  refine tx_Tx_statement_286 hr_Tx_block hr_Tx_statement FU _ _ hs (fun  z49_5 w49 hs => ?_)
  refine tm_go 2 (pc' := 315) (L' := [some (.ref 129), some (.int y284_1), some (.int y284_2), some (.int y284_3), some (.int y284_4), z49_5]) (S' := [.ref 129, .ref 129]) (w' := w49) rfl ?_
  refine tm_c rfl (Nat.le_of_ble_eq_true rfl) (dm_Tx_test (d := d + 0) hs) (fun v w50 hq => ?_)
  obtain ⟨r50, rfl, hs⟩ := hq
  refine tm_c rfl (Nat.le_of_ble_eq_true rfl) (dm_Tx_pushed (d := d + 403) hs) (fun v w51 hq => ?_)
  obtain ⟨r51, rfl, hz51, hs⟩ := hq
  refine tm_i (p1 := 339) (p2 := 324) rfl (fun h52 => ?_) (fun h52 => ?_)
  · replace hs := hs.1 h52
    refine tm_go 1 (pc' := 340) (L' := [some (.ref 129), some (.int y284_1), some (.int y284_2), some (.int y284_3), some (.int y284_4), z49_5]) (S' := [.int 0]) (w' := w51) rfl ?_
    exact tx_Tx_statement_340 hr_Tx_block hr_Tx_statement hs 
  · replace hs := hs.2 h52
    refine tm_go 2 (pc' := 326) (L' := [some (.ref 129), some (.int y284_1), some (.int y284_2), some (.int y284_3), some (.int y284_4), z49_5]) (S' := [.ref 129, .ref 129]) (w' := w51) rfl ?_
    refine tm_c rfl (Nat.le_of_ble_eq_true rfl) (hr_Tx_block _ _ hs) (fun v w61 hq => ?_)
    obtain ⟨r61, rfl, hs⟩ := hq
    refine tm_c rfl (Nat.le_of_ble_eq_true rfl) (dm_Tx_pushed (d := d + 403) hs) (fun v w62 hq => ?_)
    obtain ⟨r62, rfl, hz62, hs⟩ := hq
    refine tm_i (p1 := 339) (p2 := 335) rfl (fun h63 => ?_) (fun h63 => ?_)
    · replace hs := hs.1 h63
      refine tm_go 1 (pc' := 340) (L' := [some (.ref 129), some (.int y284_1), some (.int y284_2), some (.int y284_3), some (.int y284_4), z49_5]) (S' := [.int 0]) (w' := w62) rfl ?_
      exact tx_Tx_statement_340 hr_Tx_block hr_Tx_statement hs 
    · replace hs := hs.2 h63
      refine tm_go 2 (pc' := 340) (L' := [some (.ref 129), some (.int y284_1), some (.int y284_2), some (.int y284_3), some (.int y284_4), z49_5]) (S' := [.int 1]) (w' := w62) rfl ?_
      exact tx_Tx_statement_340 hr_Tx_block hr_Tx_statement hs 
set_option maxHeartbeats 4000000 in
set_option maxRecDepth 100000 in
theorem tx_Tx_statement_480 {d : Nat} {r_Tx_block : MW → (Int32 → MW → Prop) → Prop} {r_Tx_statement : MW → (Int32 → MW → Prop) → Prop} (hr_Tx_block : ∀ (w : MW) (Q : Int32 → MW → Prop), r_Tx_block w Q → Tc (d + 404) 328 [.ref 129] w (RI Q)) (hr_Tx_statement : ∀ (w : MW) (Q : Int32 → MW → Prop), r_Tx_statement w Q → Tc (d + 404) 331 [.ref 129] w (RI Q)) {y480_1 : Int32} {y480_2 : Int32} {y480_3 : Int32} {ys480_0 : Int32} {z4 : Option Value} {z5 : Option Value} {w : MW} {Q : Int32 → MW → Prop} (hs : q_Tx_statement_480 r_Tx_block r_Tx_statement y480_1 y480_2 y480_3 ys480_0 w Q) : Tm (d + 405) 331 480 [some (.ref 129), some (.int y480_1), some (.int y480_2), some (.int y480_3), z4, z5] [.int ys480_0, .ref 129] w (RI Q) := by
  unfold q_Tx_statement_480 at hs
  refine tm_c rfl (Nat.le_of_ble_eq_true rfl) (dm_Tx_known (d := d + 401) hs) (fun v w94 hq => ?_)
  obtain ⟨r94, rfl, hs⟩ := hq
  refine tm_go 2 (pc' := 487) (L' := [some (.ref 129), some (.int y480_1), some (.int y480_2), some (.int y480_3), some (.int r94), z5]) (S' := [.int r94]) (w' := w94) rfl ?_
  refine tm_i (p1 := 503) (p2 := 490) rfl (fun h95 => ?_) (fun h95 => ?_)
  · replace hs := hs.1 h95
    refine tm_go 3 (pc' := 587) (L' := [some (.ref 129), some (.int y480_1), some (.int y480_2), some (.int y480_3), some (.int r94), some (.int 0)]) (S' := []) (w' := w94) rfl ?_
    exact tx_Tx_statement_587 hr_Tx_block hr_Tx_statement hs 
  · replace hs := hs.2 h95
    refine tm_go 2 (pc' := 493) (L' := [some (.ref 129), some (.int y480_1), some (.int y480_2), some (.int y480_3), some (.int r94), z5]) (S' := [.int 59, .ref 129]) (w' := w94) rfl ?_
    refine tm_c rfl (Nat.le_of_ble_eq_true rfl) (dm_Tx_over (d := d + 401) hs) (fun v w96 hq => ?_)
    obtain ⟨r96, rfl, hz96, hs⟩ := hq
    refine tm_i (p1 := 503) (p2 := 499) rfl (fun h97 => ?_) (fun h97 => ?_)
    · replace hs := hs.1 h97
      refine tm_go 3 (pc' := 587) (L' := [some (.ref 129), some (.int y480_1), some (.int y480_2), some (.int y480_3), some (.int r94), some (.int 0)]) (S' := []) (w' := w96) rfl ?_
      exact tx_Tx_statement_587 hr_Tx_block hr_Tx_statement hs 
    · replace hs := hs.2 h97
      refine tm_go 4 (pc' := 587) (L' := [some (.ref 129), some (.int y480_1), some (.int y480_2), some (.int y480_3), some (.int r94), some (.int 1)]) (S' := []) (w' := w96) rfl ?_
      exact tx_Tx_statement_587 hr_Tx_block hr_Tx_statement hs 
set_option maxHeartbeats 4000000 in
set_option maxRecDepth 100000 in
theorem dmb_Tx_statement {d : Nat} {r_Tx_block : MW → (Int32 → MW → Prop) → Prop} {r_Tx_statement : MW → (Int32 → MW → Prop) → Prop} (hr_Tx_block : ∀ (w : MW) (Q : Int32 → MW → Prop), r_Tx_block w Q → Tc (d + 404) 328 [.ref 129] w (RI Q)) (hr_Tx_statement : ∀ (w : MW) (Q : Int32 → MW → Prop), r_Tx_statement w Q → Tc (d + 404) 331 [.ref 129] w (RI Q)) {w : MW} {Q : Int32 → MW → Prop} (hs : pb_Tx_statement r_Tx_block r_Tx_statement w Q) : Tc (d + 405) 331 [.ref 129] w (RI Q) := by
  unfold pb_Tx_statement at hs
  refine tm_go 10 (pc' := 17) (L' := [some (.ref 129), some (.int ((w.1 129 4) - (1000 : Int32))), some (.int (w.1 129 7)), none, none, none]) (S' := [.int 10, .int ((w.1 129 4) - (1000 : Int32))]) (w' := w) rfl ?_
  refine tm_i (p1 := 26) (p2 := 20) rfl (fun h1 => ?_) (fun h1 => ?_)
  · replace hs := hs.1 h1
    refine tm_go 1 (pc' := 27) (L' := [some (.ref 129), some (.int ((w.1 129 4) - (1000 : Int32))), some (.int (w.1 129 7)), none, none, none]) (S' := [.ref 129]) (w' := w) rfl ?_
    refine tm_c rfl (Nat.le_of_ble_eq_true rfl) (dm_Tx_bad (d := d + 404) hs) (fun v w2 hq => ?_)
    obtain ⟨r2, rfl, hs⟩ := hq
    exact tm_r rfl ⟨_, rfl, hs⟩
  · replace hs := hs.2 h1
    refine tm_go 2 (pc' := 23) (L' := [some (.ref 129), some (.int ((w.1 129 4) - (1000 : Int32))), some (.int (w.1 129 7)), none, none, none]) (S' := [.int 22, .int ((w.1 129 4) - (1000 : Int32))]) (w' := w) rfl ?_
    refine tm_i (p1 := 31) (p2 := 26) rfl (fun h3 => ?_) (fun h3 => ?_)
    · replace hs := hs.1 h3
      refine tm_go 1 (pc' := 32) (L' := [some (.ref 129), some (.int ((w.1 129 4) - (1000 : Int32))), some (.int (w.1 129 7)), none, none, none]) (S' := [.ref 129]) (w' := w) rfl ?_
      refine tm_c rfl (Nat.le_of_ble_eq_true rfl) (dm_Tx_go (d := d + 402) hs) (fun v w4 hq => ?_)
      obtain ⟨r4, rfl, hz4, hs⟩ := hq
      refine tm_i (p1 := 40) (p2 := 38) rfl (fun h5 => ?_) (fun h5 => ?_)
      · replace hs := hs.1 h5
        refine tm_go 8 (pc' := 52) (L' := [some (.ref 129), some (.int ((w.1 129 4) - (1000 : Int32))), some (.int (w.1 129 7)), some (.int (w4.1 129 35)), some (.int 0), some (.int 1)]) (S' := [.int ((w.1 129 4) - (1000 : Int32))]) (w' := w4) rfl ?_
        by_cases h6 : ((w.1 129 4) - (1000 : Int32)).toInt = 10
        · replace hs := hs.1 h6
          refine tm_tab (dflt := 579) (lo := 10) (ts := [120, 200, 227, 120, 257, 313, 384, 413, 466, 466, 579, 579, 509]) rfl (by rw [h6]; decide) (t := 120) (by rw [h6]; rfl) ?_
          refine tm_go 2 (pc' := 123) (L' := [some (.ref 129), some (.int ((w.1 129 4) - (1000 : Int32))), some (.int (w.1 129 7)), some (.int (w4.1 129 35)), some (.int 0), some (.int 1)]) (S' := [.int 31, .ref 129]) (w' := w4) rfl ?_
          refine tm_c rfl (Nat.le_of_ble_eq_true rfl) (dm_Tx_known (d := d + 401) hs) (fun v w7 hq => ?_)
          obtain ⟨r7, rfl, hs⟩ := hq
          refine tm_go 2 (pc' := 130) (L' := [some (.ref 129), some (.int ((w.1 129 4) - (1000 : Int32))), some (.int (w.1 129 7)), some (.int (w4.1 129 35)), some (.int r7), some (.int 1)]) (S' := [.int r7]) (w' := w7) rfl ?_
          refine tm_i (p1 := 194) (p2 := 133) rfl (fun h8 => ?_) (fun h8 => ?_)
          · replace hs := hs.1 h8
            refine tm_go 3 (pc' := 587) (L' := [some (.ref 129), some (.int ((w.1 129 4) - (1000 : Int32))), some (.int (w.1 129 7)), some (.int (w4.1 129 35)), some (.int r7), some (.int 0)]) (S' := []) (w' := w7) rfl ?_
            exact tx_Tx_statement_587 hr_Tx_block hr_Tx_statement hs 
          · replace hs := hs.2 h8
            refine tm_go 11 (pc' := 150) (L' := [some (.ref 129), some (.int ((w.1 129 4) - (1000 : Int32))), some (.int (w.1 129 7)), some (.int (w4.1 129 35)), some (.int r7), some (.int 1)]) (S' := [.int (((40 : Int32) * ((1 : Int32) - (w7.1 129 12))) + r7), .ref 142, .ref 129]) (w' := w7) rfl ?_
            obtain ⟨b11, hs⟩ := hs
            refine tm_k (pc' := 151) (L' := [some (.ref 129), some (.int ((w.1 129 4) - (1000 : Int32))), some (.int (w.1 129 7)), some (.int (w4.1 129 35)), some (.int r7), some (.int 1)]) (S' := [.int (w7.1 142 ((((40 : Int32) * ((1 : Int32) - (w7.1 129 12))) + r7).toInt.toNat)), .ref 129]) (w' := w7) rfl b11 ?_
            refine tm_c rfl (Nat.le_of_ble_eq_true rfl) (dm_Tx_sumOf (d := d + 0) hs) (fun v w12 hq => ?_)
            obtain ⟨r12, rfl, hz12, hs⟩ := hq
            refine tm_i (p1 := 194) (p2 := 157) rfl (fun h13 => ?_) (fun h13 => ?_)
            · replace hs := hs.1 h13
              refine tm_go 3 (pc' := 587) (L' := [some (.ref 129), some (.int ((w.1 129 4) - (1000 : Int32))), some (.int (w.1 129 7)), some (.int (w4.1 129 35)), some (.int r7), some (.int 0)]) (S' := []) (w' := w12) rfl ?_
              exact tx_Tx_statement_587 hr_Tx_block hr_Tx_statement hs 
            · replace hs := hs.2 h13
              refine tm_go 2 (pc' := 160) (L' := [some (.ref 129), some (.int ((w.1 129 4) - (1000 : Int32))), some (.int (w.1 129 7)), some (.int (w4.1 129 35)), some (.int r7), some (.int 1)]) (S' := [.int 10, .int ((w.1 129 4) - (1000 : Int32))]) (w' := w12) rfl ?_
              refine tm_i (p1 := 181) (p2 := 163) rfl (fun _ => ?_) (fun h => absurd h6 h)
              refine tm_go 2 (pc' := 184) (L' := [some (.ref 129), some (.int ((w.1 129 4) - (1000 : Int32))), some (.int (w.1 129 7)), some (.int (w4.1 129 35)), some (.int r7), some (.int 1)]) (S' := [.int 59, .ref 129]) (w' := w12) rfl ?_
              refine tm_c rfl (Nat.le_of_ble_eq_true rfl) (dm_Tx_over (d := d + 401) hs) (fun v w15 hq => ?_)
              obtain ⟨r15, rfl, hz15, hs⟩ := hq
              refine tm_i (p1 := 194) (p2 := 190) rfl (fun h16 => ?_) (fun h16 => ?_)
              · replace hs := hs.1 h16
                refine tm_go 3 (pc' := 587) (L' := [some (.ref 129), some (.int ((w.1 129 4) - (1000 : Int32))), some (.int (w.1 129 7)), some (.int (w4.1 129 35)), some (.int r7), some (.int 0)]) (S' := []) (w' := w15) rfl ?_
                exact tx_Tx_statement_587 hr_Tx_block hr_Tx_statement hs 
              · replace hs := hs.2 h16
                refine tm_go 4 (pc' := 587) (L' := [some (.ref 129), some (.int ((w.1 129 4) - (1000 : Int32))), some (.int (w.1 129 7)), some (.int (w4.1 129 35)), some (.int r7), some (.int 1)]) (S' := []) (w' := w15) rfl ?_
                exact tx_Tx_statement_587 hr_Tx_block hr_Tx_statement hs 
        · replace hs := hs.2 h6
          by_cases h17 : ((w.1 129 4) - (1000 : Int32)).toInt = 11
          · replace hs := hs.1 h17
            refine tm_tab (dflt := 579) (lo := 10) (ts := [120, 200, 227, 120, 257, 313, 384, 413, 466, 466, 579, 579, 509]) rfl (by rw [h17]; decide) (t := 200) (by rw [h17]; rfl) ?_
            refine tm_go 2 (pc' := 202) (L' := [some (.ref 129), some (.int ((w.1 129 4) - (1000 : Int32))), some (.int (w.1 129 7)), some (.int (w4.1 129 35)), some (.int 0), some (.int 1)]) (S' := [.int 3, .ref 129]) (w' := w4) rfl ?_
            refine tm_c rfl (Nat.le_of_ble_eq_true rfl) (dm_Tx_sumOf (d := d + 0) hs) (fun v w18 hq => ?_)
            obtain ⟨r18, rfl, hz18, hs⟩ := hq
            refine tm_i (p1 := 221) (p2 := 208) rfl (fun h19 => ?_) (fun h19 => ?_)
            · replace hs := hs.1 h19
              refine tm_go 3 (pc' := 587) (L' := [some (.ref 129), some (.int ((w.1 129 4) - (1000 : Int32))), some (.int (w.1 129 7)), some (.int (w4.1 129 35)), some (.int 0), some (.int 0)]) (S' := []) (w' := w18) rfl ?_
              exact tx_Tx_statement_587 hr_Tx_block hr_Tx_statement hs 
            · replace hs := hs.2 h19
              refine tm_go 2 (pc' := 211) (L' := [some (.ref 129), some (.int ((w.1 129 4) - (1000 : Int32))), some (.int (w.1 129 7)), some (.int (w4.1 129 35)), some (.int 0), some (.int 1)]) (S' := [.int 59, .ref 129]) (w' := w18) rfl ?_
              refine tm_c rfl (Nat.le_of_ble_eq_true rfl) (dm_Tx_over (d := d + 401) hs) (fun v w20 hq => ?_)
              obtain ⟨r20, rfl, hz20, hs⟩ := hq
              refine tm_i (p1 := 221) (p2 := 217) rfl (fun h21 => ?_) (fun h21 => ?_)
              · replace hs := hs.1 h21
                refine tm_go 3 (pc' := 587) (L' := [some (.ref 129), some (.int ((w.1 129 4) - (1000 : Int32))), some (.int (w.1 129 7)), some (.int (w4.1 129 35)), some (.int 0), some (.int 0)]) (S' := []) (w' := w20) rfl ?_
                exact tx_Tx_statement_587 hr_Tx_block hr_Tx_statement hs 
              · replace hs := hs.2 h21
                refine tm_go 4 (pc' := 587) (L' := [some (.ref 129), some (.int ((w.1 129 4) - (1000 : Int32))), some (.int (w.1 129 7)), some (.int (w4.1 129 35)), some (.int 0), some (.int 1)]) (S' := []) (w' := w20) rfl ?_
                exact tx_Tx_statement_587 hr_Tx_block hr_Tx_statement hs 
          · replace hs := hs.2 h17
            by_cases h22 : ((w.1 129 4) - (1000 : Int32)).toInt = 12
            · replace hs := hs.1 h22
              refine tm_tab (dflt := 579) (lo := 10) (ts := [120, 200, 227, 120, 257, 313, 384, 413, 466, 466, 579, 579, 509]) rfl (by rw [h22]; decide) (t := 227) (by rw [h22]; rfl) ?_
              refine tm_go 2 (pc' := 229) (L' := [some (.ref 129), some (.int ((w.1 129 4) - (1000 : Int32))), some (.int (w.1 129 7)), some (.int (w4.1 129 35)), some (.int 0), some (.int 1)]) (S' := [.ref 129, .ref 129]) (w' := w4) rfl ?_
              refine tm_c rfl (Nat.le_of_ble_eq_true rfl) (dm_Tx_test (d := d + 0) hs) (fun v w23 hq => ?_)
              obtain ⟨r23, rfl, hs⟩ := hq
              refine tm_c rfl (Nat.le_of_ble_eq_true rfl) (dm_Tx_pushed (d := d + 403) hs) (fun v w24 hq => ?_)
              obtain ⟨r24, rfl, hz24, hs⟩ := hq
              refine tm_i (p1 := 251) (p2 := 238) rfl (fun h25 => ?_) (fun h25 => ?_)
              · replace hs := hs.1 h25
                refine tm_go 3 (pc' := 587) (L' := [some (.ref 129), some (.int ((w.1 129 4) - (1000 : Int32))), some (.int (w.1 129 7)), some (.int (w4.1 129 35)), some (.int 0), some (.int 0)]) (S' := []) (w' := w24) rfl ?_
                exact tx_Tx_statement_587 hr_Tx_block hr_Tx_statement hs 
              · replace hs := hs.2 h25
                refine tm_go 2 (pc' := 241) (L' := [some (.ref 129), some (.int ((w.1 129 4) - (1000 : Int32))), some (.int (w.1 129 7)), some (.int (w4.1 129 35)), some (.int 0), some (.int 1)]) (S' := [.int 59, .ref 129]) (w' := w24) rfl ?_
                refine tm_c rfl (Nat.le_of_ble_eq_true rfl) (dm_Tx_over (d := d + 401) hs) (fun v w26 hq => ?_)
                obtain ⟨r26, rfl, hz26, hs⟩ := hq
                refine tm_i (p1 := 251) (p2 := 247) rfl (fun h27 => ?_) (fun h27 => ?_)
                · replace hs := hs.1 h27
                  refine tm_go 3 (pc' := 587) (L' := [some (.ref 129), some (.int ((w.1 129 4) - (1000 : Int32))), some (.int (w.1 129 7)), some (.int (w4.1 129 35)), some (.int 0), some (.int 0)]) (S' := []) (w' := w26) rfl ?_
                  exact tx_Tx_statement_587 hr_Tx_block hr_Tx_statement hs 
                · replace hs := hs.2 h27
                  refine tm_go 4 (pc' := 587) (L' := [some (.ref 129), some (.int ((w.1 129 4) - (1000 : Int32))), some (.int (w.1 129 7)), some (.int (w4.1 129 35)), some (.int 0), some (.int 1)]) (S' := []) (w' := w26) rfl ?_
                  exact tx_Tx_statement_587 hr_Tx_block hr_Tx_statement hs 
            · replace hs := hs.2 h22
              by_cases h28 : ((w.1 129 4) - (1000 : Int32)).toInt = 13
              · replace hs := hs.1 h28
                refine tm_tab (dflt := 579) (lo := 10) (ts := [120, 200, 227, 120, 257, 313, 384, 413, 466, 466, 579, 579, 509]) rfl (by rw [h28]; decide) (t := 120) (by rw [h28]; rfl) ?_
                refine tm_go 2 (pc' := 123) (L' := [some (.ref 129), some (.int ((w.1 129 4) - (1000 : Int32))), some (.int (w.1 129 7)), some (.int (w4.1 129 35)), some (.int 0), some (.int 1)]) (S' := [.int 31, .ref 129]) (w' := w4) rfl ?_
                refine tm_c rfl (Nat.le_of_ble_eq_true rfl) (dm_Tx_known (d := d + 401) hs) (fun v w29 hq => ?_)
                obtain ⟨r29, rfl, hs⟩ := hq
                refine tm_go 2 (pc' := 130) (L' := [some (.ref 129), some (.int ((w.1 129 4) - (1000 : Int32))), some (.int (w.1 129 7)), some (.int (w4.1 129 35)), some (.int r29), some (.int 1)]) (S' := [.int r29]) (w' := w29) rfl ?_
                refine tm_i (p1 := 194) (p2 := 133) rfl (fun h30 => ?_) (fun h30 => ?_)
                · replace hs := hs.1 h30
                  refine tm_go 3 (pc' := 587) (L' := [some (.ref 129), some (.int ((w.1 129 4) - (1000 : Int32))), some (.int (w.1 129 7)), some (.int (w4.1 129 35)), some (.int r29), some (.int 0)]) (S' := []) (w' := w29) rfl ?_
                  exact tx_Tx_statement_587 hr_Tx_block hr_Tx_statement hs 
                · replace hs := hs.2 h30
                  refine tm_go 11 (pc' := 150) (L' := [some (.ref 129), some (.int ((w.1 129 4) - (1000 : Int32))), some (.int (w.1 129 7)), some (.int (w4.1 129 35)), some (.int r29), some (.int 1)]) (S' := [.int (((40 : Int32) * ((1 : Int32) - (w29.1 129 12))) + r29), .ref 142, .ref 129]) (w' := w29) rfl ?_
                  obtain ⟨b31, hs⟩ := hs
                  refine tm_k (pc' := 151) (L' := [some (.ref 129), some (.int ((w.1 129 4) - (1000 : Int32))), some (.int (w.1 129 7)), some (.int (w4.1 129 35)), some (.int r29), some (.int 1)]) (S' := [.int (w29.1 142 ((((40 : Int32) * ((1 : Int32) - (w29.1 129 12))) + r29).toInt.toNat)), .ref 129]) (w' := w29) rfl b31 ?_
                  refine tm_c rfl (Nat.le_of_ble_eq_true rfl) (dm_Tx_sumOf (d := d + 0) hs) (fun v w32 hq => ?_)
                  obtain ⟨r32, rfl, hz32, hs⟩ := hq
                  refine tm_i (p1 := 194) (p2 := 157) rfl (fun h33 => ?_) (fun h33 => ?_)
                  · replace hs := hs.1 h33
                    refine tm_go 3 (pc' := 587) (L' := [some (.ref 129), some (.int ((w.1 129 4) - (1000 : Int32))), some (.int (w.1 129 7)), some (.int (w4.1 129 35)), some (.int r29), some (.int 0)]) (S' := []) (w' := w32) rfl ?_
                    exact tx_Tx_statement_587 hr_Tx_block hr_Tx_statement hs 
                  · replace hs := hs.2 h33
                    refine tm_go 2 (pc' := 160) (L' := [some (.ref 129), some (.int ((w.1 129 4) - (1000 : Int32))), some (.int (w.1 129 7)), some (.int (w4.1 129 35)), some (.int r29), some (.int 1)]) (S' := [.int 10, .int ((w.1 129 4) - (1000 : Int32))]) (w' := w32) rfl ?_
                    refine tm_i (p1 := 181) (p2 := 163) rfl (fun h => absurd h h6) (fun _ => ?_)
                    refine tm_go 2 (pc' := 167) (L' := [some (.ref 129), some (.int ((w.1 129 4) - (1000 : Int32))), some (.int (w.1 129 7)), some (.int (w4.1 129 35)), some (.int r29), some (.int 1)]) (S' := [.int 1032, .ref 129]) (w' := w32) rfl ?_
                    refine tm_c rfl (Nat.le_of_ble_eq_true rfl) (dm_Tx_over (d := d + 401) hs) (fun v w35 hq => ?_)
                    obtain ⟨r35, rfl, hz35, hs⟩ := hq
                    refine tm_i (p1 := 194) (p2 := 173) rfl (fun h36 => ?_) (fun h36 => ?_)
                    · replace hs := hs.1 h36
                      refine tm_go 3 (pc' := 587) (L' := [some (.ref 129), some (.int ((w.1 129 4) - (1000 : Int32))), some (.int (w.1 129 7)), some (.int (w4.1 129 35)), some (.int r29), some (.int 0)]) (S' := []) (w' := w35) rfl ?_
                      exact tx_Tx_statement_587 hr_Tx_block hr_Tx_statement hs 
                    · replace hs := hs.2 h36
                      refine tm_go 2 (pc' := 175) (L' := [some (.ref 129), some (.int ((w.1 129 4) - (1000 : Int32))), some (.int (w.1 129 7)), some (.int (w4.1 129 35)), some (.int r29), some (.int 1)]) (S' := [.int 3, .ref 129]) (w' := w35) rfl ?_
                      refine tm_c rfl (Nat.le_of_ble_eq_true rfl) (dm_Tx_sumOf (d := d + 0) hs) (fun v w37 hq => ?_)
                      obtain ⟨r37, rfl, hz37, hs⟩ := hq
                      refine tm_i (p1 := 194) (p2 := 181) rfl (fun h38 => ?_) (fun h38 => ?_)
                      · replace hs := hs.1 h38
                        refine tm_go 3 (pc' := 587) (L' := [some (.ref 129), some (.int ((w.1 129 4) - (1000 : Int32))), some (.int (w.1 129 7)), some (.int (w4.1 129 35)), some (.int r29), some (.int 0)]) (S' := []) (w' := w37) rfl ?_
                        exact tx_Tx_statement_587 hr_Tx_block hr_Tx_statement hs 
                      · replace hs := hs.2 h38
                        refine tm_go 2 (pc' := 184) (L' := [some (.ref 129), some (.int ((w.1 129 4) - (1000 : Int32))), some (.int (w.1 129 7)), some (.int (w4.1 129 35)), some (.int r29), some (.int 1)]) (S' := [.int 59, .ref 129]) (w' := w37) rfl ?_
                        refine tm_c rfl (Nat.le_of_ble_eq_true rfl) (dm_Tx_over (d := d + 401) hs) (fun v w39 hq => ?_)
                        obtain ⟨r39, rfl, hz39, hs⟩ := hq
                        refine tm_i (p1 := 194) (p2 := 190) rfl (fun h40 => ?_) (fun h40 => ?_)
                        · replace hs := hs.1 h40
                          refine tm_go 3 (pc' := 587) (L' := [some (.ref 129), some (.int ((w.1 129 4) - (1000 : Int32))), some (.int (w.1 129 7)), some (.int (w4.1 129 35)), some (.int r29), some (.int 0)]) (S' := []) (w' := w39) rfl ?_
                          exact tx_Tx_statement_587 hr_Tx_block hr_Tx_statement hs 
                        · replace hs := hs.2 h40
                          refine tm_go 4 (pc' := 587) (L' := [some (.ref 129), some (.int ((w.1 129 4) - (1000 : Int32))), some (.int (w.1 129 7)), some (.int (w4.1 129 35)), some (.int r29), some (.int 1)]) (S' := []) (w' := w39) rfl ?_
                          exact tx_Tx_statement_587 hr_Tx_block hr_Tx_statement hs 
              · replace hs := hs.2 h28
                by_cases h41 : ((w.1 129 4) - (1000 : Int32)).toInt = 14
                · replace hs := hs.1 h41
                  refine tm_tab (dflt := 579) (lo := 10) (ts := [120, 200, 227, 120, 257, 313, 384, 413, 466, 466, 579, 579, 509]) rfl (by rw [h41]; decide) (t := 257) (by rw [h41]; rfl) ?_
                  refine tm_go 2 (pc' := 259) (L' := [some (.ref 129), some (.int ((w.1 129 4) - (1000 : Int32))), some (.int (w.1 129 7)), some (.int (w4.1 129 35)), some (.int 0), some (.int 1)]) (S' := [.ref 129, .ref 129]) (w' := w4) rfl ?_
                  refine tm_c rfl (Nat.le_of_ble_eq_true rfl) (hr_Tx_block _ _ hs) (fun v w42 hq => ?_)
                  obtain ⟨r42, rfl, hs⟩ := hq
                  refine tm_c rfl (Nat.le_of_ble_eq_true rfl) (dm_Tx_pushed (d := d + 403) hs) (fun v w43 hq => ?_)
                  obtain ⟨r43, rfl, hz43, hs⟩ := hq
                  refine tm_i (p1 := 283) (p2 := 268) rfl (fun h44 => ?_) (fun h44 => ?_)
                  · replace hs := hs.1 h44
                    refine tm_go 1 (pc' := 284) (L' := [some (.ref 129), some (.int ((w.1 129 4) - (1000 : Int32))), some (.int (w.1 129 7)), some (.int (w4.1 129 35)), some (.int 0), some (.int 1)]) (S' := [.int 0]) (w' := w43) rfl ?_
                    exact tx_Tx_statement_284 hr_Tx_block hr_Tx_statement hs 
                  · replace hs := hs.2 h44
                    refine tm_go 2 (pc' := 270) (L' := [some (.ref 129), some (.int ((w.1 129 4) - (1000 : Int32))), some (.int (w.1 129 7)), some (.int (w4.1 129 35)), some (.int 0), some (.int 1)]) (S' := [.ref 129, .ref 129]) (w' := w43) rfl ?_
                    refine tm_c rfl (Nat.le_of_ble_eq_true rfl) (hr_Tx_block _ _ hs) (fun v w64 hq => ?_)
                    obtain ⟨r64, rfl, hs⟩ := hq
                    refine tm_c rfl (Nat.le_of_ble_eq_true rfl) (dm_Tx_pushed (d := d + 403) hs) (fun v w65 hq => ?_)
                    obtain ⟨r65, rfl, hz65, hs⟩ := hq
                    refine tm_i (p1 := 283) (p2 := 279) rfl (fun h66 => ?_) (fun h66 => ?_)
                    · replace hs := hs.1 h66
                      refine tm_go 1 (pc' := 284) (L' := [some (.ref 129), some (.int ((w.1 129 4) - (1000 : Int32))), some (.int (w.1 129 7)), some (.int (w4.1 129 35)), some (.int 0), some (.int 1)]) (S' := [.int 0]) (w' := w65) rfl ?_
                      exact tx_Tx_statement_284 hr_Tx_block hr_Tx_statement hs 
                    · replace hs := hs.2 h66
                      refine tm_go 2 (pc' := 284) (L' := [some (.ref 129), some (.int ((w.1 129 4) - (1000 : Int32))), some (.int (w.1 129 7)), some (.int (w4.1 129 35)), some (.int 0), some (.int 1)]) (S' := [.int 1]) (w' := w65) rfl ?_
                      exact tx_Tx_statement_284 hr_Tx_block hr_Tx_statement hs 
                · replace hs := hs.2 h41
                  by_cases h67 : ((w.1 129 4) - (1000 : Int32)).toInt = 15
                  · replace hs := hs.1 h67
                    refine tm_tab (dflt := 579) (lo := 10) (ts := [120, 200, 227, 120, 257, 313, 384, 413, 466, 466, 579, 579, 509]) rfl (by rw [h67]; decide) (t := 313) (by rw [h67]; rfl) ?_
                    refine tm_go 2 (pc' := 315) (L' := [some (.ref 129), some (.int ((w.1 129 4) - (1000 : Int32))), some (.int (w.1 129 7)), some (.int (w4.1 129 35)), some (.int 0), some (.int 1)]) (S' := [.ref 129, .ref 129]) (w' := w4) rfl ?_
                    refine tm_c rfl (Nat.le_of_ble_eq_true rfl) (dm_Tx_test (d := d + 0) hs) (fun v w68 hq => ?_)
                    obtain ⟨r68, rfl, hs⟩ := hq
                    refine tm_c rfl (Nat.le_of_ble_eq_true rfl) (dm_Tx_pushed (d := d + 403) hs) (fun v w69 hq => ?_)
                    obtain ⟨r69, rfl, hz69, hs⟩ := hq
                    refine tm_i (p1 := 339) (p2 := 324) rfl (fun h70 => ?_) (fun h70 => ?_)
                    · replace hs := hs.1 h70
                      refine tm_go 1 (pc' := 340) (L' := [some (.ref 129), some (.int ((w.1 129 4) - (1000 : Int32))), some (.int (w.1 129 7)), some (.int (w4.1 129 35)), some (.int 0), some (.int 1)]) (S' := [.int 0]) (w' := w69) rfl ?_
                      exact tx_Tx_statement_340 hr_Tx_block hr_Tx_statement hs 
                    · replace hs := hs.2 h70
                      refine tm_go 2 (pc' := 326) (L' := [some (.ref 129), some (.int ((w.1 129 4) - (1000 : Int32))), some (.int (w.1 129 7)), some (.int (w4.1 129 35)), some (.int 0), some (.int 1)]) (S' := [.ref 129, .ref 129]) (w' := w69) rfl ?_
                      refine tm_c rfl (Nat.le_of_ble_eq_true rfl) (hr_Tx_block _ _ hs) (fun v w71 hq => ?_)
                      obtain ⟨r71, rfl, hs⟩ := hq
                      refine tm_c rfl (Nat.le_of_ble_eq_true rfl) (dm_Tx_pushed (d := d + 403) hs) (fun v w72 hq => ?_)
                      obtain ⟨r72, rfl, hz72, hs⟩ := hq
                      refine tm_i (p1 := 339) (p2 := 335) rfl (fun h73 => ?_) (fun h73 => ?_)
                      · replace hs := hs.1 h73
                        refine tm_go 1 (pc' := 340) (L' := [some (.ref 129), some (.int ((w.1 129 4) - (1000 : Int32))), some (.int (w.1 129 7)), some (.int (w4.1 129 35)), some (.int 0), some (.int 1)]) (S' := [.int 0]) (w' := w72) rfl ?_
                        exact tx_Tx_statement_340 hr_Tx_block hr_Tx_statement hs 
                      · replace hs := hs.2 h73
                        refine tm_go 2 (pc' := 340) (L' := [some (.ref 129), some (.int ((w.1 129 4) - (1000 : Int32))), some (.int (w.1 129 7)), some (.int (w4.1 129 35)), some (.int 0), some (.int 1)]) (S' := [.int 1]) (w' := w72) rfl ?_
                        exact tx_Tx_statement_340 hr_Tx_block hr_Tx_statement hs 
                  · replace hs := hs.2 h67
                    by_cases h74 : ((w.1 129 4) - (1000 : Int32)).toInt = 16
                    · replace hs := hs.1 h74
                      refine tm_tab (dflt := 579) (lo := 10) (ts := [120, 200, 227, 120, 257, 313, 384, 413, 466, 466, 579, 579, 509]) rfl (by rw [h74]; decide) (t := 384) (by rw [h74]; rfl) ?_
                      refine tm_go 2 (pc' := 386) (L' := [some (.ref 129), some (.int ((w.1 129 4) - (1000 : Int32))), some (.int (w.1 129 7)), some (.int (w4.1 129 35)), some (.int 0), some (.int 1)]) (S' := [.int 0, .ref 129]) (w' := w4) rfl ?_
                      refine tm_c rfl (Nat.le_of_ble_eq_true rfl) (dm_Tx_sumOf (d := d + 0) hs) (fun v w75 hq => ?_)
                      obtain ⟨r75, rfl, hz75, hs⟩ := hq
                      refine tm_i (p1 := 407) (p2 := 392) rfl (fun h76 => ?_) (fun h76 => ?_)
                      · replace hs := hs.1 h76
                        refine tm_go 3 (pc' := 587) (L' := [some (.ref 129), some (.int ((w.1 129 4) - (1000 : Int32))), some (.int (w.1 129 7)), some (.int (w4.1 129 35)), some (.int 0), some (.int 0)]) (S' := []) (w' := w75) rfl ?_
                        exact tx_Tx_statement_587 hr_Tx_block hr_Tx_statement hs 
                      · replace hs := hs.2 h76
                        refine tm_go 2 (pc' := 394) (L' := [some (.ref 129), some (.int ((w.1 129 4) - (1000 : Int32))), some (.int (w.1 129 7)), some (.int (w4.1 129 35)), some (.int 0), some (.int 1)]) (S' := [.ref 129, .ref 129]) (w' := w75) rfl ?_
                        refine tm_c rfl (Nat.le_of_ble_eq_true rfl) (hr_Tx_block _ _ hs) (fun v w77 hq => ?_)
                        obtain ⟨r77, rfl, hs⟩ := hq
                        refine tm_c rfl (Nat.le_of_ble_eq_true rfl) (dm_Tx_pushed (d := d + 403) hs) (fun v w78 hq => ?_)
                        obtain ⟨r78, rfl, hz78, hs⟩ := hq
                        refine tm_i (p1 := 407) (p2 := 403) rfl (fun h79 => ?_) (fun h79 => ?_)
                        · replace hs := hs.1 h79
                          refine tm_go 3 (pc' := 587) (L' := [some (.ref 129), some (.int ((w.1 129 4) - (1000 : Int32))), some (.int (w.1 129 7)), some (.int (w4.1 129 35)), some (.int 0), some (.int 0)]) (S' := []) (w' := w78) rfl ?_
                          exact tx_Tx_statement_587 hr_Tx_block hr_Tx_statement hs 
                        · replace hs := hs.2 h79
                          refine tm_go 4 (pc' := 587) (L' := [some (.ref 129), some (.int ((w.1 129 4) - (1000 : Int32))), some (.int (w.1 129 7)), some (.int (w4.1 129 35)), some (.int 0), some (.int 1)]) (S' := []) (w' := w78) rfl ?_
                          exact tx_Tx_statement_587 hr_Tx_block hr_Tx_statement hs 
                    · replace hs := hs.2 h74
                      by_cases h80 : ((w.1 129 4) - (1000 : Int32)).toInt = 17
                      · replace hs := hs.1 h80
                        refine tm_tab (dflt := 579) (lo := 10) (ts := [120, 200, 227, 120, 257, 313, 384, 413, 466, 466, 579, 579, 509]) rfl (by rw [h80]; decide) (t := 413) (by rw [h80]; rfl) ?_
                        refine tm_go 2 (pc' := 415) (L' := [some (.ref 129), some (.int ((w.1 129 4) - (1000 : Int32))), some (.int (w.1 129 7)), some (.int (w4.1 129 35)), some (.int 0), some (.int 1)]) (S' := [.ref 129, .ref 129]) (w' := w4) rfl ?_
                        refine tm_c rfl (Nat.le_of_ble_eq_true rfl) (dm_Tx_test (d := d + 0) hs) (fun v w81 hq => ?_)
                        obtain ⟨r81, rfl, hs⟩ := hq
                        refine tm_c rfl (Nat.le_of_ble_eq_true rfl) (dm_Tx_pushed (d := d + 403) hs) (fun v w82 hq => ?_)
                        obtain ⟨r82, rfl, hz82, hs⟩ := hq
                        refine tm_i (p1 := 460) (p2 := 424) rfl (fun h83 => ?_) (fun h83 => ?_)
                        · replace hs := hs.1 h83
                          refine tm_go 3 (pc' := 587) (L' := [some (.ref 129), some (.int ((w.1 129 4) - (1000 : Int32))), some (.int (w.1 129 7)), some (.int (w4.1 129 35)), some (.int 0), some (.int 0)]) (S' := []) (w' := w82) rfl ?_
                          exact tx_Tx_statement_587 hr_Tx_block hr_Tx_statement hs 
                        · replace hs := hs.2 h83
                          refine tm_go 2 (pc' := 426) (L' := [some (.ref 129), some (.int ((w.1 129 4) - (1000 : Int32))), some (.int (w.1 129 7)), some (.int (w4.1 129 35)), some (.int 0), some (.int 1)]) (S' := [.ref 129, .ref 129]) (w' := w82) rfl ?_
                          refine tm_c rfl (Nat.le_of_ble_eq_true rfl) (hr_Tx_block _ _ hs) (fun v w84 hq => ?_)
                          obtain ⟨r84, rfl, hs⟩ := hq
                          refine tm_c rfl (Nat.le_of_ble_eq_true rfl) (dm_Tx_pushed (d := d + 403) hs) (fun v w85 hq => ?_)
                          obtain ⟨r85, rfl, hz85, hs⟩ := hq
                          refine tm_i (p1 := 460) (p2 := 435) rfl (fun h86 => ?_) (fun h86 => ?_)
                          · replace hs := hs.1 h86
                            refine tm_go 3 (pc' := 587) (L' := [some (.ref 129), some (.int ((w.1 129 4) - (1000 : Int32))), some (.int (w.1 129 7)), some (.int (w4.1 129 35)), some (.int 0), some (.int 0)]) (S' := []) (w' := w85) rfl ?_
                            exact tx_Tx_statement_587 hr_Tx_block hr_Tx_statement hs 
                          · replace hs := hs.2 h86
                            refine tm_go 2 (pc' := 439) (L' := [some (.ref 129), some (.int ((w.1 129 4) - (1000 : Int32))), some (.int (w.1 129 7)), some (.int (w4.1 129 35)), some (.int 0), some (.int 1)]) (S' := [.int 1034, .ref 129]) (w' := w85) rfl ?_
                            refine tm_c rfl (Nat.le_of_ble_eq_true rfl) (dm_Tx_over (d := d + 401) hs) (fun v w87 hq => ?_)
                            obtain ⟨r87, rfl, hz87, hs⟩ := hq
                            refine tm_i (p1 := 460) (p2 := 445) rfl (fun h88 => ?_) (fun h88 => ?_)
                            · replace hs := hs.1 h88
                              refine tm_go 3 (pc' := 587) (L' := [some (.ref 129), some (.int ((w.1 129 4) - (1000 : Int32))), some (.int (w.1 129 7)), some (.int (w4.1 129 35)), some (.int 0), some (.int 0)]) (S' := []) (w' := w87) rfl ?_
                              exact tx_Tx_statement_587 hr_Tx_block hr_Tx_statement hs 
                            · replace hs := hs.2 h88
                              refine tm_go 2 (pc' := 447) (L' := [some (.ref 129), some (.int ((w.1 129 4) - (1000 : Int32))), some (.int (w.1 129 7)), some (.int (w4.1 129 35)), some (.int 0), some (.int 1)]) (S' := [.ref 129, .ref 129]) (w' := w87) rfl ?_
                              refine tm_c rfl (Nat.le_of_ble_eq_true rfl) (hr_Tx_block _ _ hs) (fun v w89 hq => ?_)
                              obtain ⟨r89, rfl, hs⟩ := hq
                              refine tm_c rfl (Nat.le_of_ble_eq_true rfl) (dm_Tx_pushed (d := d + 403) hs) (fun v w90 hq => ?_)
                              obtain ⟨r90, rfl, hz90, hs⟩ := hq
                              refine tm_i (p1 := 460) (p2 := 456) rfl (fun h91 => ?_) (fun h91 => ?_)
                              · replace hs := hs.1 h91
                                refine tm_go 3 (pc' := 587) (L' := [some (.ref 129), some (.int ((w.1 129 4) - (1000 : Int32))), some (.int (w.1 129 7)), some (.int (w4.1 129 35)), some (.int 0), some (.int 0)]) (S' := []) (w' := w90) rfl ?_
                                exact tx_Tx_statement_587 hr_Tx_block hr_Tx_statement hs 
                              · replace hs := hs.2 h91
                                refine tm_go 4 (pc' := 587) (L' := [some (.ref 129), some (.int ((w.1 129 4) - (1000 : Int32))), some (.int (w.1 129 7)), some (.int (w4.1 129 35)), some (.int 0), some (.int 1)]) (S' := []) (w' := w90) rfl ?_
                                exact tx_Tx_statement_587 hr_Tx_block hr_Tx_statement hs 
                      · replace hs := hs.2 h80
                        by_cases h92 : ((w.1 129 4) - (1000 : Int32)).toInt = 18
                        · replace hs := hs.1 h92
                          refine tm_tab (dflt := 579) (lo := 10) (ts := [120, 200, 227, 120, 257, 313, 384, 413, 466, 466, 579, 579, 509]) rfl (by rw [h92]; decide) (t := 466) (by rw [h92]; rfl) ?_
                          refine tm_go 3 (pc' := 470) (L' := [some (.ref 129), some (.int ((w.1 129 4) - (1000 : Int32))), some (.int (w.1 129 7)), some (.int (w4.1 129 35)), some (.int 0), some (.int 1)]) (S' := [.int 18, .int ((w.1 129 4) - (1000 : Int32)), .ref 129]) (w' := w4) rfl ?_
                          refine tm_i (p1 := 478) (p2 := 473) rfl (fun h93 => ?_) (fun h93 => ?_)
                          · replace hs := hs.1 h93
                            refine tm_go 1 (pc' := 480) (L' := [some (.ref 129), some (.int ((w.1 129 4) - (1000 : Int32))), some (.int (w.1 129 7)), some (.int (w4.1 129 35)), some (.int 0), some (.int 1)]) (S' := [.int 24, .ref 129]) (w' := w4) rfl ?_
                            exact tx_Tx_statement_480 hr_Tx_block hr_Tx_statement hs 
                          · replace hs := hs.2 h93
                            refine tm_go 2 (pc' := 480) (L' := [some (.ref 129), some (.int ((w.1 129 4) - (1000 : Int32))), some (.int (w.1 129 7)), some (.int (w4.1 129 35)), some (.int 0), some (.int 1)]) (S' := [.int 30, .ref 129]) (w' := w4) rfl ?_
                            exact tx_Tx_statement_480 hr_Tx_block hr_Tx_statement hs 
                        · replace hs := hs.2 h92
                          by_cases h98 : ((w.1 129 4) - (1000 : Int32)).toInt = 19
                          · replace hs := hs.1 h98
                            refine tm_tab (dflt := 579) (lo := 10) (ts := [120, 200, 227, 120, 257, 313, 384, 413, 466, 466, 579, 579, 509]) rfl (by rw [h98]; decide) (t := 466) (by rw [h98]; rfl) ?_
                            refine tm_go 3 (pc' := 470) (L' := [some (.ref 129), some (.int ((w.1 129 4) - (1000 : Int32))), some (.int (w.1 129 7)), some (.int (w4.1 129 35)), some (.int 0), some (.int 1)]) (S' := [.int 18, .int ((w.1 129 4) - (1000 : Int32)), .ref 129]) (w' := w4) rfl ?_
                            refine tm_i (p1 := 478) (p2 := 473) rfl (fun h99 => ?_) (fun h99 => ?_)
                            · replace hs := hs.1 h99
                              refine tm_go 1 (pc' := 480) (L' := [some (.ref 129), some (.int ((w.1 129 4) - (1000 : Int32))), some (.int (w.1 129 7)), some (.int (w4.1 129 35)), some (.int 0), some (.int 1)]) (S' := [.int 24, .ref 129]) (w' := w4) rfl ?_
                              exact tx_Tx_statement_480 hr_Tx_block hr_Tx_statement hs 
                            · replace hs := hs.2 h99
                              refine tm_go 2 (pc' := 480) (L' := [some (.ref 129), some (.int ((w.1 129 4) - (1000 : Int32))), some (.int (w.1 129 7)), some (.int (w4.1 129 35)), some (.int 0), some (.int 1)]) (S' := [.int 30, .ref 129]) (w' := w4) rfl ?_
                              exact tx_Tx_statement_480 hr_Tx_block hr_Tx_statement hs 
                          · replace hs := hs.2 h98
                            by_cases h100 : ((w.1 129 4) - (1000 : Int32)).toInt = 20
                            · replace hs := hs.1 h100
                              refine tm_tab (dflt := 579) (lo := 10) (ts := [120, 200, 227, 120, 257, 313, 384, 413, 466, 466, 579, 579, 509]) rfl (by rw [h100]; decide) (t := 579) (by rw [h100]; rfl) ?_
                              refine tm_go 2 (pc' := 582) (L' := [some (.ref 129), some (.int ((w.1 129 4) - (1000 : Int32))), some (.int (w.1 129 7)), some (.int (w4.1 129 35)), some (.int 0), some (.int 1)]) (S' := [.int 59, .ref 129]) (w' := w4) rfl ?_
                              refine tm_c rfl (Nat.le_of_ble_eq_true rfl) (dm_Tx_over (d := d + 401) hs) (fun v w101 hq => ?_)
                              obtain ⟨r101, rfl, hz101, hs⟩ := hq
                              refine tm_go 1 (pc' := 587) (L' := [some (.ref 129), some (.int ((w.1 129 4) - (1000 : Int32))), some (.int (w.1 129 7)), some (.int (w4.1 129 35)), some (.int 0), some (.int r101)]) (S' := []) (w' := w101) rfl ?_
                              exact tx_Tx_statement_587 hr_Tx_block hr_Tx_statement hs 
                            · replace hs := hs.2 h100
                              by_cases h102 : ((w.1 129 4) - (1000 : Int32)).toInt = 21
                              · replace hs := hs.1 h102
                                refine tm_tab (dflt := 579) (lo := 10) (ts := [120, 200, 227, 120, 257, 313, 384, 413, 466, 466, 579, 579, 509]) rfl (by rw [h102]; decide) (t := 579) (by rw [h102]; rfl) ?_
                                refine tm_go 2 (pc' := 582) (L' := [some (.ref 129), some (.int ((w.1 129 4) - (1000 : Int32))), some (.int (w.1 129 7)), some (.int (w4.1 129 35)), some (.int 0), some (.int 1)]) (S' := [.int 59, .ref 129]) (w' := w4) rfl ?_
                                refine tm_c rfl (Nat.le_of_ble_eq_true rfl) (dm_Tx_over (d := d + 401) hs) (fun v w103 hq => ?_)
                                obtain ⟨r103, rfl, hz103, hs⟩ := hq
                                refine tm_go 1 (pc' := 587) (L' := [some (.ref 129), some (.int ((w.1 129 4) - (1000 : Int32))), some (.int (w.1 129 7)), some (.int (w4.1 129 35)), some (.int 0), some (.int r103)]) (S' := []) (w' := w103) rfl ?_
                                exact tx_Tx_statement_587 hr_Tx_block hr_Tx_statement hs 
                              · replace hs := hs.2 h102
                                by_cases h104 : ((w.1 129 4) - (1000 : Int32)).toInt = 22
                                · replace hs := hs.1 h104
                                  refine tm_tab (dflt := 579) (lo := 10) (ts := [120, 200, 227, 120, 257, 313, 384, 413, 466, 466, 579, 579, 509]) rfl (by rw [h104]; decide) (t := 509) (by rw [h104]; rfl) ?_
                                  refine tm_go 3 (pc' := 516) (L' := [some (.ref 129), some (.int ((w.1 129 4) - (1000 : Int32))), some (.int (w.1 129 7)), some (.int (w4.1 129 35)), some (.int 0), some (.int 1)]) (S' := [.int 2000, .int (w4.1 129 4)]) (w' := w4) rfl ?_
                                  refine tm_i (p1 := 537) (p2 := 519) rfl (fun h105 => ?_) (fun h105 => ?_)
                                  · replace hs := hs.1 h105
                                    refine tm_go 1 (pc' := 538) (L' := [some (.ref 129), some (.int ((w.1 129 4) - (1000 : Int32))), some (.int (w.1 129 7)), some (.int (w4.1 129 35)), some (.int 0), some (.int 1)]) (S' := [.ref 129]) (w' := w4) rfl ?_
                                    refine tm_c rfl (Nat.le_of_ble_eq_true rfl) (dm_Tx_bad (d := d + 404) hs) (fun v w106 hq => ?_)
                                    obtain ⟨r106, rfl, hs⟩ := hq
                                    exact tm_r rfl ⟨_, rfl, hs⟩
                                  · replace hs := hs.2 h105
                                    refine tm_go 2 (pc' := 523) (L' := [some (.ref 129), some (.int ((w.1 129 4) - (1000 : Int32))), some (.int (w.1 129 7)), some (.int (w4.1 129 35)), some (.int 0), some (.int 1)]) (S' := [.int (w4.1 129 9)]) (w' := w4) rfl ?_
                                    refine tm_i (p1 := 537) (p2 := 526) rfl (fun h107 => ?_) (fun h107 => ?_)
                                    · replace hs := hs.1 h107
                                      refine tm_go 1 (pc' := 538) (L' := [some (.ref 129), some (.int ((w.1 129 4) - (1000 : Int32))), some (.int (w.1 129 7)), some (.int (w4.1 129 35)), some (.int 0), some (.int 1)]) (S' := [.ref 129]) (w' := w4) rfl ?_
                                      refine tm_c rfl (Nat.le_of_ble_eq_true rfl) (dm_Tx_bad (d := d + 404) hs) (fun v w108 hq => ?_)
                                      obtain ⟨r108, rfl, hs⟩ := hq
                                      exact tm_r rfl ⟨_, rfl, hs⟩
                                    · replace hs := hs.2 h107
                                      refine tm_go 4 (pc' := 534) (L' := [some (.ref 129), some (.int ((w.1 129 4) - (1000 : Int32))), some (.int (w.1 129 7)), some (.int (w4.1 129 35)), some (.int 0), some (.int 1)]) (S' := [.int (lg_cmp (w4.2.1 129 8) (32000 : Int64))]) (w' := w4) rfl ?_
                                      refine tm_i (p1 := 542) (p2 := 537) rfl (fun h109 => ?_) (fun h109 => ?_)
                                      · replace hs := hs.1 h109
                                        refine tm_go 7 (pc' := 554) (L' := [some (.ref 129), some (.int ((w.1 129 4) - (1000 : Int32))), some (.int (w.1 129 7)), some (.int (w4.1 129 35)), some (.int (Int64.toInt32 ((w4.2.1 129 8) / (1000 : Int64)))), some (.int 1)]) (S' := [.ref 129]) (w' := w4) rfl ?_
                                        refine tm_c rfl (Nat.le_of_ble_eq_true rfl) (dm_Tx_go (d := d + 402) hs) (fun v w110 hq => ?_)
                                        obtain ⟨r110, rfl, hz110, hs⟩ := hq
                                        refine tm_i (p1 := 573) (p2 := 560) rfl (fun h111 => ?_) (fun h111 => ?_)
                                        · replace hs := hs.1 h111
                                          refine tm_go 3 (pc' := 587) (L' := [some (.ref 129), some (.int ((w.1 129 4) - (1000 : Int32))), some (.int (w.1 129 7)), some (.int (w4.1 129 35)), some (.int (Int64.toInt32 ((w4.2.1 129 8) / (1000 : Int64)))), some (.int 0)]) (S' := []) (w' := w110) rfl ?_
                                          exact tx_Tx_statement_587 hr_Tx_block hr_Tx_statement hs 
                                        · replace hs := hs.2 h111
                                          refine tm_go 2 (pc' := 563) (L' := [some (.ref 129), some (.int ((w.1 129 4) - (1000 : Int32))), some (.int (w.1 129 7)), some (.int (w4.1 129 35)), some (.int (Int64.toInt32 ((w4.2.1 129 8) / (1000 : Int64)))), some (.int 1)]) (S' := [.int 59, .ref 129]) (w' := w110) rfl ?_
                                          refine tm_c rfl (Nat.le_of_ble_eq_true rfl) (dm_Tx_over (d := d + 401) hs) (fun v w112 hq => ?_)
                                          obtain ⟨r112, rfl, hz112, hs⟩ := hq
                                          refine tm_i (p1 := 573) (p2 := 569) rfl (fun h113 => ?_) (fun h113 => ?_)
                                          · replace hs := hs.1 h113
                                            refine tm_go 3 (pc' := 587) (L' := [some (.ref 129), some (.int ((w.1 129 4) - (1000 : Int32))), some (.int (w.1 129 7)), some (.int (w4.1 129 35)), some (.int (Int64.toInt32 ((w4.2.1 129 8) / (1000 : Int64)))), some (.int 0)]) (S' := []) (w' := w112) rfl ?_
                                            exact tx_Tx_statement_587 hr_Tx_block hr_Tx_statement hs 
                                          · replace hs := hs.2 h113
                                            refine tm_go 4 (pc' := 587) (L' := [some (.ref 129), some (.int ((w.1 129 4) - (1000 : Int32))), some (.int (w.1 129 7)), some (.int (w4.1 129 35)), some (.int (Int64.toInt32 ((w4.2.1 129 8) / (1000 : Int64)))), some (.int 1)]) (S' := []) (w' := w112) rfl ?_
                                            exact tx_Tx_statement_587 hr_Tx_block hr_Tx_statement hs 
                                      · replace hs := hs.2 h109
                                        refine tm_go 1 (pc' := 538) (L' := [some (.ref 129), some (.int ((w.1 129 4) - (1000 : Int32))), some (.int (w.1 129 7)), some (.int (w4.1 129 35)), some (.int 0), some (.int 1)]) (S' := [.ref 129]) (w' := w4) rfl ?_
                                        refine tm_c rfl (Nat.le_of_ble_eq_true rfl) (dm_Tx_bad (d := d + 404) hs) (fun v w114 hq => ?_)
                                        obtain ⟨r114, rfl, hs⟩ := hq
                                        exact tm_r rfl ⟨_, rfl, hs⟩
                                · replace hs := hs.2 h104
                                  refine tm_tad (dflt := 579) (lo := 10) (ts := [120, 200, 227, 120, 257, 313, 384, 413, 466, 466, 579, 579, 509]) rfl (by simp only [List.length_cons, List.length_nil]; omega) ?_
                                  refine tm_go 2 (pc' := 582) (L' := [some (.ref 129), some (.int ((w.1 129 4) - (1000 : Int32))), some (.int (w.1 129 7)), some (.int (w4.1 129 35)), some (.int 0), some (.int 1)]) (S' := [.int 59, .ref 129]) (w' := w4) rfl ?_
                                  refine tm_c rfl (Nat.le_of_ble_eq_true rfl) (dm_Tx_over (d := d + 401) hs) (fun v w115 hq => ?_)
                                  obtain ⟨r115, rfl, hz115, hs⟩ := hq
                                  refine tm_go 1 (pc' := 587) (L' := [some (.ref 129), some (.int ((w.1 129 4) - (1000 : Int32))), some (.int (w.1 129 7)), some (.int (w4.1 129 35)), some (.int 0), some (.int r115)]) (S' := []) (w' := w115) rfl ?_
                                  exact tx_Tx_statement_587 hr_Tx_block hr_Tx_statement hs 
      · replace hs := hs.2 h5
        refine tm_go 1 (pc' := 39) (L' := [some (.ref 129), some (.int ((w.1 129 4) - (1000 : Int32))), some (.int (w.1 129 7)), none, none, none]) (S' := [.int (-1)]) (w' := w4) rfl ?_
        exact tm_r rfl ⟨_, rfl, hs⟩
    · replace hs := hs.2 h3
      refine tm_go 1 (pc' := 27) (L' := [some (.ref 129), some (.int ((w.1 129 4) - (1000 : Int32))), some (.int (w.1 129 7)), none, none, none]) (S' := [.ref 129]) (w' := w) rfl ?_
      refine tm_c rfl (Nat.le_of_ble_eq_true rfl) (dm_Tx_bad (d := d + 404) hs) (fun v w116 hq => ?_)
      obtain ⟨r116, rfl, hs⟩ := hq
      exact tm_r rfl ⟨_, rfl, hs⟩
theorem da_Tx_block (n : Nat) : (∀ (w : MW) (Q : Int32 → MW → Prop), pn_Tx_block n w Q → Tc (n + 404) 328 [.ref 129] w (RI Q)) ∧ (∀ (w : MW) (Q : Int32 → MW → Prop), pn_Tx_statement n w Q → Tc (n + 404) 331 [.ref 129] w (RI Q)) := by
  induction n with
  | zero => exact ⟨fun _ _ h => h.elim, fun _ _ h => h.elim⟩
  | succ n ih =>
    obtain ⟨h0, h1⟩ := ih
    exact ⟨fun _ _ h => (dmb_Tx_block (d := n) h0 h1 h).le (by omega), fun _ _ h => (dmb_Tx_statement (d := n) h0 h1 h).le (by omega)⟩
theorem dm_Tx_block {d : Nat} {w : MW} {Q : Int32 → MW → Prop} (hs : p_Tx_block w Q) : Tc (d + 804) 328 [.ref 129] w (RI Q) := ((da_Tx_block 400).1 _ _ hs).le (by omega)
theorem dm_Tx_statement {d : Nat} {w : MW} {Q : Int32 → MW → Prop} (hs : p_Tx_statement w Q) : Tc (d + 804) 331 [.ref 129] w (RI Q) := ((da_Tx_block 400).2 _ _ hs).le (by omega)
set_option maxHeartbeats 4000000 in
set_option maxRecDepth 100000 in
theorem tx_Tx_tell_49 {d : Nat} {x49_1 : Int32} {x49_2 : Int32} {E : MW → Prop} {Q : Int32 → MW → Prop} (n : Nat) : ∀ (x49_3 : Int32)   (w : MW), q_Tx_tell_49 x49_1 x49_2 E Q n x49_3 w → (∀  (v3 : Option Value) (w : MW), E  w → Tm (d + 1) 326 85 [some (.ref 129), some (.int x49_1), some (.int x49_2), v3] [] w (RI Q)) → Tm (d + 1) 326 49 [some (.ref 129), some (.int x49_1), some (.int x49_2), some (.int x49_3)] [] w (RI Q) := by
  induction n with
  | zero => intro x49_3  w hs; rw [q_Tx_tell_49.eq_1] at hs; exact hs.elim
  | succ n ih =>
    intro x49_3  w hs hE
    rw [q_Tx_tell_49.eq_2] at hs
    refine tm_go 3 (pc' := 54) (L' := [some (.ref 129), some (.int x49_1), some (.int x49_2), some (.int x49_3)]) (S' := [.int (w.1 129 6), .int x49_3]) (w' := w) rfl ?_
    refine tm_i (p1 := 85) (p2 := 57) rfl (fun h8 => ?_) (fun h8 => ?_)
    · replace hs := hs.1 h8
      exact hE _ _ hs
    · replace hs := hs.2 h8
      refine tm_go 13 (pc' := 77) (L' := [some (.ref 129), some (.int x49_1), some (.int x49_2), some (.int x49_3)]) (S' := [.int x49_3, .ref 130, .int ((((12 : Int32) * x49_2) + x49_3) - (w.1 129 5)), .ref 139]) (w' := w) rfl ?_
      obtain ⟨b9, hs⟩ := hs
      refine tm_k (pc' := 78) (L' := [some (.ref 129), some (.int x49_1), some (.int x49_2), some (.int x49_3)]) (S' := [.int (w.1 130 x49_3.toInt.toNat), .int ((((12 : Int32) * x49_2) + x49_3) - (w.1 129 5)), .ref 139]) (w' := w) rfl b9 ?_
      obtain ⟨b10, hs⟩ := hs
      refine tm_k (pc' := 79) (L' := [some (.ref 129), some (.int x49_1), some (.int x49_2), some (.int x49_3)]) (S' := []) (w' := (sI w 139 (((((12 : Int32) * x49_2) + x49_3) - (w.1 129 5)).toInt.toNat) (vp_nar .byte (w.1 130 x49_3.toInt.toNat)))) rfl b10 ?_
      refine tm_go 2 (pc' := 49) (L' := [some (.ref 129), some (.int x49_1), some (.int x49_2), some (.int (x49_3 + (1 : Int32)))]) (S' := []) (w' := (sI w 139 (((((12 : Int32) * x49_2) + x49_3) - (w.1 129 5)).toInt.toNat) (vp_nar .byte (w.1 130 x49_3.toInt.toNat)))) rfl ?_
      exact ih _ _ hs hE
set_option maxHeartbeats 4000000 in
set_option maxRecDepth 100000 in
theorem dm_Tx_tell {d : Nat} {w : MW} {a0 : Int32} {Q : Int32 → MW → Prop} (hs : p_Tx_tell w a0 Q) : Tc (d + 1) 326 [.ref 129, .int a0] w (RI Q) := by
  unfold p_Tx_tell at hs
  refine tm_go 2 (pc' := 2) (L' := [some (.ref 129), some (.int a0), none, none]) (S' := [.int (-1), .ref 129]) (w' := w) rfl ?_
  refine tm_c rfl (Nat.le_of_ble_eq_true rfl) (dm_Tx_isWord (d := d + 0) hs) (fun v w1 hq => ?_)
  obtain ⟨r1, rfl, hz1, hs⟩ := hq
  refine tm_i (p1 := 24) (p2 := 8) rfl (fun h2 => ?_) (fun h2 => ?_)
  · replace hs := hs.1 h2
    refine tm_go 1 (pc' := 25) (L' := [some (.ref 129), some (.int a0), none, none]) (S' := [.ref 129]) (w' := w1) rfl ?_
    refine tm_c rfl (Nat.le_of_ble_eq_true rfl) (dm_Tx_bad (d := d + 0) hs) (fun v w3 hq => ?_)
    obtain ⟨r3, rfl, hs⟩ := hq
    exact tm_r rfl ⟨_, rfl, hs⟩
  · replace hs := hs.2 h2
    refine tm_go 1 (pc' := 9) (L' := [some (.ref 129), some (.int a0), none, none]) (S' := [.ref 129]) (w' := w1) rfl ?_
    refine tm_c rfl (Nat.le_of_ble_eq_true rfl) (dm_Tx_nameOf (d := d + 0) hs) (fun v w4 hq => ?_)
    obtain ⟨r4, rfl, hs⟩ := hq
    refine tm_i (p1 := 24) (p2 := 15) rfl (fun h5 => ?_) (fun h5 => ?_)
    · replace hs := hs.1 h5
      refine tm_go 1 (pc' := 25) (L' := [some (.ref 129), some (.int a0), none, none]) (S' := [.ref 129]) (w' := w4) rfl ?_
      refine tm_c rfl (Nat.le_of_ble_eq_true rfl) (dm_Tx_bad (d := d + 0) hs) (fun v w6 hq => ?_)
      obtain ⟨r6, rfl, hs⟩ := hq
      exact tm_r rfl ⟨_, rfl, hs⟩
    · replace hs := hs.2 h5
      refine tm_go 3 (pc' := 21) (L' := [some (.ref 129), some (.int a0), none, none]) (S' := [.int 40, .int (w4.1 129 24)]) (w' := w4) rfl ?_
      refine tm_i (p1 := 29) (p2 := 24) rfl (fun h7 => ?_) (fun h7 => ?_)
      · replace hs := hs.1 h7
        refine tm_go 13 (pc' := 49) (L' := [some (.ref 129), some (.int a0), some (.int (((40 : Int32) * ((1 : Int32) - (w4.1 129 12))) + (w4.1 129 24))), some (.int (w4.1 129 5))]) (S' := []) (w' := w4) rfl ?_
        refine tx_Tx_tell_49 FU _ _ hs (fun  z11_3 w11 hs => ?_)
        refine tm_go 8 (pc' := 99) (L' := [some (.ref 129), some (.int a0), some (.int (((40 : Int32) * ((1 : Int32) - (w4.1 129 12))) + (w4.1 129 24))), z11_3]) (S' := [.int ((w11.1 129 6) - (w11.1 129 5)), .int (((40 : Int32) * ((1 : Int32) - (w4.1 129 12))) + (w4.1 129 24)), .ref 140]) (w' := w11) rfl ?_
        obtain ⟨b12, hs⟩ := hs
        refine tm_k (pc' := 100) (L' := [some (.ref 129), some (.int a0), some (.int (((40 : Int32) * ((1 : Int32) - (w4.1 129 12))) + (w4.1 129 24))), z11_3]) (S' := []) (w' := (sI w11 140 ((((40 : Int32) * ((1 : Int32) - (w4.1 129 12))) + (w4.1 129 24)).toInt.toNat) ((w11.1 129 6) - (w11.1 129 5)))) rfl b12 ?_
        refine tm_go 4 (pc' := 106) (L' := [some (.ref 129), some (.int a0), some (.int (((40 : Int32) * ((1 : Int32) - (w4.1 129 12))) + (w4.1 129 24))), z11_3]) (S' := [.int a0, .int (((40 : Int32) * ((1 : Int32) - (w4.1 129 12))) + (w4.1 129 24)), .ref 141]) (w' := (sI w11 140 ((((40 : Int32) * ((1 : Int32) - (w4.1 129 12))) + (w4.1 129 24)).toInt.toNat) ((w11.1 129 6) - (w11.1 129 5)))) rfl ?_
        obtain ⟨b13, hs⟩ := hs
        refine tm_k (pc' := 107) (L' := [some (.ref 129), some (.int a0), some (.int (((40 : Int32) * ((1 : Int32) - (w4.1 129 12))) + (w4.1 129 24))), z11_3]) (S' := []) (w' := (sI (sI w11 140 ((((40 : Int32) * ((1 : Int32) - (w4.1 129 12))) + (w4.1 129 24)).toInt.toNat) ((w11.1 129 6) - (w11.1 129 5))) 141 ((((40 : Int32) * ((1 : Int32) - (w4.1 129 12))) + (w4.1 129 24)).toInt.toNat) a0)) rfl b13 ?_
        refine tm_go 4 (pc' := 113) (L' := [some (.ref 129), some (.int a0), some (.int (((40 : Int32) * ((1 : Int32) - (w4.1 129 12))) + (w4.1 129 24))), z11_3]) (S' := [.int 0, .int (((40 : Int32) * ((1 : Int32) - (w4.1 129 12))) + (w4.1 129 24)), .ref 142]) (w' := (sI (sI w11 140 ((((40 : Int32) * ((1 : Int32) - (w4.1 129 12))) + (w4.1 129 24)).toInt.toNat) ((w11.1 129 6) - (w11.1 129 5))) 141 ((((40 : Int32) * ((1 : Int32) - (w4.1 129 12))) + (w4.1 129 24)).toInt.toNat) a0)) rfl ?_
        obtain ⟨b14, hs⟩ := hs
        refine tm_k (pc' := 114) (L' := [some (.ref 129), some (.int a0), some (.int (((40 : Int32) * ((1 : Int32) - (w4.1 129 12))) + (w4.1 129 24))), z11_3]) (S' := []) (w' := (sI (sI (sI w11 140 ((((40 : Int32) * ((1 : Int32) - (w4.1 129 12))) + (w4.1 129 24)).toInt.toNat) ((w11.1 129 6) - (w11.1 129 5))) 141 ((((40 : Int32) * ((1 : Int32) - (w4.1 129 12))) + (w4.1 129 24)).toInt.toNat) a0) 142 ((((40 : Int32) * ((1 : Int32) - (w4.1 129 12))) + (w4.1 129 24)).toInt.toNat) 0)) rfl b14 ?_
        refine tm_go 4 (pc' := 120) (L' := [some (.ref 129), some (.int a0), some (.int (((40 : Int32) * ((1 : Int32) - (w4.1 129 12))) + (w4.1 129 24))), z11_3]) (S' := [.int (-1), .int (((40 : Int32) * ((1 : Int32) - (w4.1 129 12))) + (w4.1 129 24)), .ref 143]) (w' := (sI (sI (sI w11 140 ((((40 : Int32) * ((1 : Int32) - (w4.1 129 12))) + (w4.1 129 24)).toInt.toNat) ((w11.1 129 6) - (w11.1 129 5))) 141 ((((40 : Int32) * ((1 : Int32) - (w4.1 129 12))) + (w4.1 129 24)).toInt.toNat) a0) 142 ((((40 : Int32) * ((1 : Int32) - (w4.1 129 12))) + (w4.1 129 24)).toInt.toNat) 0)) rfl ?_
        obtain ⟨b15, hs⟩ := hs
        refine tm_k (pc' := 121) (L' := [some (.ref 129), some (.int a0), some (.int (((40 : Int32) * ((1 : Int32) - (w4.1 129 12))) + (w4.1 129 24))), z11_3]) (S' := []) (w' := (sI (sI (sI (sI w11 140 ((((40 : Int32) * ((1 : Int32) - (w4.1 129 12))) + (w4.1 129 24)).toInt.toNat) ((w11.1 129 6) - (w11.1 129 5))) 141 ((((40 : Int32) * ((1 : Int32) - (w4.1 129 12))) + (w4.1 129 24)).toInt.toNat) a0) 142 ((((40 : Int32) * ((1 : Int32) - (w4.1 129 12))) + (w4.1 129 24)).toInt.toNat) 0) 143 ((((40 : Int32) * ((1 : Int32) - (w4.1 129 12))) + (w4.1 129 24)).toInt.toNat) (-1))) rfl b15 ?_
        refine tm_go 10 (pc' := 137) (L' := [some (.ref 129), some (.int a0), some (.int (((40 : Int32) * ((1 : Int32) - (w4.1 129 12))) + (w4.1 129 24))), z11_3]) (S' := [.int (((w11.1 129 24) + (1 : Int32)) - (1 : Int32))]) (w' := (sI (sI (sI (sI (sI w11 140 ((((40 : Int32) * ((1 : Int32) - (w4.1 129 12))) + (w4.1 129 24)).toInt.toNat) ((w11.1 129 6) - (w11.1 129 5))) 141 ((((40 : Int32) * ((1 : Int32) - (w4.1 129 12))) + (w4.1 129 24)).toInt.toNat) a0) 142 ((((40 : Int32) * ((1 : Int32) - (w4.1 129 12))) + (w4.1 129 24)).toInt.toNat) 0) 143 ((((40 : Int32) * ((1 : Int32) - (w4.1 129 12))) + (w4.1 129 24)).toInt.toNat) (-1)) 129 24 ((w11.1 129 24) + (1 : Int32)))) rfl ?_
        exact tm_r rfl ⟨_, rfl, hs⟩
      · replace hs := hs.2 h7
        refine tm_go 1 (pc' := 25) (L' := [some (.ref 129), some (.int a0), none, none]) (S' := [.ref 129]) (w' := w4) rfl ?_
        refine tm_c rfl (Nat.le_of_ble_eq_true rfl) (dm_Tx_bad (d := d + 0) hs) (fun v w16 hq => ?_)
        obtain ⟨r16, rfl, hs⟩ := hq
        exact tm_r rfl ⟨_, rfl, hs⟩
set_option maxHeartbeats 4000000 in
set_option maxRecDepth 100000 in
theorem dm_Tx_declaration {d : Nat} {w : MW} {Q : Int32 → MW → Prop} (hs : p_Tx_declaration w Q) : Tc (d + 805) 332 [.ref 129] w (RZ Q) := by
  unfold p_Tx_declaration at hs
  refine tm_go 9 (pc' := 15) (L' := [some (.ref 129), some (.int ((w.1 129 4) - (1000 : Int32))), some (.int (w.1 129 7)), none, none, none]) (S' := [.ref 129]) (w' := w) rfl ?_
  refine tm_c rfl (Nat.le_of_ble_eq_true rfl) (dm_Tx_go (d := d + 802) hs) (fun v w1 hq => ?_)
  obtain ⟨r1, rfl, hz1, hs⟩ := hq
  refine tm_i (p1 := 23) (p2 := 21) rfl (fun h2 => ?_) (fun h2 => ?_)
  · replace hs := hs.1 h2
    refine tm_go 2 (pc' := 25) (L' := [some (.ref 129), some (.int ((w.1 129 4) - (1000 : Int32))), some (.int (w.1 129 7)), none, none, none]) (S' := [.int ((w.1 129 4) - (1000 : Int32)), .ref 129]) (w' := w1) rfl ?_
    refine tm_c rfl (Nat.le_of_ble_eq_true rfl) (dm_Tx_tell (d := d + 803) hs) (fun v w3 hq => ?_)
    obtain ⟨r3, rfl, hs⟩ := hq
    refine tm_go 2 (pc' := 30) (L' := [some (.ref 129), some (.int ((w.1 129 4) - (1000 : Int32))), some (.int (w.1 129 7)), some (.int r3), none, none]) (S' := [.int r3]) (w' := w3) rfl ?_
    refine tm_i (p1 := 40) (p2 := 33) rfl (fun h4 => ?_) (fun h4 => ?_)
    · replace hs := hs.1 h4
      refine tm_go 1 (pc' := 41) (L' := [some (.ref 129), some (.int ((w.1 129 4) - (1000 : Int32))), some (.int (w.1 129 7)), some (.int r3), none, none]) (S' := [.int 0]) (w' := w3) rfl ?_
      exact tm_r rfl ⟨_, rfl, by decide, hs⟩
    · replace hs := hs.2 h4
      refine tm_go 1 (pc' := 34) (L' := [some (.ref 129), some (.int ((w.1 129 4) - (1000 : Int32))), some (.int (w.1 129 7)), some (.int r3), none, none]) (S' := [.ref 129]) (w' := w3) rfl ?_
      refine tm_c rfl (Nat.le_of_ble_eq_true rfl) (dm_Tx_go (d := d + 802) hs) (fun v w5 hq => ?_)
      obtain ⟨r5, rfl, hz5, hs⟩ := hq
      refine tm_i (p1 := 42) (p2 := 40) rfl (fun h6 => ?_) (fun h6 => ?_)
      · replace hs := hs.1 h6
        refine tm_go 2 (pc' := 45) (L' := [some (.ref 129), some (.int ((w.1 129 4) - (1000 : Int32))), some (.int (w.1 129 7)), some (.int r3), none, none]) (S' := [.int 24, .int ((w.1 129 4) - (1000 : Int32))]) (w' := w5) rfl ?_
        refine tm_i (p1 := 99) (p2 := 48) rfl (fun h7 => ?_) (fun h7 => ?_)
        · replace hs := hs.1 h7
          refine tm_go 5 (pc' := 107) (L' := [some (.ref 129), some (.int ((w.1 129 4) - (1000 : Int32))), some (.int (w.1 129 7)), some (.int r3), some (.int (w5.1 129 35)), none]) (S' := [.ref 129, .ref 129]) (w' := w5) rfl ?_
          refine tm_c rfl (Nat.le_of_ble_eq_true rfl) (dm_Tx_block (d := d + 0) hs) (fun v w8 hq => ?_)
          obtain ⟨r8, rfl, hs⟩ := hq
          refine tm_c rfl (Nat.le_of_ble_eq_true rfl) (dm_Tx_pushed (d := d + 803) hs) (fun v w9 hq => ?_)
          obtain ⟨r9, rfl, hz9, hs⟩ := hq
          refine tm_i (p1 := 118) (p2 := 116) rfl (fun h10 => ?_) (fun h10 => ?_)
          · replace hs := hs.1 h10
            refine tm_go 7 (pc' := 127) (L' := [some (.ref 129), some (.int ((w.1 129 4) - (1000 : Int32))), some (.int (w.1 129 7)), some (.int r3), some (.int (w5.1 129 35)), none]) (S' := [.int (w5.1 129 35), .int (-1), .int (w.1 129 7), .long (Int32.toInt64 r3), .int 24, .ref 129]) (w' := w9) rfl ?_
            refine tm_c rfl (Nat.le_of_ble_eq_true rfl) (dm_Tx_node0 (d := d + 803) hs) (fun v w11 hq => ?_)
            obtain ⟨r11, rfl, hs⟩ := hq
            refine tm_go 2 (pc' := 134) (L' := [some (.ref 129), some (.int ((w.1 129 4) - (1000 : Int32))), some (.int (w.1 129 7)), some (.int r3), some (.int (w5.1 129 35)), some (.int r11)]) (S' := [.int r11]) (w' := w11) rfl ?_
            refine tm_i (p1 := 139) (p2 := 137) rfl (fun h12 => ?_) (fun h12 => ?_)
            · replace hs := hs.1 h12
              refine tm_go 11 (pc' := 156) (L' := [some (.ref 129), some (.int ((w.1 129 4) - (1000 : Int32))), some (.int (w.1 129 7)), some (.int r3), some (.int (w5.1 129 35)), some (.int r11)]) (S' := [.int r11, .int (((40 : Int32) * ((1 : Int32) - (w11.1 129 12))) + r3), .ref 143]) (w' := w11) rfl ?_
              obtain ⟨b13, hs⟩ := hs
              refine tm_k (pc' := 157) (L' := [some (.ref 129), some (.int ((w.1 129 4) - (1000 : Int32))), some (.int (w.1 129 7)), some (.int r3), some (.int (w5.1 129 35)), some (.int r11)]) (S' := []) (w' := (sI w11 143 ((((40 : Int32) * ((1 : Int32) - (w11.1 129 12))) + r3).toInt.toNat) r11)) rfl b13 ?_
              refine tm_go 3 (pc' := 162) (L' := [some (.ref 129), some (.int ((w.1 129 4) - (1000 : Int32))), some (.int (w.1 129 7)), some (.int r3), some (.int (w5.1 129 35)), some (.int r11)]) (S' := [.ref 129, .ref 138]) (w' := (sI w11 143 ((((40 : Int32) * ((1 : Int32) - (w11.1 129 12))) + r3).toInt.toNat) r11)) rfl ?_
              refine tm_c rfl (Nat.le_of_ble_eq_true rfl) (dm_Tx_base (d := d + 804) hs) (fun v w14 hq => ?_)
              obtain ⟨r14, rfl, hs⟩ := hq
              refine tm_go 4 (pc' := 172) (L' := [some (.ref 129), some (.int ((w.1 129 4) - (1000 : Int32))), some (.int (w.1 129 7)), some (.int r3), some (.int (w5.1 129 35)), some (.int r11)]) (S' := [.int r11, .int (r14 + (w14.1 129 23)), .ref 138]) (w' := w14) rfl ?_
              obtain ⟨b15, hs⟩ := hs
              refine tm_k (pc' := 173) (L' := [some (.ref 129), some (.int ((w.1 129 4) - (1000 : Int32))), some (.int (w.1 129 7)), some (.int r3), some (.int (w5.1 129 35)), some (.int r11)]) (S' := []) (w' := (sI w14 138 ((r14 + (w14.1 129 23)).toInt.toNat) r11)) rfl b15 ?_
              refine tm_go 7 (pc' := 184) (L' := [some (.ref 129), some (.int ((w.1 129 4) - (1000 : Int32))), some (.int (w.1 129 7)), some (.int r3), some (.int (w5.1 129 35)), some (.int r11)]) (S' := [.int 1]) (w' := (sI (sI w14 138 ((r14 + (w14.1 129 23)).toInt.toNat) r11) 129 23 ((w14.1 129 23) + (1 : Int32)))) rfl ?_
              exact tm_r rfl ⟨_, rfl, by decide, hs⟩
            · replace hs := hs.2 h12
              refine tm_go 1 (pc' := 138) (L' := [some (.ref 129), some (.int ((w.1 129 4) - (1000 : Int32))), some (.int (w.1 129 7)), some (.int r3), some (.int (w5.1 129 35)), some (.int r11)]) (S' := [.int 0]) (w' := w11) rfl ?_
              exact tm_r rfl ⟨_, rfl, by decide, hs⟩
          · replace hs := hs.2 h10
            refine tm_go 1 (pc' := 117) (L' := [some (.ref 129), some (.int ((w.1 129 4) - (1000 : Int32))), some (.int (w.1 129 7)), some (.int r3), some (.int (w5.1 129 35)), none]) (S' := [.int 0]) (w' := w9) rfl ?_
            exact tm_r rfl ⟨_, rfl, by decide, hs⟩
        · replace hs := hs.2 h7
          refine tm_go 1 (pc' := 49) (L' := [some (.ref 129), some (.int ((w.1 129 4) - (1000 : Int32))), some (.int (w.1 129 7)), some (.int r3), none, none]) (S' := [.ref 129]) (w' := w5) rfl ?_
          refine tm_c rfl (Nat.le_of_ble_eq_true rfl) (dm_Tx_unitWord (d := d + 804) hs) (fun v w16 hq => ?_)
          obtain ⟨r16, rfl, hs⟩ := hq
          refine tm_go 12 (pc' := 71) (L' := [some (.ref 129), some (.int ((w.1 129 4) - (1000 : Int32))), some (.int (w.1 129 7)), some (.int r3), some (.int r16), none]) (S' := [.int r16, .int (((40 : Int32) * ((1 : Int32) - (w16.1 129 12))) + r3), .ref 142]) (w' := w16) rfl ?_
          obtain ⟨b17, hs⟩ := hs
          refine tm_k (pc' := 72) (L' := [some (.ref 129), some (.int ((w.1 129 4) - (1000 : Int32))), some (.int (w.1 129 7)), some (.int r3), some (.int r16), none]) (S' := []) (w' := (sI w16 142 ((((40 : Int32) * ((1 : Int32) - (w16.1 129 12))) + r3).toInt.toNat) r16)) rfl b17 ?_
          refine tm_go 1 (pc' := 74) (L' := [some (.ref 129), some (.int ((w.1 129 4) - (1000 : Int32))), some (.int (w.1 129 7)), some (.int r3), some (.int r16), none]) (S' := [.int r16]) (w' := (sI w16 142 ((((40 : Int32) * ((1 : Int32) - (w16.1 129 12))) + r3).toInt.toNat) r16)) rfl ?_
          refine tm_i (p1 := 84) (p2 := 77) rfl (fun h18 => ?_) (fun h18 => ?_)
          · replace hs := hs.1 h18
            refine tm_go 2 (pc' := 87) (L' := [some (.ref 129), some (.int ((w.1 129 4) - (1000 : Int32))), some (.int (w.1 129 7)), some (.int r3), some (.int r16), none]) (S' := [.int 59, .ref 129]) (w' := (sI w16 142 ((((40 : Int32) * ((1 : Int32) - (w16.1 129 12))) + r3).toInt.toNat) r16)) rfl ?_
            refine tm_c rfl (Nat.le_of_ble_eq_true rfl) (dm_Tx_over (d := d + 801) hs) (fun v w19 hq => ?_)
            obtain ⟨r19, rfl, hz19, hs⟩ := hq
            refine tm_i (p1 := 97) (p2 := 93) rfl (fun h20 => ?_) (fun h20 => ?_)
            · replace hs := hs.1 h20
              refine tm_go 1 (pc' := 98) (L' := [some (.ref 129), some (.int ((w.1 129 4) - (1000 : Int32))), some (.int (w.1 129 7)), some (.int r3), some (.int r16), none]) (S' := [.int 0]) (w' := w19) rfl ?_
              exact tm_r rfl ⟨_, rfl, by decide, hs⟩
            · replace hs := hs.2 h20
              refine tm_go 2 (pc' := 98) (L' := [some (.ref 129), some (.int ((w.1 129 4) - (1000 : Int32))), some (.int (w.1 129 7)), some (.int r3), some (.int r16), none]) (S' := [.int 1]) (w' := w19) rfl ?_
              exact tm_r rfl ⟨_, rfl, by decide, hs⟩
          · replace hs := hs.2 h18
            refine tm_go 1 (pc' := 78) (L' := [some (.ref 129), some (.int ((w.1 129 4) - (1000 : Int32))), some (.int (w.1 129 7)), some (.int r3), some (.int r16), none]) (S' := [.ref 129]) (w' := (sI w16 142 ((((40 : Int32) * ((1 : Int32) - (w16.1 129 12))) + r3).toInt.toNat) r16)) rfl ?_
            refine tm_c rfl (Nat.le_of_ble_eq_true rfl) (dm_Tx_go (d := d + 802) hs) (fun v w21 hq => ?_)
            obtain ⟨r21, rfl, hz21, hs⟩ := hq
            refine tm_i (p1 := 97) (p2 := 84) rfl (fun h22 => ?_) (fun h22 => ?_)
            · replace hs := hs.1 h22
              refine tm_go 1 (pc' := 98) (L' := [some (.ref 129), some (.int ((w.1 129 4) - (1000 : Int32))), some (.int (w.1 129 7)), some (.int r3), some (.int r16), none]) (S' := [.int 0]) (w' := w21) rfl ?_
              exact tm_r rfl ⟨_, rfl, by decide, hs⟩
            · replace hs := hs.2 h22
              refine tm_go 2 (pc' := 87) (L' := [some (.ref 129), some (.int ((w.1 129 4) - (1000 : Int32))), some (.int (w.1 129 7)), some (.int r3), some (.int r16), none]) (S' := [.int 59, .ref 129]) (w' := w21) rfl ?_
              refine tm_c rfl (Nat.le_of_ble_eq_true rfl) (dm_Tx_over (d := d + 801) hs) (fun v w23 hq => ?_)
              obtain ⟨r23, rfl, hz23, hs⟩ := hq
              refine tm_i (p1 := 97) (p2 := 93) rfl (fun h24 => ?_) (fun h24 => ?_)
              · replace hs := hs.1 h24
                refine tm_go 1 (pc' := 98) (L' := [some (.ref 129), some (.int ((w.1 129 4) - (1000 : Int32))), some (.int (w.1 129 7)), some (.int r3), some (.int r16), none]) (S' := [.int 0]) (w' := w23) rfl ?_
                exact tm_r rfl ⟨_, rfl, by decide, hs⟩
              · replace hs := hs.2 h24
                refine tm_go 2 (pc' := 98) (L' := [some (.ref 129), some (.int ((w.1 129 4) - (1000 : Int32))), some (.int (w.1 129 7)), some (.int r3), some (.int r16), none]) (S' := [.int 1]) (w' := w23) rfl ?_
                exact tm_r rfl ⟨_, rfl, by decide, hs⟩
      · replace hs := hs.2 h6
        refine tm_go 1 (pc' := 41) (L' := [some (.ref 129), some (.int ((w.1 129 4) - (1000 : Int32))), some (.int (w.1 129 7)), some (.int r3), none, none]) (S' := [.int 0]) (w' := w5) rfl ?_
        exact tm_r rfl ⟨_, rfl, by decide, hs⟩
  · replace hs := hs.2 h2
    refine tm_go 1 (pc' := 22) (L' := [some (.ref 129), some (.int ((w.1 129 4) - (1000 : Int32))), some (.int (w.1 129 7)), none, none, none]) (S' := [.int 0]) (w' := w1) rfl ?_
    exact tm_r rfl ⟨_, rfl, by decide, hs⟩
set_option maxHeartbeats 4000000 in
set_option maxRecDepth 100000 in
theorem tx_Tx_program_5 {d : Nat} {E : Int32 → MW → Prop} {Q : Int32 → MW → Prop} (n : Nat) : ∀ (x5_1 : Int32)  (z2 : Option Value) (w : MW), q_Tx_program_5  E Q n x5_1 w → (∀ (e5_1 : Int32)  (v2 : Option Value) (w : MW), E e5_1 w → Tm (d + 806) 333 44 [some (.ref 129), some (.int e5_1), v2] [] w (RZ Q)) → Tm (d + 806) 333 5 [some (.ref 129), some (.int x5_1), z2] [] w (RZ Q) := by
  induction n with
  | zero => intro x5_1 z2 w hs; rw [q_Tx_program_5.eq_1] at hs; exact hs.elim
  | succ n ih =>
    intro x5_1 z2 w hs hE
    rw [q_Tx_program_5.eq_2] at hs
    refine tm_go 1 (pc' := 6) (L' := [some (.ref 129), some (.int x5_1), z2]) (S' := [.int x5_1]) (w' := w) rfl ?_
    refine tm_i (p1 := 44) (p2 := 9) rfl (fun h2 => ?_) (fun h2 => ?_)
    · replace hs := hs.1 h2
      exact hE _ _ _ hs
    · replace hs := hs.2 h2
      refine tm_go 2 (pc' := 12) (L' := [some (.ref 129), some (.int x5_1), z2]) (S' := [.int 30, .ref 129]) (w' := w) rfl ?_
      refine tm_c rfl (Nat.le_of_ble_eq_true rfl) (dm_Tx_isWord (d := d + 805) hs) (fun v w3 hq => ?_)
      obtain ⟨r3, rfl, hz3, hs⟩ := hq
      refine tm_i (p1 := 36) (p2 := 18) rfl (fun h4 => ?_) (fun h4 => ?_)
      · replace hs := hs.1 h4
        refine tm_go 1 (pc' := 37) (L' := [some (.ref 129), some (.int x5_1), z2]) (S' := [.ref 129]) (w' := w3) rfl ?_
        refine tm_c rfl (Nat.le_of_ble_eq_true rfl) (dm_Tx_declaration (d := d + 0) hs) (fun v w5 hq => ?_)
        obtain ⟨r5, rfl, hz5, hs⟩ := hq
        refine tm_go 2 (pc' := 5) (L' := [some (.ref 129), some (.int r5), z2]) (S' := []) (w' := w5) rfl ?_
        exact ih _ _ _ hs hE
      · replace hs := hs.2 h4
        refine tm_go 2 (pc' := 21) (L' := [some (.ref 129), some (.int x5_1), z2]) (S' := [.int 31, .ref 129]) (w' := w3) rfl ?_
        refine tm_c rfl (Nat.le_of_ble_eq_true rfl) (dm_Tx_isWord (d := d + 805) hs) (fun v w6 hq => ?_)
        obtain ⟨r6, rfl, hz6, hs⟩ := hq
        refine tm_i (p1 := 36) (p2 := 27) rfl (fun h7 => ?_) (fun h7 => ?_)
        · replace hs := hs.1 h7
          refine tm_go 1 (pc' := 37) (L' := [some (.ref 129), some (.int x5_1), z2]) (S' := [.ref 129]) (w' := w6) rfl ?_
          refine tm_c rfl (Nat.le_of_ble_eq_true rfl) (dm_Tx_declaration (d := d + 0) hs) (fun v w8 hq => ?_)
          obtain ⟨r8, rfl, hz8, hs⟩ := hq
          refine tm_go 2 (pc' := 5) (L' := [some (.ref 129), some (.int r8), z2]) (S' := []) (w' := w8) rfl ?_
          exact ih _ _ _ hs hE
        · replace hs := hs.2 h7
          refine tm_go 2 (pc' := 30) (L' := [some (.ref 129), some (.int x5_1), z2]) (S' := [.int 24, .ref 129]) (w' := w6) rfl ?_
          refine tm_c rfl (Nat.le_of_ble_eq_true rfl) (dm_Tx_isWord (d := d + 805) hs) (fun v w9 hq => ?_)
          obtain ⟨r9, rfl, hz9, hs⟩ := hq
          refine tm_i (p1 := 44) (p2 := 36) rfl (fun h10 => ?_) (fun h10 => ?_)
          · replace hs := hs.1 h10
            exact hE _ _ _ hs
          · replace hs := hs.2 h10
            refine tm_go 1 (pc' := 37) (L' := [some (.ref 129), some (.int x5_1), z2]) (S' := [.ref 129]) (w' := w9) rfl ?_
            refine tm_c rfl (Nat.le_of_ble_eq_true rfl) (dm_Tx_declaration (d := d + 0) hs) (fun v w11 hq => ?_)
            obtain ⟨r11, rfl, hz11, hs⟩ := hq
            refine tm_go 2 (pc' := 5) (L' := [some (.ref 129), some (.int r11), z2]) (S' := []) (w' := w11) rfl ?_
            exact ih _ _ _ hs hE
set_option maxHeartbeats 4000000 in
set_option maxRecDepth 100000 in
theorem tx_Tx_program_70 {d : Nat} {y70_2 : Int32} {ys70_0 : Int32} {z1 : Option Value} {w : MW} {A : Int32 → MW → Prop} {E : Int32 → MW → Prop} {Q : Int32 → MW → Prop} (hs : q_Tx_program_70 y70_2 ys70_0 w A E Q) (hA : ∀ (x44_1 : Int32)  (z2 : Option Value) (w : MW), A x44_1 w → Tm (d + 806) 333 44 [some (.ref 129), some (.int x44_1), z2] [] w (RZ Q)) (hE : ∀ (e44_1 : Int32)  (v0 : Option Value) (v2 : Option Value) (w : MW), E e44_1 w → Tm (d + 806) 333 103 [v0, some (.int e44_1), v2] [] w (RZ Q)) : Tm (d + 806) 333 70 [some (.ref 129), z1, some (.int y70_2)] [.int ys70_0] w (RZ Q) := by
  unfold q_Tx_program_70 at hs
  refine tm_go 2 (pc' := 72) (L' := [some (.ref 129), some (.int ys70_0), some (.int y70_2)]) (S' := [.int ys70_0]) (w' := w) rfl ?_
  refine tm_i (p1 := 100) (p2 := 75) rfl (fun h17 => ?_) (fun h17 => ?_)
  · replace hs := hs.1 h17
    refine tm_go 1 (pc' := 44) (L' := [some (.ref 129), some (.int ys70_0), some (.int y70_2)]) (S' := []) (w' := w) rfl ?_
    exact hA _ _ _ hs
  · replace hs := hs.2 h17
    refine tm_go 3 (pc' := 80) (L' := [some (.ref 129), some (.int ys70_0), some (.int y70_2)]) (S' := [.ref 129, .ref 138]) (w' := w) rfl ?_
    refine tm_c rfl (Nat.le_of_ble_eq_true rfl) (dm_Tx_base (d := d + 805) hs) (fun v w18 hq => ?_)
    obtain ⟨r18, rfl, hs⟩ := hq
    refine tm_go 4 (pc' := 89) (L' := [some (.ref 129), some (.int ys70_0), some (.int y70_2)]) (S' := [.int y70_2, .int (r18 + (w18.1 129 23)), .ref 138]) (w' := w18) rfl ?_
    obtain ⟨b19, hs⟩ := hs
    refine tm_k (pc' := 90) (L' := [some (.ref 129), some (.int ys70_0), some (.int y70_2)]) (S' := []) (w' := (sI w18 138 ((r18 + (w18.1 129 23)).toInt.toNat) y70_2)) rfl b19 ?_
    refine tm_go 7 (pc' := 44) (L' := [some (.ref 129), some (.int ys70_0), some (.int y70_2)]) (S' := []) (w' := (sI (sI w18 138 ((r18 + (w18.1 129 23)).toInt.toNat) y70_2) 129 23 ((w18.1 129 23) + (1 : Int32)))) rfl ?_
    exact hA _ _ _ hs
set_option maxHeartbeats 4000000 in
set_option maxRecDepth 100000 in
theorem tx_Tx_program_44 {d : Nat} {E : Int32 → MW → Prop} {Q : Int32 → MW → Prop} (n : Nat) : ∀ (x44_1 : Int32)  (z2 : Option Value) (w : MW), q_Tx_program_44  E Q n x44_1 w → (∀ (e44_1 : Int32)  (v0 : Option Value) (v2 : Option Value) (w : MW), E e44_1 w → Tm (d + 806) 333 103 [v0, some (.int e44_1), v2] [] w (RZ Q)) → Tm (d + 806) 333 44 [some (.ref 129), some (.int x44_1), z2] [] w (RZ Q) := by
  induction n with
  | zero => intro x44_1 z2 w hs; rw [q_Tx_program_44.eq_1] at hs; exact hs.elim
  | succ n ih =>
    intro x44_1 z2 w hs hE
    rw [q_Tx_program_44.eq_2] at hs
    refine tm_go 1 (pc' := 45) (L' := [some (.ref 129), some (.int x44_1), z2]) (S' := [.int x44_1]) (w' := w) rfl ?_
    refine tm_i (p1 := 103) (p2 := 48) rfl (fun h13 => ?_) (fun h13 => ?_)
    · replace hs := hs.1 h13
      exact hE _ _ _ _ hs
    · replace hs := hs.2 h13
      refine tm_go 3 (pc' := 53) (L' := [some (.ref 129), some (.int x44_1), z2]) (S' := [.int 1, .int (w.1 129 4)]) (w' := w) rfl ?_
      refine tm_i (p1 := 103) (p2 := 56) rfl (fun h14 => ?_) (fun h14 => ?_)
      · replace hs := hs.1 h14
        exact hE _ _ _ _ hs
      · replace hs := hs.2 h14
        refine tm_go 1 (pc' := 57) (L' := [some (.ref 129), some (.int x44_1), z2]) (S' := [.ref 129]) (w' := w) rfl ?_
        refine tm_c rfl (Nat.le_of_ble_eq_true rfl) (dm_Tx_statement (d := d + 1) hs) (fun v w15 hq => ?_)
        obtain ⟨r15, rfl, hs⟩ := hq
        refine tm_go 2 (pc' := 62) (L' := [some (.ref 129), some (.int x44_1), some (.int r15)]) (S' := [.int r15]) (w' := w15) rfl ?_
        refine tm_i (p1 := 69) (p2 := 65) rfl (fun h16 => ?_) (fun h16 => ?_)
        · replace hs := hs.1 h16
          refine tm_go 1 (pc' := 70) (L' := [some (.ref 129), some (.int x44_1), some (.int r15)]) (S' := [.int 0]) (w' := w15) rfl ?_
          exact tx_Tx_program_70 hs (fun q0 q1 q2 hs => ih q0 q1 q2 hs hE) hE
        · replace hs := hs.2 h16
          refine tm_go 2 (pc' := 70) (L' := [some (.ref 129), some (.int x44_1), some (.int r15)]) (S' := [.int 1]) (w' := w15) rfl ?_
          exact tx_Tx_program_70 hs (fun q0 q1 q2 hs => ih q0 q1 q2 hs hE) hE
set_option maxHeartbeats 4000000 in
set_option maxRecDepth 100000 in
theorem dm_Tx_program {d : Nat} {w : MW} {Q : Int32 → MW → Prop} (hs : p_Tx_program w Q) : Tc (d + 806) 333 [.ref 129] w (RZ Q) := by
  unfold p_Tx_program at hs
  refine tm_go 1 (pc' := 1) (L' := [some (.ref 129), none, none]) (S' := [.ref 129]) (w' := w) rfl ?_
  refine tm_c rfl (Nat.le_of_ble_eq_true rfl) (dm_Tx_go (d := d + 803) hs) (fun v w1 hq => ?_)
  obtain ⟨r1, rfl, hz1, hs⟩ := hq
  refine tm_go 1 (pc' := 5) (L' := [some (.ref 129), some (.int r1), none]) (S' := []) (w' := w1) rfl ?_
  refine tx_Tx_program_5 FU _ _ _ hs (fun e5_1_12 z12_2 w12 hs => ?_)
  refine tx_Tx_program_44 FU _ _ _ hs (fun e44_1_20 z20_0 z20_2 w20 hs => ?_)
  refine tm_go 1 (pc' := 104) (L' := [z20_0, some (.int e44_1_20), z20_2]) (S' := [.int e44_1_20]) (w' := w20) rfl ?_
  obtain ⟨b21, hs⟩ := hs
  exact tm_rk rfl b21 ⟨_, rfl, b21, hs⟩
set_option maxHeartbeats 4000000 in
set_option maxRecDepth 100000 in
theorem tx_Tx_read_69 {d : Nat} {ys69_0 : Int32} {z1 : Option Value} {w : MW} {Q : Int32 → MW → Prop} (hs : q_Tx_read_69 ys69_0 w Q) : Tm (d + 807) 335 69 [some (.ref 129), z1] [.int ys69_0] w (RI Q) := by
  unfold q_Tx_read_69 at hs
  refine tm_go 5 (pc' := 76) (L' := [some (.ref 129), some (.int ys69_0)]) (S' := [.int ys69_0]) (w' := (sI w 129 1 0)) rfl ?_
  refine tm_i (p1 := 86) (p2 := 79) rfl (fun h3 => ?_) (fun h3 => ?_)
  · replace hs := hs.1 h3
    refine tm_go 24 (pc' := 132) (L' := [some (.ref 129), some (.int ys69_0)]) (S' := [.int (w.1 129 38)]) (w' := (sI (sI (sI (sI (sI (sI w 129 1 0) 129 12 ((1 : Int32) - (w.1 129 12))) 129 30 (w.1 129 13)) 129 31 (w.1 129 23)) 129 32 (w.1 129 24)) 129 33 (w.1 129 38))) rfl ?_
    exact tm_r rfl ⟨_, rfl, hs⟩
  · replace hs := hs.2 h3
    refine tm_go 4 (pc' := 85) (L' := [some (.ref 129), some (.int ys69_0)]) (S' := [.int (((-1) : Int32) - (w.1 129 10))]) (w' := (sI w 129 1 0)) rfl ?_
    exact tm_r rfl ⟨_, rfl, hs⟩
set_option maxHeartbeats 4000000 in
set_option maxRecDepth 100000 in
theorem dm_Tx_read {d : Nat} {w : MW} {Q : Int32 → MW → Prop} (hs : p_Tx_read w Q) : Tc (d + 807) 335 [.ref 129] w (RI Q) := by
  unfold p_Tx_read at hs
  refine tm_go 31 (pc' := 51) (L' := [some (.ref 129), none]) (S' := [.ref 129]) (w' := (sI (sI (sI (sI (sI (sI (sI (sI (sI (sI w 129 2 0) 129 3 1) 129 11 0) 129 13 0) 129 21 0) 129 23 0) 129 24 0) 129 35 0) 129 38 0) 129 10 (-1))) rfl ?_
  refine tm_c rfl (Nat.le_of_ble_eq_true rfl) (dm_Tx_program (d := d + 0) hs) (fun v w1 hq => ?_)
  obtain ⟨r1, rfl, hz1, hs⟩ := hq
  refine tm_i (p1 := 68) (p2 := 57) rfl (fun h2 => ?_) (fun h2 => ?_)
  · replace hs := hs.1 h2
    refine tm_go 1 (pc' := 69) (L' := [some (.ref 129), none]) (S' := [.int 0]) (w' := w1) rfl ?_
    exact tx_Tx_read_69 hs 
  · replace hs := hs.2 h2
    refine tm_go 1 (pc' := 58) (L' := [some (.ref 129), none]) (S' := [.ref 129]) (w' := w1) rfl ?_
    refine tm_c rfl (Nat.le_of_ble_eq_true rfl) (dm_Tx_isSmall (d := d + 805) hs) (fun v w4 hq => ?_)
    obtain ⟨r4, rfl, hz4, hs⟩ := hq
    refine tm_i (p1 := 68) (p2 := 64) rfl (fun h5 => ?_) (fun h5 => ?_)
    · replace hs := hs.1 h5
      refine tm_go 1 (pc' := 69) (L' := [some (.ref 129), none]) (S' := [.int 0]) (w' := w4) rfl ?_
      exact tx_Tx_read_69 hs 
    · replace hs := hs.2 h5
      refine tm_go 2 (pc' := 69) (L' := [some (.ref 129), none]) (S' := [.int 1]) (w' := w4) rfl ?_
      exact tx_Tx_read_69 hs 
set_option maxHeartbeats 4000000 in
set_option maxRecDepth 100000 in
theorem dm_Tx_unit {d : Nat} {w : MW} {a0 : Int32} {Q : Int32 → MW → Prop} (hs : p_Tx_unit w a0 Q) : Tc (d + 0) 303 [.ref 129, .int a0] w (RZ Q) := by
  unfold p_Tx_unit at hs
  refine tm_go 2 (pc' := 2) (L' := [some (.ref 129), some (.int a0)]) (S' := [.int 1, .int a0]) (w' := w) rfl ?_
  refine tm_i (p1 := 21) (p2 := 5) rfl (fun h1 => ?_) (fun h1 => ?_)
  · replace hs := hs.1 h1
    refine tm_go 1 (pc' := 22) (L' := [some (.ref 129), some (.int a0)]) (S' := [.int 0]) (w' := w) rfl ?_
    exact tm_r rfl ⟨_, rfl, by decide, hs⟩
  · replace hs := hs.2 h1
    refine tm_go 2 (pc' := 8) (L' := [some (.ref 129), some (.int a0)]) (S' := [.int 127, .int a0]) (w' := w) rfl ?_
    refine tm_i (p1 := 21) (p2 := 11) rfl (fun h2 => ?_) (fun h2 => ?_)
    · replace hs := hs.1 h2
      refine tm_go 1 (pc' := 22) (L' := [some (.ref 129), some (.int a0)]) (S' := [.int 0]) (w' := w) rfl ?_
      exact tm_r rfl ⟨_, rfl, by decide, hs⟩
    · replace hs := hs.2 h2
      refine tm_go 3 (pc' := 18) (L' := [some (.ref 129), some (.int a0)]) (S' := [.int 4020, .int (w.1 129 1)]) (w' := w) rfl ?_
      refine tm_i (p1 := 23) (p2 := 21) rfl (fun h3 => ?_) (fun h3 => ?_)
      · replace hs := hs.1 h3
        refine tm_go 6 (pc' := 33) (L' := [some (.ref 129), some (.int a0)]) (S' := [.int ((Int32.toInt8 a0).toInt32), .int (w.1 129 1), .ref 130]) (w' := w) rfl ?_
        obtain ⟨b4, hs⟩ := hs
        refine tm_k (pc' := 34) (L' := [some (.ref 129), some (.int a0)]) (S' := []) (w' := (sI w 130 ((w.1 129 1).toInt.toNat) (vp_nar .byte ((Int32.toInt8 a0).toInt32)))) rfl b4 ?_
        refine tm_go 7 (pc' := 45) (L' := [some (.ref 129), some (.int a0)]) (S' := [.int 1]) (w' := (sI (sI w 130 ((w.1 129 1).toInt.toNat) (vp_nar .byte ((Int32.toInt8 a0).toInt32))) 129 1 ((w.1 129 1) + (1 : Int32)))) rfl ?_
        exact tm_r rfl ⟨_, rfl, by decide, hs⟩
      · replace hs := hs.2 h3
        refine tm_go 1 (pc' := 22) (L' := [some (.ref 129), some (.int a0)]) (S' := [.int 0]) (w' := w) rfl ?_
        exact tm_r rfl ⟨_, rfl, by decide, hs⟩
set_option maxHeartbeats 4000000 in
set_option maxRecDepth 100000 in
theorem tx_Mo_end_37 {d : Nat} {x37_1 : Int32} {x37_2 : Int32} {E : Int32 → MW → Prop} {Q : Int32 → MW → Prop} (n : Nat) : ∀ (x37_3 : Int32) (x37_4 : Int32)  (z5 : Option Value) (w : MW), q_Mo_end_37 x37_1 x37_2 E Q n x37_3 x37_4 w → (∀ (e37_3 : Int32)  (v4 : Option Value) (v5 : Option Value) (w : MW), E e37_3 w → Tm (d + 808) 37 69 [some (.ref 127), some (.int x37_1), some (.int x37_2), some (.int e37_3), v4, v5] [] w (RI Q)) → Tm (d + 808) 37 37 [some (.ref 127), some (.int x37_1), some (.int x37_2), some (.int x37_3), some (.int x37_4), z5] [] w (RI Q) := by
  induction n with
  | zero => intro x37_3 x37_4 z5 w hs; rw [q_Mo_end_37.eq_1] at hs; exact hs.elim
  | succ n ih =>
    intro x37_3 x37_4 z5 w hs hE
    rw [q_Mo_end_37.eq_2] at hs
    refine tm_go 2 (pc' := 40) (L' := [some (.ref 127), some (.int x37_1), some (.int x37_2), some (.int x37_3), some (.int x37_4), z5]) (S' := [.int x37_2, .int x37_4]) (w' := w) rfl ?_
    refine tm_i (p1 := 69) (p2 := 43) rfl (fun h2 => ?_) (fun h2 => ?_)
    · replace hs := hs.1 h2
      exact hE _ _ _ _ hs
    · replace hs := hs.2 h2
      refine tm_go 1 (pc' := 44) (L' := [some (.ref 127), some (.int x37_1), some (.int x37_2), some (.int x37_3), some (.int x37_4), z5]) (S' := [.int x37_3]) (w' := w) rfl ?_
      refine tm_i (p1 := 69) (p2 := 47) rfl (fun h3 => ?_) (fun h3 => ?_)
      · replace hs := hs.1 h3
        exact hE _ _ _ _ hs
      · replace hs := hs.2 h3
        refine tm_go 3 (pc' := 53) (L' := [some (.ref 127), some (.int x37_1), some (.int x37_2), some (.int x37_3), some (.int x37_4), z5]) (S' := [.int x37_4, .ref 128]) (w' := w) rfl ?_
        obtain ⟨b4, hs⟩ := hs
        refine tm_k (pc' := 54) (L' := [some (.ref 127), some (.int x37_1), some (.int x37_2), some (.int x37_3), some (.int x37_4), z5]) (S' := [.int (w.1 128 x37_4.toInt.toNat)]) (w' := w) rfl b4 ?_
        refine tm_i (p1 := 61) (p2 := 57) rfl (fun h5 => ?_) (fun h5 => ?_)
        · replace hs := hs.1 h5
          refine tm_go 4 (pc' := 37) (L' := [some (.ref 127), some (.int x37_1), some (.int x37_2), some (.int 0), some (.int (x37_4 + (1 : Int32))), z5]) (S' := []) (w' := w) rfl ?_
          exact ih _ _ _ _ hs hE
        · replace hs := hs.2 h5
          refine tm_go 5 (pc' := 37) (L' := [some (.ref 127), some (.int x37_1), some (.int x37_2), some (.int 1), some (.int (x37_4 + (1 : Int32))), z5]) (S' := []) (w' := w) rfl ?_
          exact ih _ _ _ _ hs hE
set_option maxHeartbeats 4000000 in
set_option maxRecDepth 100000 in
theorem tx_Mo_end_97 {d : Nat} {x97_1 : Int32} {x97_2 : Int32} {E : MW → Prop} {Q : Int32 → MW → Prop} (n : Nat) : ∀ (x97_4 : Int32)  (z3 : Option Value) (z5 : Option Value) (w : MW), q_Mo_end_97 x97_1 x97_2 E Q n x97_4 w → (∀  (v2 : Option Value) (v3 : Option Value) (v4 : Option Value) (v5 : Option Value) (w : MW), E  w → Tm (d + 808) 37 147 [some (.ref 127), some (.int x97_1), v2, v3, v4, v5] [] w (RI Q)) → Tm (d + 808) 37 97 [some (.ref 127), some (.int x97_1), some (.int x97_2), z3, some (.int x97_4), z5] [] w (RI Q) := by
  induction n with
  | zero => intro x97_4 z3 z5 w hs; rw [q_Mo_end_97.eq_1] at hs; exact hs.elim
  | succ n ih =>
    intro x97_4 z3 z5 w hs hE
    rw [q_Mo_end_97.eq_2] at hs
    refine tm_go 2 (pc' := 100) (L' := [some (.ref 127), some (.int x97_1), some (.int x97_2), z3, some (.int x97_4), z5]) (S' := [.int x97_2, .int x97_4]) (w' := w) rfl ?_
    refine tm_i (p1 := 147) (p2 := 103) rfl (fun h9 => ?_) (fun h9 => ?_)
    · replace hs := hs.1 h9
      exact hE _ _ _ _ _ hs
    · replace hs := hs.2 h9
      refine tm_go 2 (pc' := 105) (L' := [some (.ref 127), some (.int x97_1), some (.int x97_2), z3, some (.int x97_4), z5]) (S' := [.int 1, .int x97_1]) (w' := w) rfl ?_
      refine tm_i (p1 := 125) (p2 := 108) rfl (fun h10 => ?_) (fun h10 => ?_)
      · replace hs := hs.1 h10
        refine tm_go 5 (pc' := 135) (L' := [some (.ref 127), some (.int x97_1), some (.int x97_2), z3, some (.int x97_4), z5]) (S' := [.int x97_4, .ref 128, .ref 129]) (w' := w) rfl ?_
        obtain ⟨b11, hs⟩ := hs
        refine tm_k (pc' := 136) (L' := [some (.ref 127), some (.int x97_1), some (.int x97_2), z3, some (.int x97_4), z5]) (S' := [.int (w.1 128 x97_4.toInt.toNat), .ref 129]) (w' := w) rfl b11 ?_
        refine tm_c rfl (Nat.le_of_ble_eq_true rfl) (dm_Tx_unit (d := d + 807) hs) (fun v w12 hq => ?_)
        obtain ⟨r12, rfl, hz12, hs⟩ := hq
        refine tm_go 3 (pc' := 97) (L' := [some (.ref 127), some (.int x97_1), some (.int x97_2), (ksl z3), some (.int (x97_4 + (1 : Int32))), some (.int r12)]) (S' := []) (w' := w12) rfl ?_
        exact ih _ _ _ _ hs hE
      · replace hs := hs.2 h10
        refine tm_go 5 (pc' := 118) (L' := [some (.ref 127), some (.int x97_1), some (.int x97_2), z3, some (.int x97_4), z5]) (S' := [.int x97_4, .ref 128, .ref 147]) (w' := w) rfl ?_
        obtain ⟨b13, hs⟩ := hs
        refine tm_k (pc' := 119) (L' := [some (.ref 127), some (.int x97_1), some (.int x97_2), z3, some (.int x97_4), z5]) (S' := [.int (w.1 128 x97_4.toInt.toNat), .ref 147]) (w' := w) rfl b13 ?_
        refine tm_c rfl (Nat.le_of_ble_eq_true rfl) (dm_Mr_unit (d := d + 807) hs) (fun v w14 hq => ?_)
        obtain ⟨r14, rfl, hz14, hs⟩ := hq
        refine tm_go 4 (pc' := 97) (L' := [some (.ref 127), some (.int x97_1), some (.int x97_2), (ksl z3), some (.int (x97_4 + (1 : Int32))), some (.int r14)]) (S' := []) (w' := w14) rfl ?_
        exact ih _ _ _ _ hs hE
set_option maxHeartbeats 4000000 in
set_option maxRecDepth 100000 in
theorem tx_Mo_end_193 {d : Nat} {x193_4 : Int32} {E : MW → Prop} {Q : Int32 → MW → Prop} (n : Nat) : ∀ (x193_5 : Int32)  (z1 : Option Value) (z2 : Option Value) (z3 : Option Value) (w : MW), q_Mo_end_193 x193_4 E Q n x193_5 w → (∀  (v0 : Option Value) (v1 : Option Value) (v2 : Option Value) (v3 : Option Value) (v5 : Option Value) (w : MW), E  w → Tm (d + 808) 37 222 [v0, v1, v2, v3, some (.int x193_4), v5] [] w (RI Q)) → Tm (d + 808) 37 193 [some (.ref 127), z1, z2, z3, some (.int x193_4), some (.int x193_5)] [] w (RI Q) := by
  induction n with
  | zero => intro x193_5 z1 z2 z3 w hs; rw [q_Mo_end_193.eq_1] at hs; exact hs.elim
  | succ n ih =>
    intro x193_5 z1 z2 z3 w hs hE
    rw [q_Mo_end_193.eq_2] at hs
    refine tm_go 2 (pc' := 197) (L' := [some (.ref 127), z1, z2, z3, some (.int x193_4), some (.int x193_5)]) (S' := [.int 40, .int x193_5]) (w' := w) rfl ?_
    refine tm_i (p1 := 222) (p2 := 200) rfl (fun h23 => ?_) (fun h23 => ?_)
    · replace hs := hs.1 h23
      exact hE _ _ _ _ _ _ hs
    · replace hs := hs.2 h23
      refine tm_go 4 (pc' := 207) (L' := [some (.ref 127), z1, z2, z3, some (.int x193_4), some (.int x193_5)]) (S' := [.int (-1), .int x193_5, .ref 201]) (w' := w) rfl ?_
      obtain ⟨b24, hs⟩ := hs
      refine tm_k (pc' := 208) (L' := [some (.ref 127), z1, z2, z3, some (.int x193_4), some (.int x193_5)]) (S' := []) (w' := (sI w 201 x193_5.toInt.toNat (-1))) rfl b24 ?_
      refine tm_go 4 (pc' := 215) (L' := [some (.ref 127), z1, z2, z3, some (.int x193_4), some (.int x193_5)]) (S' := [.long 0, .int x193_5, .ref 206]) (w' := (sI w 201 x193_5.toInt.toNat (-1))) rfl ?_
      obtain ⟨b25, hs⟩ := hs
      refine tm_k (pc' := 216) (L' := [some (.ref 127), z1, z2, z3, some (.int x193_4), some (.int x193_5)]) (S' := []) (w' := (sJ (sI w 201 x193_5.toInt.toNat (-1)) 206 x193_5.toInt.toNat 0)) rfl b25 ?_
      refine tm_go 2 (pc' := 193) (L' := [some (.ref 127), z1, z2, z3, some (.int x193_4), some (.int (x193_5 + (1 : Int32)))]) (S' := []) (w' := (sJ (sI w 201 x193_5.toInt.toNat (-1)) 206 x193_5.toInt.toNat 0)) rfl ?_
      exact ih _ _ _ _ _ hs hE
set_option maxHeartbeats 4000000 in
set_option maxRecDepth 100000 in
theorem tx_Mo_end_169 {d : Nat} {y169_1 : Int32} {ys169_0 : Int32} {z2 : Option Value} {z3 : Option Value} {z4 : Option Value} {z5 : Option Value} {w : MW} {Q : Int32 → MW → Prop} (hs : q_Mo_end_169 y169_1 ys169_0 w Q) : Tm (d + 808) 37 169 [some (.ref 127), some (.int y169_1), z2, z3, z4, z5] [.int ys169_0] w (RI Q) := by
  unfold q_Mo_end_169 at hs
  refine tm_go 3 (pc' := 173) (L' := [some (.ref 127), some (.int y169_1), z2, (ksl z3), some (.int ys169_0), z5]) (S' := [.int 2, .int y169_1]) (w' := w) rfl ?_
  refine tm_i (p1 := 222) (p2 := 176) rfl (fun h18 => ?_) (fun h18 => ?_)
  · replace hs := hs.1 h18
    refine tm_go 1 (pc' := 224) (L' := [some (.ref 127), some (.int y169_1), z2, (ksl z3), some (.int ys169_0), z5]) (S' := [.int ys169_0]) (w' := w) rfl ?_
    refine tm_i (p1 := 234) (p2 := 227) rfl (fun h19 => ?_) (fun h19 => ?_)
    · replace hs := hs.1 h19
      refine tm_go 1 (pc' := 236) (L' := [some (.ref 127), some (.int y169_1), z2, (ksl z3), some (.int ys169_0), z5]) (S' := [.int ys169_0]) (w' := w) rfl ?_
      exact tm_r rfl ⟨_, rfl, hs⟩
    · replace hs := hs.2 h19
      refine tm_go 4 (pc' := 236) (L' := [some (.ref 127), some (.int y169_1), z2, (ksl z3), some (.int ys169_0), z5]) (S' := [.int (ys169_0 - (2 : Int32))]) (w' := w) rfl ?_
      exact tm_r rfl ⟨_, rfl, hs⟩
  · replace hs := hs.2 h18
    refine tm_go 1 (pc' := 178) (L' := [some (.ref 127), some (.int y169_1), z2, (ksl z3), some (.int ys169_0), z5]) (S' := [.int ys169_0]) (w' := w) rfl ?_
    refine tm_i (p1 := 222) (p2 := 181) rfl (fun h20 => ?_) (fun h20 => ?_)
    · replace hs := hs.1 h20
      refine tm_go 1 (pc' := 224) (L' := [some (.ref 127), some (.int y169_1), z2, (ksl z3), some (.int ys169_0), z5]) (S' := [.int ys169_0]) (w' := w) rfl ?_
      refine tm_i (p1 := 234) (p2 := 227) rfl (fun h21 => ?_) (fun h21 => ?_)
      · replace hs := hs.1 h21
        refine tm_go 1 (pc' := 236) (L' := [some (.ref 127), some (.int y169_1), z2, (ksl z3), some (.int ys169_0), z5]) (S' := [.int ys169_0]) (w' := w) rfl ?_
        exact tm_r rfl ⟨_, rfl, hs⟩
      · replace hs := hs.2 h21
        refine tm_go 4 (pc' := 236) (L' := [some (.ref 127), some (.int y169_1), z2, (ksl z3), some (.int ys169_0), z5]) (S' := [.int (ys169_0 - (2 : Int32))]) (w' := w) rfl ?_
        exact tm_r rfl ⟨_, rfl, hs⟩
    · replace hs := hs.2 h20
      refine tm_go 4 (pc' := 187) (L' := [some (.ref 127), some (.int y169_1), z2, (ksl z3), some (.int ys169_0), z5]) (S' := [.ref 127]) (w' := (sI w 127 59 4)) rfl ?_
      refine tm_c rfl (Nat.le_of_ble_eq_true rfl) (dm_Mo_closeAll (d := d + 805) hs) (fun v w22 hq => ?_)
      obtain ⟨rfl, hs⟩ := hq
      refine tm_go 2 (pc' := 193) (L' := [some (.ref 127), some (.int y169_1), z2, (ksl z3), some (.int ys169_0), some (.int 0)]) (S' := []) (w' := w22) rfl ?_
      refine tx_Mo_end_193 FU _ _ _ _ _ hs (fun  z26_0 z26_1 z26_2 z26_3 z26_5 w26 hs => ?_)
      refine tm_go 1 (pc' := 224) (L' := [z26_0, z26_1, z26_2, z26_3, some (.int ys169_0), z26_5]) (S' := [.int ys169_0]) (w' := w26) rfl ?_
      refine tm_i (p1 := 234) (p2 := 227) rfl (fun h27 => ?_) (fun h27 => ?_)
      · replace hs := hs.1 h27
        refine tm_go 1 (pc' := 236) (L' := [z26_0, z26_1, z26_2, z26_3, some (.int ys169_0), z26_5]) (S' := [.int ys169_0]) (w' := w26) rfl ?_
        exact tm_r rfl ⟨_, rfl, hs⟩
      · replace hs := hs.2 h27
        refine tm_go 4 (pc' := 236) (L' := [z26_0, z26_1, z26_2, z26_3, some (.int ys169_0), z26_5]) (S' := [.int (ys169_0 - (2 : Int32))]) (w' := w26) rfl ?_
        exact tm_r rfl ⟨_, rfl, hs⟩
set_option maxHeartbeats 4000000 in
set_option maxRecDepth 100000 in
theorem tx_Mo_end_33 {d : Nat} {y33_1 : Int32} {y33_2 : Int32} {ys33_0 : Int32} {z3 : Option Value} {z4 : Option Value} {z5 : Option Value} {w : MW} {Q : Int32 → MW → Prop} (hs : q_Mo_end_33 y33_1 y33_2 ys33_0 w Q) : Tm (d + 808) 37 33 [some (.ref 127), some (.int y33_1), some (.int y33_2), z3, z4, z5] [.int ys33_0] w (RI Q) := by
  unfold q_Mo_end_33 at hs
  refine tm_go 3 (pc' := 37) (L' := [some (.ref 127), some (.int y33_1), some (.int y33_2), some (.int ys33_0), some (.int 0), z5]) (S' := []) (w' := w) rfl ?_
  refine tx_Mo_end_37 FU _ _ _ _ hs (fun e37_3_6 z6_4 z6_5 w6 hs => ?_)
  refine tm_go 4 (pc' := 75) (L' := [some (.ref 127), some (.int y33_1), some (.int y33_2), some (.int e37_3_6), z6_4, z6_5]) (S' := [.int e37_3_6]) (w' := (sI w6 127 1 0)) rfl ?_
  refine tm_i (p1 := 80) (p2 := 78) rfl (fun h7 => ?_) (fun h7 => ?_)
  · replace hs := hs.1 h7
    refine tm_go 1 (pc' := 81) (L' := [some (.ref 127), some (.int y33_1), some (.int y33_2), some (.int e37_3_6), z6_4, z6_5]) (S' := [.int y33_1]) (w' := (sI w6 127 1 0)) rfl ?_
    refine tm_i (p1 := 94) (p2 := 84) rfl (fun h8 => ?_) (fun h8 => ?_)
    · replace hs := hs.1 h8
      refine tm_go 2 (pc' := 97) (L' := [some (.ref 127), some (.int y33_1), some (.int y33_2), some (.int e37_3_6), some (.int 0), z6_5]) (S' := []) (w' := (sI w6 127 1 0)) rfl ?_
      refine tx_Mo_end_97 FU _ _ _ _ hs (fun  z15_2 z15_3 z15_4 z15_5 w15 hs => ?_)
      refine tm_go 2 (pc' := 149) (L' := [some (.ref 127), some (.int y33_1), z15_2, z15_3, z15_4, z15_5]) (S' := [.int 1, .int y33_1]) (w' := w15) rfl ?_
      refine tm_i (p1 := 162) (p2 := 152) rfl (fun h16 => ?_) (fun h16 => ?_)
      · replace hs := hs.1 h16
        refine tm_go 2 (pc' := 166) (L' := [some (.ref 127), some (.int y33_1), z15_2, z15_3, z15_4, z15_5]) (S' := [.ref 129]) (w' := w15) rfl ?_
        refine tm_c rfl (Nat.le_of_ble_eq_true rfl) (dm_Tx_read (d := d + 0) hs) (fun v w17 hq => ?_)
        obtain ⟨r17, rfl, hs⟩ := hq
        exact tx_Mo_end_169 hs 
      · replace hs := hs.2 h16
        refine tm_go 2 (pc' := 156) (L' := [some (.ref 127), some (.int y33_1), z15_2, z15_3, z15_4, z15_5]) (S' := [.ref 147]) (w' := w15) rfl ?_
        refine tm_c rfl (Nat.le_of_ble_eq_true rfl) (dm_Mr_read (d := d + 403) hs) (fun v w28 hq => ?_)
        obtain ⟨r28, rfl, hs⟩ := hq
        refine tm_go 1 (pc' := 169) (L' := [some (.ref 127), some (.int y33_1), z15_2, z15_3, z15_4, z15_5]) (S' := [.int r28]) (w' := w28) rfl ?_
        exact tx_Mo_end_169 hs 
    · replace hs := hs.2 h8
      refine tm_go 4 (pc' := 90) (L' := [some (.ref 127), some (.int y33_1), some (.int y33_2), some (.int e37_3_6), z6_4, z6_5]) (S' := [.ref 127]) (w' := (sI (sI w6 127 1 0) 127 22 y33_2)) rfl ?_
      refine tm_c rfl (Nat.le_of_ble_eq_true rfl) (dm_Mo_readPlant (d := d + 803) hs) (fun v w29 hq => ?_)
      obtain ⟨r29, rfl, hs⟩ := hq
      exact tm_r rfl ⟨_, rfl, hs⟩
  · replace hs := hs.2 h7
    refine tm_go 1 (pc' := 79) (L' := [some (.ref 127), some (.int y33_1), some (.int y33_2), some (.int e37_3_6), z6_4, z6_5]) (S' := [.int (-1)]) (w' := (sI w6 127 1 0)) rfl ?_
    exact tm_r rfl ⟨_, rfl, hs⟩
set_option maxHeartbeats 4000000 in
set_option maxRecDepth 100000 in
theorem dm_Mo_end {d : Nat} {w : MW} {a0 : Int32} {b0 : Int32} {Q : Int32 → MW → Prop} (hs : p_Mo_end w a0 b0 Q) : Tc (d + 808) 37 [.ref 127, .int a0, .int b0] w (RI Q) := by
  unfold p_Mo_end at hs
  refine tm_go 1 (pc' := 1) (L' := [some (.ref 127), some (.int a0), some (.int b0), none, none, none]) (S' := [.int a0]) (w' := w) rfl ?_
  refine tm_i (p1 := 32) (p2 := 4) rfl (fun h1 => ?_) (fun h1 => ?_)
  · replace hs := hs.1 h1
    refine tm_go 1 (pc' := 33) (L' := [some (.ref 127), some (.int a0), some (.int b0), none, none, none]) (S' := [.int 0]) (w' := w) rfl ?_
    exact tx_Mo_end_33 hs 
  · replace hs := hs.2 h1
    refine tm_go 2 (pc' := 6) (L' := [some (.ref 127), some (.int a0), some (.int b0), none, none, none]) (S' := [.int 2, .int a0]) (w' := w) rfl ?_
    refine tm_i (p1 := 32) (p2 := 9) rfl (fun h30 => ?_) (fun h30 => ?_)
    · replace hs := hs.1 h30
      refine tm_go 1 (pc' := 33) (L' := [some (.ref 127), some (.int a0), some (.int b0), none, none, none]) (S' := [.int 0]) (w' := w) rfl ?_
      exact tx_Mo_end_33 hs 
    · replace hs := hs.2 h30
      refine tm_go 1 (pc' := 10) (L' := [some (.ref 127), some (.int a0), some (.int b0), none, none, none]) (S' := [.int b0]) (w' := w) rfl ?_
      refine tm_i (p1 := 32) (p2 := 13) rfl (fun h31 => ?_) (fun h31 => ?_)
      · replace hs := hs.1 h31
        refine tm_go 1 (pc' := 33) (L' := [some (.ref 127), some (.int a0), some (.int b0), none, none, none]) (S' := [.int 0]) (w' := w) rfl ?_
        exact tx_Mo_end_33 hs 
      · replace hs := hs.2 h31
        refine tm_go 2 (pc' := 17) (L' := [some (.ref 127), some (.int a0), some (.int b0), none, none, none]) (S' := [.int 4000, .int b0]) (w' := w) rfl ?_
        refine tm_i (p1 := 32) (p2 := 20) rfl (fun h32 => ?_) (fun h32 => ?_)
        · replace hs := hs.1 h32
          refine tm_go 1 (pc' := 33) (L' := [some (.ref 127), some (.int a0), some (.int b0), none, none, none]) (S' := [.int 0]) (w' := w) rfl ?_
          exact tx_Mo_end_33 hs 
        · replace hs := hs.2 h32
          refine tm_go 3 (pc' := 25) (L' := [some (.ref 127), some (.int a0), some (.int b0), none, none, none]) (S' := [.int (w.1 127 1), .int b0]) (w' := w) rfl ?_
          refine tm_i (p1 := 32) (p2 := 28) rfl (fun h33 => ?_) (fun h33 => ?_)
          · replace hs := hs.1 h33
            refine tm_go 1 (pc' := 33) (L' := [some (.ref 127), some (.int a0), some (.int b0), none, none, none]) (S' := [.int 0]) (w' := w) rfl ?_
            exact tx_Mo_end_33 hs 
          · replace hs := hs.2 h33
            refine tm_go 2 (pc' := 33) (L' := [some (.ref 127), some (.int a0), some (.int b0), none, none, none]) (S' := [.int 1]) (w' := w) rfl ?_
            exact tx_Mo_end_33 hs 
