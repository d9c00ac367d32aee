set_option maxHeartbeats 4000000 in
set_option maxRecDepth 100000 in
theorem tx_Mo_isCalm_6 {d : Nat} {x6_1 : Int32} {E : MW → Prop} {Q : Int32 → MW → Prop} (n : Nat) : ∀ (x6_2 : Int32)  (z3 : Option Value) (z4 : Option Value) (w : MW), q_Mo_isCalm_6 x6_1 E Q n x6_2 w → (∀  (v2 : Option Value) (v3 : Option Value) (v4 : Option Value) (w : MW), E  w → Tm (d + 2) 66 29 [some (.ref 127), some (.int x6_1), v2, v3, v4] [] w (RZ Q)) → Tm (d + 2) 66 6 [some (.ref 127), some (.int x6_1), some (.int x6_2), z3, z4] [] w (RZ Q) := by
  induction n with
  | zero => intro x6_2 z3 z4 w hs; rw [q_Mo_isCalm_6.eq_1] at hs; exact hs.elim
  | succ n ih =>
    intro x6_2 z3 z4 w hs hE
    rw [q_Mo_isCalm_6.eq_2] at hs
    refine tm_go 2 (pc' := 9) (L' := [some (.ref 127), some (.int x6_1), some (.int x6_2), z3, z4]) (S' := [.int 16, .int x6_2]) (w' := w) rfl ?_
    refine tm_i (p1 := 29) (p2 := 12) rfl (fun h2 => ?_) (fun h2 => ?_)
    · replace hs := hs.1 h2
      exact hE _ _ _ _ hs
    · replace hs := hs.2 h2
      refine tm_go 5 (pc' := 19) (L' := [some (.ref 127), some (.int x6_1), some (.int x6_2), z3, z4]) (S' := [.int x6_2, .ref 127, .int x6_2, .ref 196]) (w' := w) rfl ?_
      refine tm_c rfl (Nat.le_of_ble_eq_true rfl) (dm_Mo_flood (d := d + 1) hs) (fun v w3 hq => ?_)
      obtain ⟨r3, rfl, hs⟩ := hq
      obtain ⟨b4, hs⟩ := hs
      refine tm_k (pc' := 23) (L' := [some (.ref 127), some (.int x6_1), some (.int x6_2), z3, z4]) (S' := []) (w' := (sJ w3 196 x6_2.toInt.toNat r3)) rfl b4 ?_
      refine tm_go 2 (pc' := 6) (L' := [some (.ref 127), some (.int x6_1), some (.int (x6_2 + (1 : Int32))), z3, z4]) (S' := []) (w' := (sJ w3 196 x6_2.toInt.toNat r3)) rfl ?_
      exact ih _ _ _ _ hs hE
set_option maxHeartbeats 4000000 in
set_option maxRecDepth 100000 in
theorem tx_Mo_isCalm_57 {d : Nat} {x57_1 : Int32} {x57_2 : Int32} {x57_3 : Int32} {E : MW → Prop} {Q : Int32 → MW → Prop} (n : Nat) : ∀ (x57_4 : Int32)   (w : MW), q_Mo_isCalm_57 x57_1 x57_2 x57_3 E Q n x57_4 w → (∀  (v4 : Option Value) (w : MW), E  w → Tm (d + 2) 66 126 [some (.ref 127), some (.int x57_1), some (.int x57_2), some (.int x57_3), v4] [] w (RZ Q)) → Tm (d + 2) 66 57 [some (.ref 127), some (.int x57_1), some (.int x57_2), some (.int x57_3), some (.int x57_4)] [] w (RZ Q) := by
  induction n with
  | zero => intro x57_4  w hs; rw [q_Mo_isCalm_57.eq_1] at hs; exact hs.elim
  | succ n ih =>
    intro x57_4  w hs hE
    rw [q_Mo_isCalm_57.eq_2] at hs
    refine tm_go 2 (pc' := 61) (L' := [some (.ref 127), some (.int x57_1), some (.int x57_2), some (.int x57_3), some (.int x57_4)]) (S' := [.int 16, .int x57_4]) (w' := w) rfl ?_
    refine tm_i (p1 := 126) (p2 := 64) rfl (fun h8 => ?_) (fun h8 => ?_)
    · replace hs := hs.1 h8
      exact hE _ _ hs
    · replace hs := hs.2 h8
      refine tm_go 3 (pc' := 69) (L' := [some (.ref 127), some (.int x57_1), some (.int x57_2), some (.int x57_3), some (.int x57_4)]) (S' := [.int x57_3, .ref 196]) (w' := w) rfl ?_
      obtain ⟨b9, hs⟩ := hs
      refine tm_k (pc' := 70) (L' := [some (.ref 127), some (.int x57_1), some (.int x57_2), some (.int x57_3), some (.int x57_4)]) (S' := [.long (w.2.1 196 x57_3.toInt.toNat)]) (w' := w) rfl b9 ?_
      refine tm_go 3 (pc' := 76) (L' := [some (.ref 127), some (.int x57_1), some (.int x57_2), some (.int x57_3), some (.int x57_4)]) (S' := [.int x57_4, .ref 196, .long (w.2.1 196 x57_3.toInt.toNat)]) (w' := w) rfl ?_
      obtain ⟨b10, hs⟩ := hs
      refine tm_k (pc' := 77) (L' := [some (.ref 127), some (.int x57_1), some (.int x57_2), some (.int x57_3), some (.int x57_4)]) (S' := [.long (w.2.1 196 x57_4.toInt.toNat), .long (w.2.1 196 x57_3.toInt.toNat)]) (w' := w) rfl b10 ?_
      refine tm_go 7 (pc' := 84) (L' := [some (.ref 127), some (.int x57_1), some (.int x57_2), some (.int x57_3), some (.int x57_4)]) (S' := [.int (lg_cmp ((((w.2.1 196 x57_3.toInt.toNat) &&& (w.2.1 196 x57_4.toInt.toNat)) >>> (x57_2.toInt64 &&& 63)) &&& (1 : Int64)) (0 : Int64))]) (w' := w) rfl ?_
      refine tm_i (p1 := 120) (p2 := 87) rfl (fun h11 => ?_) (fun h11 => ?_)
      · replace hs := hs.1 h11
        refine tm_go 2 (pc' := 57) (L' := [some (.ref 127), some (.int x57_1), some (.int x57_2), some (.int x57_3), some (.int (x57_4 + (1 : Int32)))]) (S' := []) (w' := w) rfl ?_
        exact ih _ _ hs hE
      · replace hs := hs.2 h11
        refine tm_go 3 (pc' := 91) (L' := [some (.ref 127), some (.int x57_1), some (.int x57_2), some (.int x57_3), some (.int x57_4)]) (S' := [.int x57_4, .int x57_3, .ref 127]) (w' := w) rfl ?_
        refine tm_c rfl (Nat.le_of_ble_eq_true rfl) (dm_Mo_mayMeet (d := d + 1) hs) (fun v w12 hq => ?_)
        obtain ⟨r12, rfl, hz12, hs⟩ := hq
        refine tm_i (p1 := 120) (p2 := 97) rfl (fun h13 => ?_) (fun h13 => ?_)
        · replace hs := hs.1 h13
          refine tm_go 2 (pc' := 57) (L' := [some (.ref 127), some (.int x57_1), some (.int x57_2), some (.int x57_3), some (.int (x57_4 + (1 : Int32)))]) (S' := []) (w' := w12) rfl ?_
          exact ih _ _ hs hE
        · replace hs := hs.2 h13
          refine tm_go 13 (pc' := 119) (L' := [some (.ref 127), some (.int x57_1), some (.int x57_2), some (.int x57_3), some (.int x57_4)]) (S' := [.int 0]) (w' := (sI (sI (sI (sI w12 127 45 x57_1) 127 46 x57_2) 127 47 x57_3) 127 48 x57_4)) rfl ?_
          exact tm_r rfl ⟨_, rfl, by decide, hs⟩
set_option maxHeartbeats 4000000 in
set_option maxRecDepth 100000 in
theorem tx_Mo_isCalm_46 {d : Nat} {x46_1 : Int32} {x46_2 : Int32} {E : MW → Prop} {Q : Int32 → MW → Prop} (n : Nat) : ∀ (x46_3 : Int32)  (z4 : Option Value) (w : MW), q_Mo_isCalm_46 x46_1 x46_2 E Q n x46_3 w → (∀  (v3 : Option Value) (v4 : Option Value) (w : MW), E  w → Tm (d + 2) 66 132 [some (.ref 127), some (.int x46_1), some (.int x46_2), v3, v4] [] w (RZ Q)) → Tm (d + 2) 66 46 [some (.ref 127), some (.int x46_1), some (.int x46_2), some (.int x46_3), z4] [] w (RZ Q) := by
  induction n with
  | zero => intro x46_3 z4 w hs; rw [q_Mo_isCalm_46.eq_1] at hs; exact hs.elim
  | succ n ih =>
    intro x46_3 z4 w hs hE
    rw [q_Mo_isCalm_46.eq_2] at hs
    refine tm_go 2 (pc' := 49) (L' := [some (.ref 127), some (.int x46_1), some (.int x46_2), some (.int x46_3), z4]) (S' := [.int 16, .int x46_3]) (w' := w) rfl ?_
    refine tm_i (p1 := 132) (p2 := 52) rfl (fun h7 => ?_) (fun h7 => ?_)
    · replace hs := hs.1 h7
      exact hE _ _ _ hs
    · replace hs := hs.2 h7
      refine tm_go 4 (pc' := 57) (L' := [some (.ref 127), some (.int x46_1), some (.int x46_2), some (.int x46_3), some (.int (x46_3 + (1 : Int32)))]) (S' := []) (w' := w) rfl ?_
      refine tx_Mo_isCalm_57 FU _ _ hs (fun  z14_4 w14 hs => ?_)
      refine tm_go 2 (pc' := 46) (L' := [some (.ref 127), some (.int x46_1), some (.int x46_2), some (.int (x46_3 + (1 : Int32))), z14_4]) (S' := []) (w' := w14) rfl ?_
      exact ih _ _ _ hs hE
set_option maxHeartbeats 4000000 in
set_option maxRecDepth 100000 in
theorem tx_Mo_isCalm_31 {d : Nat} {x31_1 : Int32} {E : MW → Prop} {Q : Int32 → MW → Prop} (n : Nat) : ∀ (x31_2 : Int32)  (z3 : Option Value) (z4 : Option Value) (w : MW), q_Mo_isCalm_31 x31_1 E Q n x31_2 w → (∀  (v0 : Option Value) (v1 : Option Value) (v2 : Option Value) (v3 : Option Value) (v4 : Option Value) (w : MW), E  w → Tm (d + 2) 66 138 [v0, v1, v2, v3, v4] [] w (RZ Q)) → Tm (d + 2) 66 31 [some (.ref 127), some (.int x31_1), some (.int x31_2), z3, z4] [] w (RZ Q) := by
  induction n with
  | zero => intro x31_2 z3 z4 w hs; rw [q_Mo_isCalm_31.eq_1] at hs; exact hs.elim
  | succ n ih =>
    intro x31_2 z3 z4 w hs hE
    rw [q_Mo_isCalm_31.eq_2] at hs
    refine tm_go 6 (pc' := 41) (L' := [some (.ref 127), some (.int x31_1), some (.int x31_2), z3, z4]) (S' := [.int ((w.1 127 4) + (w.1 127 11)), .int x31_2]) (w' := w) rfl ?_
    refine tm_i (p1 := 138) (p2 := 44) rfl (fun h6 => ?_) (fun h6 => ?_)
    · replace hs := hs.1 h6
      exact hE _ _ _ _ _ _ hs
    · replace hs := hs.2 h6
      refine tm_go 2 (pc' := 46) (L' := [some (.ref 127), some (.int x31_1), some (.int x31_2), some (.int 1), z4]) (S' := []) (w' := w) rfl ?_
      refine tx_Mo_isCalm_46 FU _ _ _ hs (fun  z15_3 z15_4 w15 hs => ?_)
      refine tm_go 2 (pc' := 31) (L' := [some (.ref 127), some (.int x31_1), some (.int (x31_2 + (1 : Int32))), z15_3, z15_4]) (S' := []) (w' := w15) rfl ?_
      exact ih _ _ _ _ hs hE
set_option maxHeartbeats 4000000 in
set_option maxRecDepth 100000 in
theorem dm_Mo_isCalm {d : Nat} {w : MW} {a0 : Int32} {Q : Int32 → MW → Prop} (hs : p_Mo_isCalm w a0 Q) : Tc (d + 2) 66 [.ref 127, .int a0] w (RZ Q) := by
  unfold p_Mo_isCalm at hs
  refine tm_go 1 (pc' := 1) (L' := [some (.ref 127), some (.int a0), none, none, none]) (S' := [.ref 127]) (w' := w) rfl ?_
  refine tm_c rfl (Nat.le_of_ble_eq_true rfl) (dm_Mo_join (d := d + 0) hs) (fun v w1 hq => ?_)
  obtain ⟨rfl, hs⟩ := hq
  refine tm_go 2 (pc' := 6) (L' := [some (.ref 127), some (.int a0), some (.int 1), none, none]) (S' := []) (w' := w1) rfl ?_
  refine tx_Mo_isCalm_6 FU _ _ _ _ hs (fun  z5_2 z5_3 z5_4 w5 hs => ?_)
  refine tm_go 2 (pc' := 31) (L' := [some (.ref 127), some (.int a0), some (.int 0), z5_3, z5_4]) (S' := []) (w' := w5) rfl ?_
  refine tx_Mo_isCalm_31 FU _ _ _ _ hs (fun  z16_0 z16_1 z16_2 z16_3 z16_4 w16 hs => ?_)
  refine tm_go 1 (pc' := 139) (L' := [z16_0, z16_1, z16_2, z16_3, z16_4]) (S' := [.int 1]) (w' := w16) rfl ?_
  exact tm_r rfl ⟨_, rfl, by decide, hs⟩
set_option maxHeartbeats 4000000 in
set_option maxRecDepth 100000 in
theorem tx_Mo_isSafe_73 {d : Nat} {x30_2 : Int32} {x30_3 : Int32} {y73_4 : Int32} {z1 : Option Value} {w : MW} {A : Int32 → Int32 → MW → Prop} {E : Int32 → MW → Prop} {Q : Int32 → MW → Prop} (hs : q_Mo_isSafe_73 x30_2 x30_3 y73_4 w A E Q) (hA : ∀ (x30_1 : Int32) (x30_4 : Int32)   (w : MW), A x30_1 x30_4 w → Tm (d + 3) 67 30 [some (.ref 127), some (.int x30_1), some (.int x30_2), some (.int x30_3), some (.int x30_4)] [] w (RZ Q)) (hE : ∀ (e30_1 : Int32)  (v4 : Option Value) (w : MW), E e30_1 w → Tm (d + 3) 67 101 [some (.ref 127), some (.int e30_1), some (.int x30_2), some (.int x30_3), v4] [] w (RZ Q)) : Tm (d + 3) 67 73 [some (.ref 127), z1, some (.int x30_2), some (.int x30_3), some (.int y73_4)] [] w (RZ Q) := by
  unfold q_Mo_isSafe_73 at hs
  refine tm_go 4 (pc' := 80) (L' := [some (.ref 127), z1, some (.int x30_2), some (.int x30_3), some (.int y73_4)]) (S' := [.int y73_4, .int x30_2, .ref 167]) (w' := w) rfl ?_
  obtain ⟨b12, hs⟩ := hs
  refine tm_k (pc' := 81) (L' := [some (.ref 127), z1, some (.int x30_2), some (.int x30_3), some (.int y73_4)]) (S' := []) (w' := (sI w 167 x30_2.toInt.toNat y73_4)) rfl b12 ?_
  refine tm_go 8 (pc' := 91) (L' := [some (.ref 127), z1, some (.int x30_2), some (.int x30_3), some (.int y73_4)]) (S' := [.int (((2 : Int32) + ((10 : Int32) * x30_2)) + y73_4), .ref 127]) (w' := (sI w 167 x30_2.toInt.toNat y73_4)) rfl ?_
  refine tm_c rfl (Nat.le_of_ble_eq_true rfl) (dm_Mo_isCalm (d := d + 0) hs) (fun v w13 hq => ?_)
  obtain ⟨r13, rfl, hz13, hs⟩ := hq
  refine tm_go 3 (pc' := 30) (L' := [some (.ref 127), some (.int r13), some (.int x30_2), some (.int x30_3), some (.int (y73_4 + (1 : Int32)))]) (S' := []) (w' := w13) rfl ?_
  exact hA _ _ _ hs
set_option maxHeartbeats 4000000 in
set_option maxRecDepth 100000 in
theorem tx_Mo_isSafe_30 {d : Nat} {x30_2 : Int32} {x30_3 : Int32} {E : Int32 → MW → Prop} {Q : Int32 → MW → Prop} (n : Nat) : ∀ (x30_1 : Int32) (x30_4 : Int32)   (w : MW), q_Mo_isSafe_30 x30_2 x30_3 E Q n x30_1 x30_4 w → (∀ (e30_1 : Int32)  (v4 : Option Value) (w : MW), E e30_1 w → Tm (d + 3) 67 101 [some (.ref 127), some (.int e30_1), some (.int x30_2), some (.int x30_3), v4] [] w (RZ Q)) → Tm (d + 3) 67 30 [some (.ref 127), some (.int x30_1), some (.int x30_2), some (.int x30_3), some (.int x30_4)] [] w (RZ Q) := by
  induction n with
  | zero => intro x30_1 x30_4  w hs; rw [q_Mo_isSafe_30.eq_1] at hs; exact hs.elim
  | succ n ih =>
    intro x30_1 x30_4  w hs hE
    rw [q_Mo_isSafe_30.eq_2] at hs
    refine tm_go 2 (pc' := 33) (L' := [some (.ref 127), some (.int x30_1), some (.int x30_2), some (.int x30_3), some (.int x30_4)]) (S' := [.int 5, .int x30_4]) (w' := w) rfl ?_
    refine tm_i (p1 := 101) (p2 := 36) rfl (fun h5 => ?_) (fun h5 => ?_)
    · replace hs := hs.1 h5
      exact hE _ _ _ hs
    · replace hs := hs.2 h5
      refine tm_go 3 (pc' := 41) (L' := [some (.ref 127), some (.int x30_1), some (.int x30_2), some (.int x30_3), some (.int x30_4)]) (S' := [.int x30_2, .ref 163]) (w' := w) rfl ?_
      obtain ⟨b6, hs⟩ := hs
      refine tm_k (pc' := 42) (L' := [some (.ref 127), some (.int x30_1), some (.int x30_2), some (.int x30_3), some (.int x30_4)]) (S' := [.int (w.1 163 x30_2.toInt.toNat)]) (w' := w) rfl b6 ?_
      refine tm_go 1 (pc' := 43) (L' := [some (.ref 127), some (.int x30_1), some (.int x30_2), some (.int x30_3), some (.int x30_4)]) (S' := [.int 2, .int (w.1 163 x30_2.toInt.toNat)]) (w' := w) rfl ?_
      refine tm_i (p1 := 101) (p2 := 46) rfl (fun h7 => ?_) (fun h7 => ?_)
      · replace hs := hs.1 h7
        exact hE _ _ _ hs
      · replace hs := hs.2 h7
        refine tm_go 1 (pc' := 47) (L' := [some (.ref 127), some (.int x30_1), some (.int x30_2), some (.int x30_3), some (.int x30_4)]) (S' := [.int x30_1]) (w' := w) rfl ?_
        refine tm_i (p1 := 101) (p2 := 50) rfl (fun h8 => ?_) (fun h8 => ?_)
        · replace hs := hs.1 h8
          exact hE _ _ _ hs
        · replace hs := hs.2 h8
          refine tm_go 2 (pc' := 53) (L' := [some (.ref 127), some (.int x30_1), some (.int x30_2), some (.int x30_3), some (.int x30_4)]) (S' := [.int x30_3, .int x30_4]) (w' := w) rfl ?_
          refine tm_i (p1 := 95) (p2 := 56) rfl (fun h9 => ?_) (fun h9 => ?_)
          · replace hs := hs.1 h9
            refine tm_go 2 (pc' := 30) (L' := [some (.ref 127), some (.int x30_1), some (.int x30_2), some (.int x30_3), some (.int (x30_4 + (1 : Int32)))]) (S' := []) (w' := w) rfl ?_
            exact ih _ _ _ hs hE
          · replace hs := hs.2 h9
            refine tm_go 3 (pc' := 61) (L' := [some (.ref 127), some (.int x30_1), some (.int x30_2), some (.int x30_3), some (.int x30_4)]) (S' := [.int x30_2, .ref 163]) (w' := w) rfl ?_
            obtain ⟨b10, hs⟩ := hs
            refine tm_k (pc' := 62) (L' := [some (.ref 127), some (.int x30_1), some (.int x30_2), some (.int x30_3), some (.int x30_4)]) (S' := [.int (w.1 163 x30_2.toInt.toNat)]) (w' := w) rfl b10 ?_
            refine tm_go 1 (pc' := 64) (L' := [some (.ref 127), some (.int x30_1), some (.int x30_2), some (.int x30_3), some (.int x30_4)]) (S' := [.int 6, .int (w.1 163 x30_2.toInt.toNat)]) (w' := w) rfl ?_
            refine tm_i (p1 := 73) (p2 := 67) rfl (fun h11 => ?_) (fun h11 => ?_)
            · replace hs := hs.1 h11
              exact tx_Mo_isSafe_73 hs (fun q0 q1 q2 hs => ih q0 q1 q2 hs hE) hE
            · replace hs := hs.2 h11
              refine tm_go 2 (pc' := 70) (L' := [some (.ref 127), some (.int x30_1), some (.int x30_2), some (.int x30_3), some (.int x30_4)]) (S' := [.int 1, .int x30_4]) (w' := w) rfl ?_
              refine tm_i (p1 := 95) (p2 := 73) rfl (fun h14 => ?_) (fun h14 => ?_)
              · replace hs := hs.1 h14
                refine tm_go 2 (pc' := 30) (L' := [some (.ref 127), some (.int x30_1), some (.int x30_2), some (.int x30_3), some (.int (x30_4 + (1 : Int32)))]) (S' := []) (w' := w) rfl ?_
                exact ih _ _ _ hs hE
              · replace hs := hs.2 h14
                exact tx_Mo_isSafe_73 hs (fun q0 q1 q2 hs => ih q0 q1 q2 hs hE) hE
set_option maxHeartbeats 4000000 in
set_option maxRecDepth 100000 in
theorem tx_Mo_isSafe_8 {d : Nat} {E : Int32 → MW → Prop} {Q : Int32 → MW → Prop} (n : Nat) : ∀ (x8_1 : Int32) (x8_2 : Int32)  (z3 : Option Value) (z4 : Option Value) (w : MW), q_Mo_isSafe_8  E Q n x8_1 x8_2 w → (∀ (e8_1 : Int32)  (v0 : Option Value) (v2 : Option Value) (v3 : Option Value) (v4 : Option Value) (w : MW), E e8_1 w → Tm (d + 3) 67 114 [v0, some (.int e8_1), v2, v3, v4] [] w (RZ Q)) → Tm (d + 3) 67 8 [some (.ref 127), some (.int x8_1), some (.int x8_2), z3, z4] [] w (RZ Q) := by
  induction n with
  | zero => intro x8_1 x8_2 z3 z4 w hs; rw [q_Mo_isSafe_8.eq_1] at hs; exact hs.elim
  | succ n ih =>
    intro x8_1 x8_2 z3 z4 w hs hE
    rw [q_Mo_isSafe_8.eq_2] at hs
    refine tm_go 3 (pc' := 13) (L' := [some (.ref 127), some (.int x8_1), some (.int x8_2), z3, z4]) (S' := [.int (w.1 127 4), .int x8_2]) (w' := w) rfl ?_
    refine tm_i (p1 := 114) (p2 := 16) rfl (fun h2 => ?_) (fun h2 => ?_)
    · replace hs := hs.1 h2
      exact hE _ _ _ _ _ _ hs
    · replace hs := hs.2 h2
      refine tm_go 1 (pc' := 17) (L' := [some (.ref 127), some (.int x8_1), some (.int x8_2), z3, z4]) (S' := [.int x8_1]) (w' := w) rfl ?_
      refine tm_i (p1 := 114) (p2 := 20) rfl (fun h3 => ?_) (fun h3 => ?_)
      · replace hs := hs.1 h3
        exact hE _ _ _ _ _ _ hs
      · replace hs := hs.2 h3
        refine tm_go 3 (pc' := 25) (L' := [some (.ref 127), some (.int x8_1), some (.int x8_2), z3, z4]) (S' := [.int x8_2, .ref 167]) (w' := w) rfl ?_
        obtain ⟨b4, hs⟩ := hs
        refine tm_k (pc' := 26) (L' := [some (.ref 127), some (.int x8_1), some (.int x8_2), z3, z4]) (S' := [.int (w.1 167 x8_2.toInt.toNat)]) (w' := w) rfl b4 ?_
        refine tm_go 3 (pc' := 30) (L' := [some (.ref 127), some (.int x8_1), some (.int x8_2), some (.int (w.1 167 x8_2.toInt.toNat)), some (.int 0)]) (S' := []) (w' := w) rfl ?_
        refine tx_Mo_isSafe_30 FU _ _ _ hs (fun e30_1_15 z15_4 w15 hs => ?_)
        refine tm_go 4 (pc' := 107) (L' := [some (.ref 127), some (.int e30_1_15), some (.int x8_2), some (.int (w.1 167 x8_2.toInt.toNat)), z15_4]) (S' := [.int (w.1 167 x8_2.toInt.toNat), .int x8_2, .ref 167]) (w' := w15) rfl ?_
        obtain ⟨b16, hs⟩ := hs
        refine tm_k (pc' := 108) (L' := [some (.ref 127), some (.int e30_1_15), some (.int x8_2), some (.int (w.1 167 x8_2.toInt.toNat)), z15_4]) (S' := []) (w' := (sI w15 167 x8_2.toInt.toNat (w.1 167 x8_2.toInt.toNat))) rfl b16 ?_
        refine tm_go 2 (pc' := 8) (L' := [some (.ref 127), some (.int e30_1_15), some (.int (x8_2 + (1 : Int32))), some (.int (w.1 167 x8_2.toInt.toNat)), z15_4]) (S' := []) (w' := (sI w15 167 x8_2.toInt.toNat (w.1 167 x8_2.toInt.toNat))) rfl ?_
        exact ih _ _ _ _ _ hs hE
set_option maxHeartbeats 4000000 in
set_option maxRecDepth 100000 in
theorem dm_Mo_isSafe {d : Nat} {w : MW} {Q : Int32 → MW → Prop} (hs : p_Mo_isSafe w Q) : Tc (d + 3) 67 [.ref 127] w (RZ Q) := by
  unfold p_Mo_isSafe at hs
  refine tm_go 2 (pc' := 2) (L' := [some (.ref 127), none, none, none, none]) (S' := [.int 1, .ref 127]) (w' := w) rfl ?_
  refine tm_c rfl (Nat.le_of_ble_eq_true rfl) (dm_Mo_isCalm (d := d + 0) hs) (fun v w1 hq => ?_)
  obtain ⟨r1, rfl, hz1, hs⟩ := hq
  refine tm_go 3 (pc' := 8) (L' := [some (.ref 127), some (.int r1), some (.int 0), none, none]) (S' := []) (w' := w1) rfl ?_
  refine tx_Mo_isSafe_8 FU _ _ _ _ _ hs (fun e8_1_17 z17_0 z17_2 z17_3 z17_4 w17 hs => ?_)
  refine tm_go 1 (pc' := 115) (L' := [z17_0, some (.int e8_1_17), z17_2, z17_3, z17_4]) (S' := [.int e8_1_17]) (w' := w17) rfl ?_
  obtain ⟨b18, hs⟩ := hs
  exact tm_rk rfl b18 ⟨_, rfl, b18, hs⟩
set_option maxHeartbeats 4000000 in
set_option maxRecDepth 100000 in
theorem dm_Mo_carry {d : Nat} {w : MW} {a0 : Int32} {b0 : Int32} {Q : MW → Prop} (hs : p_Mo_carry w a0 b0 Q) : Tc (d + 0) 69 [.ref 127, .int a0, .int b0] w (RV Q) := by
  unfold p_Mo_carry at hs
  refine tm_go 6 (pc' := 10) (L' := [some (.ref 127), some (.int a0), some (.int b0)]) (S' := [.int a0, .ref 194, .int a0, .ref 194]) (w' := w) rfl ?_
  obtain ⟨b1, hs⟩ := hs
  refine tm_k (pc' := 11) (L' := [some (.ref 127), some (.int a0), some (.int b0)]) (S' := [.int (w.1 194 a0.toInt.toNat), .int a0, .ref 194]) (w' := w) rfl b1 ?_
  refine tm_i (p1 := 18) (p2 := 14) rfl (fun h2 => ?_) (fun h2 => ?_)
  · replace hs := hs.1 h2
    refine tm_go 3 (pc' := 23) (L' := [some (.ref 127), some (.int a0), some (.int b0)]) (S' := [.int a0, .ref 194, .int a0, .ref 194]) (w' := w) rfl ?_
    obtain ⟨b3, hs⟩ := hs
    refine tm_k (pc' := 24) (L' := [some (.ref 127), some (.int a0), some (.int b0)]) (S' := [.int (w.1 194 a0.toInt.toNat), .int a0, .ref 194]) (w' := w) rfl b3 ?_
    obtain ⟨b4, hs⟩ := hs
    refine tm_k (pc' := 25) (L' := [some (.ref 127), some (.int a0), some (.int b0)]) (S' := []) (w' := (sI w 194 a0.toInt.toNat (w.1 194 a0.toInt.toNat))) rfl b4 ?_
    exact tm_r rfl ⟨rfl, hs⟩
  · replace hs := hs.2 h2
    refine tm_go 2 (pc' := 24) (L' := [some (.ref 127), some (.int a0), some (.int b0)]) (S' := [.int b0, .int a0, .ref 194]) (w' := w) rfl ?_
    obtain ⟨b5, hs⟩ := hs
    refine tm_k (pc' := 25) (L' := [some (.ref 127), some (.int a0), some (.int b0)]) (S' := []) (w' := (sI w 194 a0.toInt.toNat b0)) rfl b5 ?_
    exact tm_r rfl ⟨rfl, hs⟩
set_option maxHeartbeats 4000000 in
set_option maxRecDepth 100000 in
theorem tx_Mo_liquidIn_49 {d : Nat} {x49_2 : Int32} {E : Int32 → MW → Prop} {Q : Int32 → MW → Prop} (n : Nat) : ∀ (x49_3 : Int32) (x49_4 : Int32)  (z1 : Option Value) (z5 : Option Value) (w : MW), q_Mo_liquidIn_49 x49_2 E Q n x49_3 x49_4 w → (∀ (e49_3 : Int32)  (v0 : Option Value) (v1 : Option Value) (v2 : Option Value) (v4 : Option Value) (v5 : Option Value) (w : MW), E e49_3 w → Tm (d + 0) 55 108 [v0, v1, v2, some (.int e49_3), v4, v5] [] w (RI Q)) → Tm (d + 0) 55 49 [some (.ref 127), z1, some (.int x49_2), some (.int x49_3), some (.int x49_4), z5] [] w (RI Q) := by
  induction n with
  | zero => intro x49_3 x49_4 z1 z5 w hs; rw [q_Mo_liquidIn_49.eq_1] at hs; exact hs.elim
  | succ n ih =>
    intro x49_3 x49_4 z1 z5 w hs hE
    rw [q_Mo_liquidIn_49.eq_2] at hs
    refine tm_go 4 (pc' := 56) (L' := [some (.ref 127), z1, some (.int x49_2), some (.int x49_3), some (.int x49_4), z5]) (S' := [.int x49_2, .ref 169, .int x49_4]) (w' := w) rfl ?_
    obtain ⟨b2, hs⟩ := hs
    refine tm_k (pc' := 57) (L' := [some (.ref 127), z1, some (.int x49_2), some (.int x49_3), some (.int x49_4), z5]) (S' := [.int (w.1 169 x49_2.toInt.toNat), .int x49_4]) (w' := w) rfl b2 ?_
    refine tm_i (p1 := 108) (p2 := 60) rfl (fun h3 => ?_) (fun h3 => ?_)
    · replace hs := hs.1 h3
      exact hE _ _ _ _ _ _ _ hs
    · replace hs := hs.2 h3
      refine tm_go 7 (pc' := 72) (L' := [some (.ref 127), z1, some (.int x49_2), some (.int x49_3), some (.int x49_4), z5]) (S' := [.int (((200 : Int32) * x49_2) + x49_4), .ref 172]) (w' := w) rfl ?_
      obtain ⟨b4, hs⟩ := hs
      refine tm_k (pc' := 73) (L' := [some (.ref 127), z1, some (.int x49_2), some (.int x49_3), some (.int x49_4), z5]) (S' := [.int (w.1 172 ((((200 : Int32) * x49_2) + x49_4).toInt.toNat))]) (w' := w) rfl b4 ?_
      refine tm_go 2 (pc' := 77) (L' := [some (.ref 127), z1, some (.int x49_2), some (.int x49_3), some (.int x49_4), some (.int (w.1 172 ((((200 : Int32) * x49_2) + x49_4).toInt.toNat)))]) (S' := [.int (w.1 172 ((((200 : Int32) * x49_2) + x49_4).toInt.toNat))]) (w' := w) rfl ?_
      refine tm_i (p1 := 86) (p2 := 80) rfl (fun h5 => ?_) (fun h5 => ?_)
      · replace hs := hs.1 h5
        refine tm_go 5 (pc' := 49) (L' := [some (.ref 127), z1, some (.int x49_2), some (.int x49_3), some (.int (x49_4 + (1 : Int32))), some (.int (w.1 172 ((((200 : Int32) * x49_2) + x49_4).toInt.toNat)))]) (S' := []) (w' := w) rfl ?_
        exact ih _ _ _ _ _ hs hE
      · replace hs := hs.2 h5
        refine tm_go 2 (pc' := 83) (L' := [some (.ref 127), z1, some (.int x49_2), some (.int x49_3), some (.int x49_4), some (.int (w.1 172 ((((200 : Int32) * x49_2) + x49_4).toInt.toNat)))]) (S' := [.int x49_3, .int (w.1 172 ((((200 : Int32) * x49_2) + x49_4).toInt.toNat))]) (w' := w) rfl ?_
        refine tm_i (p1 := 90) (p2 := 86) rfl (fun h6 => ?_) (fun h6 => ?_)
        · replace hs := hs.1 h6
          refine tm_go 1 (pc' := 91) (L' := [some (.ref 127), z1, some (.int x49_2), some (.int x49_3), some (.int x49_4), some (.int (w.1 172 ((((200 : Int32) * x49_2) + x49_4).toInt.toNat)))]) (S' := [.int x49_3]) (w' := w) rfl ?_
          refine tm_i (p1 := 99) (p2 := 94) rfl (fun h7 => ?_) (fun h7 => ?_)
          · replace hs := hs.1 h7
            refine tm_go 4 (pc' := 49) (L' := [some (.ref 127), z1, some (.int x49_2), some (.int 15), some (.int (x49_4 + (1 : Int32))), some (.int (w.1 172 ((((200 : Int32) * x49_2) + x49_4).toInt.toNat)))]) (S' := []) (w' := w) rfl ?_
            exact ih _ _ _ _ _ hs hE
          · replace hs := hs.2 h7
            refine tm_go 5 (pc' := 49) (L' := [some (.ref 127), z1, some (.int x49_2), some (.int (w.1 172 ((((200 : Int32) * x49_2) + x49_4).toInt.toNat))), some (.int (x49_4 + (1 : Int32))), some (.int (w.1 172 ((((200 : Int32) * x49_2) + x49_4).toInt.toNat)))]) (S' := []) (w' := w) rfl ?_
            exact ih _ _ _ _ _ hs hE
        · replace hs := hs.2 h6
          refine tm_go 5 (pc' := 49) (L' := [some (.ref 127), z1, some (.int x49_2), some (.int x49_3), some (.int (x49_4 + (1 : Int32))), some (.int (w.1 172 ((((200 : Int32) * x49_2) + x49_4).toInt.toNat)))]) (S' := []) (w' := w) rfl ?_
          exact ih _ _ _ _ _ hs hE
set_option maxHeartbeats 4000000 in
set_option maxRecDepth 100000 in
theorem dm_Mo_liquidIn {d : Nat} {w : MW} {a0 : Int32} {Q : Int32 → MW → Prop} (hs : p_Mo_liquidIn w a0 Q) : Tc (d + 0) 55 [.ref 127, .int a0] w (RI Q) := by
  unfold p_Mo_liquidIn at hs
  refine tm_go 3 (pc' := 5) (L' := [some (.ref 127), some (.int a0), none, none, none, none]) (S' := [.int (w.1 127 4), .int a0]) (w' := w) rfl ?_
  refine tm_i (p1 := 37) (p2 := 8) rfl (fun h1 => ?_) (fun h1 => ?_)
  · replace hs := hs.1 h1
    refine tm_go 9 (pc' := 49) (L' := [some (.ref 127), some (.int a0), some (.int (a0 - (w.1 127 4))), some (.int 0), some (.int 0), none]) (S' := []) (w' := w) rfl ?_
    refine tx_Mo_liquidIn_49 FU _ _ _ _ _ hs (fun e49_3_8 z8_0 z8_1 z8_2 z8_4 z8_5 w8 hs => ?_)
    refine tm_go 1 (pc' := 109) (L' := [z8_0, z8_1, z8_2, some (.int e49_3_8), z8_4, z8_5]) (S' := [.int e49_3_8]) (w' := w8) rfl ?_
    exact tm_r rfl ⟨_, rfl, hs⟩
  · replace hs := hs.2 h1
    refine tm_go 3 (pc' := 13) (L' := [some (.ref 127), some (.int a0), none, none, none, none]) (S' := [.int a0, .ref 163]) (w' := w) rfl ?_
    obtain ⟨b9, hs⟩ := hs
    refine tm_k (pc' := 14) (L' := [some (.ref 127), some (.int a0), none, none, none, none]) (S' := [.int (w.1 163 a0.toInt.toNat)]) (w' := w) rfl b9 ?_
    refine tm_i (p1 := 35) (p2 := 17) rfl (fun h10 => ?_) (fun h10 => ?_)
    · replace hs := hs.1 h10
      refine tm_go 1 (pc' := 36) (L' := [some (.ref 127), some (.int a0), none, none, none, none]) (S' := [.int 0]) (w' := w) rfl ?_
      exact tm_r rfl ⟨_, rfl, hs⟩
    · replace hs := hs.2 h10
      refine tm_go 3 (pc' := 22) (L' := [some (.ref 127), some (.int a0), none, none, none, none]) (S' := [.int a0, .ref 165]) (w' := w) rfl ?_
      obtain ⟨b11, hs⟩ := hs
      refine tm_k (pc' := 23) (L' := [some (.ref 127), some (.int a0), none, none, none, none]) (S' := [.int (w.1 165 a0.toInt.toNat)]) (w' := w) rfl b11 ?_
      refine tm_i (p1 := 35) (p2 := 26) rfl (fun h12 => ?_) (fun h12 => ?_)
      · replace hs := hs.1 h12
        refine tm_go 1 (pc' := 36) (L' := [some (.ref 127), some (.int a0), none, none, none, none]) (S' := [.int 0]) (w' := w) rfl ?_
        exact tm_r rfl ⟨_, rfl, hs⟩
      · replace hs := hs.2 h12
        refine tm_go 3 (pc' := 31) (L' := [some (.ref 127), some (.int a0), none, none, none, none]) (S' := [.int a0, .ref 166]) (w' := w) rfl ?_
        obtain ⟨b13, hs⟩ := hs
        refine tm_k (pc' := 32) (L' := [some (.ref 127), some (.int a0), none, none, none, none]) (S' := [.int (w.1 166 a0.toInt.toNat)]) (w' := w) rfl b13 ?_
        refine tm_go 1 (pc' := 36) (L' := [some (.ref 127), some (.int a0), none, none, none, none]) (S' := [.int (w.1 166 a0.toInt.toNat)]) (w' := w) rfl ?_
        exact tm_r rfl ⟨_, rfl, hs⟩
set_option maxHeartbeats 4000000 in
set_option maxRecDepth 100000 in
theorem tx_Mo_look_2 {d : Nat} {E : MW → Prop} {Q : MW → Prop} (n : Nat) : ∀ (x2_1 : Int32)  (z2 : Option Value) (w : MW), q_Mo_look_2  E Q n x2_1 w → (∀  (v1 : Option Value) (v2 : Option Value) (w : MW), E  w → Tm (d + 1) 68 32 [some (.ref 127), v1, v2] [] w (RV Q)) → Tm (d + 1) 68 2 [some (.ref 127), some (.int x2_1), z2] [] w (RV Q) := by
  induction n with
  | zero => intro x2_1 z2 w hs; rw [q_Mo_look_2.eq_1] at hs; exact hs.elim
  | succ n ih =>
    intro x2_1 z2 w hs hE
    rw [q_Mo_look_2.eq_2] at hs
    refine tm_go 6 (pc' := 12) (L' := [some (.ref 127), some (.int x2_1), z2]) (S' := [.int ((w.1 127 4) + (w.1 127 11)), .int x2_1]) (w' := w) rfl ?_
    refine tm_i (p1 := 32) (p2 := 15) rfl (fun h1 => ?_) (fun h1 => ?_)
    · replace hs := hs.1 h1
      exact hE _ _ _ hs
    · replace hs := hs.2 h1
      refine tm_go 5 (pc' := 22) (L' := [some (.ref 127), some (.int x2_1), z2]) (S' := [.int x2_1, .ref 127, .int x2_1, .ref 194]) (w' := w) rfl ?_
      refine tm_c rfl (Nat.le_of_ble_eq_true rfl) (dm_Mo_liquidIn (d := d + 0) hs) (fun v w2 hq => ?_)
      obtain ⟨r2, rfl, hs⟩ := hq
      obtain ⟨b3, hs⟩ := hs
      refine tm_k (pc' := 26) (L' := [some (.ref 127), some (.int x2_1), z2]) (S' := []) (w' := (sI w2 194 x2_1.toInt.toNat r2)) rfl b3 ?_
      refine tm_go 2 (pc' := 2) (L' := [some (.ref 127), some (.int (x2_1 + (1 : Int32))), z2]) (S' := []) (w' := (sI w2 194 x2_1.toInt.toNat r2)) rfl ?_
      exact ih _ _ _ hs hE
set_option maxHeartbeats 4000000 in
set_option maxRecDepth 100000 in
theorem tx_Mo_look_60 {d : Nat} {x60_1 : Int32} {E : MW → Prop} {Q : MW → Prop} (n : Nat) : ∀ (x60_2 : Int32)   (w : MW), q_Mo_look_60 x60_1 E Q n x60_2 w → (∀  (v2 : Option Value) (w : MW), E  w → Tm (d + 1) 68 104 [some (.ref 127), some (.int x60_1), v2] [] w (RV Q)) → Tm (d + 1) 68 60 [some (.ref 127), some (.int x60_1), some (.int x60_2)] [] w (RV Q) := by
  induction n with
  | zero => intro x60_2  w hs; rw [q_Mo_look_60.eq_1] at hs; exact hs.elim
  | succ n ih =>
    intro x60_2  w hs hE
    rw [q_Mo_look_60.eq_2] at hs
    refine tm_go 4 (pc' := 66) (L' := [some (.ref 127), some (.int x60_1), some (.int x60_2)]) (S' := [.int x60_1, .ref 185, .int x60_2]) (w' := w) rfl ?_
    obtain ⟨b9, hs⟩ := hs
    refine tm_k (pc' := 67) (L' := [some (.ref 127), some (.int x60_1), some (.int x60_2)]) (S' := [.int (w.1 185 x60_1.toInt.toNat), .int x60_2]) (w' := w) rfl b9 ?_
    refine tm_i (p1 := 104) (p2 := 70) rfl (fun h10 => ?_) (fun h10 => ?_)
    · replace hs := hs.1 h10
      exact hE _ _ hs
    · replace hs := hs.2 h10
      refine tm_go 10 (pc' := 85) (L' := [some (.ref 127), some (.int x60_1), some (.int x60_2)]) (S' := [.int (((24 : Int32) * x60_1) + x60_2), .ref 186, .int (w.1 127 4), .ref 127]) (w' := w) rfl ?_
      obtain ⟨b11, hs⟩ := hs
      refine tm_k (pc' := 86) (L' := [some (.ref 127), some (.int x60_1), some (.int x60_2)]) (S' := [.int (w.1 186 ((((24 : Int32) * x60_1) + x60_2).toInt.toNat)), .int (w.1 127 4), .ref 127]) (w' := w) rfl b11 ?_
      refine tm_go 6 (pc' := 94) (L' := [some (.ref 127), some (.int x60_1), some (.int x60_2)]) (S' := [.int x60_1, .ref 183, .int ((w.1 127 4) + ((w.1 186 ((((24 : Int32) * x60_1) + x60_2).toInt.toNat)) / (2 : Int32))), .ref 127]) (w' := w) rfl ?_
      obtain ⟨b12, hs⟩ := hs
      refine tm_k (pc' := 95) (L' := [some (.ref 127), some (.int x60_1), some (.int x60_2)]) (S' := [.int (w.1 183 x60_1.toInt.toNat), .int ((w.1 127 4) + ((w.1 186 ((((24 : Int32) * x60_1) + x60_2).toInt.toNat)) / (2 : Int32))), .ref 127]) (w' := w) rfl b12 ?_
      refine tm_c rfl (Nat.le_of_ble_eq_true rfl) (dm_Mo_carry (d := d + 0) hs) (fun v w13 hq => ?_)
      obtain ⟨rfl, hs⟩ := hq
      refine tm_go 2 (pc' := 60) (L' := [some (.ref 127), some (.int x60_1), some (.int (x60_2 + (1 : Int32)))]) (S' := []) (w' := w13) rfl ?_
      exact ih _ _ hs hE
set_option maxHeartbeats 4000000 in
set_option maxRecDepth 100000 in
theorem tx_Mo_look_34 {d : Nat} {E : MW → Prop} {Q : MW → Prop} (n : Nat) : ∀ (x34_1 : Int32)  (z2 : Option Value) (w : MW), q_Mo_look_34  E Q n x34_1 w → (∀  (v0 : Option Value) (v1 : Option Value) (v2 : Option Value) (w : MW), E  w → Tm (d + 1) 68 110 [v0, v1, v2] [] w (RV Q)) → Tm (d + 1) 68 34 [some (.ref 127), some (.int x34_1), z2] [] w (RV Q) := by
  induction n with
  | zero => intro x34_1 z2 w hs; rw [q_Mo_look_34.eq_1] at hs; exact hs.elim
  | succ n ih =>
    intro x34_1 z2 w hs hE
    rw [q_Mo_look_34.eq_2] at hs
    refine tm_go 3 (pc' := 39) (L' := [some (.ref 127), some (.int x34_1), z2]) (S' := [.int (w.1 127 26), .int x34_1]) (w' := w) rfl ?_
    refine tm_i (p1 := 110) (p2 := 42) rfl (fun h5 => ?_) (fun h5 => ?_)
    · replace hs := hs.1 h5
      exact hE _ _ _ _ hs
    · replace hs := hs.2 h5
      refine tm_go 4 (pc' := 48) (L' := [some (.ref 127), some (.int x34_1), z2]) (S' := [.int x34_1, .ref 182, .ref 127]) (w' := w) rfl ?_
      obtain ⟨b6, hs⟩ := hs
      refine tm_k (pc' := 49) (L' := [some (.ref 127), some (.int x34_1), z2]) (S' := [.int (w.1 182 x34_1.toInt.toNat), .ref 127]) (w' := w) rfl b6 ?_
      refine tm_go 3 (pc' := 54) (L' := [some (.ref 127), some (.int x34_1), z2]) (S' := [.int x34_1, .ref 183, .int (w.1 182 x34_1.toInt.toNat), .ref 127]) (w' := w) rfl ?_
      obtain ⟨b7, hs⟩ := hs
      refine tm_k (pc' := 55) (L' := [some (.ref 127), some (.int x34_1), z2]) (S' := [.int (w.1 183 x34_1.toInt.toNat), .int (w.1 182 x34_1.toInt.toNat), .ref 127]) (w' := w) rfl b7 ?_
      refine tm_c rfl (Nat.le_of_ble_eq_true rfl) (dm_Mo_carry (d := d + 0) hs) (fun v w8 hq => ?_)
      obtain ⟨rfl, hs⟩ := hq
      refine tm_go 2 (pc' := 60) (L' := [some (.ref 127), some (.int x34_1), some (.int 0)]) (S' := []) (w' := w8) rfl ?_
      refine tx_Mo_look_60 FU _ _ hs (fun  z14_2 w14 hs => ?_)
      refine tm_go 2 (pc' := 34) (L' := [some (.ref 127), some (.int (x34_1 + (1 : Int32))), z14_2]) (S' := []) (w' := w14) rfl ?_
      exact ih _ _ _ hs hE
set_option maxHeartbeats 4000000 in
set_option maxRecDepth 100000 in
theorem dm_Mo_look {d : Nat} {w : MW} {Q : MW → Prop} (hs : p_Mo_look w Q) : Tc (d + 1) 68 [.ref 127] w (RV Q) := by
  unfold p_Mo_look at hs
  refine tm_go 2 (pc' := 2) (L' := [some (.ref 127), some (.int 0), none]) (S' := []) (w' := w) rfl ?_
  refine tx_Mo_look_2 FU _ _ _ hs (fun  z4_1 z4_2 w4 hs => ?_)
  refine tm_go 2 (pc' := 34) (L' := [some (.ref 127), some (.int 0), z4_2]) (S' := []) (w' := w4) rfl ?_
  refine tx_Mo_look_34 FU _ _ _ hs (fun  z15_0 z15_1 z15_2 w15 hs => ?_)
  exact tm_r rfl ⟨rfl, hs⟩
set_option maxHeartbeats 4000000 in
set_option maxRecDepth 100000 in
theorem dm_Mo_danger {d : Nat} {w : MW} {a0 : Int32} {Q : Int32 → MW → Prop} (hs : p_Mo_danger w a0 Q) : Tc (d + 4) 70 [.ref 127, .int a0] w (RI Q) := by
  unfold p_Mo_danger at hs
  refine tm_go 1 (pc' := 1) (L' := [some (.ref 127), some (.int a0)]) (S' := [.ref 127]) (w' := w) rfl ?_
  refine tm_c rfl (Nat.le_of_ble_eq_true rfl) (dm_Mo_look (d := d + 2) hs) (fun v w1 hq => ?_)
  obtain ⟨rfl, hs⟩ := hq
  refine tm_go 1 (pc' := 5) (L' := [some (.ref 127), some (.int a0)]) (S' := [.ref 127]) (w' := w1) rfl ?_
  refine tm_c rfl (Nat.le_of_ble_eq_true rfl) (dm_Mo_isSafe (d := d + 0) hs) (fun v w2 hq => ?_)
  obtain ⟨r2, rfl, hz2, hs⟩ := hq
  refine tm_i (p1 := 21) (p2 := 11) rfl (fun h3 => ?_) (fun h3 => ?_)
  · replace hs := hs.1 h3
    refine tm_go 1 (pc' := 22) (L' := [some (.ref 127), some (.int a0)]) (S' := [.int a0]) (w' := w2) rfl ?_
    refine tm_i (p1 := 32) (p2 := 25) rfl (fun h4 => ?_) (fun h4 => ?_)
    · replace hs := hs.1 h4
      refine tm_go 2 (pc' := 34) (L' := [some (.ref 127), some (.int a0)]) (S' := [.int 1, .int a0]) (w' := w2) rfl ?_
      refine tm_i (p1 := 44) (p2 := 37) rfl (fun h5 => ?_) (fun h5 => ?_)
      · replace hs := hs.1 h5
        refine tm_go 2 (pc' := 46) (L' := [some (.ref 127), some (.int a0)]) (S' := [.int 2, .int a0]) (w' := w2) rfl ?_
        refine tm_i (p1 := 56) (p2 := 49) rfl (fun h6 => ?_) (fun h6 => ?_)
        · replace hs := hs.1 h6
          refine tm_go 2 (pc' := 58) (L' := [some (.ref 127), some (.int a0)]) (S' := [.int 3, .int a0]) (w' := w2) rfl ?_
          refine tm_i (p1 := 68) (p2 := 61) rfl (fun h7 => ?_) (fun h7 => ?_)
          · replace hs := hs.1 h7
            refine tm_go 1 (pc' := 69) (L' := [some (.ref 127), some (.int a0)]) (S' := [.int (-1)]) (w' := w2) rfl ?_
            exact tm_r rfl ⟨_, rfl, hs⟩
          · replace hs := hs.2 h7
            refine tm_go 3 (pc' := 69) (L' := [some (.ref 127), some (.int a0)]) (S' := [.int (w2.1 127 48)]) (w' := w2) rfl ?_
            exact tm_r rfl ⟨_, rfl, hs⟩
        · replace hs := hs.2 h6
          refine tm_go 3 (pc' := 69) (L' := [some (.ref 127), some (.int a0)]) (S' := [.int (w2.1 127 47)]) (w' := w2) rfl ?_
          exact tm_r rfl ⟨_, rfl, hs⟩
      · replace hs := hs.2 h5
        refine tm_go 3 (pc' := 69) (L' := [some (.ref 127), some (.int a0)]) (S' := [.int (w2.1 127 46)]) (w' := w2) rfl ?_
        exact tm_r rfl ⟨_, rfl, hs⟩
    · replace hs := hs.2 h4
      refine tm_go 3 (pc' := 69) (L' := [some (.ref 127), some (.int a0)]) (S' := [.int (w2.1 127 45)]) (w' := w2) rfl ?_
      exact tm_r rfl ⟨_, rfl, hs⟩
  · replace hs := hs.2 h3
    refine tm_go 1 (pc' := 12) (L' := [some (.ref 127), some (.int a0)]) (S' := [.int a0]) (w' := w2) rfl ?_
    refine tm_i (p1 := 19) (p2 := 15) rfl (fun h8 => ?_) (fun h8 => ?_)
    · replace hs := hs.1 h8
      refine tm_go 1 (pc' := 20) (L' := [some (.ref 127), some (.int a0)]) (S' := [.int (-1)]) (w' := w2) rfl ?_
      exact tm_r rfl ⟨_, rfl, hs⟩
    · replace hs := hs.2 h8
      refine tm_go 2 (pc' := 20) (L' := [some (.ref 127), some (.int a0)]) (S' := [.int 0]) (w' := w2) rfl ?_
      exact tm_r rfl ⟨_, rfl, hs⟩
set_option maxHeartbeats 4000000 in
set_option maxRecDepth 100000 in
theorem dm_Mo_way {d : Nat} {w : MW} {a0 : Int32} {b0 : Int32} {Q : Int32 → MW → Prop} (hs : p_Mo_way w a0 b0 Q) : Tc (d + 0) 82 [.ref 127, .int a0, .int b0] w (RI Q) := by
  unfold p_Mo_way at hs
  refine tm_go 1 (pc' := 1) (L' := [some (.ref 127), some (.int a0), some (.int b0)]) (S' := [.int a0]) (w' := w) rfl ?_
  refine tm_i (p1 := 28) (p2 := 4) rfl (fun h1 => ?_) (fun h1 => ?_)
  · replace hs := hs.1 h1
    refine tm_go 1 (pc' := 29) (L' := [some (.ref 127), some (.int a0), some (.int b0)]) (S' := [.int (-1)]) (w' := w) rfl ?_
    exact tm_r rfl ⟨_, rfl, hs⟩
  · replace hs := hs.2 h1
    refine tm_go 3 (pc' := 9) (L' := [some (.ref 127), some (.int a0), some (.int b0)]) (S' := [.int (w.1 127 26), .int a0]) (w' := w) rfl ?_
    refine tm_i (p1 := 28) (p2 := 12) rfl (fun h2 => ?_) (fun h2 => ?_)
    · replace hs := hs.1 h2
      refine tm_go 1 (pc' := 29) (L' := [some (.ref 127), some (.int a0), some (.int b0)]) (S' := [.int (-1)]) (w' := w) rfl ?_
      exact tm_r rfl ⟨_, rfl, hs⟩
    · replace hs := hs.2 h2
      refine tm_go 1 (pc' := 13) (L' := [some (.ref 127), some (.int a0), some (.int b0)]) (S' := [.int b0]) (w' := w) rfl ?_
      refine tm_i (p1 := 28) (p2 := 16) rfl (fun h3 => ?_) (fun h3 => ?_)
      · replace hs := hs.1 h3
        refine tm_go 1 (pc' := 29) (L' := [some (.ref 127), some (.int a0), some (.int b0)]) (S' := [.int (-1)]) (w' := w) rfl ?_
        exact tm_r rfl ⟨_, rfl, hs⟩
      · replace hs := hs.2 h3
        refine tm_go 5 (pc' := 23) (L' := [some (.ref 127), some (.int a0), some (.int b0)]) (S' := [.int a0, .ref 185, .int 2, .int b0]) (w' := w) rfl ?_
        obtain ⟨b4, hs⟩ := hs
        refine tm_k (pc' := 24) (L' := [some (.ref 127), some (.int a0), some (.int b0)]) (S' := [.int (w.1 185 a0.toInt.toNat), .int 2, .int b0]) (w' := w) rfl b4 ?_
        refine tm_go 1 (pc' := 25) (L' := [some (.ref 127), some (.int a0), some (.int b0)]) (S' := [.int ((2 : Int32) + (w.1 185 a0.toInt.toNat)), .int b0]) (w' := w) rfl ?_
        refine tm_i (p1 := 30) (p2 := 28) rfl (fun h5 => ?_) (fun h5 => ?_)
        · replace hs := hs.1 h5
          refine tm_go 1 (pc' := 31) (L' := [some (.ref 127), some (.int a0), some (.int b0)]) (S' := [.int b0]) (w' := w) rfl ?_
          refine tm_i (p1 := 43) (p2 := 34) rfl (fun h6 => ?_) (fun h6 => ?_)
          · replace hs := hs.1 h6
            refine tm_go 2 (pc' := 45) (L' := [some (.ref 127), some (.int a0), some (.int b0)]) (S' := [.int 1, .int b0]) (w' := w) rfl ?_
            refine tm_i (p1 := 57) (p2 := 48) rfl (fun h7 => ?_) (fun h7 => ?_)
            · replace hs := hs.1 h7
              refine tm_go 2 (pc' := 59) (L' := [some (.ref 127), some (.int a0), some (.int b0)]) (S' := [.int 2, .int b0]) (w' := w) rfl ?_
              refine tm_i (p1 := 71) (p2 := 62) rfl (fun h8 => ?_) (fun h8 => ?_)
              · replace hs := hs.1 h8
                refine tm_go 9 (pc' := 83) (L' := [some (.ref 127), some (.int a0), some (.int b0)]) (S' := [.int ((((24 : Int32) * a0) + b0) - (3 : Int32)), .ref 186]) (w' := w) rfl ?_
                obtain ⟨b9, hs⟩ := hs
                refine tm_k (pc' := 84) (L' := [some (.ref 127), some (.int a0), some (.int b0)]) (S' := [.int (w.1 186 (((((24 : Int32) * a0) + b0) - (3 : Int32)).toInt.toNat))]) (w' := w) rfl b9 ?_
                refine tm_go 2 (pc' := 86) (L' := [some (.ref 127), some (.int a0), some (.int b0)]) (S' := [.int ((w.1 186 (((((24 : Int32) * a0) + b0) - (3 : Int32)).toInt.toNat)) / (2 : Int32))]) (w' := w) rfl ?_
                exact tm_r rfl ⟨_, rfl, hs⟩
              · replace hs := hs.2 h8
                refine tm_go 3 (pc' := 67) (L' := [some (.ref 127), some (.int a0), some (.int b0)]) (S' := [.int a0, .ref 185]) (w' := w) rfl ?_
                obtain ⟨b10, hs⟩ := hs
                refine tm_k (pc' := 68) (L' := [some (.ref 127), some (.int a0), some (.int b0)]) (S' := [.int (w.1 185 a0.toInt.toNat)]) (w' := w) rfl b10 ?_
                refine tm_go 1 (pc' := 86) (L' := [some (.ref 127), some (.int a0), some (.int b0)]) (S' := [.int (w.1 185 a0.toInt.toNat)]) (w' := w) rfl ?_
                exact tm_r rfl ⟨_, rfl, hs⟩
            · replace hs := hs.2 h7
              refine tm_go 3 (pc' := 53) (L' := [some (.ref 127), some (.int a0), some (.int b0)]) (S' := [.int a0, .ref 182]) (w' := w) rfl ?_
              obtain ⟨b11, hs⟩ := hs
              refine tm_k (pc' := 54) (L' := [some (.ref 127), some (.int a0), some (.int b0)]) (S' := [.int (w.1 182 a0.toInt.toNat)]) (w' := w) rfl b11 ?_
              refine tm_go 1 (pc' := 86) (L' := [some (.ref 127), some (.int a0), some (.int b0)]) (S' := [.int (w.1 182 a0.toInt.toNat)]) (w' := w) rfl ?_
              exact tm_r rfl ⟨_, rfl, hs⟩
          · replace hs := hs.2 h6
            refine tm_go 3 (pc' := 39) (L' := [some (.ref 127), some (.int a0), some (.int b0)]) (S' := [.int a0, .ref 181]) (w' := w) rfl ?_
            obtain ⟨b12, hs⟩ := hs
            refine tm_k (pc' := 40) (L' := [some (.ref 127), some (.int a0), some (.int b0)]) (S' := [.int (w.1 181 a0.toInt.toNat)]) (w' := w) rfl b12 ?_
            refine tm_go 1 (pc' := 86) (L' := [some (.ref 127), some (.int a0), some (.int b0)]) (S' := [.int (w.1 181 a0.toInt.toNat)]) (w' := w) rfl ?_
            exact tm_r rfl ⟨_, rfl, hs⟩
        · replace hs := hs.2 h5
          refine tm_go 1 (pc' := 29) (L' := [some (.ref 127), some (.int a0), some (.int b0)]) (S' := [.int (-1)]) (w' := w) rfl ?_
          exact tm_r rfl ⟨_, rfl, hs⟩
set_option maxHeartbeats 4000000 in
set_option maxRecDepth 100000 in
theorem dm_Mo_isPipe {d : Nat} {w : MW} {a0 : Int32} {Q : Int32 → MW → Prop} (hs : p_Mo_isPipe w a0 Q) : Tc (d + 0) 53 [.ref 127, .int a0] w (RZ Q) := by
  unfold p_Mo_isPipe at hs
  refine tm_go 3 (pc' := 5) (L' := [some (.ref 127), some (.int a0)]) (S' := [.int (w.1 127 4), .int a0]) (w' := w) rfl ?_
  refine tm_i (p1 := 25) (p2 := 8) rfl (fun h1 => ?_) (fun h1 => ?_)
  · replace hs := hs.1 h1
    refine tm_go 1 (pc' := 26) (L' := [some (.ref 127), some (.int a0)]) (S' := [.int 0]) (w' := w) rfl ?_
    exact tm_r rfl ⟨_, rfl, by decide, hs⟩
  · replace hs := hs.2 h1
    refine tm_go 6 (pc' := 18) (L' := [some (.ref 127), some (.int a0)]) (S' := [.int ((w.1 127 4) + (w.1 127 11)), .int a0]) (w' := w) rfl ?_
    refine tm_i (p1 := 25) (p2 := 21) rfl (fun h2 => ?_) (fun h2 => ?_)
    · replace hs := hs.1 h2
      refine tm_go 1 (pc' := 26) (L' := [some (.ref 127), some (.int a0)]) (S' := [.int 0]) (w' := w) rfl ?_
      exact tm_r rfl ⟨_, rfl, by decide, hs⟩
    · replace hs := hs.2 h2
      refine tm_go 2 (pc' := 26) (L' := [some (.ref 127), some (.int a0)]) (S' := [.int 1]) (w' := w) rfl ?_
      exact tm_r rfl ⟨_, rfl, by decide, hs⟩
set_option maxHeartbeats 4000000 in
set_option maxRecDepth 100000 in
theorem dm_Mo_isThing {d : Nat} {w : MW} {a0 : Int32} {Q : Int32 → MW → Prop} (hs : p_Mo_isThing w a0 Q) : Tc (d + 0) 50 [.ref 127, .int a0] w (RZ Q) := by
  unfold p_Mo_isThing at hs
  refine tm_go 1 (pc' := 1) (L' := [some (.ref 127), some (.int a0)]) (S' := [.int a0]) (w' := w) rfl ?_
  refine tm_i (p1 := 16) (p2 := 4) rfl (fun h1 => ?_) (fun h1 => ?_)
  · replace hs := hs.1 h1
    refine tm_go 1 (pc' := 17) (L' := [some (.ref 127), some (.int a0)]) (S' := [.int 0]) (w' := w) rfl ?_
    exact tm_r rfl ⟨_, rfl, by decide, hs⟩
  · replace hs := hs.2 h1
    refine tm_go 3 (pc' := 9) (L' := [some (.ref 127), some (.int a0)]) (S' := [.int (w.1 127 4), .int a0]) (w' := w) rfl ?_
    refine tm_i (p1 := 16) (p2 := 12) rfl (fun h2 => ?_) (fun h2 => ?_)
    · replace hs := hs.1 h2
      refine tm_go 1 (pc' := 17) (L' := [some (.ref 127), some (.int a0)]) (S' := [.int 0]) (w' := w) rfl ?_
      exact tm_r rfl ⟨_, rfl, by decide, hs⟩
    · replace hs := hs.2 h2
      refine tm_go 2 (pc' := 17) (L' := [some (.ref 127), some (.int a0)]) (S' := [.int 1]) (w' := w) rfl ?_
      exact tm_r rfl ⟨_, rfl, by decide, hs⟩
set_option maxHeartbeats 4000000 in
set_option maxRecDepth 100000 in
theorem dm_Mo_isTank {d : Nat} {w : MW} {a0 : Int32} {Q : Int32 → MW → Prop} (hs : p_Mo_isTank w a0 Q) : Tc (d + 1) 51 [.ref 127, .int a0] w (RZ Q) := by
  unfold p_Mo_isTank at hs
  refine tm_go 2 (pc' := 2) (L' := [some (.ref 127), some (.int a0)]) (S' := [.int a0, .ref 127]) (w' := w) rfl ?_
  refine tm_c rfl (Nat.le_of_ble_eq_true rfl) (dm_Mo_isThing (d := d + 0) hs) (fun v w1 hq => ?_)
  obtain ⟨r1, rfl, hz1, hs⟩ := hq
  refine tm_i (p1 := 21) (p2 := 8) rfl (fun h2 => ?_) (fun h2 => ?_)
  · replace hs := hs.1 h2
    refine tm_go 1 (pc' := 22) (L' := [some (.ref 127), some (.int a0)]) (S' := [.int 0]) (w' := w1) rfl ?_
    exact tm_r rfl ⟨_, rfl, by decide, hs⟩
  · replace hs := hs.2 h2
    refine tm_go 3 (pc' := 13) (L' := [some (.ref 127), some (.int a0)]) (S' := [.int a0, .ref 163]) (w' := w1) rfl ?_
    obtain ⟨b3, hs⟩ := hs
    refine tm_k (pc' := 14) (L' := [some (.ref 127), some (.int a0)]) (S' := [.int (w1.1 163 a0.toInt.toNat)]) (w' := w1) rfl b3 ?_
    refine tm_i (p1 := 21) (p2 := 17) rfl (fun h4 => ?_) (fun h4 => ?_)
    · replace hs := hs.1 h4
      refine tm_go 1 (pc' := 22) (L' := [some (.ref 127), some (.int a0)]) (S' := [.int 0]) (w' := w1) rfl ?_
      exact tm_r rfl ⟨_, rfl, by decide, hs⟩
    · replace hs := hs.2 h4
      refine tm_go 2 (pc' := 22) (L' := [some (.ref 127), some (.int a0)]) (S' := [.int 1]) (w' := w1) rfl ?_
      exact tm_r rfl ⟨_, rfl, by decide, hs⟩
set_option maxHeartbeats 4000000 in
set_option maxRecDepth 100000 in
theorem dm_Mo_holdsLiquid {d : Nat} {w : MW} {a0 : Int32} {Q : Int32 → MW → Prop} (hs : p_Mo_holdsLiquid w a0 Q) : Tc (d + 2) 54 [.ref 127, .int a0] w (RZ Q) := by
  unfold p_Mo_holdsLiquid at hs
  refine tm_go 2 (pc' := 2) (L' := [some (.ref 127), some (.int a0)]) (S' := [.int a0, .ref 127]) (w' := w) rfl ?_
  refine tm_c rfl (Nat.le_of_ble_eq_true rfl) (dm_Mo_isTank (d := d + 0) hs) (fun v w1 hq => ?_)
  obtain ⟨r1, rfl, hz1, hs⟩ := hq
  refine tm_i (p1 := 16) (p2 := 8) rfl (fun h2 => ?_) (fun h2 => ?_)
  · replace hs := hs.1 h2
    refine tm_go 2 (pc' := 21) (L' := [some (.ref 127), some (.int a0)]) (S' := [.int 1]) (w' := w1) rfl ?_
    exact tm_r rfl ⟨_, rfl, by decide, hs⟩
  · replace hs := hs.2 h2
    refine tm_go 2 (pc' := 10) (L' := [some (.ref 127), some (.int a0)]) (S' := [.int a0, .ref 127]) (w' := w1) rfl ?_
    refine tm_c rfl (Nat.le_of_ble_eq_true rfl) (dm_Mo_isPipe (d := d + 1) hs) (fun v w3 hq => ?_)
    obtain ⟨r3, rfl, hz3, hs⟩ := hq
    refine tm_i (p1 := 20) (p2 := 16) rfl (fun h4 => ?_) (fun h4 => ?_)
    · replace hs := hs.1 h4
      refine tm_go 1 (pc' := 21) (L' := [some (.ref 127), some (.int a0)]) (S' := [.int 0]) (w' := w3) rfl ?_
      exact tm_r rfl ⟨_, rfl, by decide, hs⟩
    · replace hs := hs.2 h4
      refine tm_go 2 (pc' := 21) (L' := [some (.ref 127), some (.int a0)]) (S' := [.int 1]) (w' := w3) rfl ?_
      exact tm_r rfl ⟨_, rfl, by decide, hs⟩
set_option maxHeartbeats 4000000 in
set_option maxRecDepth 100000 in
theorem dm_Mo_isValve {d : Nat} {w : MW} {a0 : Int32} {Q : Int32 → MW → Prop} (hs : p_Mo_isValve w a0 Q) : Tc (d + 1) 52 [.ref 127, .int a0] w (RZ Q) := by
  unfold p_Mo_isValve at hs
  refine tm_go 2 (pc' := 2) (L' := [some (.ref 127), some (.int a0)]) (S' := [.int a0, .ref 127]) (w' := w) rfl ?_
  refine tm_c rfl (Nat.le_of_ble_eq_true rfl) (dm_Mo_isThing (d := d + 0) hs) (fun v w1 hq => ?_)
  obtain ⟨r1, rfl, hz1, hs⟩ := hq
  refine tm_i (p1 := 22) (p2 := 8) rfl (fun h2 => ?_) (fun h2 => ?_)
  · replace hs := hs.1 h2
    refine tm_go 1 (pc' := 23) (L' := [some (.ref 127), some (.int a0)]) (S' := [.int 0]) (w' := w1) rfl ?_
    exact tm_r rfl ⟨_, rfl, by decide, hs⟩
  · replace hs := hs.2 h2
    refine tm_go 3 (pc' := 13) (L' := [some (.ref 127), some (.int a0)]) (S' := [.int a0, .ref 163]) (w' := w1) rfl ?_
    obtain ⟨b3, hs⟩ := hs
    refine tm_k (pc' := 14) (L' := [some (.ref 127), some (.int a0)]) (S' := [.int (w1.1 163 a0.toInt.toNat)]) (w' := w1) rfl b3 ?_
    refine tm_go 1 (pc' := 15) (L' := [some (.ref 127), some (.int a0)]) (S' := [.int 2, .int (w1.1 163 a0.toInt.toNat)]) (w' := w1) rfl ?_
    refine tm_i (p1 := 22) (p2 := 18) rfl (fun h4 => ?_) (fun h4 => ?_)
    · replace hs := hs.1 h4
      refine tm_go 1 (pc' := 23) (L' := [some (.ref 127), some (.int a0)]) (S' := [.int 0]) (w' := w1) rfl ?_
      exact tm_r rfl ⟨_, rfl, by decide, hs⟩
    · replace hs := hs.2 h4
      refine tm_go 2 (pc' := 23) (L' := [some (.ref 127), some (.int a0)]) (S' := [.int 1]) (w' := w1) rfl ?_
      exact tm_r rfl ⟨_, rfl, by decide, hs⟩
set_option maxHeartbeats 4000000 in
set_option maxRecDepth 100000 in
theorem tx_Mo_level_57 {d : Nat} {x23_1 : Int32} {y57_3 : Int32} {ys57_0 : Int32} {z2 : Option Value} {w : MW} {A : Int32 → Int32 → MW → Prop} {E : MW → Prop} {Q : Int32 → MW → Prop} (hs : q_Mo_level_57 x23_1 y57_3 ys57_0 w A E Q) (hA : ∀ (x23_2 : Int32) (x23_3 : Int32)   (w : MW), A x23_2 x23_3 w → Tm (d + 1) 59 23 [some (.ref 127), some (.int x23_1), some (.int x23_2), some (.int x23_3)] [] w (RI Q)) (hE : ∀  (v0 : Option Value) (v1 : Option Value) (v2 : Option Value) (v3 : Option Value) (w : MW), E  w → Tm (d + 1) 59 85 [v0, v1, v2, v3] [] w (RI Q)) : Tm (d + 1) 59 57 [some (.ref 127), some (.int x23_1), z2, some (.int y57_3)] [.int ys57_0] w (RI Q) := by
  unfold q_Mo_level_57 at hs
  refine tm_go 2 (pc' := 59) (L' := [some (.ref 127), some (.int x23_1), some (.int ys57_0), some (.int y57_3)]) (S' := [.int ys57_0]) (w' := w) rfl ?_
  refine tm_i (p1 := 79) (p2 := 62) rfl (fun h8 => ?_) (fun h8 => ?_)
  · replace hs := hs.1 h8
    refine tm_go 2 (pc' := 23) (L' := [some (.ref 127), some (.int x23_1), some (.int ys57_0), some (.int (y57_3 + ((-1) : Int32)))]) (S' := []) (w' := w) rfl ?_
    exact hA _ _ _ hs
  · replace hs := hs.2 h8
    refine tm_go 7 (pc' := 73) (L' := [some (.ref 127), some (.int x23_1), some (.int ys57_0), some (.int y57_3)]) (S' := [.int y57_3, .ref 177, .int ((w.1 127 78) - ys57_0)]) (w' := w) rfl ?_
    obtain ⟨b9, hs⟩ := hs
    refine tm_k (pc' := 74) (L' := [some (.ref 127), some (.int x23_1), some (.int ys57_0), some (.int y57_3)]) (S' := [.int (w.1 177 y57_3.toInt.toNat), .int ((w.1 127 78) - ys57_0)]) (w' := w) rfl b9 ?_
    refine tm_i (p1 := 79) (p2 := 77) rfl (fun h10 => ?_) (fun h10 => ?_)
    · replace hs := hs.1 h10
      refine tm_go 2 (pc' := 23) (L' := [some (.ref 127), some (.int x23_1), some (.int ys57_0), some (.int (y57_3 + ((-1) : Int32)))]) (S' := []) (w' := w) rfl ?_
      exact hA _ _ _ hs
    · replace hs := hs.2 h10
      refine tm_go 1 (pc' := 78) (L' := [some (.ref 127), some (.int x23_1), some (.int ys57_0), some (.int y57_3)]) (S' := [.int y57_3]) (w' := w) rfl ?_
      exact tm_r rfl ⟨_, rfl, hs⟩
set_option maxHeartbeats 4000000 in
set_option maxRecDepth 100000 in
theorem tx_Mo_level_23 {d : Nat} {x23_1 : Int32} {E : MW → Prop} {Q : Int32 → MW → Prop} (n : Nat) : ∀ (x23_2 : Int32) (x23_3 : Int32)   (w : MW), q_Mo_level_23 x23_1 E Q n x23_2 x23_3 w → (∀  (v0 : Option Value) (v1 : Option Value) (v2 : Option Value) (v3 : Option Value) (w : MW), E  w → Tm (d + 1) 59 85 [v0, v1, v2, v3] [] w (RI Q)) → Tm (d + 1) 59 23 [some (.ref 127), some (.int x23_1), some (.int x23_2), some (.int x23_3)] [] w (RI Q) := by
  induction n with
  | zero => intro x23_2 x23_3  w hs; rw [q_Mo_level_23.eq_1] at hs; exact hs.elim
  | succ n ih =>
    intro x23_2 x23_3  w hs hE
    rw [q_Mo_level_23.eq_2] at hs
    refine tm_go 1 (pc' := 24) (L' := [some (.ref 127), some (.int x23_1), some (.int x23_2), some (.int x23_3)]) (S' := [.int x23_3]) (w' := w) rfl ?_
    refine tm_i (p1 := 85) (p2 := 27) rfl (fun h5 => ?_) (fun h5 => ?_)
    · replace hs := hs.1 h5
      exact hE _ _ _ _ _ hs
    · replace hs := hs.2 h5
      refine tm_go 7 (pc' := 37) (L' := [some (.ref 127), some (.int x23_1), some (.int x23_2), some (.int x23_3)]) (S' := [.int (((6 : Int32) * x23_1) + x23_3), .ref 174]) (w' := w) rfl ?_
      obtain ⟨b6, hs⟩ := hs
      refine tm_k (pc' := 38) (L' := [some (.ref 127), some (.int x23_1), some (.int x23_2), some (.int x23_3)]) (S' := [.int (w.1 174 ((((6 : Int32) * x23_1) + x23_3).toInt.toNat))]) (w' := w) rfl b6 ?_
      refine tm_go 1 (pc' := 39) (L' := [some (.ref 127), some (.int x23_1), some (.int x23_2), some (.int x23_3)]) (S' := [.int x23_2, .int (w.1 174 ((((6 : Int32) * x23_1) + x23_3).toInt.toNat))]) (w' := w) rfl ?_
      refine tm_i (p1 := 56) (p2 := 42) rfl (fun h7 => ?_) (fun h7 => ?_)
      · replace hs := hs.1 h7
        refine tm_go 1 (pc' := 57) (L' := [some (.ref 127), some (.int x23_1), some (.int x23_2), some (.int x23_3)]) (S' := [.int x23_2]) (w' := w) rfl ?_
        exact tx_Mo_level_57 hs (fun q0 q1 q2 hs => ih q0 q1 q2 hs hE) hE
      · replace hs := hs.2 h7
        refine tm_go 7 (pc' := 52) (L' := [some (.ref 127), some (.int x23_1), some (.int x23_2), some (.int x23_3)]) (S' := [.int (((6 : Int32) * x23_1) + x23_3), .ref 174]) (w' := w) rfl ?_
        obtain ⟨b11, hs⟩ := hs
        refine tm_k (pc' := 53) (L' := [some (.ref 127), some (.int x23_1), some (.int x23_2), some (.int x23_3)]) (S' := [.int (w.1 174 ((((6 : Int32) * x23_1) + x23_3).toInt.toNat))]) (w' := w) rfl b11 ?_
        refine tm_go 1 (pc' := 57) (L' := [some (.ref 127), some (.int x23_1), some (.int x23_2), some (.int x23_3)]) (S' := [.int (w.1 174 ((((6 : Int32) * x23_1) + x23_3).toInt.toNat))]) (w' := w) rfl ?_
        exact tx_Mo_level_57 hs (fun q0 q1 q2 hs => ih q0 q1 q2 hs hE) hE
set_option maxHeartbeats 4000000 in
set_option maxRecDepth 100000 in
theorem dm_Mo_level {d : Nat} {w : MW} {a0 : Int32} {Q : Int32 → MW → Prop} (hs : p_Mo_level w a0 Q) : Tc (d + 1) 59 [.ref 127, .int a0] w (RI Q) := by
  unfold p_Mo_level at hs
  refine tm_go 2 (pc' := 2) (L' := [some (.ref 127), some (.int a0), none, none]) (S' := [.int a0, .ref 127]) (w' := w) rfl ?_
  refine tm_c rfl (Nat.le_of_ble_eq_true rfl) (dm_Mo_liquidIn (d := d + 0) hs) (fun v w1 hq => ?_)
  obtain ⟨r1, rfl, hs⟩ := hq
  refine tm_i (p1 := 17) (p2 := 8) rfl (fun h2 => ?_) (fun h2 => ?_)
  · replace hs := hs.1 h2
    refine tm_go 1 (pc' := 18) (L' := [some (.ref 127), some (.int a0), none, none]) (S' := [.int 0]) (w' := w1) rfl ?_
    exact tm_r rfl ⟨_, rfl, hs⟩
  · replace hs := hs.2 h2
    refine tm_go 3 (pc' := 13) (L' := [some (.ref 127), some (.int a0), none, none]) (S' := [.int a0, .ref 173]) (w' := w1) rfl ?_
    obtain ⟨b3, hs⟩ := hs
    refine tm_k (pc' := 14) (L' := [some (.ref 127), some (.int a0), none, none]) (S' := [.int (w1.1 173 a0.toInt.toNat)]) (w' := w1) rfl b3 ?_
    refine tm_i (p1 := 19) (p2 := 17) rfl (fun h4 => ?_) (fun h4 => ?_)
    · replace hs := hs.1 h4
      refine tm_go 4 (pc' := 23) (L' := [some (.ref 127), some (.int a0), some (.int (-1)), some (.int 5)]) (S' := []) (w' := w1) rfl ?_
      refine tx_Mo_level_23 FU _ _ _ hs (fun  z12_0 z12_1 z12_2 z12_3 w12 hs => ?_)
      refine tm_go 1 (pc' := 86) (L' := [z12_0, z12_1, z12_2, z12_3]) (S' := [.int 0]) (w' := w12) rfl ?_
      exact tm_r rfl ⟨_, rfl, hs⟩
    · replace hs := hs.2 h4
      refine tm_go 1 (pc' := 18) (L' := [some (.ref 127), some (.int a0), none, none]) (S' := [.int 0]) (w' := w1) rfl ?_
      exact tm_r rfl ⟨_, rfl, hs⟩
set_option maxHeartbeats 4000000 in
set_option maxRecDepth 100000 in
theorem tx_Mo_litresIn_19 {d : Nat} {x19_1 : Int32} {E : Int32 → MW → Prop} {Q : Int32 → MW → Prop} (n : Nat) : ∀ (x19_2 : Int32) (x19_3 : Int32)   (w : MW), q_Mo_litresIn_19 x19_1 E Q n x19_2 x19_3 w → (∀ (e19_2 : Int32)  (v0 : Option Value) (v1 : Option Value) (v3 : Option Value) (w : MW), E e19_2 w → Tm (d + 0) 56 68 [v0, v1, some (.int e19_2), v3] [] w (RI Q)) → Tm (d + 0) 56 19 [some (.ref 127), some (.int x19_1), some (.int x19_2), some (.int x19_3)] [] w (RI Q) := by
  induction n with
  | zero => intro x19_2 x19_3  w hs; rw [q_Mo_litresIn_19.eq_1] at hs; exact hs.elim
  | succ n ih =>
    intro x19_2 x19_3  w hs hE
    rw [q_Mo_litresIn_19.eq_2] at hs
    refine tm_go 7 (pc' := 30) (L' := [some (.ref 127), some (.int x19_1), some (.int x19_2), some (.int x19_3)]) (S' := [.int (x19_1 - (w.1 127 4)), .ref 169, .int x19_3]) (w' := w) rfl ?_
    obtain ⟨b2, hs⟩ := hs
    refine tm_k (pc' := 31) (L' := [some (.ref 127), some (.int x19_1), some (.int x19_2), some (.int x19_3)]) (S' := [.int (w.1 169 ((x19_1 - (w.1 127 4)).toInt.toNat)), .int x19_3]) (w' := w) rfl b2 ?_
    refine tm_i (p1 := 68) (p2 := 34) rfl (fun h3 => ?_) (fun h3 => ?_)
    · replace hs := hs.1 h3
      exact hE _ _ _ _ _ hs
    · replace hs := hs.2 h3
      refine tm_go 11 (pc' := 51) (L' := [some (.ref 127), some (.int x19_1), some (.int x19_2), some (.int x19_3)]) (S' := [.int (((200 : Int32) * (x19_1 - (w.1 127 4))) + x19_3), .ref 172, .int x19_2]) (w' := w) rfl ?_
      obtain ⟨b4, hs⟩ := hs
      refine tm_k (pc' := 52) (L' := [some (.ref 127), some (.int x19_1), some (.int x19_2), some (.int x19_3)]) (S' := [.int (w.1 172 ((((200 : Int32) * (x19_1 - (w.1 127 4))) + x19_3).toInt.toNat)), .int x19_2]) (w' := w) rfl b4 ?_
      refine tm_i (p1 := 59) (p2 := 55) rfl (fun h5 => ?_) (fun h5 => ?_)
      · replace hs := hs.1 h5
        refine tm_go 5 (pc' := 19) (L' := [some (.ref 127), some (.int x19_1), some (.int (x19_2 + (1 : Int32))), some (.int (x19_3 + (1 : Int32)))]) (S' := []) (w' := w) rfl ?_
        exact ih _ _ _ hs hE
      · replace hs := hs.2 h5
        refine tm_go 6 (pc' := 19) (L' := [some (.ref 127), some (.int x19_1), some (.int (x19_2 + (0 : Int32))), some (.int (x19_3 + (1 : Int32)))]) (S' := []) (w' := w) rfl ?_
        exact ih _ _ _ hs hE
set_option maxHeartbeats 4000000 in
set_option maxRecDepth 100000 in
theorem dm_Mo_litresIn {d : Nat} {w : MW} {a0 : Int32} {Q : Int32 → MW → Prop} (hs : p_Mo_litresIn w a0 Q) : Tc (d + 0) 56 [.ref 127, .int a0] w (RI Q) := by
  unfold p_Mo_litresIn at hs
  refine tm_go 3 (pc' := 5) (L' := [some (.ref 127), some (.int a0), none, none]) (S' := [.int (w.1 127 4), .int a0]) (w' := w) rfl ?_
  refine tm_i (p1 := 15) (p2 := 8) rfl (fun h1 => ?_) (fun h1 => ?_)
  · replace hs := hs.1 h1
    refine tm_go 4 (pc' := 19) (L' := [some (.ref 127), some (.int a0), some (.int 0), some (.int 0)]) (S' := []) (w' := w) rfl ?_
    refine tx_Mo_litresIn_19 FU _ _ _ hs (fun e19_2_6 z6_0 z6_1 z6_3 w6 hs => ?_)
    refine tm_go 1 (pc' := 69) (L' := [z6_0, z6_1, some (.int e19_2_6), z6_3]) (S' := [.int e19_2_6]) (w' := w6) rfl ?_
    exact tm_r rfl ⟨_, rfl, hs⟩
  · replace hs := hs.2 h1
    refine tm_go 3 (pc' := 13) (L' := [some (.ref 127), some (.int a0), none, none]) (S' := [.int a0, .ref 165]) (w' := w) rfl ?_
    obtain ⟨b7, hs⟩ := hs
    refine tm_k (pc' := 14) (L' := [some (.ref 127), some (.int a0), none, none]) (S' := [.int (w.1 165 a0.toInt.toNat)]) (w' := w) rfl b7 ?_
    exact tm_r rfl ⟨_, rfl, hs⟩
set_option maxHeartbeats 4000000 in
set_option maxRecDepth 100000 in
theorem dm_Mo_space {d : Nat} {w : MW} {a0 : Int32} {b0 : Int32} {Q : Int32 → MW → Prop} (hs : p_Mo_space w a0 b0 Q) : Tc (d + 3) 83 [.ref 127, .int a0, .int b0] w (RI Q) := by
  unfold p_Mo_space at hs
  refine tm_go 2 (pc' := 2) (L' := [some (.ref 127), some (.int a0), some (.int b0)]) (S' := [.int 4, .int b0]) (w' := w) rfl ?_
  refine tm_i (p1 := 24) (p2 := 5) rfl (fun h1 => ?_) (fun h1 => ?_)
  · replace hs := hs.1 h1
    refine tm_go 2 (pc' := 26) (L' := [some (.ref 127), some (.int a0), some (.int b0)]) (S' := [.int a0, .ref 127]) (w' := w) rfl ?_
    refine tm_c rfl (Nat.le_of_ble_eq_true rfl) (dm_Mo_holdsLiquid (d := d + 0) hs) (fun v w2 hq => ?_)
    obtain ⟨r2, rfl, hz2, hs⟩ := hq
    refine tm_i (p1 := 41) (p2 := 32) rfl (fun h3 => ?_) (fun h3 => ?_)
    · replace hs := hs.1 h3
      refine tm_go 1 (pc' := 42) (L' := [some (.ref 127), some (.int a0), some (.int b0)]) (S' := [.int (-1)]) (w' := w2) rfl ?_
      exact tm_r rfl ⟨_, rfl, hs⟩
    · replace hs := hs.2 h3
      refine tm_go 1 (pc' := 33) (L' := [some (.ref 127), some (.int a0), some (.int b0)]) (S' := [.int b0]) (w' := w2) rfl ?_
      refine tm_i (p1 := 41) (p2 := 36) rfl (fun h4 => ?_) (fun h4 => ?_)
      · replace hs := hs.1 h4
        refine tm_go 1 (pc' := 42) (L' := [some (.ref 127), some (.int a0), some (.int b0)]) (S' := [.int (-1)]) (w' := w2) rfl ?_
        exact tm_r rfl ⟨_, rfl, hs⟩
      · replace hs := hs.2 h4
        refine tm_go 2 (pc' := 38) (L' := [some (.ref 127), some (.int a0), some (.int b0)]) (S' := [.int 3, .int b0]) (w' := w2) rfl ?_
        refine tm_i (p1 := 43) (p2 := 41) rfl (fun h5 => ?_) (fun h5 => ?_)
        · replace hs := hs.1 h5
          refine tm_go 1 (pc' := 44) (L' := [some (.ref 127), some (.int a0), some (.int b0)]) (S' := [.int b0]) (w' := w2) rfl ?_
          refine tm_i (p1 := 55) (p2 := 47) rfl (fun h6 => ?_) (fun h6 => ?_)
          · replace hs := hs.1 h6
            refine tm_go 2 (pc' := 57) (L' := [some (.ref 127), some (.int a0), some (.int b0)]) (S' := [.int 1, .int b0]) (w' := w2) rfl ?_
            refine tm_i (p1 := 68) (p2 := 60) rfl (fun h7 => ?_) (fun h7 => ?_)
            · replace hs := hs.1 h7
              refine tm_go 2 (pc' := 70) (L' := [some (.ref 127), some (.int a0), some (.int b0)]) (S' := [.int 2, .int b0]) (w' := w2) rfl ?_
              refine tm_i (p1 := 82) (p2 := 73) rfl (fun h8 => ?_) (fun h8 => ?_)
              · replace hs := hs.1 h8
                refine tm_go 2 (pc' := 84) (L' := [some (.ref 127), some (.int a0), some (.int b0)]) (S' := [.int a0, .ref 127]) (w' := w2) rfl ?_
                refine tm_c rfl (Nat.le_of_ble_eq_true rfl) (dm_Mo_level (d := d + 1) hs) (fun v w9 hq => ?_)
                obtain ⟨r9, rfl, hs⟩ := hq
                exact tm_r rfl ⟨_, rfl, hs⟩
              · replace hs := hs.2 h8
                refine tm_go 3 (pc' := 78) (L' := [some (.ref 127), some (.int a0), some (.int b0)]) (S' := [.int a0, .ref 173]) (w' := w2) rfl ?_
                obtain ⟨b10, hs⟩ := hs
                refine tm_k (pc' := 79) (L' := [some (.ref 127), some (.int a0), some (.int b0)]) (S' := [.int (w2.1 173 a0.toInt.toNat)]) (w' := w2) rfl b10 ?_
                refine tm_go 1 (pc' := 87) (L' := [some (.ref 127), some (.int a0), some (.int b0)]) (S' := [.int (w2.1 173 a0.toInt.toNat)]) (w' := w2) rfl ?_
                exact tm_r rfl ⟨_, rfl, hs⟩
            · replace hs := hs.2 h7
              refine tm_go 2 (pc' := 62) (L' := [some (.ref 127), some (.int a0), some (.int b0)]) (S' := [.int a0, .ref 127]) (w' := w2) rfl ?_
              refine tm_c rfl (Nat.le_of_ble_eq_true rfl) (dm_Mo_litresIn (d := d + 2) hs) (fun v w11 hq => ?_)
              obtain ⟨r11, rfl, hs⟩ := hq
              refine tm_go 1 (pc' := 87) (L' := [some (.ref 127), some (.int a0), some (.int b0)]) (S' := [.int r11]) (w' := w11) rfl ?_
              exact tm_r rfl ⟨_, rfl, hs⟩
          · replace hs := hs.2 h6
            refine tm_go 2 (pc' := 49) (L' := [some (.ref 127), some (.int a0), some (.int b0)]) (S' := [.int a0, .ref 127]) (w' := w2) rfl ?_
            refine tm_c rfl (Nat.le_of_ble_eq_true rfl) (dm_Mo_liquidIn (d := d + 2) hs) (fun v w12 hq => ?_)
            obtain ⟨r12, rfl, hs⟩ := hq
            refine tm_go 1 (pc' := 87) (L' := [some (.ref 127), some (.int a0), some (.int b0)]) (S' := [.int r12]) (w' := w12) rfl ?_
            exact tm_r rfl ⟨_, rfl, hs⟩
        · replace hs := hs.2 h5
          refine tm_go 1 (pc' := 42) (L' := [some (.ref 127), some (.int a0), some (.int b0)]) (S' := [.int (-1)]) (w' := w2) rfl ?_
          exact tm_r rfl ⟨_, rfl, hs⟩
  · replace hs := hs.2 h1
    refine tm_go 2 (pc' := 7) (L' := [some (.ref 127), some (.int a0), some (.int b0)]) (S' := [.int a0, .ref 127]) (w' := w) rfl ?_
    refine tm_c rfl (Nat.le_of_ble_eq_true rfl) (dm_Mo_isValve (d := d + 1) hs) (fun v w13 hq => ?_)
    obtain ⟨r13, rfl, hz13, hs⟩ := hq
    refine tm_i (p1 := 22) (p2 := 13) rfl (fun h14 => ?_) (fun h14 => ?_)
    · replace hs := hs.1 h14
      refine tm_go 1 (pc' := 23) (L' := [some (.ref 127), some (.int a0), some (.int b0)]) (S' := [.int (-1)]) (w' := w13) rfl ?_
      exact tm_r rfl ⟨_, rfl, hs⟩
    · replace hs := hs.2 h14
      refine tm_go 3 (pc' := 18) (L' := [some (.ref 127), some (.int a0), some (.int b0)]) (S' := [.int a0, .ref 167]) (w' := w13) rfl ?_
      obtain ⟨b15, hs⟩ := hs
      refine tm_k (pc' := 19) (L' := [some (.ref 127), some (.int a0), some (.int b0)]) (S' := [.int (w13.1 167 a0.toInt.toNat)]) (w' := w13) rfl b15 ?_
      refine tm_go 1 (pc' := 23) (L' := [some (.ref 127), some (.int a0), some (.int b0)]) (S' := [.int (w13.1 167 a0.toInt.toNat)]) (w' := w13) rfl ?_
      exact tm_r rfl ⟨_, rfl, hs⟩
set_option maxHeartbeats 4000000 in
set_option maxRecDepth 100000 in
theorem tx_Mo_mayCome_69 {d : Nat} {y69_2 : Int32} {ys69_0 : Int32} {z1 : Option Value} {z3 : Option Value} {z4 : Option Value} {w : MW} {Q : Int32 → MW → Prop} (hs : q_Mo_mayCome_69 y69_2 ys69_0 w Q) : Tm (d + 2) 60 69 [some (.ref 127), z1, some (.int y69_2), z3, z4] [.int ys69_0] w (RZ Q) := by
  unfold q_Mo_mayCome_69 at hs
  refine tm_go 2 (pc' := 73) (L' := [some (.ref 127), z1, some (.int y69_2), (ksl z3), some (.int ys69_0)]) (S' := [.int ys69_0]) (w' := w) rfl ?_
  refine tm_i (p1 := 86) (p2 := 76) rfl (fun h7 => ?_) (fun h7 => ?_)
  · replace hs := hs.1 h7
    refine tm_go 2 (pc' := 91) (L' := [some (.ref 127), z1, some (.int y69_2), (ksl z3), some (.int ys69_0)]) (S' := [.int 1]) (w' := w) rfl ?_
    exact tm_r rfl ⟨_, rfl, by decide, hs⟩
  · replace hs := hs.2 h7
    refine tm_go 2 (pc' := 78) (L' := [some (.ref 127), z1, some (.int y69_2), (ksl z3), some (.int ys69_0)]) (S' := [.int y69_2, .ref 127]) (w' := w) rfl ?_
    refine tm_c rfl (Nat.le_of_ble_eq_true rfl) (dm_Mo_level (d := d + 0) hs) (fun v w8 hq => ?_)
    obtain ⟨r8, rfl, hs⟩ := hq
    refine tm_go 1 (pc' := 83) (L' := [some (.ref 127), z1, some (.int y69_2), (ksl z3), some (.int ys69_0)]) (S' := [.int ys69_0, .int r8]) (w' := w8) rfl ?_
    refine tm_i (p1 := 90) (p2 := 86) rfl (fun h9 => ?_) (fun h9 => ?_)
    · replace hs := hs.1 h9
      refine tm_go 1 (pc' := 91) (L' := [some (.ref 127), z1, some (.int y69_2), (ksl z3), some (.int ys69_0)]) (S' := [.int 0]) (w' := w8) rfl ?_
      exact tm_r rfl ⟨_, rfl, by decide, hs⟩
    · replace hs := hs.2 h9
      refine tm_go 2 (pc' := 91) (L' := [some (.ref 127), z1, some (.int y69_2), (ksl z3), some (.int ys69_0)]) (S' := [.int 1]) (w' := w8) rfl ?_
      exact tm_r rfl ⟨_, rfl, by decide, hs⟩
set_option maxHeartbeats 4000000 in
set_option maxRecDepth 100000 in
theorem dm_Mo_mayCome {d : Nat} {w : MW} {a0 : Int32} {b0 : Int32} {Q : Int32 → MW → Prop} (hs : p_Mo_mayCome w a0 b0 Q) : Tc (d + 2) 60 [.ref 127, .int a0, .int b0] w (RZ Q) := by
  unfold p_Mo_mayCome at hs
  refine tm_go 2 (pc' := 2) (L' := [some (.ref 127), some (.int a0), some (.int b0), none, none]) (S' := [.int b0, .ref 127]) (w' := w) rfl ?_
  refine tm_c rfl (Nat.le_of_ble_eq_true rfl) (dm_Mo_liquidIn (d := d + 1) hs) (fun v w1 hq => ?_)
  obtain ⟨r1, rfl, hs⟩ := hq
  refine tm_go 2 (pc' := 7) (L' := [some (.ref 127), some (.int a0), some (.int b0), some (.int r1), none]) (S' := [.int r1]) (w' := w1) rfl ?_
  refine tm_i (p1 := 21) (p2 := 10) rfl (fun h2 => ?_) (fun h2 => ?_)
  · replace hs := hs.1 h2
    refine tm_go 3 (pc' := 26) (L' := [some (.ref 127), some (.int a0), some (.int b0), some (.int r1), none]) (S' := [.int b0, .ref 173]) (w' := w1) rfl ?_
    obtain ⟨b3, hs⟩ := hs
    refine tm_k (pc' := 27) (L' := [some (.ref 127), some (.int a0), some (.int b0), some (.int r1), none]) (S' := [.int (w1.1 173 b0.toInt.toNat)]) (w' := w1) rfl b3 ?_
    refine tm_i (p1 := 32) (p2 := 30) rfl (fun h4 => ?_) (fun h4 => ?_)
    · replace hs := hs.1 h4
      refine tm_go 3 (pc' := 37) (L' := [some (.ref 127), some (.int a0), some (.int b0), some (.int r1), none]) (S' := [.int b0, .ref 173]) (w' := w1) rfl ?_
      obtain ⟨b5, hs⟩ := hs
      refine tm_k (pc' := 38) (L' := [some (.ref 127), some (.int a0), some (.int b0), some (.int r1), none]) (S' := [.int (w1.1 173 b0.toInt.toNat)]) (w' := w1) rfl b5 ?_
      refine tm_go 1 (pc' := 40) (L' := [some (.ref 127), some (.int a0), some (.int b0), some (.int r1), none]) (S' := [.int 15, .int (w1.1 173 b0.toInt.toNat)]) (w' := w1) rfl ?_
      refine tm_i (p1 := 49) (p2 := 43) rfl (fun h6 => ?_) (fun h6 => ?_)
      · replace hs := hs.1 h6
        refine tm_go 2 (pc' := 69) (L' := [some (.ref 127), some (.int a0), some (.int b0), some (.int r1), none]) (S' := [.int 5]) (w' := w1) rfl ?_
        exact tx_Mo_mayCome_69 hs 
      · replace hs := hs.2 h6
        refine tm_go 2 (pc' := 46) (L' := [some (.ref 127), some (.int a0), some (.int b0), some (.int r1), none]) (S' := [.int 15, .int a0]) (w' := w1) rfl ?_
        refine tm_i (p1 := 53) (p2 := 49) rfl (fun h10 => ?_) (fun h10 => ?_)
        · replace hs := hs.1 h10
          refine tm_go 6 (pc' := 64) (L' := [some (.ref 127), some (.int a0), some (.int b0), some (.int r1), none]) (S' := [.int b0, .ref 173, .int 16, .ref 176]) (w' := w1) rfl ?_
          obtain ⟨b11, hs⟩ := hs
          refine tm_k (pc' := 65) (L' := [some (.ref 127), some (.int a0), some (.int b0), some (.int r1), none]) (S' := [.int (w1.1 173 b0.toInt.toNat), .int 16, .ref 176]) (w' := w1) rfl b11 ?_
          refine tm_go 3 (pc' := 68) (L' := [some (.ref 127), some (.int a0), some (.int b0), some (.int r1), none]) (S' := [.int (((16 : Int32) * (w1.1 173 b0.toInt.toNat)) + a0), .ref 176]) (w' := w1) rfl ?_
          obtain ⟨b12, hs⟩ := hs
          refine tm_k (pc' := 69) (L' := [some (.ref 127), some (.int a0), some (.int b0), some (.int r1), none]) (S' := [.int (w1.1 176 ((((16 : Int32) * (w1.1 173 b0.toInt.toNat)) + a0).toInt.toNat))]) (w' := w1) rfl b12 ?_
          exact tx_Mo_mayCome_69 hs 
        · replace hs := hs.2 h10
          refine tm_go 2 (pc' := 69) (L' := [some (.ref 127), some (.int a0), some (.int b0), some (.int r1), none]) (S' := [.int 5]) (w' := w1) rfl ?_
          exact tx_Mo_mayCome_69 hs 
    · replace hs := hs.2 h4
      refine tm_go 1 (pc' := 31) (L' := [some (.ref 127), some (.int a0), some (.int b0), some (.int r1), none]) (S' := [.int 1]) (w' := w1) rfl ?_
      exact tm_r rfl ⟨_, rfl, by decide, hs⟩
  · replace hs := hs.2 h2
    refine tm_go 2 (pc' := 12) (L' := [some (.ref 127), some (.int a0), some (.int b0), some (.int r1), none]) (S' := [.int a0, .int r1]) (w' := w1) rfl ?_
    refine tm_i (p1 := 19) (p2 := 15) rfl (fun h13 => ?_) (fun h13 => ?_)
    · replace hs := hs.1 h13
      refine tm_go 1 (pc' := 20) (L' := [some (.ref 127), some (.int a0), some (.int b0), some (.int r1), none]) (S' := [.int 0]) (w' := w1) rfl ?_
      exact tm_r rfl ⟨_, rfl, by decide, hs⟩
    · replace hs := hs.2 h13
      refine tm_go 2 (pc' := 20) (L' := [some (.ref 127), some (.int a0), some (.int b0), some (.int r1), none]) (S' := [.int 1]) (w' := w1) rfl ?_
      exact tm_r rfl ⟨_, rfl, by decide, hs⟩
set_option maxHeartbeats 4000000 in
set_option maxRecDepth 100000 in
theorem dm_Mo_note {d : Nat} {w : MW} {a0 : Int32} {Q : MW → Prop} (hs : p_Mo_note w a0 Q) : Tc (d + 1) 58 [.ref 127, .int a0] w (RV Q) := by
  unfold p_Mo_note at hs
  refine tm_go 2 (pc' := 2) (L' := [some (.ref 127), some (.int a0), none]) (S' := [.int a0, .ref 127]) (w' := w) rfl ?_
  refine tm_c rfl (Nat.le_of_ble_eq_true rfl) (dm_Mo_liquidIn (d := d + 0) hs) (fun v w1 hq => ?_)
  obtain ⟨r1, rfl, hs⟩ := hq
  refine tm_go 2 (pc' := 7) (L' := [some (.ref 127), some (.int a0), some (.int r1)]) (S' := [.int r1]) (w' := w1) rfl ?_
  refine tm_i (p1 := 22) (p2 := 10) rfl (fun h2 => ?_) (fun h2 => ?_)
  · replace hs := hs.1 h2
    exact tm_r rfl ⟨rfl, hs⟩
  · replace hs := hs.2 h2
    refine tm_go 4 (pc' := 16) (L' := [some (.ref 127), some (.int a0), some (.int r1)]) (S' := [.int r1, .int a0, .ref 173]) (w' := w1) rfl ?_
    obtain ⟨b3, hs⟩ := hs
    refine tm_k (pc' := 17) (L' := [some (.ref 127), some (.int a0), some (.int r1)]) (S' := []) (w' := (sI w1 173 a0.toInt.toNat r1)) rfl b3 ?_
    refine tm_go 2 (pc' := 19) (L' := [some (.ref 127), some (.int a0), some (.int r1)]) (S' := [.int a0, .ref 127]) (w' := (sI w1 173 a0.toInt.toNat r1)) rfl ?_
    refine tm_c rfl (Nat.le_of_ble_eq_true rfl) (dm_Mo_forget (d := d + 0) hs) (fun v w4 hq => ?_)
    obtain ⟨rfl, hs⟩ := hq
    exact tm_r rfl ⟨rfl, hs⟩
set_option maxHeartbeats 4000000 in
set_option maxRecDepth 100000 in
theorem dm_Mo_fill {d : Nat} {w : MW} {a0 : Int32} {b0 : Int32} {c0 : Int64} {Q : Int32 → MW → Prop} (hs : p_Mo_fill w a0 b0 c0 Q) : Tc (d + 4) 84 [.ref 127, .int a0, .int b0, .long c0] w (RZ Q) := by
  unfold p_Mo_fill at hs
  refine tm_go 2 (pc' := 2) (L' := [some (.ref 127), some (.int a0), some (.int b0), some (.long c0), none]) (S' := [.int a0, .ref 127]) (w' := w) rfl ?_
  refine tm_c rfl (Nat.le_of_ble_eq_true rfl) (dm_Mo_isTank (d := d + 2) hs) (fun v w1 hq => ?_)
  obtain ⟨r1, rfl, hz1, hs⟩ := hq
  refine tm_i (p1 := 62) (p2 := 8) rfl (fun h2 => ?_) (fun h2 => ?_)
  · replace hs := hs.1 h2
    refine tm_go 1 (pc' := 63) (L' := [some (.ref 127), some (.int a0), some (.int b0), some (.long c0), none]) (S' := [.int 0]) (w' := w1) rfl ?_
    exact tm_r rfl ⟨_, rfl, by decide, hs⟩
  · replace hs := hs.2 h2
    refine tm_go 2 (pc' := 10) (L' := [some (.ref 127), some (.int a0), some (.int b0), some (.long c0), none]) (S' := [.int 1, .int b0]) (w' := w1) rfl ?_
    refine tm_i (p1 := 62) (p2 := 13) rfl (fun h3 => ?_) (fun h3 => ?_)
    · replace hs := hs.1 h3
      refine tm_go 1 (pc' := 63) (L' := [some (.ref 127), some (.int a0), some (.int b0), some (.long c0), none]) (S' := [.int 0]) (w' := w1) rfl ?_
      exact tm_r rfl ⟨_, rfl, by decide, hs⟩
    · replace hs := hs.2 h3
      refine tm_go 2 (pc' := 16) (L' := [some (.ref 127), some (.int a0), some (.int b0), some (.long c0), none]) (S' := [.int 14, .int b0]) (w' := w1) rfl ?_
      refine tm_i (p1 := 62) (p2 := 19) rfl (fun h4 => ?_) (fun h4 => ?_)
      · replace hs := hs.1 h4
        refine tm_go 1 (pc' := 63) (L' := [some (.ref 127), some (.int a0), some (.int b0), some (.long c0), none]) (S' := [.int 0]) (w' := w1) rfl ?_
        exact tm_r rfl ⟨_, rfl, by decide, hs⟩
      · replace hs := hs.2 h4
        refine tm_go 3 (pc' := 22) (L' := [some (.ref 127), some (.int a0), some (.int b0), some (.long c0), none]) (S' := [.int (lg_cmp c0 (1 : Int64))]) (w' := w1) rfl ?_
        refine tm_i (p1 := 62) (p2 := 25) rfl (fun h5 => ?_) (fun h5 => ?_)
        · replace hs := hs.1 h5
          refine tm_go 1 (pc' := 63) (L' := [some (.ref 127), some (.int a0), some (.int b0), some (.long c0), none]) (S' := [.int 0]) (w' := w1) rfl ?_
          exact tm_r rfl ⟨_, rfl, by decide, hs⟩
        · replace hs := hs.2 h5
          refine tm_go 3 (pc' := 30) (L' := [some (.ref 127), some (.int a0), some (.int b0), some (.long c0), none]) (S' := [.int (lg_cmp c0 (100000 : Int64))]) (w' := w1) rfl ?_
          refine tm_i (p1 := 62) (p2 := 33) rfl (fun h6 => ?_) (fun h6 => ?_)
          · replace hs := hs.1 h6
            refine tm_go 1 (pc' := 63) (L' := [some (.ref 127), some (.int a0), some (.int b0), some (.long c0), none]) (S' := [.int 0]) (w' := w1) rfl ?_
            exact tm_r rfl ⟨_, rfl, by decide, hs⟩
          · replace hs := hs.2 h6
            refine tm_go 3 (pc' := 38) (L' := [some (.ref 127), some (.int a0), some (.int b0), some (.long c0), none]) (S' := [.int a0, .ref 165]) (w' := w1) rfl ?_
            obtain ⟨b7, hs⟩ := hs
            refine tm_k (pc' := 39) (L' := [some (.ref 127), some (.int a0), some (.int b0), some (.long c0), none]) (S' := [.int (w1.1 165 a0.toInt.toNat)]) (w' := w1) rfl b7 ?_
            refine tm_go 6 (pc' := 47) (L' := [some (.ref 127), some (.int a0), some (.int b0), some (.long c0), none]) (S' := [.int a0, .ref 164, .long ((Int32.toInt64 (w1.1 165 a0.toInt.toNat)) + c0)]) (w' := w1) rfl ?_
            obtain ⟨b8, hs⟩ := hs
            refine tm_k (pc' := 48) (L' := [some (.ref 127), some (.int a0), some (.int b0), some (.long c0), none]) (S' := [.int (w1.1 164 a0.toInt.toNat), .long ((Int32.toInt64 (w1.1 165 a0.toInt.toNat)) + c0)]) (w' := w1) rfl b8 ?_
            refine tm_go 2 (pc' := 50) (L' := [some (.ref 127), some (.int a0), some (.int b0), some (.long c0), none]) (S' := [.int (lg_cmp ((Int32.toInt64 (w1.1 165 a0.toInt.toNat)) + c0) (Int32.toInt64 (w1.1 164 a0.toInt.toNat)))]) (w' := w1) rfl ?_
            refine tm_i (p1 := 62) (p2 := 53) rfl (fun h9 => ?_) (fun h9 => ?_)
            · replace hs := hs.1 h9
              refine tm_go 1 (pc' := 63) (L' := [some (.ref 127), some (.int a0), some (.int b0), some (.long c0), none]) (S' := [.int 0]) (w' := w1) rfl ?_
              exact tm_r rfl ⟨_, rfl, by decide, hs⟩
            · replace hs := hs.2 h9
              refine tm_go 3 (pc' := 56) (L' := [some (.ref 127), some (.int a0), some (.int b0), some (.long c0), none]) (S' := [.int a0, .int b0, .ref 127]) (w' := w1) rfl ?_
              refine tm_c rfl (Nat.le_of_ble_eq_true rfl) (dm_Mo_mayCome (d := d + 1) hs) (fun v w10 hq => ?_)
              obtain ⟨r10, rfl, hz10, hs⟩ := hq
              refine tm_i (p1 := 64) (p2 := 62) rfl (fun h11 => ?_) (fun h11 => ?_)
              · replace hs := hs.1 h11
                refine tm_go 1 (pc' := 65) (L' := [some (.ref 127), some (.int a0), some (.int b0), some (.long c0), none]) (S' := [.ref 127]) (w' := w10) rfl ?_
                refine tm_c rfl (Nat.le_of_ble_eq_true rfl) (dm_Mo_look (d := d + 2) hs) (fun v w12 hq => ?_)
                obtain ⟨rfl, hs⟩ := hq
                refine tm_go 4 (pc' := 74) (L' := [some (.ref 127), some (.int a0), some (.int b0), some (.long c0), none]) (S' := [.int b0, .int a0, .ref 194]) (w' := w12) rfl ?_
                obtain ⟨b13, hs⟩ := hs
                refine tm_k (pc' := 75) (L' := [some (.ref 127), some (.int a0), some (.int b0), some (.long c0), none]) (S' := []) (w' := (sI w12 194 a0.toInt.toNat b0)) rfl b13 ?_
                refine tm_go 1 (pc' := 76) (L' := [some (.ref 127), some (.int a0), some (.int b0), some (.long c0), none]) (S' := [.ref 127]) (w' := (sI w12 194 a0.toInt.toNat b0)) rfl ?_
                refine tm_c rfl (Nat.le_of_ble_eq_true rfl) (dm_Mo_isSafe (d := d + 0) hs) (fun v w14 hq => ?_)
                obtain ⟨r14, rfl, hz14, hs⟩ := hq
                refine tm_i (p1 := 84) (p2 := 82) rfl (fun h15 => ?_) (fun h15 => ?_)
                · replace hs := hs.1 h15
                  refine tm_go 4 (pc' := 90) (L' := [some (.ref 127), some (.int a0), some (.int b0), some (.long c0), none]) (S' := [.int b0, .int a0, .ref 166]) (w' := w14) rfl ?_
                  obtain ⟨b16, hs⟩ := hs
                  refine tm_k (pc' := 91) (L' := [some (.ref 127), some (.int a0), some (.int b0), some (.long c0), none]) (S' := []) (w' := (sI w14 166 a0.toInt.toNat b0)) rfl b16 ?_
                  refine tm_go 4 (pc' := 97) (L' := [some (.ref 127), some (.int a0), some (.int b0), some (.long c0), none]) (S' := [.int a0, .ref 165, .int a0, .ref 165]) (w' := (sI w14 166 a0.toInt.toNat b0)) rfl ?_
                  obtain ⟨b17, hs⟩ := hs
                  refine tm_k (pc' := 98) (L' := [some (.ref 127), some (.int a0), some (.int b0), some (.long c0), none]) (S' := [.int (w14.1 165 a0.toInt.toNat), .int a0, .ref 165]) (w' := (sI w14 166 a0.toInt.toNat b0)) rfl b17 ?_
                  refine tm_go 3 (pc' := 101) (L' := [some (.ref 127), some (.int a0), some (.int b0), some (.long c0), none]) (S' := [.int ((w14.1 165 a0.toInt.toNat) + (Int64.toInt32 c0)), .int a0, .ref 165]) (w' := (sI w14 166 a0.toInt.toNat b0)) rfl ?_
                  obtain ⟨b18, hs⟩ := hs
                  refine tm_k (pc' := 102) (L' := [some (.ref 127), some (.int a0), some (.int b0), some (.long c0), none]) (S' := []) (w' := (sI (sI w14 166 a0.toInt.toNat b0) 165 a0.toInt.toNat ((w14.1 165 a0.toInt.toNat) + (Int64.toInt32 c0)))) rfl b18 ?_
                  refine tm_go 2 (pc' := 104) (L' := [some (.ref 127), some (.int a0), some (.int b0), some (.long c0), none]) (S' := [.int a0, .ref 127]) (w' := (sI (sI w14 166 a0.toInt.toNat b0) 165 a0.toInt.toNat ((w14.1 165 a0.toInt.toNat) + (Int64.toInt32 c0)))) rfl ?_
                  refine tm_c rfl (Nat.le_of_ble_eq_true rfl) (dm_Mo_note (d := d + 2) hs) (fun v w19 hq => ?_)
                  obtain ⟨rfl, hs⟩ := hq
                  refine tm_go 1 (pc' := 108) (L' := [some (.ref 127), some (.int a0), some (.int b0), some (.long c0), none]) (S' := [.int 1]) (w' := w19) rfl ?_
                  exact tm_r rfl ⟨_, rfl, by decide, hs⟩
                · replace hs := hs.2 h15
                  refine tm_go 1 (pc' := 83) (L' := [some (.ref 127), some (.int a0), some (.int b0), some (.long c0), none]) (S' := [.int 0]) (w' := w14) rfl ?_
                  exact tm_r rfl ⟨_, rfl, by decide, hs⟩
              · replace hs := hs.2 h11
                refine tm_go 1 (pc' := 63) (L' := [some (.ref 127), some (.int a0), some (.int b0), some (.long c0), none]) (S' := [.int 0]) (w' := w10) rfl ?_
                exact tm_r rfl ⟨_, rfl, by decide, hs⟩
set_option maxHeartbeats 4000000 in
set_option maxRecDepth 100000 in
theorem tx_Mo_may_46 {d : Nat} {y46_1 : Int32} {y46_2 : Int32} {ys46_0 : Int32} {z3 : Option Value} {w : MW} {Q : Int32 → MW → Prop} (hs : q_Mo_may_46 y46_1 y46_2 ys46_0 w Q) : Tm (d + 0) 85 46 [some (.ref 127), some (.int y46_1), some (.int y46_2), z3] [.int ys46_0] w (RZ Q) := by
  unfold q_Mo_may_46 at hs
  refine tm_go 2 (pc' := 48) (L' := [some (.ref 127), some (.int y46_1), some (.int y46_2), some (.int ys46_0)]) (S' := [.int ys46_0]) (w' := w) rfl ?_
  refine tm_i (p1 := 75) (p2 := 51) rfl (fun h2 => ?_) (fun h2 => ?_)
  · replace hs := hs.1 h2
    refine tm_go 1 (pc' := 76) (L' := [some (.ref 127), some (.int y46_1), some (.int y46_2), some (.int ys46_0)]) (S' := [.int ys46_0]) (w' := w) rfl ?_
    obtain ⟨b3, hs⟩ := hs
    exact tm_rk rfl b3 ⟨_, rfl, b3, hs⟩
  · replace hs := hs.2 h2
    refine tm_go 8 (pc' := 62) (L' := [some (.ref 127), some (.int y46_1), some (.int y46_2), some (.int ys46_0)]) (S' := [.int 1, .int (((16 : Int32) * y46_1) + y46_2), .ref 175]) (w' := w) rfl ?_
    obtain ⟨b4, hs⟩ := hs
    refine tm_k (pc' := 63) (L' := [some (.ref 127), some (.int y46_1), some (.int y46_2), some (.int ys46_0)]) (S' := []) (w' := (sI w 175 ((((16 : Int32) * y46_1) + y46_2).toInt.toNat) (vp_nar .boolean (1 : Int32)))) rfl b4 ?_
    refine tm_go 8 (pc' := 74) (L' := [some (.ref 127), some (.int y46_1), some (.int y46_2), some (.int ys46_0)]) (S' := [.int 1, .int (((16 : Int32) * y46_2) + y46_1), .ref 175]) (w' := (sI w 175 ((((16 : Int32) * y46_1) + y46_2).toInt.toNat) (vp_nar .boolean (1 : Int32)))) rfl ?_
    obtain ⟨b5, hs⟩ := hs
    refine tm_k (pc' := 75) (L' := [some (.ref 127), some (.int y46_1), some (.int y46_2), some (.int ys46_0)]) (S' := []) (w' := (sI (sI w 175 ((((16 : Int32) * y46_1) + y46_2).toInt.toNat) (vp_nar .boolean (1 : Int32))) 175 ((((16 : Int32) * y46_2) + y46_1).toInt.toNat) (vp_nar .boolean (1 : Int32)))) rfl b5 ?_
    refine tm_go 1 (pc' := 76) (L' := [some (.ref 127), some (.int y46_1), some (.int y46_2), some (.int ys46_0)]) (S' := [.int ys46_0]) (w' := (sI (sI w 175 ((((16 : Int32) * y46_1) + y46_2).toInt.toNat) (vp_nar .boolean (1 : Int32))) 175 ((((16 : Int32) * y46_2) + y46_1).toInt.toNat) (vp_nar .boolean (1 : Int32)))) rfl ?_
    obtain ⟨b6, hs⟩ := hs
    exact tm_rk rfl b6 ⟨_, rfl, b6, hs⟩
set_option maxHeartbeats 4000000 in
set_option maxRecDepth 100000 in
theorem dm_Mo_may {d : Nat} {w : MW} {a0 : Int32} {b0 : Int32} {Q : Int32 → MW → Prop} (hs : p_Mo_may w a0 b0 Q) : Tc (d + 0) 85 [.ref 127, .int a0, .int b0] w (RZ Q) := by
  unfold p_Mo_may at hs
  refine tm_go 2 (pc' := 2) (L' := [some (.ref 127), some (.int a0), some (.int b0), none]) (S' := [.int 1, .int a0]) (w' := w) rfl ?_
  refine tm_i (p1 := 45) (p2 := 5) rfl (fun h1 => ?_) (fun h1 => ?_)
  · replace hs := hs.1 h1
    refine tm_go 1 (pc' := 46) (L' := [some (.ref 127), some (.int a0), some (.int b0), none]) (S' := [.int 0]) (w' := w) rfl ?_
    exact tx_Mo_may_46 hs 
  · replace hs := hs.2 h1
    refine tm_go 2 (pc' := 8) (L' := [some (.ref 127), some (.int a0), some (.int b0), none]) (S' := [.int 14, .int a0]) (w' := w) rfl ?_
    refine tm_i (p1 := 45) (p2 := 11) rfl (fun h7 => ?_) (fun h7 => ?_)
    · replace hs := hs.1 h7
      refine tm_go 1 (pc' := 46) (L' := [some (.ref 127), some (.int a0), some (.int b0), none]) (S' := [.int 0]) (w' := w) rfl ?_
      exact tx_Mo_may_46 hs 
    · replace hs := hs.2 h7
      refine tm_go 2 (pc' := 13) (L' := [some (.ref 127), some (.int a0), some (.int b0), none]) (S' := [.int 1, .int b0]) (w' := w) rfl ?_
      refine tm_i (p1 := 45) (p2 := 16) rfl (fun h8 => ?_) (fun h8 => ?_)
      · replace hs := hs.1 h8
        refine tm_go 1 (pc' := 46) (L' := [some (.ref 127), some (.int a0), some (.int b0), none]) (S' := [.int 0]) (w' := w) rfl ?_
        exact tx_Mo_may_46 hs 
      · replace hs := hs.2 h8
        refine tm_go 2 (pc' := 19) (L' := [some (.ref 127), some (.int a0), some (.int b0), none]) (S' := [.int 14, .int b0]) (w' := w) rfl ?_
        refine tm_i (p1 := 45) (p2 := 22) rfl (fun h9 => ?_) (fun h9 => ?_)
        · replace hs := hs.1 h9
          refine tm_go 1 (pc' := 46) (L' := [some (.ref 127), some (.int a0), some (.int b0), none]) (S' := [.int 0]) (w' := w) rfl ?_
          exact tx_Mo_may_46 hs 
        · replace hs := hs.2 h9
          refine tm_go 2 (pc' := 24) (L' := [some (.ref 127), some (.int a0), some (.int b0), none]) (S' := [.int b0, .int a0]) (w' := w) rfl ?_
          refine tm_i (p1 := 45) (p2 := 27) rfl (fun h10 => ?_) (fun h10 => ?_)
          · replace hs := hs.1 h10
            refine tm_go 1 (pc' := 46) (L' := [some (.ref 127), some (.int a0), some (.int b0), none]) (S' := [.int 0]) (w' := w) rfl ?_
            exact tx_Mo_may_46 hs 
          · replace hs := hs.2 h10
            refine tm_go 7 (pc' := 37) (L' := [some (.ref 127), some (.int a0), some (.int b0), none]) (S' := [.int (((16 : Int32) * a0) + b0), .ref 175]) (w' := w) rfl ?_
            obtain ⟨b11, hs⟩ := hs
            refine tm_k (pc' := 38) (L' := [some (.ref 127), some (.int a0), some (.int b0), none]) (S' := [.int (w.1 175 ((((16 : Int32) * a0) + b0).toInt.toNat))]) (w' := w) rfl b11 ?_
            refine tm_i (p1 := 45) (p2 := 41) rfl (fun h12 => ?_) (fun h12 => ?_)
            · replace hs := hs.1 h12
              refine tm_go 1 (pc' := 46) (L' := [some (.ref 127), some (.int a0), some (.int b0), none]) (S' := [.int 0]) (w' := w) rfl ?_
              exact tx_Mo_may_46 hs 
            · replace hs := hs.2 h12
              refine tm_go 2 (pc' := 46) (L' := [some (.ref 127), some (.int a0), some (.int b0), none]) (S' := [.int 1]) (w' := w) rfl ?_
              exact tx_Mo_may_46 hs 
set_option maxHeartbeats 4000000 in
set_option maxRecDepth 100000 in
theorem dm_Mo_need {d : Nat} {w : MW} {a0 : Int32} {b0 : Int32} {c0 : Int32} {Q : Int32 → MW → Prop} (hs : p_Mo_need w a0 b0 c0 Q) : Tc (d + 0) 86 [.ref 127, .int a0, .int b0, .int c0] w (RZ Q) := by
  unfold p_Mo_need at hs
  refine tm_go 2 (pc' := 2) (L' := [some (.ref 127), some (.int a0), some (.int b0), some (.int c0)]) (S' := [.int 1, .int a0]) (w' := w) rfl ?_
  refine tm_i (p1 := 31) (p2 := 5) rfl (fun h1 => ?_) (fun h1 => ?_)
  · replace hs := hs.1 h1
    refine tm_go 1 (pc' := 32) (L' := [some (.ref 127), some (.int a0), some (.int b0), some (.int c0)]) (S' := [.int 0]) (w' := w) rfl ?_
    exact tm_r rfl ⟨_, rfl, by decide, hs⟩
  · replace hs := hs.2 h1
    refine tm_go 2 (pc' := 8) (L' := [some (.ref 127), some (.int a0), some (.int b0), some (.int c0)]) (S' := [.int 14, .int a0]) (w' := w) rfl ?_
    refine tm_i (p1 := 31) (p2 := 11) rfl (fun h2 => ?_) (fun h2 => ?_)
    · replace hs := hs.1 h2
      refine tm_go 1 (pc' := 32) (L' := [some (.ref 127), some (.int a0), some (.int b0), some (.int c0)]) (S' := [.int 0]) (w' := w) rfl ?_
      exact tm_r rfl ⟨_, rfl, by decide, hs⟩
    · replace hs := hs.2 h2
      refine tm_go 2 (pc' := 13) (L' := [some (.ref 127), some (.int a0), some (.int b0), some (.int c0)]) (S' := [.int 1, .int b0]) (w' := w) rfl ?_
      refine tm_i (p1 := 31) (p2 := 16) rfl (fun h3 => ?_) (fun h3 => ?_)
      · replace hs := hs.1 h3
        refine tm_go 1 (pc' := 32) (L' := [some (.ref 127), some (.int a0), some (.int b0), some (.int c0)]) (S' := [.int 0]) (w' := w) rfl ?_
        exact tm_r rfl ⟨_, rfl, by decide, hs⟩
      · replace hs := hs.2 h3
        refine tm_go 2 (pc' := 19) (L' := [some (.ref 127), some (.int a0), some (.int b0), some (.int c0)]) (S' := [.int 14, .int b0]) (w' := w) rfl ?_
        refine tm_i (p1 := 31) (p2 := 22) rfl (fun h4 => ?_) (fun h4 => ?_)
        · replace hs := hs.1 h4
          refine tm_go 1 (pc' := 32) (L' := [some (.ref 127), some (.int a0), some (.int b0), some (.int c0)]) (S' := [.int 0]) (w' := w) rfl ?_
          exact tm_r rfl ⟨_, rfl, by decide, hs⟩
        · replace hs := hs.2 h4
          refine tm_go 1 (pc' := 23) (L' := [some (.ref 127), some (.int a0), some (.int b0), some (.int c0)]) (S' := [.int c0]) (w' := w) rfl ?_
          refine tm_i (p1 := 31) (p2 := 26) rfl (fun h5 => ?_) (fun h5 => ?_)
          · replace hs := hs.1 h5
            refine tm_go 1 (pc' := 32) (L' := [some (.ref 127), some (.int a0), some (.int b0), some (.int c0)]) (S' := [.int 0]) (w' := w) rfl ?_
            exact tm_r rfl ⟨_, rfl, by decide, hs⟩
          · replace hs := hs.2 h5
            refine tm_go 2 (pc' := 28) (L' := [some (.ref 127), some (.int a0), some (.int b0), some (.int c0)]) (S' := [.int 5, .int c0]) (w' := w) rfl ?_
            refine tm_i (p1 := 33) (p2 := 31) rfl (fun h6 => ?_) (fun h6 => ?_)
            · replace hs := hs.1 h6
              refine tm_go 8 (pc' := 44) (L' := [some (.ref 127), some (.int a0), some (.int b0), some (.int c0)]) (S' := [.int c0, .int (((16 : Int32) * a0) + b0), .ref 176]) (w' := w) rfl ?_
              obtain ⟨b7, hs⟩ := hs
              refine tm_k (pc' := 45) (L' := [some (.ref 127), some (.int a0), some (.int b0), some (.int c0)]) (S' := []) (w' := (sI w 176 ((((16 : Int32) * a0) + b0).toInt.toNat) c0)) rfl b7 ?_
              refine tm_go 1 (pc' := 46) (L' := [some (.ref 127), some (.int a0), some (.int b0), some (.int c0)]) (S' := [.int 1]) (w' := (sI w 176 ((((16 : Int32) * a0) + b0).toInt.toNat) c0)) rfl ?_
              exact tm_r rfl ⟨_, rfl, by decide, hs⟩
            · replace hs := hs.2 h6
              refine tm_go 1 (pc' := 32) (L' := [some (.ref 127), some (.int a0), some (.int b0), some (.int c0)]) (S' := [.int 0]) (w' := w) rfl ?_
              exact tm_r rfl ⟨_, rfl, by decide, hs⟩
set_option maxHeartbeats 4000000 in
set_option maxRecDepth 100000 in
theorem dm_Mo_lasts {d : Nat} {w : MW} {a0 : Int32} {b0 : Int32} {Q : Int32 → MW → Prop} (hs : p_Mo_lasts w a0 b0 Q) : Tc (d + 0) 87 [.ref 127, .int a0, .int b0] w (RZ Q) := by
  unfold p_Mo_lasts at hs
  refine tm_go 2 (pc' := 2) (L' := [some (.ref 127), some (.int a0), some (.int b0)]) (S' := [.int 1, .int a0]) (w' := w) rfl ?_
  refine tm_i (p1 := 21) (p2 := 5) rfl (fun h1 => ?_) (fun h1 => ?_)
  · replace hs := hs.1 h1
    refine tm_go 1 (pc' := 22) (L' := [some (.ref 127), some (.int a0), some (.int b0)]) (S' := [.int 0]) (w' := w) rfl ?_
    exact tm_r rfl ⟨_, rfl, by decide, hs⟩
  · replace hs := hs.2 h1
    refine tm_go 2 (pc' := 7) (L' := [some (.ref 127), some (.int a0), some (.int b0)]) (S' := [.int 5, .int a0]) (w' := w) rfl ?_
    refine tm_i (p1 := 21) (p2 := 10) rfl (fun h2 => ?_) (fun h2 => ?_)
    · replace hs := hs.1 h2
      refine tm_go 1 (pc' := 22) (L' := [some (.ref 127), some (.int a0), some (.int b0)]) (S' := [.int 0]) (w' := w) rfl ?_
      exact tm_r rfl ⟨_, rfl, by decide, hs⟩
    · replace hs := hs.2 h2
      refine tm_go 1 (pc' := 11) (L' := [some (.ref 127), some (.int a0), some (.int b0)]) (S' := [.int b0]) (w' := w) rfl ?_
      refine tm_i (p1 := 21) (p2 := 14) rfl (fun h3 => ?_) (fun h3 => ?_)
      · replace hs := hs.1 h3
        refine tm_go 1 (pc' := 22) (L' := [some (.ref 127), some (.int a0), some (.int b0)]) (S' := [.int 0]) (w' := w) rfl ?_
        exact tm_r rfl ⟨_, rfl, by decide, hs⟩
      · replace hs := hs.2 h3
        refine tm_go 2 (pc' := 18) (L' := [some (.ref 127), some (.int a0), some (.int b0)]) (S' := [.int 1000000, .int b0]) (w' := w) rfl ?_
        refine tm_i (p1 := 23) (p2 := 21) rfl (fun h4 => ?_) (fun h4 => ?_)
        · replace hs := hs.1 h4
          refine tm_go 4 (pc' := 29) (L' := [some (.ref 127), some (.int a0), some (.int b0)]) (S' := [.int b0, .int a0, .ref 177]) (w' := w) rfl ?_
          obtain ⟨b5, hs⟩ := hs
          refine tm_k (pc' := 30) (L' := [some (.ref 127), some (.int a0), some (.int b0)]) (S' := []) (w' := (sI w 177 a0.toInt.toNat b0)) rfl b5 ?_
          refine tm_go 1 (pc' := 31) (L' := [some (.ref 127), some (.int a0), some (.int b0)]) (S' := [.int 1]) (w' := (sI w 177 a0.toInt.toNat b0)) rfl ?_
          exact tm_r rfl ⟨_, rfl, by decide, hs⟩
        · replace hs := hs.2 h4
          refine tm_go 1 (pc' := 22) (L' := [some (.ref 127), some (.int a0), some (.int b0)]) (S' := [.int 0]) (w' := w) rfl ?_
          exact tm_r rfl ⟨_, rfl, by decide, hs⟩
set_option maxHeartbeats 4000000 in
set_option maxRecDepth 100000 in
theorem tx_Mo_bind_72 {d : Nat} {y72_1 : Int32} {y72_2 : Int32} {y72_3 : Int32} {y72_4 : Int32} {y72_5 : Int32}  {w : MW} {Q : Int32 → MW → Prop} (hs : q_Mo_bind_72 y72_1 y72_2 y72_3 y72_4 y72_5 w Q) : Tm (d + 0) 88 72 [some (.ref 127), some (.int y72_1), some (.int y72_2), some (.int y72_3), some (.int y72_4), some (.int y72_5)] [] w (RZ Q) := by
  unfold q_Mo_bind_72 at hs
  refine tm_go 4 (pc' := 78) (L' := [some (.ref 127), some (.int y72_1), some (.int y72_2), some (.int y72_3), some (.int y72_4), some (.int y72_5)]) (S' := [.int y72_2, .int y72_1, .ref 197]) (w' := w) rfl ?_
  obtain ⟨b8, hs⟩ := hs
  refine tm_k (pc' := 79) (L' := [some (.ref 127), some (.int y72_1), some (.int y72_2), some (.int y72_3), some (.int y72_4), some (.int y72_5)]) (S' := []) (w' := (sI w 197 y72_1.toInt.toNat y72_2)) rfl b8 ?_
  refine tm_go 4 (pc' := 85) (L' := [some (.ref 127), some (.int y72_1), some (.int y72_2), some (.int y72_3), some (.int y72_4), some (.int y72_5)]) (S' := [.int y72_3, .int y72_1, .ref 198]) (w' := (sI w 197 y72_1.toInt.toNat y72_2)) rfl ?_
  obtain ⟨b9, hs⟩ := hs
  refine tm_k (pc' := 86) (L' := [some (.ref 127), some (.int y72_1), some (.int y72_2), some (.int y72_3), some (.int y72_4), some (.int y72_5)]) (S' := []) (w' := (sI (sI w 197 y72_1.toInt.toNat y72_2) 198 y72_1.toInt.toNat y72_3)) rfl b9 ?_
  refine tm_go 4 (pc' := 93) (L' := [some (.ref 127), some (.int y72_1), some (.int y72_2), some (.int y72_3), some (.int y72_4), some (.int y72_5)]) (S' := [.int y72_4, .int y72_1, .ref 199]) (w' := (sI (sI w 197 y72_1.toInt.toNat y72_2) 198 y72_1.toInt.toNat y72_3)) rfl ?_
  obtain ⟨b10, hs⟩ := hs
  refine tm_k (pc' := 94) (L' := [some (.ref 127), some (.int y72_1), some (.int y72_2), some (.int y72_3), some (.int y72_4), some (.int y72_5)]) (S' := []) (w' := (sI (sI (sI w 197 y72_1.toInt.toNat y72_2) 198 y72_1.toInt.toNat y72_3) 199 y72_1.toInt.toNat y72_4)) rfl b10 ?_
  refine tm_go 4 (pc' := 101) (L' := [some (.ref 127), some (.int y72_1), some (.int y72_2), some (.int y72_3), some (.int y72_4), some (.int y72_5)]) (S' := [.int y72_5, .int y72_1, .ref 200]) (w' := (sI (sI (sI w 197 y72_1.toInt.toNat y72_2) 198 y72_1.toInt.toNat y72_3) 199 y72_1.toInt.toNat y72_4)) rfl ?_
  obtain ⟨b11, hs⟩ := hs
  refine tm_k (pc' := 102) (L' := [some (.ref 127), some (.int y72_1), some (.int y72_2), some (.int y72_3), some (.int y72_4), some (.int y72_5)]) (S' := []) (w' := (sI (sI (sI (sI w 197 y72_1.toInt.toNat y72_2) 198 y72_1.toInt.toNat y72_3) 199 y72_1.toInt.toNat y72_4) 200 y72_1.toInt.toNat y72_5)) rfl b11 ?_
  refine tm_go 1 (pc' := 103) (L' := [some (.ref 127), some (.int y72_1), some (.int y72_2), some (.int y72_3), some (.int y72_4), some (.int y72_5)]) (S' := [.int 1]) (w' := (sI (sI (sI (sI w 197 y72_1.toInt.toNat y72_2) 198 y72_1.toInt.toNat y72_3) 199 y72_1.toInt.toNat y72_4) 200 y72_1.toInt.toNat y72_5)) rfl ?_
  exact tm_r rfl ⟨_, rfl, by decide, hs⟩
set_option maxHeartbeats 4000000 in
set_option maxRecDepth 100000 in
theorem tx_Mo_bind_53 {d : Nat} {y53_1 : Int32} {y53_2 : Int32} {y53_3 : Int32} {y53_4 : Int32} {y53_5 : Int32}  {w : MW} {Q : Int32 → MW → Prop} (hs : q_Mo_bind_53 y53_1 y53_2 y53_3 y53_4 y53_5 w Q) : Tm (d + 0) 88 53 [some (.ref 127), some (.int y53_1), some (.int y53_2), some (.int y53_3), some (.int y53_4), some (.int y53_5)] [] w (RZ Q) := by
  unfold q_Mo_bind_53 at hs
  refine tm_go 2 (pc' := 55) (L' := [some (.ref 127), some (.int y53_1), some (.int y53_2), some (.int y53_3), some (.int y53_4), some (.int y53_5)]) (S' := [.int 3, .int y53_2]) (w' := w) rfl ?_
  refine tm_i (p1 := 72) (p2 := 58) rfl (fun h7 => ?_) (fun h7 => ?_)
  · replace hs := hs.1 h7
    exact tx_Mo_bind_72 hs 
  · replace hs := hs.2 h7
    refine tm_go 2 (pc' := 61) (L' := [some (.ref 127), some (.int y53_1), some (.int y53_2), some (.int y53_3), some (.int y53_4), some (.int y53_5)]) (S' := [.int 1, .int y53_4]) (w' := w) rfl ?_
    refine tm_i (p1 := 70) (p2 := 64) rfl (fun h12 => ?_) (fun h12 => ?_)
    · replace hs := hs.1 h12
      refine tm_go 1 (pc' := 71) (L' := [some (.ref 127), some (.int y53_1), some (.int y53_2), some (.int y53_3), some (.int y53_4), some (.int y53_5)]) (S' := [.int 0]) (w' := w) rfl ?_
      exact tm_r rfl ⟨_, rfl, by decide, hs⟩
    · replace hs := hs.2 h12
      refine tm_go 2 (pc' := 67) (L' := [some (.ref 127), some (.int y53_1), some (.int y53_2), some (.int y53_3), some (.int y53_4), some (.int y53_5)]) (S' := [.int 5, .int y53_4]) (w' := w) rfl ?_
      refine tm_i (p1 := 72) (p2 := 70) rfl (fun h13 => ?_) (fun h13 => ?_)
      · replace hs := hs.1 h13
        exact tx_Mo_bind_72 hs 
      · replace hs := hs.2 h13
        refine tm_go 1 (pc' := 71) (L' := [some (.ref 127), some (.int y53_1), some (.int y53_2), some (.int y53_3), some (.int y53_4), some (.int y53_5)]) (S' := [.int 0]) (w' := w) rfl ?_
        exact tm_r rfl ⟨_, rfl, by decide, hs⟩
set_option maxHeartbeats 4000000 in
set_option maxRecDepth 100000 in
theorem tx_Mo_bind_36 {d : Nat} {y36_1 : Int32} {y36_2 : Int32} {y36_3 : Int32} {y36_4 : Int32} {y36_5 : Int32}  {w : MW} {Q : Int32 → MW → Prop} (hs : q_Mo_bind_36 y36_1 y36_2 y36_3 y36_4 y36_5 w Q) : Tm (d + 0) 88 36 [some (.ref 127), some (.int y36_1), some (.int y36_2), some (.int y36_3), some (.int y36_4), some (.int y36_5)] [] w (RZ Q) := by
  unfold q_Mo_bind_36 at hs
  refine tm_go 2 (pc' := 38) (L' := [some (.ref 127), some (.int y36_1), some (.int y36_2), some (.int y36_3), some (.int y36_4), some (.int y36_5)]) (S' := [.int 2, .int y36_2]) (w' := w) rfl ?_
  refine tm_i (p1 := 53) (p2 := 41) rfl (fun h6 => ?_) (fun h6 => ?_)
  · replace hs := hs.1 h6
    exact tx_Mo_bind_53 hs 
  · replace hs := hs.2 h6
    refine tm_go 1 (pc' := 43) (L' := [some (.ref 127), some (.int y36_1), some (.int y36_2), some (.int y36_3), some (.int y36_4), some (.int y36_5)]) (S' := [.int y36_4]) (w' := w) rfl ?_
    refine tm_i (p1 := 70) (p2 := 46) rfl (fun h14 => ?_) (fun h14 => ?_)
    · replace hs := hs.1 h14
      refine tm_go 1 (pc' := 71) (L' := [some (.ref 127), some (.int y36_1), some (.int y36_2), some (.int y36_3), some (.int y36_4), some (.int y36_5)]) (S' := [.int 0]) (w' := w) rfl ?_
      exact tm_r rfl ⟨_, rfl, by decide, hs⟩
    · replace hs := hs.2 h14
      refine tm_go 2 (pc' := 50) (L' := [some (.ref 127), some (.int y36_1), some (.int y36_2), some (.int y36_3), some (.int y36_4), some (.int y36_5)]) (S' := [.int 9, .int y36_4]) (w' := w) rfl ?_
      refine tm_i (p1 := 70) (p2 := 53) rfl (fun h15 => ?_) (fun h15 => ?_)
      · replace hs := hs.1 h15
        refine tm_go 1 (pc' := 71) (L' := [some (.ref 127), some (.int y36_1), some (.int y36_2), some (.int y36_3), some (.int y36_4), some (.int y36_5)]) (S' := [.int 0]) (w' := w) rfl ?_
        exact tm_r rfl ⟨_, rfl, by decide, hs⟩
      · replace hs := hs.2 h15
        exact tx_Mo_bind_53 hs 
set_option maxHeartbeats 4000000 in
set_option maxRecDepth 100000 in
theorem dm_Mo_bind {d : Nat} {w : MW} {a0 : Int32} {b0 : Int32} {c0 : Int32} {e0 : Int32} {f0 : Int32} {Q : Int32 → MW → Prop} (hs : p_Mo_bind w a0 b0 c0 e0 f0 Q) : Tc (d + 0) 88 [.ref 127, .int a0, .int b0, .int c0, .int e0, .int f0] w (RZ Q) := by
  unfold p_Mo_bind at hs
  refine tm_go 1 (pc' := 1) (L' := [some (.ref 127), some (.int a0), some (.int b0), some (.int c0), some (.int e0), some (.int f0)]) (S' := [.int a0]) (w' := w) rfl ?_
  refine tm_i (p1 := 70) (p2 := 4) rfl (fun h1 => ?_) (fun h1 => ?_)
  · replace hs := hs.1 h1
    refine tm_go 1 (pc' := 71) (L' := [some (.ref 127), some (.int a0), some (.int b0), some (.int c0), some (.int e0), some (.int f0)]) (S' := [.int 0]) (w' := w) rfl ?_
    exact tm_r rfl ⟨_, rfl, by decide, hs⟩
  · replace hs := hs.2 h1
    refine tm_go 2 (pc' := 7) (L' := [some (.ref 127), some (.int a0), some (.int b0), some (.int c0), some (.int e0), some (.int f0)]) (S' := [.int 31, .int a0]) (w' := w) rfl ?_
    refine tm_i (p1 := 70) (p2 := 10) rfl (fun h2 => ?_) (fun h2 => ?_)
    · replace hs := hs.1 h2
      refine tm_go 1 (pc' := 71) (L' := [some (.ref 127), some (.int a0), some (.int b0), some (.int c0), some (.int e0), some (.int f0)]) (S' := [.int 0]) (w' := w) rfl ?_
      exact tm_r rfl ⟨_, rfl, by decide, hs⟩
    · replace hs := hs.2 h2
      refine tm_go 1 (pc' := 11) (L' := [some (.ref 127), some (.int a0), some (.int b0), some (.int c0), some (.int e0), some (.int f0)]) (S' := [.int b0]) (w' := w) rfl ?_
      refine tm_i (p1 := 70) (p2 := 14) rfl (fun h3 => ?_) (fun h3 => ?_)
      · replace hs := hs.1 h3
        refine tm_go 1 (pc' := 71) (L' := [some (.ref 127), some (.int a0), some (.int b0), some (.int c0), some (.int e0), some (.int f0)]) (S' := [.int 0]) (w' := w) rfl ?_
        exact tm_r rfl ⟨_, rfl, by decide, hs⟩
      · replace hs := hs.2 h3
        refine tm_go 2 (pc' := 16) (L' := [some (.ref 127), some (.int a0), some (.int b0), some (.int c0), some (.int e0), some (.int f0)]) (S' := [.int 4, .int b0]) (w' := w) rfl ?_
        refine tm_i (p1 := 70) (p2 := 19) rfl (fun h4 => ?_) (fun h4 => ?_)
        · replace hs := hs.1 h4
          refine tm_go 1 (pc' := 71) (L' := [some (.ref 127), some (.int a0), some (.int b0), some (.int c0), some (.int e0), some (.int f0)]) (S' := [.int 0]) (w' := w) rfl ?_
          exact tm_r rfl ⟨_, rfl, by decide, hs⟩
        · replace hs := hs.2 h4
          refine tm_go 1 (pc' := 20) (L' := [some (.ref 127), some (.int a0), some (.int b0), some (.int c0), some (.int e0), some (.int f0)]) (S' := [.int b0]) (w' := w) rfl ?_
          refine tm_i (p1 := 36) (p2 := 23) rfl (fun h5 => ?_) (fun h5 => ?_)
          · replace hs := hs.1 h5
            exact tx_Mo_bind_36 hs 
          · replace hs := hs.2 h5
            refine tm_go 2 (pc' := 26) (L' := [some (.ref 127), some (.int a0), some (.int b0), some (.int c0), some (.int e0), some (.int f0)]) (S' := [.int 1, .int f0]) (w' := w) rfl ?_
            refine tm_i (p1 := 70) (p2 := 29) rfl (fun h16 => ?_) (fun h16 => ?_)
            · replace hs := hs.1 h16
              refine tm_go 1 (pc' := 71) (L' := [some (.ref 127), some (.int a0), some (.int b0), some (.int c0), some (.int e0), some (.int f0)]) (S' := [.int 0]) (w' := w) rfl ?_
              exact tm_r rfl ⟨_, rfl, by decide, hs⟩
            · replace hs := hs.2 h16
              refine tm_go 2 (pc' := 33) (L' := [some (.ref 127), some (.int a0), some (.int b0), some (.int c0), some (.int e0), some (.int f0)]) (S' := [.int 100, .int f0]) (w' := w) rfl ?_
              refine tm_i (p1 := 70) (p2 := 36) rfl (fun h17 => ?_) (fun h17 => ?_)
              · replace hs := hs.1 h17
                refine tm_go 1 (pc' := 71) (L' := [some (.ref 127), some (.int a0), some (.int b0), some (.int c0), some (.int e0), some (.int f0)]) (S' := [.int 0]) (w' := w) rfl ?_
                exact tm_r rfl ⟨_, rfl, by decide, hs⟩
              · replace hs := hs.2 h17
                exact tx_Mo_bind_36 hs 
set_option maxHeartbeats 4000000 in
set_option maxRecDepth 100000 in
theorem tx_Mo_isOnWay_34 {d : Nat} {x34_1 : Int32} {x34_2 : Int32} {E : MW → Prop} {Q : Int32 → MW → Prop} (n : Nat) : ∀ (x34_3 : Int32)   (w : MW), q_Mo_isOnWay_34 x34_1 x34_2 E Q n x34_3 w → (∀  (v3 : Option Value) (w : MW), E  w → Tm (d + 0) 79 74 [some (.ref 127), some (.int x34_1), some (.int x34_2), v3] [] w (RZ Q)) → Tm (d + 0) 79 34 [some (.ref 127), some (.int x34_1), some (.int x34_2), some (.int x34_3)] [] w (RZ Q) := by
  induction n with
  | zero => intro x34_3  w hs; rw [q_Mo_isOnWay_34.eq_1] at hs; exact hs.elim
  | succ n ih =>
    intro x34_3  w hs hE
    rw [q_Mo_isOnWay_34.eq_2] at hs
    refine tm_go 4 (pc' := 40) (L' := [some (.ref 127), some (.int x34_1), some (.int x34_2), some (.int x34_3)]) (S' := [.int x34_2, .ref 185, .int x34_3]) (w' := w) rfl ?_
    obtain ⟨b6, hs⟩ := hs
    refine tm_k (pc' := 41) (L' := [some (.ref 127), some (.int x34_1), some (.int x34_2), some (.int x34_3)]) (S' := [.int (w.1 185 x34_2.toInt.toNat), .int x34_3]) (w' := w) rfl b6 ?_
    refine tm_i (p1 := 74) (p2 := 44) rfl (fun h7 => ?_) (fun h7 => ?_)
    · replace hs := hs.1 h7
      exact hE _ _ hs
    · replace hs := hs.2 h7
      refine tm_go 9 (pc' := 58) (L' := [some (.ref 127), some (.int x34_1), some (.int x34_2), some (.int x34_3)]) (S' := [.int (((24 : Int32) * x34_2) + x34_3), .ref 186, .int (w.1 127 4)]) (w' := w) rfl ?_
      obtain ⟨b8, hs⟩ := hs
      refine tm_k (pc' := 59) (L' := [some (.ref 127), some (.int x34_1), some (.int x34_2), some (.int x34_3)]) (S' := [.int (w.1 186 ((((24 : Int32) * x34_2) + x34_3).toInt.toNat)), .int (w.1 127 4)]) (w' := w) rfl b8 ?_
      refine tm_go 4 (pc' := 63) (L' := [some (.ref 127), some (.int x34_1), some (.int x34_2), some (.int x34_3)]) (S' := [.int x34_1, .int ((w.1 127 4) + ((w.1 186 ((((24 : Int32) * x34_2) + x34_3).toInt.toNat)) / (2 : Int32)))]) (w' := w) rfl ?_
      refine tm_i (p1 := 68) (p2 := 66) rfl (fun h9 => ?_) (fun h9 => ?_)
      · replace hs := hs.1 h9
        refine tm_go 2 (pc' := 34) (L' := [some (.ref 127), some (.int x34_1), some (.int x34_2), some (.int (x34_3 + (1 : Int32)))]) (S' := []) (w' := w) rfl ?_
        exact ih _ _ hs hE
      · replace hs := hs.2 h9
        refine tm_go 1 (pc' := 67) (L' := [some (.ref 127), some (.int x34_1), some (.int x34_2), some (.int x34_3)]) (S' := [.int 1]) (w' := w) rfl ?_
        exact tm_r rfl ⟨_, rfl, by decide, hs⟩
set_option maxHeartbeats 4000000 in
set_option maxRecDepth 100000 in
theorem tx_Mo_isOnWay_2 {d : Nat} {x2_1 : Int32} {E : MW → Prop} {Q : Int32 → MW → Prop} (n : Nat) : ∀ (x2_2 : Int32)  (z3 : Option Value) (w : MW), q_Mo_isOnWay_2 x2_1 E Q n x2_2 w → (∀  (v0 : Option Value) (v1 : Option Value) (v2 : Option Value) (v3 : Option Value) (w : MW), E  w → Tm (d + 0) 79 80 [v0, v1, v2, v3] [] w (RZ Q)) → Tm (d + 0) 79 2 [some (.ref 127), some (.int x2_1), some (.int x2_2), z3] [] w (RZ Q) := by
  induction n with
  | zero => intro x2_2 z3 w hs; rw [q_Mo_isOnWay_2.eq_1] at hs; exact hs.elim
  | succ n ih =>
    intro x2_2 z3 w hs hE
    rw [q_Mo_isOnWay_2.eq_2] at hs
    refine tm_go 3 (pc' := 7) (L' := [some (.ref 127), some (.int x2_1), some (.int x2_2), z3]) (S' := [.int (w.1 127 26), .int x2_2]) (w' := w) rfl ?_
    refine tm_i (p1 := 80) (p2 := 10) rfl (fun h1 => ?_) (fun h1 => ?_)
    · replace hs := hs.1 h1
      exact hE _ _ _ _ _ hs
    · replace hs := hs.2 h1
      refine tm_go 3 (pc' := 15) (L' := [some (.ref 127), some (.int x2_1), some (.int x2_2), z3]) (S' := [.int x2_2, .ref 181]) (w' := w) rfl ?_
      obtain ⟨b2, hs⟩ := hs
      refine tm_k (pc' := 16) (L' := [some (.ref 127), some (.int x2_1), some (.int x2_2), z3]) (S' := [.int (w.1 181 x2_2.toInt.toNat)]) (w' := w) rfl b2 ?_
      refine tm_go 1 (pc' := 17) (L' := [some (.ref 127), some (.int x2_1), some (.int x2_2), z3]) (S' := [.int x2_1, .int (w.1 181 x2_2.toInt.toNat)]) (w' := w) rfl ?_
      refine tm_i (p1 := 30) (p2 := 20) rfl (fun h3 => ?_) (fun h3 => ?_)
      · replace hs := hs.1 h3
        refine tm_go 1 (pc' := 31) (L' := [some (.ref 127), some (.int x2_1), some (.int x2_2), z3]) (S' := [.int 1]) (w' := w) rfl ?_
        exact tm_r rfl ⟨_, rfl, by decide, hs⟩
      · replace hs := hs.2 h3
        refine tm_go 3 (pc' := 25) (L' := [some (.ref 127), some (.int x2_1), some (.int x2_2), z3]) (S' := [.int x2_2, .ref 182]) (w' := w) rfl ?_
        obtain ⟨b4, hs⟩ := hs
        refine tm_k (pc' := 26) (L' := [some (.ref 127), some (.int x2_1), some (.int x2_2), z3]) (S' := [.int (w.1 182 x2_2.toInt.toNat)]) (w' := w) rfl b4 ?_
        refine tm_go 1 (pc' := 27) (L' := [some (.ref 127), some (.int x2_1), some (.int x2_2), z3]) (S' := [.int x2_1, .int (w.1 182 x2_2.toInt.toNat)]) (w' := w) rfl ?_
        refine tm_i (p1 := 32) (p2 := 30) rfl (fun h5 => ?_) (fun h5 => ?_)
        · replace hs := hs.1 h5
          refine tm_go 2 (pc' := 34) (L' := [some (.ref 127), some (.int x2_1), some (.int x2_2), some (.int 0)]) (S' := []) (w' := w) rfl ?_
          refine tx_Mo_isOnWay_34 FU _ _ hs (fun  z10_3 w10 hs => ?_)
          refine tm_go 2 (pc' := 2) (L' := [some (.ref 127), some (.int x2_1), some (.int (x2_2 + (1 : Int32))), z10_3]) (S' := []) (w' := w10) rfl ?_
          exact ih _ _ _ hs hE
        · replace hs := hs.2 h5
          refine tm_go 1 (pc' := 31) (L' := [some (.ref 127), some (.int x2_1), some (.int x2_2), z3]) (S' := [.int 1]) (w' := w) rfl ?_
          exact tm_r rfl ⟨_, rfl, by decide, hs⟩
set_option maxHeartbeats 4000000 in
set_option maxRecDepth 100000 in
theorem dm_Mo_isOnWay {d : Nat} {w : MW} {a0 : Int32} {Q : Int32 → MW → Prop} (hs : p_Mo_isOnWay w a0 Q) : Tc (d + 0) 79 [.ref 127, .int a0] w (RZ Q) := by
  unfold p_Mo_isOnWay at hs
  refine tm_go 2 (pc' := 2) (L' := [some (.ref 127), some (.int a0), some (.int 0), none]) (S' := []) (w' := w) rfl ?_
  refine tx_Mo_isOnWay_2 FU _ _ _ hs (fun  z11_0 z11_1 z11_2 z11_3 w11 hs => ?_)
  refine tm_go 1 (pc' := 81) (L' := [z11_0, z11_1, z11_2, z11_3]) (S' := [.int 0]) (w' := w11) rfl ?_
  exact tm_r rfl ⟨_, rfl, by decide, hs⟩
set_option maxHeartbeats 4000000 in
set_option maxRecDepth 100000 in
theorem tx_Mo_least_2 {d : Nat} {x2_0 : Int32} {x2_1 : Int32} {x2_2 : Int32} {E : MW → Prop} {Q : Int32 → MW → Prop} (n : Nat) : ∀ (x2_3 : Int32)   (w : MW), q_Mo_least_2 x2_0 x2_1 x2_2 E Q n x2_3 w → (∀  (v0 : Option Value) (v1 : Option Value) (v2 : Option Value) (v3 : Option Value) (w : MW), E  w → Tm (d + 1) 62 26 [v0, v1, v2, v3] [] w (RI Q)) → Tm (d + 1) 62 2 [some (.int x2_0), some (.int x2_1), some (.int x2_2), some (.int x2_3)] [] w (RI Q) := by
  induction n with
  | zero => intro x2_3  w hs; rw [q_Mo_least_2.eq_1] at hs; exact hs.elim
  | succ n ih =>
    intro x2_3  w hs hE
    rw [q_Mo_least_2.eq_2] at hs
    refine tm_go 2 (pc' := 5) (L' := [some (.int x2_0), some (.int x2_1), some (.int x2_2), some (.int x2_3)]) (S' := [.int 10, .int x2_3]) (w' := w) rfl ?_
    refine tm_i (p1 := 26) (p2 := 8) rfl (fun h1 => ?_) (fun h1 => ?_)
    · replace hs := hs.1 h1
      exact hE _ _ _ _ _ hs
    · replace hs := hs.2 h1
      refine tm_go 4 (pc' := 12) (L' := [some (.int x2_0), some (.int x2_1), some (.int x2_2), some (.int x2_3)]) (S' := [.int x2_2, .int x2_1, .int x2_3, .int x2_0]) (w' := w) rfl ?_
      refine tm_c rfl (Nat.le_of_ble_eq_true rfl) (dm_Mo_passes (d := d + 0) hs) (fun v w2 hq => ?_)
      obtain ⟨r2, rfl, hz2, hs⟩ := hq
      refine tm_i (p1 := 20) (p2 := 18) rfl (fun h3 => ?_) (fun h3 => ?_)
      · replace hs := hs.1 h3
        refine tm_go 2 (pc' := 2) (L' := [some (.int x2_0), some (.int x2_1), some (.int x2_2), some (.int (x2_3 + (1 : Int32)))]) (S' := []) (w' := w2) rfl ?_
        exact ih _ _ hs hE
      · replace hs := hs.2 h3
        refine tm_go 1 (pc' := 19) (L' := [some (.int x2_0), some (.int x2_1), some (.int x2_2), some (.int x2_3)]) (S' := [.int x2_3]) (w' := w2) rfl ?_
        exact tm_r rfl ⟨_, rfl, hs⟩
set_option maxHeartbeats 4000000 in
set_option maxRecDepth 100000 in
theorem dm_Mo_least {d : Nat} {w : MW} {a0 : Int32} {b0 : Int32} {c0 : Int32} {Q : Int32 → MW → Prop} (hs : p_Mo_least w a0 b0 c0 Q) : Tc (d + 1) 62 [.int a0, .int b0, .int c0] w (RI Q) := by
  unfold p_Mo_least at hs
  refine tm_go 2 (pc' := 2) (L' := [some (.int a0), some (.int b0), some (.int c0), some (.int 0)]) (S' := []) (w' := w) rfl ?_
  refine tx_Mo_least_2 FU _ _ hs (fun  z4_0 z4_1 z4_2 z4_3 w4 hs => ?_)
  refine tm_go 1 (pc' := 27) (L' := [z4_0, z4_1, z4_2, z4_3]) (S' := [.int (-1)]) (w' := w4) rfl ?_
  exact tm_r rfl ⟨_, rfl, hs⟩
