set_option maxHeartbeats 4000000 in
set_option maxRecDepth 100000 in
theorem dm_Mr_conditionWord {d : Nat} {w : MW} {Q : Int32 → MW → Prop} (hs : p_Mr_conditionWord w Q) : Tc (d + 2) 288 [.ref 147] w (RI Q) := by
  unfold p_Mr_conditionWord at hs
  refine tm_go 2 (pc' := 2) (L' := [some (.ref 147)]) (S' := [.int 0, .ref 147]) (w' := w) rfl ?_
  refine tm_c rfl (Nat.le_of_ble_eq_true rfl) (dm_Mr_at (d := d + 1) hs) (fun v w1 hq => ?_)
  obtain ⟨r1, rfl, hs⟩ := hq
  refine tm_go 1 (pc' := 7) (L' := [some (.ref 147)]) (S' := [.int 99, .int r1]) (w' := w1) rfl ?_
  refine tm_i (p1 := 20) (p2 := 10) rfl (fun h2 => ?_) (fun h2 => ?_)
  · replace hs := hs.1 h2
    refine tm_go 1 (pc' := 21) (L' := [some (.ref 147)]) (S' := [.int (-1)]) (w' := w1) rfl ?_
    exact tm_r rfl ⟨_, rfl, hs⟩
  · replace hs := hs.2 h2
    refine tm_go 3 (pc' := 14) (L' := [some (.ref 147)]) (S' := [.int 15, .int 1, .ref 147]) (w' := w1) rfl ?_
    refine tm_c rfl (Nat.le_of_ble_eq_true rfl) (dm_Mr_number (d := d + 0) hs) (fun v w3 hq => ?_)
    obtain ⟨r3, rfl, hs⟩ := hq
    refine tm_go 1 (pc' := 21) (L' := [some (.ref 147)]) (S' := [.int r3]) (w' := w3) rfl ?_
    exact tm_r rfl ⟨_, rfl, hs⟩
set_option maxHeartbeats 4000000 in
set_option maxRecDepth 100000 in
theorem tx_Mr_and_5 {d : Nat} {r_Mr_and : MW → (Int32 → MW → Prop) → Prop} {r_Mr_or : MW → (Int32 → MW → Prop) → Prop} {r_Mr_part : MW → (Int32 → MW → Prop) → Prop} (hr_Mr_and : ∀ (w : MW) (Q : Int32 → MW → Prop), r_Mr_and w Q → Tc (d + 2) 291 [.ref 147] w (RI Q)) (hr_Mr_or : ∀ (w : MW) (Q : Int32 → MW → Prop), r_Mr_or w Q → Tc (d + 2) 290 [.ref 147] w (RI Q)) (hr_Mr_part : ∀ (w : MW) (Q : Int32 → MW → Prop), r_Mr_part w Q → Tc (d + 2) 292 [.ref 147] w (RI Q)) {E : Int32 → MW → Prop} {Q : Int32 → MW → Prop} (n : Nat) : ∀ (x5_1 : Int32)  (z2 : Option Value) (w : MW), q_Mr_and_5 r_Mr_and r_Mr_or r_Mr_part  E Q n x5_1 w → (∀ (e5_1 : Int32)  (v0 : Option Value) (v2 : Option Value) (w : MW), E e5_1 w → Tm (d + 3) 291 62 [v0, some (.int e5_1), v2] [] w (RI Q)) → Tm (d + 3) 291 5 [some (.ref 147), some (.int x5_1), z2] [] w (RI Q) := by
  induction n with
  | zero => intro x5_1 z2 w hs; rw [q_Mr_and_5.eq_1] at hs; exact hs.elim
  | succ n ih =>
    intro x5_1 z2 w hs hE
    rw [q_Mr_and_5.eq_2] at hs
    refine tm_go 1 (pc' := 6) (L' := [some (.ref 147), some (.int x5_1), z2]) (S' := [.int x5_1]) (w' := w) rfl ?_
    refine tm_i (p1 := 62) (p2 := 9) rfl (fun h2 => ?_) (fun h2 => ?_)
    · replace hs := hs.1 h2
      exact hE _ _ _ _ hs
    · replace hs := hs.2 h2
      refine tm_go 9 (pc' := 21) (L' := [some (.ref 147), some (.int x5_1), z2]) (S' := [.int 3, .int 0, .int 0, .int 0, .int 0, .int 100, .int 110, .int 97, .ref 147]) (w' := w) rfl ?_
      refine tm_c rfl (Nat.le_of_ble_eq_true rfl) (dm_Mr_is (d := d + 1) hs) (fun v w3 hq => ?_)
      obtain ⟨r3, rfl, hz3, hs⟩ := hq
      refine tm_i (p1 := 62) (p2 := 27) rfl (fun h4 => ?_) (fun h4 => ?_)
      · replace hs := hs.1 h4
        exact hE _ _ _ _ hs
      · replace hs := hs.2 h4
        refine tm_go 7 (pc' := 38) (L' := [some (.ref 147), some (.int x5_1), z2]) (S' := [.ref 147]) (w' := (sI w3 147 5 ((w3.1 147 5) + (1 : Int32)))) rfl ?_
        refine tm_c rfl (Nat.le_of_ble_eq_true rfl) (hr_Mr_part _ _ hs) (fun v w5 hq => ?_)
        obtain ⟨r5, rfl, hs⟩ := hq
        refine tm_go 2 (pc' := 43) (L' := [some (.ref 147), some (.int x5_1), some (.int r5)]) (S' := [.int r5]) (w' := w5) rfl ?_
        refine tm_i (p1 := 50) (p2 := 46) rfl (fun h6 => ?_) (fun h6 => ?_)
        · replace hs := hs.1 h6
          refine tm_go 4 (pc' := 55) (L' := [some (.ref 147), some (.int x5_1), some (.int r5)]) (S' := [.int r5, .int x5_1, .int 17, .ref 147]) (w' := w5) rfl ?_
          refine tm_c rfl (Nat.le_of_ble_eq_true rfl) (dm_Mr_node (d := d + 2) hs) (fun v w7 hq => ?_)
          obtain ⟨r7, rfl, hs⟩ := hq
          refine tm_go 2 (pc' := 5) (L' := [some (.ref 147), some (.int r7), some (.int r5)]) (S' := []) (w' := w7) rfl ?_
          exact ih _ _ _ hs hE
        · replace hs := hs.2 h6
          refine tm_go 4 (pc' := 5) (L' := [some (.ref 147), some (.int (-1)), some (.int r5)]) (S' := []) (w' := w5) rfl ?_
          exact ih _ _ _ hs hE
set_option maxHeartbeats 4000000 in
set_option maxRecDepth 100000 in
theorem dmb_Mr_and {d : Nat} {r_Mr_and : MW → (Int32 → MW → Prop) → Prop} {r_Mr_or : MW → (Int32 → MW → Prop) → Prop} {r_Mr_part : MW → (Int32 → MW → Prop) → Prop} (hr_Mr_and : ∀ (w : MW) (Q : Int32 → MW → Prop), r_Mr_and w Q → Tc (d + 2) 291 [.ref 147] w (RI Q)) (hr_Mr_or : ∀ (w : MW) (Q : Int32 → MW → Prop), r_Mr_or w Q → Tc (d + 2) 290 [.ref 147] w (RI Q)) (hr_Mr_part : ∀ (w : MW) (Q : Int32 → MW → Prop), r_Mr_part w Q → Tc (d + 2) 292 [.ref 147] w (RI Q)) {w : MW} {Q : Int32 → MW → Prop} (hs : pb_Mr_and r_Mr_and r_Mr_or r_Mr_part w Q) : Tc (d + 3) 291 [.ref 147] w (RI Q) := by
  unfold pb_Mr_and at hs
  refine tm_go 1 (pc' := 1) (L' := [some (.ref 147), none, none]) (S' := [.ref 147]) (w' := w) rfl ?_
  refine tm_c rfl (Nat.le_of_ble_eq_true rfl) (hr_Mr_part _ _ hs) (fun v w1 hq => ?_)
  obtain ⟨r1, rfl, hs⟩ := hq
  refine tm_go 1 (pc' := 5) (L' := [some (.ref 147), some (.int r1), none]) (S' := []) (w' := w1) rfl ?_
  refine tx_Mr_and_5 hr_Mr_and hr_Mr_or hr_Mr_part FU _ _ _ hs (fun e5_1_8 z8_0 z8_2 w8 hs => ?_)
  refine tm_go 1 (pc' := 63) (L' := [z8_0, some (.int e5_1_8), z8_2]) (S' := [.int e5_1_8]) (w' := w8) rfl ?_
  exact tm_r rfl ⟨_, rfl, hs⟩
set_option maxHeartbeats 4000000 in
set_option maxRecDepth 100000 in
theorem tx_Mr_or_5 {d : Nat} {r_Mr_and : MW → (Int32 → MW → Prop) → Prop} {r_Mr_or : MW → (Int32 → MW → Prop) → Prop} {r_Mr_part : MW → (Int32 → MW → Prop) → Prop} (hr_Mr_and : ∀ (w : MW) (Q : Int32 → MW → Prop), r_Mr_and w Q → Tc (d + 2) 291 [.ref 147] w (RI Q)) (hr_Mr_or : ∀ (w : MW) (Q : Int32 → MW → Prop), r_Mr_or w Q → Tc (d + 2) 290 [.ref 147] w (RI Q)) (hr_Mr_part : ∀ (w : MW) (Q : Int32 → MW → Prop), r_Mr_part w Q → Tc (d + 2) 292 [.ref 147] w (RI Q)) {E : Int32 → MW → Prop} {Q : Int32 → MW → Prop} (n : Nat) : ∀ (x5_1 : Int32)  (z2 : Option Value) (w : MW), q_Mr_or_5 r_Mr_and r_Mr_or r_Mr_part  E Q n x5_1 w → (∀ (e5_1 : Int32)  (v0 : Option Value) (v2 : Option Value) (w : MW), E e5_1 w → Tm (d + 3) 290 61 [v0, some (.int e5_1), v2] [] w (RI Q)) → Tm (d + 3) 290 5 [some (.ref 147), some (.int x5_1), z2] [] w (RI Q) := by
  induction n with
  | zero => intro x5_1 z2 w hs; rw [q_Mr_or_5.eq_1] at hs; exact hs.elim
  | succ n ih =>
    intro x5_1 z2 w hs hE
    rw [q_Mr_or_5.eq_2] at hs
    refine tm_go 1 (pc' := 6) (L' := [some (.ref 147), some (.int x5_1), z2]) (S' := [.int x5_1]) (w' := w) rfl ?_
    refine tm_i (p1 := 61) (p2 := 9) rfl (fun h2 => ?_) (fun h2 => ?_)
    · replace hs := hs.1 h2
      exact hE _ _ _ _ hs
    · replace hs := hs.2 h2
      refine tm_go 9 (pc' := 20) (L' := [some (.ref 147), some (.int x5_1), z2]) (S' := [.int 2, .int 0, .int 0, .int 0, .int 0, .int 0, .int 114, .int 111, .ref 147]) (w' := w) rfl ?_
      refine tm_c rfl (Nat.le_of_ble_eq_true rfl) (dm_Mr_is (d := d + 1) hs) (fun v w3 hq => ?_)
      obtain ⟨r3, rfl, hz3, hs⟩ := hq
      refine tm_i (p1 := 61) (p2 := 26) rfl (fun h4 => ?_) (fun h4 => ?_)
      · replace hs := hs.1 h4
        exact hE _ _ _ _ hs
      · replace hs := hs.2 h4
        refine tm_go 7 (pc' := 37) (L' := [some (.ref 147), some (.int x5_1), z2]) (S' := [.ref 147]) (w' := (sI w3 147 5 ((w3.1 147 5) + (1 : Int32)))) rfl ?_
        refine tm_c rfl (Nat.le_of_ble_eq_true rfl) (hr_Mr_and _ _ hs) (fun v w5 hq => ?_)
        obtain ⟨r5, rfl, hs⟩ := hq
        refine tm_go 2 (pc' := 42) (L' := [some (.ref 147), some (.int x5_1), some (.int r5)]) (S' := [.int r5]) (w' := w5) rfl ?_
        refine tm_i (p1 := 49) (p2 := 45) rfl (fun h6 => ?_) (fun h6 => ?_)
        · replace hs := hs.1 h6
          refine tm_go 4 (pc' := 54) (L' := [some (.ref 147), some (.int x5_1), some (.int r5)]) (S' := [.int r5, .int x5_1, .int 18, .ref 147]) (w' := w5) rfl ?_
          refine tm_c rfl (Nat.le_of_ble_eq_true rfl) (dm_Mr_node (d := d + 2) hs) (fun v w7 hq => ?_)
          obtain ⟨r7, rfl, hs⟩ := hq
          refine tm_go 2 (pc' := 5) (L' := [some (.ref 147), some (.int r7), some (.int r5)]) (S' := []) (w' := w7) rfl ?_
          exact ih _ _ _ hs hE
        · replace hs := hs.2 h6
          refine tm_go 4 (pc' := 5) (L' := [some (.ref 147), some (.int (-1)), some (.int r5)]) (S' := []) (w' := w5) rfl ?_
          exact ih _ _ _ hs hE
set_option maxHeartbeats 4000000 in
set_option maxRecDepth 100000 in
theorem dmb_Mr_or {d : Nat} {r_Mr_and : MW → (Int32 → MW → Prop) → Prop} {r_Mr_or : MW → (Int32 → MW → Prop) → Prop} {r_Mr_part : MW → (Int32 → MW → Prop) → Prop} (hr_Mr_and : ∀ (w : MW) (Q : Int32 → MW → Prop), r_Mr_and w Q → Tc (d + 2) 291 [.ref 147] w (RI Q)) (hr_Mr_or : ∀ (w : MW) (Q : Int32 → MW → Prop), r_Mr_or w Q → Tc (d + 2) 290 [.ref 147] w (RI Q)) (hr_Mr_part : ∀ (w : MW) (Q : Int32 → MW → Prop), r_Mr_part w Q → Tc (d + 2) 292 [.ref 147] w (RI Q)) {w : MW} {Q : Int32 → MW → Prop} (hs : pb_Mr_or r_Mr_and r_Mr_or r_Mr_part w Q) : Tc (d + 3) 290 [.ref 147] w (RI Q) := by
  unfold pb_Mr_or at hs
  refine tm_go 1 (pc' := 1) (L' := [some (.ref 147), none, none]) (S' := [.ref 147]) (w' := w) rfl ?_
  refine tm_c rfl (Nat.le_of_ble_eq_true rfl) (hr_Mr_and _ _ hs) (fun v w1 hq => ?_)
  obtain ⟨r1, rfl, hs⟩ := hq
  refine tm_go 1 (pc' := 5) (L' := [some (.ref 147), some (.int r1), none]) (S' := []) (w' := w1) rfl ?_
  refine tx_Mr_or_5 hr_Mr_and hr_Mr_or hr_Mr_part FU _ _ _ hs (fun e5_1_8 z8_0 z8_2 w8 hs => ?_)
  refine tm_go 1 (pc' := 62) (L' := [z8_0, some (.int e5_1_8), z8_2]) (S' := [.int e5_1_8]) (w' := w8) rfl ?_
  exact tm_r rfl ⟨_, rfl, hs⟩
set_option maxHeartbeats 4000000 in
set_option maxRecDepth 100000 in
theorem tx_Mr_part_109 {d : Nat} {r_Mr_and : MW → (Int32 → MW → Prop) → Prop} {r_Mr_or : MW → (Int32 → MW → Prop) → Prop} {r_Mr_part : MW → (Int32 → MW → Prop) → Prop} (hr_Mr_and : ∀ (w : MW) (Q : Int32 → MW → Prop), r_Mr_and w Q → Tc (d + 2) 291 [.ref 147] w (RI Q)) (hr_Mr_or : ∀ (w : MW) (Q : Int32 → MW → Prop), r_Mr_or w Q → Tc (d + 2) 290 [.ref 147] w (RI Q)) (hr_Mr_part : ∀ (w : MW) (Q : Int32 → MW → Prop), r_Mr_part w Q → Tc (d + 2) 292 [.ref 147] w (RI Q)) {y109_1 : Int32} {y109_2 : Int32} {ys109_0 : Int32} {ys109_1 : Int32}  {w : MW} {Q : Int32 → MW → Prop} (hs : q_Mr_part_109 r_Mr_and r_Mr_or r_Mr_part y109_1 y109_2 ys109_0 ys109_1 w Q) : Tm (d + 3) 292 109 [some (.ref 147), some (.int y109_1), some (.int y109_2)] [.int ys109_0, .int ys109_1, .ref 147] w (RI Q) := by
  unfold q_Mr_part_109 at hs
  refine tm_go 9 (pc' := 124) (L' := [some (.ref 147), some (.int y109_1), some (.int y109_2)]) (S' := [.int y109_1]) (w' := (sI (sI w 147 5 (ys109_1 + ys109_0)) 147 6 ((w.1 147 6) - (1 : Int32)))) rfl ?_
  refine tm_i (p1 := 138) (p2 := 127) rfl (fun h9 => ?_) (fun h9 => ?_)
  · replace hs := hs.1 h9
    refine tm_go 1 (pc' := 139) (L' := [some (.ref 147), some (.int y109_1), some (.int y109_2)]) (S' := [.int y109_2]) (w' := (sI (sI w 147 5 (ys109_1 + ys109_0)) 147 6 ((w.1 147 6) - (1 : Int32)))) rfl ?_
    exact tm_r rfl ⟨_, rfl, hs⟩
  · replace hs := hs.2 h9
    refine tm_go 4 (pc' := 132) (L' := [some (.ref 147), some (.int y109_1), some (.int y109_2)]) (S' := [.int (-1), .int y109_2, .int 16, .ref 147]) (w' := (sI (sI w 147 5 (ys109_1 + ys109_0)) 147 6 ((w.1 147 6) - (1 : Int32)))) rfl ?_
    refine tm_c rfl (Nat.le_of_ble_eq_true rfl) (dm_Mr_node (d := d + 2) hs) (fun v w10 hq => ?_)
    obtain ⟨r10, rfl, hs⟩ := hq
    refine tm_go 1 (pc' := 139) (L' := [some (.ref 147), some (.int y109_1), some (.int y109_2)]) (S' := [.int r10]) (w' := w10) rfl ?_
    exact tm_r rfl ⟨_, rfl, hs⟩
set_option maxHeartbeats 4000000 in
set_option maxRecDepth 100000 in
theorem tx_Mr_part_75 {d : Nat} {r_Mr_and : MW → (Int32 → MW → Prop) → Prop} {r_Mr_or : MW → (Int32 → MW → Prop) → Prop} {r_Mr_part : MW → (Int32 → MW → Prop) → Prop} (hr_Mr_and : ∀ (w : MW) (Q : Int32 → MW → Prop), r_Mr_and w Q → Tc (d + 2) 291 [.ref 147] w (RI Q)) (hr_Mr_or : ∀ (w : MW) (Q : Int32 → MW → Prop), r_Mr_or w Q → Tc (d + 2) 290 [.ref 147] w (RI Q)) (hr_Mr_part : ∀ (w : MW) (Q : Int32 → MW → Prop), r_Mr_part w Q → Tc (d + 2) 292 [.ref 147] w (RI Q)) {y75_1 : Int32} {ys75_0 : Int32} {z2 : Option Value} {w : MW} {Q : Int32 → MW → Prop} (hs : q_Mr_part_75 r_Mr_and r_Mr_or r_Mr_part y75_1 ys75_0 w Q) : Tm (d + 3) 292 75 [some (.ref 147), some (.int y75_1), z2] [.int ys75_0] w (RI Q) := by
  unfold q_Mr_part_75 at hs
  refine tm_go 2 (pc' := 77) (L' := [some (.ref 147), some (.int y75_1), some (.int ys75_0)]) (S' := [.int ys75_0]) (w' := w) rfl ?_
  refine tm_i (p1 := 93) (p2 := 80) rfl (fun h6 => ?_) (fun h6 => ?_)
  · replace hs := hs.1 h6
    refine tm_go 1 (pc' := 94) (L' := [some (.ref 147), some (.int y75_1), some (.int ys75_0)]) (S' := [.int (-1)]) (w' := w) rfl ?_
    exact tm_r rfl ⟨_, rfl, hs⟩
  · replace hs := hs.2 h6
    refine tm_go 1 (pc' := 81) (L' := [some (.ref 147), some (.int y75_1), some (.int ys75_0)]) (S' := [.int y75_1]) (w' := w) rfl ?_
    refine tm_i (p1 := 95) (p2 := 84) rfl (fun h7 => ?_) (fun h7 => ?_)
    · replace hs := hs.1 h7
      refine tm_go 4 (pc' := 101) (L' := [some (.ref 147), some (.int y75_1), some (.int ys75_0)]) (S' := [.int y75_1, .int (w.1 147 5), .ref 147]) (w' := w) rfl ?_
      refine tm_i (p1 := 108) (p2 := 104) rfl (fun h8 => ?_) (fun h8 => ?_)
      · replace hs := hs.1 h8
        refine tm_go 1 (pc' := 109) (L' := [some (.ref 147), some (.int y75_1), some (.int ys75_0)]) (S' := [.int 1, .int (w.1 147 5), .ref 147]) (w' := w) rfl ?_
        exact tx_Mr_part_109 hr_Mr_and hr_Mr_or hr_Mr_part hs 
      · replace hs := hs.2 h8
        refine tm_go 2 (pc' := 109) (L' := [some (.ref 147), some (.int y75_1), some (.int ys75_0)]) (S' := [.int 0, .int (w.1 147 5), .ref 147]) (w' := w) rfl ?_
        exact tx_Mr_part_109 hr_Mr_and hr_Mr_or hr_Mr_part hs 
    · replace hs := hs.2 h7
      refine tm_go 2 (pc' := 87) (L' := [some (.ref 147), some (.int y75_1), some (.int ys75_0)]) (S' := [.int 41, .ref 147]) (w' := w) rfl ?_
      refine tm_c rfl (Nat.le_of_ble_eq_true rfl) (dm_Mr_isOne (d := d + 1) hs) (fun v w11 hq => ?_)
      obtain ⟨r11, rfl, hz11, hs⟩ := hq
      refine tm_i (p1 := 95) (p2 := 93) rfl (fun h12 => ?_) (fun h12 => ?_)
      · replace hs := hs.1 h12
        refine tm_go 4 (pc' := 101) (L' := [some (.ref 147), some (.int y75_1), some (.int ys75_0)]) (S' := [.int y75_1, .int (w11.1 147 5), .ref 147]) (w' := w11) rfl ?_
        refine tm_i (p1 := 108) (p2 := 104) rfl (fun h13 => ?_) (fun h13 => ?_)
        · replace hs := hs.1 h13
          refine tm_go 1 (pc' := 109) (L' := [some (.ref 147), some (.int y75_1), some (.int ys75_0)]) (S' := [.int 1, .int (w11.1 147 5), .ref 147]) (w' := w11) rfl ?_
          exact tx_Mr_part_109 hr_Mr_and hr_Mr_or hr_Mr_part hs 
        · replace hs := hs.2 h13
          refine tm_go 2 (pc' := 109) (L' := [some (.ref 147), some (.int y75_1), some (.int ys75_0)]) (S' := [.int 0, .int (w11.1 147 5), .ref 147]) (w' := w11) rfl ?_
          exact tx_Mr_part_109 hr_Mr_and hr_Mr_or hr_Mr_part hs 
      · replace hs := hs.2 h12
        refine tm_go 1 (pc' := 94) (L' := [some (.ref 147), some (.int y75_1), some (.int ys75_0)]) (S' := [.int (-1)]) (w' := w11) rfl ?_
        exact tm_r rfl ⟨_, rfl, hs⟩
set_option maxHeartbeats 4000000 in
set_option maxRecDepth 100000 in
theorem tx_Mr_part_29 {d : Nat} {r_Mr_and : MW → (Int32 → MW → Prop) → Prop} {r_Mr_or : MW → (Int32 → MW → Prop) → Prop} {r_Mr_part : MW → (Int32 → MW → Prop) → Prop} (hr_Mr_and : ∀ (w : MW) (Q : Int32 → MW → Prop), r_Mr_and w Q → Tc (d + 2) 291 [.ref 147] w (RI Q)) (hr_Mr_or : ∀ (w : MW) (Q : Int32 → MW → Prop), r_Mr_or w Q → Tc (d + 2) 290 [.ref 147] w (RI Q)) (hr_Mr_part : ∀ (w : MW) (Q : Int32 → MW → Prop), r_Mr_part w Q → Tc (d + 2) 292 [.ref 147] w (RI Q)) {y29_1 : Int32} {z2 : Option Value} {w : MW} {Q : Int32 → MW → Prop} (hs : q_Mr_part_29 r_Mr_and r_Mr_or r_Mr_part y29_1 w Q) : Tm (d + 3) 292 29 [some (.ref 147), some (.int y29_1), z2] [] w (RI Q) := by
  unfold q_Mr_part_29 at hs
  refine tm_go 3 (pc' := 35) (L' := [some (.ref 147), some (.int y29_1), z2]) (S' := [.int 20, .int (w.1 147 6)]) (w' := w) rfl ?_
  refine tm_i (p1 := 40) (p2 := 38) rfl (fun h3 => ?_) (fun h3 => ?_)
  · replace hs := hs.1 h3
    refine tm_go 13 (pc' := 61) (L' := [some (.ref 147), some (.int y29_1), z2]) (S' := [.int y29_1]) (w' := (sI (sI w 147 5 ((w.1 147 5) + (1 : Int32))) 147 6 ((w.1 147 6) + (1 : Int32)))) rfl ?_
    refine tm_i (p1 := 71) (p2 := 64) rfl (fun h4 => ?_) (fun h4 => ?_)
    · replace hs := hs.1 h4
      refine tm_go 1 (pc' := 72) (L' := [some (.ref 147), some (.int y29_1), z2]) (S' := [.ref 147]) (w' := (sI (sI w 147 5 ((w.1 147 5) + (1 : Int32))) 147 6 ((w.1 147 6) + (1 : Int32)))) rfl ?_
      refine tm_c rfl (Nat.le_of_ble_eq_true rfl) (hr_Mr_or _ _ hs) (fun v w5 hq => ?_)
      obtain ⟨r5, rfl, hs⟩ := hq
      exact tx_Mr_part_75 hr_Mr_and hr_Mr_or hr_Mr_part hs 
    · replace hs := hs.2 h4
      refine tm_go 1 (pc' := 65) (L' := [some (.ref 147), some (.int y29_1), z2]) (S' := [.ref 147]) (w' := (sI (sI w 147 5 ((w.1 147 5) + (1 : Int32))) 147 6 ((w.1 147 6) + (1 : Int32)))) rfl ?_
      refine tm_c rfl (Nat.le_of_ble_eq_true rfl) (hr_Mr_part _ _ hs) (fun v w14 hq => ?_)
      obtain ⟨r14, rfl, hs⟩ := hq
      refine tm_go 1 (pc' := 75) (L' := [some (.ref 147), some (.int y29_1), z2]) (S' := [.int r14]) (w' := w14) rfl ?_
      exact tx_Mr_part_75 hr_Mr_and hr_Mr_or hr_Mr_part hs 
  · replace hs := hs.2 h3
    refine tm_go 1 (pc' := 39) (L' := [some (.ref 147), some (.int y29_1), z2]) (S' := [.int (-1)]) (w' := w) rfl ?_
    exact tm_r rfl ⟨_, rfl, hs⟩
set_option maxHeartbeats 4000000 in
set_option maxRecDepth 100000 in
theorem dmb_Mr_part {d : Nat} {r_Mr_and : MW → (Int32 → MW → Prop) → Prop} {r_Mr_or : MW → (Int32 → MW → Prop) → Prop} {r_Mr_part : MW → (Int32 → MW → Prop) → Prop} (hr_Mr_and : ∀ (w : MW) (Q : Int32 → MW → Prop), r_Mr_and w Q → Tc (d + 2) 291 [.ref 147] w (RI Q)) (hr_Mr_or : ∀ (w : MW) (Q : Int32 → MW → Prop), r_Mr_or w Q → Tc (d + 2) 290 [.ref 147] w (RI Q)) (hr_Mr_part : ∀ (w : MW) (Q : Int32 → MW → Prop), r_Mr_part w Q → Tc (d + 2) 292 [.ref 147] w (RI Q)) {w : MW} {Q : Int32 → MW → Prop} (hs : pb_Mr_part r_Mr_and r_Mr_or r_Mr_part w Q) : Tc (d + 3) 292 [.ref 147] w (RI Q) := by
  unfold pb_Mr_part at hs
  refine tm_go 9 (pc' := 12) (L' := [some (.ref 147), none, none]) (S' := [.int 3, .int 0, .int 0, .int 0, .int 0, .int 116, .int 111, .int 110, .ref 147]) (w' := w) rfl ?_
  refine tm_c rfl (Nat.le_of_ble_eq_true rfl) (dm_Mr_is (d := d + 1) hs) (fun v w1 hq => ?_)
  obtain ⟨r1, rfl, hz1, hs⟩ := hq
  refine tm_go 2 (pc' := 17) (L' := [some (.ref 147), some (.int r1), none]) (S' := [.int r1]) (w' := w1) rfl ?_
  refine tm_i (p1 := 29) (p2 := 20) rfl (fun h2 => ?_) (fun h2 => ?_)
  · replace hs := hs.1 h2
    exact tx_Mr_part_29 hr_Mr_and hr_Mr_or hr_Mr_part hs 
  · replace hs := hs.2 h2
    refine tm_go 2 (pc' := 23) (L' := [some (.ref 147), some (.int r1), none]) (S' := [.int 40, .ref 147]) (w' := w1) rfl ?_
    refine tm_c rfl (Nat.le_of_ble_eq_true rfl) (dm_Mr_isOne (d := d + 1) hs) (fun v w15 hq => ?_)
    obtain ⟨r15, rfl, hz15, hs⟩ := hq
    refine tm_i (p1 := 140) (p2 := 29) rfl (fun h16 => ?_) (fun h16 => ?_)
    · replace hs := hs.1 h16
      refine tm_go 1 (pc' := 141) (L' := [some (.ref 147), some (.int r1), none]) (S' := [.ref 147]) (w' := w15) rfl ?_
      refine tm_c rfl (Nat.le_of_ble_eq_true rfl) (dm_Mr_conditionWord (d := d + 0) hs) (fun v w17 hq => ?_)
      obtain ⟨r17, rfl, hs⟩ := hq
      refine tm_go 2 (pc' := 146) (L' := [some (.ref 147), some (.int r1), some (.int r17)]) (S' := [.int r17]) (w' := w17) rfl ?_
      refine tm_i (p1 := 158) (p2 := 149) rfl (fun h18 => ?_) (fun h18 => ?_)
      · replace hs := hs.1 h18
        refine tm_go 1 (pc' := 159) (L' := [some (.ref 147), some (.int r1), some (.int r17)]) (S' := [.int (-1)]) (w' := w17) rfl ?_
        exact tm_r rfl ⟨_, rfl, hs⟩
      · replace hs := hs.2 h18
        refine tm_go 3 (pc' := 155) (L' := [some (.ref 147), some (.int r1), some (.int r17)]) (S' := [.int 32, .int (w17.1 147 7)]) (w' := w17) rfl ?_
        refine tm_i (p1 := 160) (p2 := 158) rfl (fun h19 => ?_) (fun h19 => ?_)
        · replace hs := hs.1 h19
          refine tm_go 16 (pc' := 184) (L' := [some (.ref 147), some (.int r1), some (.int r17)]) (S' := [.int (-1), .int (-1), .int r17, .ref 147]) (w' := (sI (sI w17 147 7 ((w17.1 147 7) + (1 : Int32))) 147 5 ((w17.1 147 5) + (1 : Int32)))) rfl ?_
          refine tm_c rfl (Nat.le_of_ble_eq_true rfl) (dm_Mr_node (d := d + 2) hs) (fun v w20 hq => ?_)
          obtain ⟨r20, rfl, hs⟩ := hq
          exact tm_r rfl ⟨_, rfl, hs⟩
        · replace hs := hs.2 h19
          refine tm_go 1 (pc' := 159) (L' := [some (.ref 147), some (.int r1), some (.int r17)]) (S' := [.int (-1)]) (w' := w17) rfl ?_
          exact tm_r rfl ⟨_, rfl, hs⟩
    · replace hs := hs.2 h16
      exact tx_Mr_part_29 hr_Mr_and hr_Mr_or hr_Mr_part hs 
theorem da_Mr_and (n : Nat) : (∀ (w : MW) (Q : Int32 → MW → Prop), pn_Mr_and n w Q → Tc (n + 2) 291 [.ref 147] w (RI Q)) ∧ (∀ (w : MW) (Q : Int32 → MW → Prop), pn_Mr_or n w Q → Tc (n + 2) 290 [.ref 147] w (RI Q)) ∧ (∀ (w : MW) (Q : Int32 → MW → Prop), pn_Mr_part n w Q → Tc (n + 2) 292 [.ref 147] w (RI Q)) := by
  induction n with
  | zero => exact ⟨fun _ _ h => h.elim, fun _ _ h => h.elim, fun _ _ h => h.elim⟩
  | succ n ih =>
    obtain ⟨h0, h1, h2⟩ := ih
    exact ⟨fun _ _ h => (dmb_Mr_and (d := n) h0 h1 h2 h).le (by omega), fun _ _ h => (dmb_Mr_or (d := n) h0 h1 h2 h).le (by omega), fun _ _ h => (dmb_Mr_part (d := n) h0 h1 h2 h).le (by omega)⟩
theorem dm_Mr_and {d : Nat} {w : MW} {Q : Int32 → MW → Prop} (hs : p_Mr_and w Q) : Tc (d + 402) 291 [.ref 147] w (RI Q) := ((da_Mr_and 400).1 _ _ hs).le (by omega)
theorem dm_Mr_or {d : Nat} {w : MW} {Q : Int32 → MW → Prop} (hs : p_Mr_or w Q) : Tc (d + 402) 290 [.ref 147] w (RI Q) := ((da_Mr_and 400).2.1 _ _ hs).le (by omega)
theorem dm_Mr_part {d : Nat} {w : MW} {Q : Int32 → MW → Prop} (hs : p_Mr_part w Q) : Tc (d + 402) 292 [.ref 147] w (RI Q) := ((da_Mr_and 400).2.2 _ _ hs).le (by omega)
set_option maxHeartbeats 4000000 in
set_option maxRecDepth 100000 in
theorem tx_Mr_readRow_42 {d : Nat} {x42_1 : Int32} {x42_2 : Int32} {x42_3 : Int32} {E : Int32 → MW → Prop} {Q : Int32 → MW → Prop} (n : Nat) : ∀ (x42_4 : Int32) (x42_5 : Int32)   (w : MW), q_Mr_readRow_42 x42_1 x42_2 x42_3 E Q n x42_4 x42_5 w → (∀ (e42_4 : Int32)  (v5 : Option Value) (w : MW), E e42_4 w → Tm (d + 403) 293 79 [some (.ref 147), some (.int x42_1), some (.int x42_2), some (.int x42_3), some (.int e42_4), v5] [] w (RZ Q)) → Tm (d + 403) 293 42 [some (.ref 147), some (.int x42_1), some (.int x42_2), some (.int x42_3), some (.int x42_4), some (.int x42_5)] [] w (RZ Q) := by
  induction n with
  | zero => intro x42_4 x42_5  w hs; rw [q_Mr_readRow_42.eq_1] at hs; exact hs.elim
  | succ n ih =>
    intro x42_4 x42_5  w hs hE
    rw [q_Mr_readRow_42.eq_2] at hs
    refine tm_go 2 (pc' := 45) (L' := [some (.ref 147), some (.int x42_1), some (.int x42_2), some (.int x42_3), some (.int x42_4), some (.int x42_5)]) (S' := [.int x42_2, .int x42_5]) (w' := w) rfl ?_
    refine tm_i (p1 := 79) (p2 := 48) rfl (fun h3 => ?_) (fun h3 => ?_)
    · replace hs := hs.1 h3
      exact hE _ _ _ hs
    · replace hs := hs.2 h3
      refine tm_go 7 (pc' := 59) (L' := [some (.ref 147), some (.int x42_1), some (.int x42_2), some (.int x42_3), some (.int x42_4), some (.int x42_5)]) (S' := [.int (((8 : Int32) * x42_1) + x42_5), .ref 156]) (w' := w) rfl ?_
      obtain ⟨b4, hs⟩ := hs
      refine tm_k (pc' := 60) (L' := [some (.ref 147), some (.int x42_1), some (.int x42_2), some (.int x42_3), some (.int x42_4), some (.int x42_5)]) (S' := [.int (w.1 156 ((((8 : Int32) * x42_1) + x42_5).toInt.toNat))]) (w' := w) rfl b4 ?_
      refine tm_go 1 (pc' := 62) (L' := [some (.ref 147), some (.int x42_1), some (.int x42_2), some (.int x42_3), some (.int x42_4), some (.int x42_5)]) (S' := [.int x42_4, .int (w.1 156 ((((8 : Int32) * x42_1) + x42_5).toInt.toNat))]) (w' := w) rfl ?_
      refine tm_i (p1 := 69) (p2 := 65) rfl (fun h5 => ?_) (fun h5 => ?_)
      · replace hs := hs.1 h5
        refine tm_go 4 (pc' := 42) (L' := [some (.ref 147), some (.int x42_1), some (.int x42_2), some (.int x42_3), some (.int x42_4), some (.int (x42_5 + (1 : Int32)))]) (S' := []) (w' := w) rfl ?_
        exact ih _ _ _ hs hE
      · replace hs := hs.2 h5
        refine tm_go 5 (pc' := 42) (L' := [some (.ref 147), some (.int x42_1), some (.int x42_2), some (.int x42_3), some (.int (-1)), some (.int (x42_5 + (1 : Int32)))]) (S' := []) (w' := w) rfl ?_
        exact ih _ _ _ hs hE
set_option maxHeartbeats 4000000 in
set_option maxRecDepth 100000 in
theorem tx_Mr_readRow_29 {d : Nat} {x29_1 : Int32} {E : Int32 → MW → Prop} {Q : Int32 → MW → Prop} (n : Nat) : ∀ (x29_2 : Int32) (x29_3 : Int32)  (z4 : Option Value) (z5 : Option Value) (w : MW), q_Mr_readRow_29 x29_1 E Q n x29_2 x29_3 w → (∀ (e29_2 : Int32)  (v3 : Option Value) (v4 : Option Value) (v5 : Option Value) (w : MW), E e29_2 w → Tm (d + 403) 293 124 [some (.ref 147), some (.int x29_1), some (.int e29_2), v3, v4, v5] [] w (RZ Q)) → Tm (d + 403) 293 29 [some (.ref 147), some (.int x29_1), some (.int x29_2), some (.int x29_3), z4, z5] [] w (RZ Q) := by
  induction n with
  | zero => intro x29_2 x29_3 z4 z5 w hs; rw [q_Mr_readRow_29.eq_1] at hs; exact hs.elim
  | succ n ih =>
    intro x29_2 x29_3 z4 z5 w hs hE
    rw [q_Mr_readRow_29.eq_2] at hs
    refine tm_go 1 (pc' := 30) (L' := [some (.ref 147), some (.int x29_1), some (.int x29_2), some (.int x29_3), z4, z5]) (S' := [.int x29_3]) (w' := w) rfl ?_
    refine tm_i (p1 := 124) (p2 := 33) rfl (fun h1 => ?_) (fun h1 => ?_)
    · replace hs := hs.1 h1
      exact hE _ _ _ _ _ hs
    · replace hs := hs.2 h1
      refine tm_go 1 (pc' := 34) (L' := [some (.ref 147), some (.int x29_1), some (.int x29_2), some (.int x29_3), z4, z5]) (S' := [.ref 147]) (w' := w) rfl ?_
      refine tm_c rfl (Nat.le_of_ble_eq_true rfl) (dm_Mr_act0 (d := d + 400) hs) (fun v w2 hq => ?_)
      obtain ⟨r2, rfl, hs⟩ := hq
      refine tm_go 3 (pc' := 42) (L' := [some (.ref 147), some (.int x29_1), some (.int x29_2), some (.int x29_3), some (.int r2), some (.int 0)]) (S' := []) (w' := w2) rfl ?_
      refine tx_Mr_readRow_42 FU _ _ _ hs (fun e42_4_6 z6_5 w6 hs => ?_)
      refine tm_go 1 (pc' := 81) (L' := [some (.ref 147), some (.int x29_1), some (.int x29_2), some (.int x29_3), some (.int e42_4_6), z6_5]) (S' := [.int e42_4_6]) (w' := w6) rfl ?_
      refine tm_i (p1 := 90) (p2 := 84) rfl (fun h7 => ?_) (fun h7 => ?_)
      · replace hs := hs.1 h7
        refine tm_go 4 (pc' := 29) (L' := [some (.ref 147), some (.int x29_1), some (.int x29_2), some (.int 0), some (.int e42_4_6), z6_5]) (S' := []) (w' := w6) rfl ?_
        exact ih _ _ _ _ _ hs hE
      · replace hs := hs.2 h7
        refine tm_go 2 (pc' := 87) (L' := [some (.ref 147), some (.int x29_1), some (.int x29_2), some (.int x29_3), some (.int e42_4_6), z6_5]) (S' := [.int 8, .int x29_2]) (w' := w6) rfl ?_
        refine tm_i (p1 := 95) (p2 := 90) rfl (fun h8 => ?_) (fun h8 => ?_)
        · replace hs := hs.1 h8
          refine tm_go 8 (pc' := 107) (L' := [some (.ref 147), some (.int x29_1), some (.int x29_2), some (.int x29_3), some (.int e42_4_6), z6_5]) (S' := [.int e42_4_6, .int (((8 : Int32) * x29_1) + x29_2), .ref 156]) (w' := w6) rfl ?_
          obtain ⟨b9, hs⟩ := hs
          refine tm_k (pc' := 108) (L' := [some (.ref 147), some (.int x29_1), some (.int x29_2), some (.int x29_3), some (.int e42_4_6), z6_5]) (S' := []) (w' := (sI w6 156 ((((8 : Int32) * x29_1) + x29_2).toInt.toNat) e42_4_6)) rfl b9 ?_
          refine tm_go 8 (pc' := 29) (L' := [some (.ref 147), some (.int x29_1), some (.int (x29_2 + (1 : Int32))), some (.int x29_3), some (.int e42_4_6), z6_5]) (S' := []) (w' := (sI (sI w6 156 ((((8 : Int32) * x29_1) + x29_2).toInt.toNat) e42_4_6) 147 5 ((w6.1 147 5) + (1 : Int32)))) rfl ?_
          exact ih _ _ _ _ _ hs hE
        · replace hs := hs.2 h8
          refine tm_go 4 (pc' := 29) (L' := [some (.ref 147), some (.int x29_1), some (.int x29_2), some (.int 0), some (.int e42_4_6), z6_5]) (S' := []) (w' := w6) rfl ?_
          exact ih _ _ _ _ _ hs hE
set_option maxHeartbeats 4000000 in
set_option maxRecDepth 100000 in
theorem tx_Mr_readRow_322 {d : Nat} {ys322_0 : Int32} {ys322_1 : Int32} {z1 : Option Value} {z2 : Option Value} {z3 : Option Value} {z4 : Option Value} {z5 : Option Value} {w : MW} {Q : Int32 → MW → Prop} (hs : q_Mr_readRow_322 ys322_0 ys322_1 w Q) : Tm (d + 403) 293 322 [some (.ref 147), z1, z2, z3, z4, z5] [.int ys322_0, .int ys322_1, .ref 147] w (RZ Q) := by
  unfold q_Mr_readRow_322 at hs
  refine tm_go 4 (pc' := 329) (L' := [some (.ref 147), z1, z2, z3, z4, z5]) (S' := [.int 59, .ref 147]) (w' := (sI w 147 5 (ys322_1 + ys322_0))) rfl ?_
  refine tm_c rfl (Nat.le_of_ble_eq_true rfl) (dm_Mr_isOne (d := d + 401) hs) (fun v w27 hq => ?_)
  obtain ⟨r27, rfl, hz27, hs⟩ := hq
  refine tm_i (p1 := 337) (p2 := 335) rfl (fun h28 => ?_) (fun h28 => ?_)
  · replace hs := hs.1 h28
    refine tm_go 13 (pc' := 358) (L' := [some (.ref 147), z1, z2, z3, z4, z5]) (S' := [.int 1]) (w' := (sI (sI w27 147 5 ((w27.1 147 5) + (1 : Int32))) 147 13 ((w27.1 147 13) + (1 : Int32)))) rfl ?_
    exact tm_r rfl ⟨_, rfl, by decide, hs⟩
  · replace hs := hs.2 h28
    refine tm_go 1 (pc' := 336) (L' := [some (.ref 147), z1, z2, z3, z4, z5]) (S' := [.int 0]) (w' := w27) rfl ?_
    exact tm_r rfl ⟨_, rfl, by decide, hs⟩
set_option maxHeartbeats 4000000 in
set_option maxRecDepth 100000 in
theorem tx_Mr_readRow_277 {d : Nat} {y277_1 : Int32} {z2 : Option Value} {z3 : Option Value} {z4 : Option Value} {z5 : Option Value} {w : MW} {Q : Int32 → MW → Prop} (hs : q_Mr_readRow_277 y277_1 w Q) : Tm (d + 403) 293 277 [some (.ref 147), some (.int y277_1), z2, z3, z4, z5] [] w (RZ Q) := by
  unfold q_Mr_readRow_277 at hs
  refine tm_go 12 (pc' := 299) (L' := [some (.ref 147), some (.int y277_1), z2, z3, z4, z5]) (S' := [.int 7, .int 100, .int 101, .int 104, .int 99, .int 116, .int 97, .int 108, .ref 147, .int y277_1, .ref 158]) (w' := w) rfl ?_
  refine tm_c rfl (Nat.le_of_ble_eq_true rfl) (dm_Mr_is (d := d + 401) hs) (fun v w23 hq => ?_)
  obtain ⟨r23, rfl, hz23, hs⟩ := hq
  obtain ⟨b24, hs⟩ := hs
  refine tm_k (pc' := 303) (L' := [some (.ref 147), some (.int y277_1), z2, z3, z4, z5]) (S' := []) (w' := (sI w23 158 y277_1.toInt.toNat (vp_nar .boolean r23))) rfl b24 ?_
  refine tm_go 6 (pc' := 313) (L' := [some (.ref 147), some (.int y277_1), z2, z3, z4, z5]) (S' := [.int y277_1, .ref 158, .int (w23.1 147 5), .ref 147]) (w' := (sI w23 158 y277_1.toInt.toNat (vp_nar .boolean r23))) rfl ?_
  obtain ⟨b25, hs⟩ := hs
  refine tm_k (pc' := 314) (L' := [some (.ref 147), some (.int y277_1), z2, z3, z4, z5]) (S' := [.int ((sI w23 158 y277_1.toInt.toNat (vp_nar .boolean r23)).1 158 y277_1.toInt.toNat), .int (w23.1 147 5), .ref 147]) (w' := (sI w23 158 y277_1.toInt.toNat (vp_nar .boolean r23))) rfl b25 ?_
  refine tm_i (p1 := 321) (p2 := 317) rfl (fun h26 => ?_) (fun h26 => ?_)
  · replace hs := hs.1 h26
    refine tm_go 1 (pc' := 322) (L' := [some (.ref 147), some (.int y277_1), z2, z3, z4, z5]) (S' := [.int 0, .int (w23.1 147 5), .ref 147]) (w' := (sI w23 158 y277_1.toInt.toNat (vp_nar .boolean r23))) rfl ?_
    exact tx_Mr_readRow_322 hs 
  · replace hs := hs.2 h26
    refine tm_go 2 (pc' := 322) (L' := [some (.ref 147), some (.int y277_1), z2, z3, z4, z5]) (S' := [.int 1, .int (w23.1 147 5), .ref 147]) (w' := (sI w23 158 y277_1.toInt.toNat (vp_nar .boolean r23))) rfl ?_
    exact tx_Mr_readRow_322 hs 
set_option maxHeartbeats 4000000 in
set_option maxRecDepth 100000 in
theorem dm_Mr_readRow {d : Nat} {w : MW} {Q : Int32 → MW → Prop} (hs : p_Mr_readRow w Q) : Tc (d + 403) 293 [.ref 147] w (RZ Q) := by
  unfold p_Mr_readRow at hs
  refine tm_go 20 (pc' := 29) (L' := [some (.ref 147), some (.int (((40 : Int32) * ((1 : Int32) - (w.1 147 12))) + (w.1 147 13))), some (.int 0), some (.int 1), none, none]) (S' := []) (w' := (sI w 147 5 ((w.1 147 5) + (1 : Int32)))) rfl ?_
  refine tx_Mr_readRow_29 FU _ _ _ _ _ hs (fun e29_2_10 z10_3 z10_4 z10_5 w10 hs => ?_)
  refine tm_go 1 (pc' := 125) (L' := [some (.ref 147), some (.int (((40 : Int32) * ((1 : Int32) - (w.1 147 12))) + (w.1 147 13))), some (.int e29_2_10), z10_3, z10_4, z10_5]) (S' := [.int e29_2_10]) (w' := w10) rfl ?_
  refine tm_i (p1 := 147) (p2 := 128) rfl (fun h11 => ?_) (fun h11 => ?_)
  · replace hs := hs.1 h11
    refine tm_go 1 (pc' := 148) (L' := [some (.ref 147), some (.int (((40 : Int32) * ((1 : Int32) - (w.1 147 12))) + (w.1 147 13))), some (.int e29_2_10), z10_3, z10_4, z10_5]) (S' := [.int 0]) (w' := w10) rfl ?_
    exact tm_r rfl ⟨_, rfl, by decide, hs⟩
  · replace hs := hs.2 h11
    refine tm_go 9 (pc' := 141) (L' := [some (.ref 147), some (.int (((40 : Int32) * ((1 : Int32) - (w.1 147 12))) + (w.1 147 13))), some (.int e29_2_10), z10_3, z10_4, z10_5]) (S' := [.int 4, .int 0, .int 0, .int 0, .int 110, .int 101, .int 104, .int 119, .ref 147]) (w' := w10) rfl ?_
    refine tm_c rfl (Nat.le_of_ble_eq_true rfl) (dm_Mr_is (d := d + 401) hs) (fun v w12 hq => ?_)
    obtain ⟨r12, rfl, hz12, hs⟩ := hq
    refine tm_i (p1 := 149) (p2 := 147) rfl (fun h13 => ?_) (fun h13 => ?_)
    · replace hs := hs.1 h13
      refine tm_go 4 (pc' := 155) (L' := [some (.ref 147), some (.int (((40 : Int32) * ((1 : Int32) - (w.1 147 12))) + (w.1 147 13))), some (.int e29_2_10), z10_3, z10_4, z10_5]) (S' := [.int e29_2_10, .int (((40 : Int32) * ((1 : Int32) - (w.1 147 12))) + (w.1 147 13)), .ref 155]) (w' := w12) rfl ?_
      obtain ⟨b14, hs⟩ := hs
      refine tm_k (pc' := 156) (L' := [some (.ref 147), some (.int (((40 : Int32) * ((1 : Int32) - (w.1 147 12))) + (w.1 147 13))), some (.int e29_2_10), z10_3, z10_4, z10_5]) (S' := []) (w' := (sI w12 155 ((((40 : Int32) * ((1 : Int32) - (w.1 147 12))) + (w.1 147 13)).toInt.toNat) e29_2_10)) rfl b14 ?_
      refine tm_go 16 (pc' := 182) (L' := [some (.ref 147), some (.int (((40 : Int32) * ((1 : Int32) - (w.1 147 12))) + (w.1 147 13))), some (.int e29_2_10), z10_3, z10_4, z10_5]) (S' := [.ref 147, .int (((40 : Int32) * ((1 : Int32) - (w.1 147 12))) + (w.1 147 13)), .ref 154]) (w' := (sI (sI (sI (sI w12 155 ((((40 : Int32) * ((1 : Int32) - (w.1 147 12))) + (w.1 147 13)).toInt.toNat) e29_2_10) 147 5 ((w12.1 147 5) + (1 : Int32))) 147 6 0) 147 7 0)) rfl ?_
      refine tm_c rfl (Nat.le_of_ble_eq_true rfl) (dm_Mr_or (d := d + 0) hs) (fun v w15 hq => ?_)
      obtain ⟨r15, rfl, hs⟩ := hq
      obtain ⟨b16, hs⟩ := hs
      refine tm_k (pc' := 186) (L' := [some (.ref 147), some (.int (((40 : Int32) * ((1 : Int32) - (w.1 147 12))) + (w.1 147 13))), some (.int e29_2_10), z10_3, z10_4, z10_5]) (S' := []) (w' := (sI w15 154 ((((40 : Int32) * ((1 : Int32) - (w.1 147 12))) + (w.1 147 13)).toInt.toNat) r15)) rfl b16 ?_
      refine tm_go 3 (pc' := 191) (L' := [some (.ref 147), some (.int (((40 : Int32) * ((1 : Int32) - (w.1 147 12))) + (w.1 147 13))), some (.int e29_2_10), z10_3, z10_4, z10_5]) (S' := [.int (((40 : Int32) * ((1 : Int32) - (w.1 147 12))) + (w.1 147 13)), .ref 154]) (w' := (sI w15 154 ((((40 : Int32) * ((1 : Int32) - (w.1 147 12))) + (w.1 147 13)).toInt.toNat) r15)) rfl ?_
      obtain ⟨b17, hs⟩ := hs
      refine tm_k (pc' := 192) (L' := [some (.ref 147), some (.int (((40 : Int32) * ((1 : Int32) - (w.1 147 12))) + (w.1 147 13))), some (.int e29_2_10), z10_3, z10_4, z10_5]) (S' := [.int ((sI w15 154 ((((40 : Int32) * ((1 : Int32) - (w.1 147 12))) + (w.1 147 13)).toInt.toNat) r15).1 154 ((((40 : Int32) * ((1 : Int32) - (w.1 147 12))) + (w.1 147 13)).toInt.toNat))]) (w' := (sI w15 154 ((((40 : Int32) * ((1 : Int32) - (w.1 147 12))) + (w.1 147 13)).toInt.toNat) r15)) rfl b17 ?_
      refine tm_i (p1 := 197) (p2 := 195) rfl (fun h18 => ?_) (fun h18 => ?_)
      · replace hs := hs.1 h18
        refine tm_go 5 (pc' := 206) (L' := [some (.ref 147), some (.int (((40 : Int32) * ((1 : Int32) - (w.1 147 12))) + (w.1 147 13))), some (.int e29_2_10), z10_3, z10_4, z10_5]) (S' := [.int (w15.1 147 7), .int (((40 : Int32) * ((1 : Int32) - (w.1 147 12))) + (w.1 147 13)), .ref 159]) (w' := (sI w15 154 ((((40 : Int32) * ((1 : Int32) - (w.1 147 12))) + (w.1 147 13)).toInt.toNat) r15)) rfl ?_
        obtain ⟨b19, hs⟩ := hs
        refine tm_k (pc' := 207) (L' := [some (.ref 147), some (.int (((40 : Int32) * ((1 : Int32) - (w.1 147 12))) + (w.1 147 13))), some (.int e29_2_10), z10_3, z10_4, z10_5]) (S' := []) (w' := (sI (sI w15 154 ((((40 : Int32) * ((1 : Int32) - (w.1 147 12))) + (w.1 147 13)).toInt.toNat) r15) 159 ((((40 : Int32) * ((1 : Int32) - (w.1 147 12))) + (w.1 147 13)).toInt.toNat) (w15.1 147 7))) rfl b19 ?_
        refine tm_go 4 (pc' := 213) (L' := [some (.ref 147), some (.int (((40 : Int32) * ((1 : Int32) - (w.1 147 12))) + (w.1 147 13))), some (.int e29_2_10), z10_3, z10_4, z10_5]) (S' := [.int 0, .int (((40 : Int32) * ((1 : Int32) - (w.1 147 12))) + (w.1 147 13)), .ref 157]) (w' := (sI (sI w15 154 ((((40 : Int32) * ((1 : Int32) - (w.1 147 12))) + (w.1 147 13)).toInt.toNat) r15) 159 ((((40 : Int32) * ((1 : Int32) - (w.1 147 12))) + (w.1 147 13)).toInt.toNat) (w15.1 147 7))) rfl ?_
        obtain ⟨b20, hs⟩ := hs
        refine tm_k (pc' := 214) (L' := [some (.ref 147), some (.int (((40 : Int32) * ((1 : Int32) - (w.1 147 12))) + (w.1 147 13))), some (.int e29_2_10), z10_3, z10_4, z10_5]) (S' := []) (w' := (sI (sI (sI w15 154 ((((40 : Int32) * ((1 : Int32) - (w.1 147 12))) + (w.1 147 13)).toInt.toNat) r15) 159 ((((40 : Int32) * ((1 : Int32) - (w.1 147 12))) + (w.1 147 13)).toInt.toNat) (w15.1 147 7)) 157 ((((40 : Int32) * ((1 : Int32) - (w.1 147 12))) + (w.1 147 13)).toInt.toNat) 0)) rfl b20 ?_
        refine tm_go 9 (pc' := 226) (L' := [some (.ref 147), some (.int (((40 : Int32) * ((1 : Int32) - (w.1 147 12))) + (w.1 147 13))), some (.int e29_2_10), z10_3, z10_4, z10_5]) (S' := [.int 3, .int 0, .int 0, .int 0, .int 0, .int 114, .int 111, .int 102, .ref 147]) (w' := (sI (sI (sI w15 154 ((((40 : Int32) * ((1 : Int32) - (w.1 147 12))) + (w.1 147 13)).toInt.toNat) r15) 159 ((((40 : Int32) * ((1 : Int32) - (w.1 147 12))) + (w.1 147 13)).toInt.toNat) (w15.1 147 7)) 157 ((((40 : Int32) * ((1 : Int32) - (w.1 147 12))) + (w.1 147 13)).toInt.toNat) 0)) rfl ?_
        refine tm_c rfl (Nat.le_of_ble_eq_true rfl) (dm_Mr_is (d := d + 401) hs) (fun v w21 hq => ?_)
        obtain ⟨r21, rfl, hz21, hs⟩ := hq
        refine tm_i (p1 := 277) (p2 := 232) rfl (fun h22 => ?_) (fun h22 => ?_)
        · replace hs := hs.1 h22
          exact tx_Mr_readRow_277 hs 
        · replace hs := hs.2 h22
          refine tm_go 9 (pc' := 247) (L' := [some (.ref 147), some (.int (((40 : Int32) * ((1 : Int32) - (w.1 147 12))) + (w.1 147 13))), some (.int e29_2_10), z10_3, z10_4, z10_5]) (S' := [.int 3600, .int 0, .ref 147]) (w' := (sI w21 147 5 ((w21.1 147 5) + (1 : Int32)))) rfl ?_
          refine tm_c rfl (Nat.le_of_ble_eq_true rfl) (dm_Mr_number (d := d + 401) hs) (fun v w29 hq => ?_)
          obtain ⟨r29, rfl, hs⟩ := hq
          refine tm_go 2 (pc' := 254) (L' := [some (.ref 147), some (.int (((40 : Int32) * ((1 : Int32) - (w.1 147 12))) + (w.1 147 13))), some (.int e29_2_10), (ksl z10_3), some (.int r29), z10_5]) (S' := [.int r29]) (w' := w29) rfl ?_
          refine tm_i (p1 := 259) (p2 := 257) rfl (fun h30 => ?_) (fun h30 => ?_)
          · replace hs := hs.1 h30
            refine tm_go 4 (pc' := 266) (L' := [some (.ref 147), some (.int (((40 : Int32) * ((1 : Int32) - (w.1 147 12))) + (w.1 147 13))), some (.int e29_2_10), (ksl z10_3), some (.int r29), z10_5]) (S' := [.int r29, .int (((40 : Int32) * ((1 : Int32) - (w.1 147 12))) + (w.1 147 13)), .ref 157]) (w' := w29) rfl ?_
            obtain ⟨b31, hs⟩ := hs
            refine tm_k (pc' := 267) (L' := [some (.ref 147), some (.int (((40 : Int32) * ((1 : Int32) - (w.1 147 12))) + (w.1 147 13))), some (.int e29_2_10), (ksl z10_3), some (.int r29), z10_5]) (S' := []) (w' := (sI w29 157 ((((40 : Int32) * ((1 : Int32) - (w.1 147 12))) + (w.1 147 13)).toInt.toNat) r29)) rfl b31 ?_
            refine tm_go 6 (pc' := 277) (L' := [some (.ref 147), some (.int (((40 : Int32) * ((1 : Int32) - (w.1 147 12))) + (w.1 147 13))), some (.int e29_2_10), (ksl z10_3), some (.int r29), z10_5]) (S' := []) (w' := (sI (sI w29 157 ((((40 : Int32) * ((1 : Int32) - (w.1 147 12))) + (w.1 147 13)).toInt.toNat) r29) 147 5 ((w29.1 147 5) + (1 : Int32)))) rfl ?_
            exact tx_Mr_readRow_277 hs 
          · replace hs := hs.2 h30
            refine tm_go 1 (pc' := 258) (L' := [some (.ref 147), some (.int (((40 : Int32) * ((1 : Int32) - (w.1 147 12))) + (w.1 147 13))), some (.int e29_2_10), (ksl z10_3), some (.int r29), z10_5]) (S' := [.int 0]) (w' := w29) rfl ?_
            exact tm_r rfl ⟨_, rfl, by decide, hs⟩
      · replace hs := hs.2 h18
        refine tm_go 1 (pc' := 196) (L' := [some (.ref 147), some (.int (((40 : Int32) * ((1 : Int32) - (w.1 147 12))) + (w.1 147 13))), some (.int e29_2_10), z10_3, z10_4, z10_5]) (S' := [.int 0]) (w' := (sI w15 154 ((((40 : Int32) * ((1 : Int32) - (w.1 147 12))) + (w.1 147 13)).toInt.toNat) r15)) rfl ?_
        exact tm_r rfl ⟨_, rfl, by decide, hs⟩
    · replace hs := hs.2 h13
      refine tm_go 1 (pc' := 148) (L' := [some (.ref 147), some (.int (((40 : Int32) * ((1 : Int32) - (w.1 147 12))) + (w.1 147 13))), some (.int e29_2_10), z10_3, z10_4, z10_5]) (S' := [.int 0]) (w' := w12) rfl ?_
      exact tm_r rfl ⟨_, rfl, by decide, hs⟩
set_option maxHeartbeats 4000000 in
set_option maxRecDepth 100000 in
theorem tx_Mr_read_26 {d : Nat} {E : Int32 → MW → Prop} {Q : Int32 → MW → Prop} (n : Nat) : ∀ (x26_1 : Int32)  (z2 : Option Value) (w : MW), q_Mr_read_26  E Q n x26_1 w → (∀ (e26_1 : Int32)  (v2 : Option Value) (w : MW), E e26_1 w → Tm (d + 404) 294 84 [some (.ref 147), some (.int e26_1), v2] [] w (RI Q)) → Tm (d + 404) 294 26 [some (.ref 147), some (.int x26_1), z2] [] w (RI Q) := by
  induction n with
  | zero => intro x26_1 z2 w hs; rw [q_Mr_read_26.eq_1] at hs; exact hs.elim
  | succ n ih =>
    intro x26_1 z2 w hs hE
    rw [q_Mr_read_26.eq_2] at hs
    refine tm_go 1 (pc' := 27) (L' := [some (.ref 147), some (.int x26_1), z2]) (S' := [.int x26_1]) (w' := w) rfl ?_
    refine tm_i (p1 := 84) (p2 := 30) rfl (fun h2 => ?_) (fun h2 => ?_)
    · replace hs := hs.1 h2
      exact hE _ _ _ hs
    · replace hs := hs.2 h2
      refine tm_go 4 (pc' := 38) (L' := [some (.ref 147), some (.int x26_1), z2]) (S' := [.int (w.1 147 4), .int (w.1 147 5)]) (w' := w) rfl ?_
      refine tm_i (p1 := 84) (p2 := 41) rfl (fun h3 => ?_) (fun h3 => ?_)
      · replace hs := hs.1 h3
        exact hE _ _ _ hs
      · replace hs := hs.2 h3
        refine tm_go 9 (pc' := 53) (L' := [some (.ref 147), some (.int x26_1), z2]) (S' := [.int 3, .int 0, .int 0, .int 0, .int 0, .int 114, .int 97, .int 98, .ref 147]) (w' := w) rfl ?_
        refine tm_c rfl (Nat.le_of_ble_eq_true rfl) (dm_Mr_is (d := d + 402) hs) (fun v w4 hq => ?_)
        obtain ⟨r4, rfl, hz4, hs⟩ := hq
        refine tm_i (p1 := 79) (p2 := 59) rfl (fun h5 => ?_) (fun h5 => ?_)
        · replace hs := hs.1 h5
          refine tm_go 3 (pc' := 26) (L' := [some (.ref 147), some (.int 0), z2]) (S' := []) (w' := w4) rfl ?_
          exact ih _ _ _ hs hE
        · replace hs := hs.2 h5
          refine tm_go 3 (pc' := 65) (L' := [some (.ref 147), some (.int x26_1), z2]) (S' := [.int 40, .int (w4.1 147 13)]) (w' := w4) rfl ?_
          refine tm_i (p1 := 79) (p2 := 68) rfl (fun h6 => ?_) (fun h6 => ?_)
          · replace hs := hs.1 h6
            refine tm_go 3 (pc' := 26) (L' := [some (.ref 147), some (.int 0), z2]) (S' := []) (w' := w4) rfl ?_
            exact ih _ _ _ hs hE
          · replace hs := hs.2 h6
            refine tm_go 1 (pc' := 69) (L' := [some (.ref 147), some (.int x26_1), z2]) (S' := [.ref 147]) (w' := w4) rfl ?_
            refine tm_c rfl (Nat.le_of_ble_eq_true rfl) (dm_Mr_readRow (d := d + 0) hs) (fun v w7 hq => ?_)
            obtain ⟨r7, rfl, hz7, hs⟩ := hq
            refine tm_i (p1 := 79) (p2 := 75) rfl (fun h8 => ?_) (fun h8 => ?_)
            · replace hs := hs.1 h8
              refine tm_go 3 (pc' := 26) (L' := [some (.ref 147), some (.int 0), z2]) (S' := []) (w' := w7) rfl ?_
              exact ih _ _ _ hs hE
            · replace hs := hs.2 h8
              refine tm_go 4 (pc' := 26) (L' := [some (.ref 147), some (.int 1), z2]) (S' := []) (w' := w7) rfl ?_
              exact ih _ _ _ hs hE
set_option maxHeartbeats 4000000 in
set_option maxRecDepth 100000 in
theorem tx_Mr_read_115 {d : Nat} {E : MW → Prop} {Q : Int32 → MW → Prop} (n : Nat) : ∀ (x115_2 : Int32)  (z1 : Option Value) (w : MW), q_Mr_read_115  E Q n x115_2 w → (∀  (v1 : Option Value) (v2 : Option Value) (w : MW), E  w → Tm (d + 404) 294 150 [some (.ref 147), v1, v2] [] w (RI Q)) → Tm (d + 404) 294 115 [some (.ref 147), z1, some (.int x115_2)] [] w (RI Q) := by
  induction n with
  | zero => intro x115_2 z1 w hs; rw [q_Mr_read_115.eq_1] at hs; exact hs.elim
  | succ n ih =>
    intro x115_2 z1 w hs hE
    rw [q_Mr_read_115.eq_2] at hs
    refine tm_go 3 (pc' := 120) (L' := [some (.ref 147), z1, some (.int x115_2)]) (S' := [.int (w.1 147 20), .int x115_2]) (w' := w) rfl ?_
    refine tm_i (p1 := 150) (p2 := 123) rfl (fun h11 => ?_) (fun h11 => ?_)
    · replace hs := hs.1 h11
      exact hE _ _ _ hs
    · replace hs := hs.2 h11
      refine tm_go 4 (pc' := 129) (L' := [some (.ref 147), z1, some (.int x115_2)]) (S' := [.int 0, .int x115_2, .ref 160]) (w' := w) rfl ?_
      obtain ⟨b12, hs⟩ := hs
      refine tm_k (pc' := 130) (L' := [some (.ref 147), z1, some (.int x115_2)]) (S' := []) (w' := (sI w 160 x115_2.toInt.toNat 0)) rfl b12 ?_
      refine tm_go 4 (pc' := 136) (L' := [some (.ref 147), z1, some (.int x115_2)]) (S' := [.int 0, .int x115_2, .ref 161]) (w' := (sI w 160 x115_2.toInt.toNat 0)) rfl ?_
      obtain ⟨b13, hs⟩ := hs
      refine tm_k (pc' := 137) (L' := [some (.ref 147), z1, some (.int x115_2)]) (S' := []) (w' := (sI (sI w 160 x115_2.toInt.toNat 0) 161 x115_2.toInt.toNat (vp_nar .boolean (0 : Int32)))) rfl b13 ?_
      refine tm_go 4 (pc' := 143) (L' := [some (.ref 147), z1, some (.int x115_2)]) (S' := [.int 0, .int x115_2, .ref 162]) (w' := (sI (sI w 160 x115_2.toInt.toNat 0) 161 x115_2.toInt.toNat (vp_nar .boolean (0 : Int32)))) rfl ?_
      obtain ⟨b14, hs⟩ := hs
      refine tm_k (pc' := 144) (L' := [some (.ref 147), z1, some (.int x115_2)]) (S' := []) (w' := (sI (sI (sI w 160 x115_2.toInt.toNat 0) 161 x115_2.toInt.toNat (vp_nar .boolean (0 : Int32))) 162 x115_2.toInt.toNat 0)) rfl b14 ?_
      refine tm_go 2 (pc' := 115) (L' := [some (.ref 147), (ksl z1), some (.int (x115_2 + (1 : Int32)))]) (S' := []) (w' := (sI (sI (sI w 160 x115_2.toInt.toNat 0) 161 x115_2.toInt.toNat (vp_nar .boolean (0 : Int32))) 162 x115_2.toInt.toNat 0)) rfl ?_
      exact ih _ _ _ hs hE
set_option maxHeartbeats 4000000 in
set_option maxRecDepth 100000 in
theorem dm_Mr_read {d : Nat} {w : MW} {Q : Int32 → MW → Prop} (hs : p_Mr_read w Q) : Tc (d + 404) 294 [.ref 147] w (RI Q) := by
  unfold p_Mr_read at hs
  refine tm_go 1 (pc' := 1) (L' := [some (.ref 147), none, none]) (S' := [.ref 147]) (w' := w) rfl ?_
  refine tm_c rfl (Nat.le_of_ble_eq_true rfl) (dm_Mr_cut (d := d + 402) hs) (fun v w1 hq => ?_)
  obtain ⟨rfl, hs⟩ := hq
  refine tm_go 14 (pc' := 26) (L' := [some (.ref 147), some (.int 1), none]) (S' := []) (w' := (sI (sI (sI (sI w1 147 1 0) 147 5 0) 147 11 0) 147 13 0)) rfl ?_
  refine tx_Mr_read_26 FU _ _ _ hs (fun e26_1_9 z9_2 w9 hs => ?_)
  refine tm_go 1 (pc' := 85) (L' := [some (.ref 147), some (.int e26_1_9), z9_2]) (S' := [.int e26_1_9]) (w' := w9) rfl ?_
  refine tm_i (p1 := 95) (p2 := 88) rfl (fun h10 => ?_) (fun h10 => ?_)
  · replace hs := hs.1 h10
    refine tm_go 12 (pc' := 115) (L' := [some (.ref 147), some (.int e26_1_9), some (.int 0)]) (S' := []) (w' := (sI (sI w9 147 12 ((1 : Int32) - (w9.1 147 12))) 147 20 (w9.1 147 13))) rfl ?_
    refine tx_Mr_read_115 FU _ _ _ hs (fun  z15_1 z15_2 w15 hs => ?_)
    refine tm_go 2 (pc' := 154) (L' := [some (.ref 147), z15_1, z15_2]) (S' := [.int (w15.1 147 20)]) (w' := w15) rfl ?_
    exact tm_r rfl ⟨_, rfl, hs⟩
  · replace hs := hs.2 h10
    refine tm_go 4 (pc' := 94) (L' := [some (.ref 147), some (.int e26_1_9), z9_2]) (S' := [.int (((-1) : Int32) - (w9.1 147 5))]) (w' := w9) rfl ?_
    exact tm_r rfl ⟨_, rfl, hs⟩
set_option maxHeartbeats 4000000 in
set_option maxRecDepth 100000 in
theorem dm_Mr_unit {d : Nat} {w : MW} {a0 : Int32} {Q : Int32 → MW → Prop} (hs : p_Mr_unit w a0 Q) : Tc (d + 0) 279 [.ref 147, .int a0] w (RZ Q) := by
  unfold p_Mr_unit at hs
  refine tm_go 2 (pc' := 2) (L' := [some (.ref 147), some (.int a0)]) (S' := [.int 1, .int a0]) (w' := w) rfl ?_
  refine tm_i (p1 := 21) (p2 := 5) rfl (fun h1 => ?_) (fun h1 => ?_)
  · replace hs := hs.1 h1
    refine tm_go 1 (pc' := 22) (L' := [some (.ref 147), some (.int a0)]) (S' := [.int 0]) (w' := w) rfl ?_
    exact tm_r rfl ⟨_, rfl, by decide, hs⟩
  · replace hs := hs.2 h1
    refine tm_go 2 (pc' := 8) (L' := [some (.ref 147), some (.int a0)]) (S' := [.int 127, .int a0]) (w' := w) rfl ?_
    refine tm_i (p1 := 21) (p2 := 11) rfl (fun h2 => ?_) (fun h2 => ?_)
    · replace hs := hs.1 h2
      refine tm_go 1 (pc' := 22) (L' := [some (.ref 147), some (.int a0)]) (S' := [.int 0]) (w' := w) rfl ?_
      exact tm_r rfl ⟨_, rfl, by decide, hs⟩
    · replace hs := hs.2 h2
      refine tm_go 3 (pc' := 18) (L' := [some (.ref 147), some (.int a0)]) (S' := [.int 4020, .int (w.1 147 1)]) (w' := w) rfl ?_
      refine tm_i (p1 := 23) (p2 := 21) rfl (fun h3 => ?_) (fun h3 => ?_)
      · replace hs := hs.1 h3
        refine tm_go 6 (pc' := 33) (L' := [some (.ref 147), some (.int a0)]) (S' := [.int ((Int32.toInt8 a0).toInt32), .int (w.1 147 1), .ref 148]) (w' := w) rfl ?_
        obtain ⟨b4, hs⟩ := hs
        refine tm_k (pc' := 34) (L' := [some (.ref 147), some (.int a0)]) (S' := []) (w' := (sI w 148 ((w.1 147 1).toInt.toNat) (vp_nar .byte ((Int32.toInt8 a0).toInt32)))) rfl b4 ?_
        refine tm_go 7 (pc' := 45) (L' := [some (.ref 147), some (.int a0)]) (S' := [.int 1]) (w' := (sI (sI w 148 ((w.1 147 1).toInt.toNat) (vp_nar .byte ((Int32.toInt8 a0).toInt32))) 147 1 ((w.1 147 1) + (1 : Int32)))) rfl ?_
        exact tm_r rfl ⟨_, rfl, by decide, hs⟩
      · replace hs := hs.2 h3
        refine tm_go 1 (pc' := 22) (L' := [some (.ref 147), some (.int a0)]) (S' := [.int 0]) (w' := w) rfl ?_
        exact tm_r rfl ⟨_, rfl, by decide, hs⟩
set_option maxHeartbeats 4000000 in
set_option maxRecDepth 100000 in
theorem dm_Tx_base {d : Nat} {w : MW} {Q : Int32 → MW → Prop} (hs : p_Tx_base w Q) : Tc (d + 0) 315 [.ref 129] w (RI Q) := by
  unfold p_Tx_base at hs
  refine tm_go 6 (pc' := 10) (L' := [some (.ref 129)]) (S' := [.int ((300 : Int32) * ((1 : Int32) - (w.1 129 12)))]) (w' := w) rfl ?_
  exact tm_r rfl ⟨_, rfl, hs⟩
set_option maxHeartbeats 4000000 in
set_option maxRecDepth 100000 in
theorem tx_Tx_isSmall_57 {d : Nat} {x57_1 : Int32} {x57_2 : Int32} {x57_3 : Int32} {E : MW → Prop} {Q : Int32 → MW → Prop} (n : Nat) : ∀ (x57_4 : Int32)  (z5 : Option Value) (w : MW), q_Tx_isSmall_57 x57_1 x57_2 x57_3 E Q n x57_4 w → (∀  (v4 : Option Value) (v5 : Option Value) (w : MW), E  w → Tm (d + 1) 334 159 [some (.ref 129), some (.int x57_1), some (.int x57_2), some (.int x57_3), v4, v5] [] w (RZ Q)) → Tm (d + 1) 334 57 [some (.ref 129), some (.int x57_1), some (.int x57_2), some (.int x57_3), some (.int x57_4), z5] [] w (RZ Q) := by
  induction n with
  | zero => intro x57_4 z5 w hs; rw [q_Tx_isSmall_57.eq_1] at hs; exact hs.elim
  | succ n ih =>
    intro x57_4 z5 w hs hE
    rw [q_Tx_isSmall_57.eq_2] at hs
    refine tm_go 4 (pc' := 64) (L' := [some (.ref 129), some (.int x57_1), some (.int x57_2), some (.int x57_3), some (.int x57_4), z5]) (S' := [.ref 129, .ref 136, .int x57_4]) (w' := w) rfl ?_
    refine tm_c rfl (Nat.le_of_ble_eq_true rfl) (dm_Tx_base (d := d + 0) hs) (fun v w7 hq => ?_)
    obtain ⟨r7, rfl, hs⟩ := hq
    refine tm_go 2 (pc' := 69) (L' := [some (.ref 129), some (.int x57_1), some (.int x57_2), some (.int x57_3), some (.int x57_4), z5]) (S' := [.int (r7 + x57_2), .ref 136, .int x57_4]) (w' := w7) rfl ?_
    obtain ⟨b8, hs⟩ := hs
    refine tm_k (pc' := 70) (L' := [some (.ref 129), some (.int x57_1), some (.int x57_2), some (.int x57_3), some (.int x57_4), z5]) (S' := [.int (w7.1 136 ((r7 + x57_2).toInt.toNat)), .int x57_4]) (w' := w7) rfl b8 ?_
    refine tm_i (p1 := 159) (p2 := 73) rfl (fun h9 => ?_) (fun h9 => ?_)
    · replace hs := hs.1 h9
      exact hE _ _ _ hs
    · replace hs := hs.2 h9
      refine tm_go 3 (pc' := 78) (L' := [some (.ref 129), some (.int x57_1), some (.int x57_2), some (.int x57_3), some (.int x57_4), z5]) (S' := [.ref 129, .ref 137]) (w' := w7) rfl ?_
      refine tm_c rfl (Nat.le_of_ble_eq_true rfl) (dm_Tx_base (d := d + 0) hs) (fun v w10 hq => ?_)
      obtain ⟨r10, rfl, hs⟩ := hq
      refine tm_go 3 (pc' := 86) (L' := [some (.ref 129), some (.int x57_1), some (.int x57_2), some (.int x57_3), some (.int x57_4), z5]) (S' := [.ref 129, .ref 135, .int r10, .ref 137]) (w' := w10) rfl ?_
      refine tm_c rfl (Nat.le_of_ble_eq_true rfl) (dm_Tx_base (d := d + 0) hs) (fun v w11 hq => ?_)
      obtain ⟨r11, rfl, hs⟩ := hq
      refine tm_go 2 (pc' := 91) (L' := [some (.ref 129), some (.int x57_1), some (.int x57_2), some (.int x57_3), some (.int x57_4), z5]) (S' := [.int (r11 + x57_2), .ref 135, .int r10, .ref 137]) (w' := w11) rfl ?_
      obtain ⟨b12, hs⟩ := hs
      refine tm_k (pc' := 92) (L' := [some (.ref 129), some (.int x57_1), some (.int x57_2), some (.int x57_3), some (.int x57_4), z5]) (S' := [.int (w11.1 135 ((r11 + x57_2).toInt.toNat)), .int r10, .ref 137]) (w' := w11) rfl b12 ?_
      refine tm_go 3 (pc' := 96) (L' := [some (.ref 129), some (.int x57_1), some (.int x57_2), some (.int x57_3), some (.int x57_4), z5]) (S' := [.int ((r10 + (w11.1 135 ((r11 + x57_2).toInt.toNat))) + x57_4), .ref 137]) (w' := w11) rfl ?_
      obtain ⟨b13, hs⟩ := hs
      refine tm_k (pc' := 97) (L' := [some (.ref 129), some (.int x57_1), some (.int x57_2), some (.int x57_3), some (.int x57_4), z5]) (S' := [.int (w11.1 137 (((r10 + (w11.1 135 ((r11 + x57_2).toInt.toNat))) + x57_4).toInt.toNat))]) (w' := w11) rfl b13 ?_
      refine tm_go 5 (pc' := 105) (L' := [some (.ref 129), some (.int x57_1), some (.int x57_2), some (.int x57_3), some (.int x57_4), some (.int (w11.1 137 (((r10 + (w11.1 135 ((r11 + x57_2).toInt.toNat))) + x57_4).toInt.toNat)))]) (S' := [.int x57_2, .ref 145, .int x57_2, .ref 145]) (w' := w11) rfl ?_
      obtain ⟨b14, hs⟩ := hs
      refine tm_k (pc' := 106) (L' := [some (.ref 129), some (.int x57_1), some (.int x57_2), some (.int x57_3), some (.int x57_4), some (.int (w11.1 137 (((r10 + (w11.1 135 ((r11 + x57_2).toInt.toNat))) + x57_4).toInt.toNat)))]) (S' := [.int (w11.1 145 x57_2.toInt.toNat), .int x57_2, .ref 145]) (w' := w11) rfl b14 ?_
      refine tm_go 3 (pc' := 112) (L' := [some (.ref 129), some (.int x57_1), some (.int x57_2), some (.int x57_3), some (.int x57_4), some (.int (w11.1 137 (((r10 + (w11.1 135 ((r11 + x57_2).toInt.toNat))) + x57_4).toInt.toNat)))]) (S' := [.int (w11.1 137 (((r10 + (w11.1 135 ((r11 + x57_2).toInt.toNat))) + x57_4).toInt.toNat)), .ref 145, .int (w11.1 145 x57_2.toInt.toNat), .int x57_2, .ref 145]) (w' := w11) rfl ?_
      obtain ⟨b15, hs⟩ := hs
      refine tm_k (pc' := 113) (L' := [some (.ref 129), some (.int x57_1), some (.int x57_2), some (.int x57_3), some (.int x57_4), some (.int (w11.1 137 (((r10 + (w11.1 135 ((r11 + x57_2).toInt.toNat))) + x57_4).toInt.toNat)))]) (S' := [.int (w11.1 145 ((w11.1 137 (((r10 + (w11.1 135 ((r11 + x57_2).toInt.toNat))) + x57_4).toInt.toNat)).toInt.toNat)), .int (w11.1 145 x57_2.toInt.toNat), .int x57_2, .ref 145]) (w' := w11) rfl b15 ?_
      refine tm_go 1 (pc' := 114) (L' := [some (.ref 129), some (.int x57_1), some (.int x57_2), some (.int x57_3), some (.int x57_4), some (.int (w11.1 137 (((r10 + (w11.1 135 ((r11 + x57_2).toInt.toNat))) + x57_4).toInt.toNat)))]) (S' := [.int ((w11.1 145 x57_2.toInt.toNat) + (w11.1 145 ((w11.1 137 (((r10 + (w11.1 135 ((r11 + x57_2).toInt.toNat))) + x57_4).toInt.toNat)).toInt.toNat))), .int x57_2, .ref 145]) (w' := w11) rfl ?_
      obtain ⟨b16, hs⟩ := hs
      refine tm_k (pc' := 115) (L' := [some (.ref 129), some (.int x57_1), some (.int x57_2), some (.int x57_3), some (.int x57_4), some (.int (w11.1 137 (((r10 + (w11.1 135 ((r11 + x57_2).toInt.toNat))) + x57_4).toInt.toNat)))]) (S' := []) (w' := (sI w11 145 x57_2.toInt.toNat ((w11.1 145 x57_2.toInt.toNat) + (w11.1 145 ((w11.1 137 (((r10 + (w11.1 135 ((r11 + x57_2).toInt.toNat))) + x57_4).toInt.toNat)).toInt.toNat))))) rfl b16 ?_
      refine tm_go 6 (pc' := 126) (L' := [some (.ref 129), some (.int x57_1), some (.int x57_2), some (.int x57_3), some (.int x57_4), some (.int (w11.1 137 (((r10 + (w11.1 135 ((r11 + x57_2).toInt.toNat))) + x57_4).toInt.toNat)))]) (S' := [.int (w11.1 137 (((r10 + (w11.1 135 ((r11 + x57_2).toInt.toNat))) + x57_4).toInt.toNat)), .ref 146, .int x57_2, .ref 146]) (w' := (sI w11 145 x57_2.toInt.toNat ((w11.1 145 x57_2.toInt.toNat) + (w11.1 145 ((w11.1 137 (((r10 + (w11.1 135 ((r11 + x57_2).toInt.toNat))) + x57_4).toInt.toNat)).toInt.toNat))))) rfl ?_
      obtain ⟨b17, hs⟩ := hs
      refine tm_k (pc' := 127) (L' := [some (.ref 129), some (.int x57_1), some (.int x57_2), some (.int x57_3), some (.int x57_4), some (.int (w11.1 137 (((r10 + (w11.1 135 ((r11 + x57_2).toInt.toNat))) + x57_4).toInt.toNat)))]) (S' := [.int (w11.1 146 ((w11.1 137 (((r10 + (w11.1 135 ((r11 + x57_2).toInt.toNat))) + x57_4).toInt.toNat)).toInt.toNat)), .int x57_2, .ref 146]) (w' := (sI w11 145 x57_2.toInt.toNat ((w11.1 145 x57_2.toInt.toNat) + (w11.1 145 ((w11.1 137 (((r10 + (w11.1 135 ((r11 + x57_2).toInt.toNat))) + x57_4).toInt.toNat)).toInt.toNat))))) rfl b17 ?_
      refine tm_go 3 (pc' := 132) (L' := [some (.ref 129), some (.int x57_1), some (.int x57_2), some (.int x57_3), some (.int x57_4), some (.int (w11.1 137 (((r10 + (w11.1 135 ((r11 + x57_2).toInt.toNat))) + x57_4).toInt.toNat)))]) (S' := [.int x57_2, .ref 146, .int (w11.1 146 ((w11.1 137 (((r10 + (w11.1 135 ((r11 + x57_2).toInt.toNat))) + x57_4).toInt.toNat)).toInt.toNat)), .int x57_2, .ref 146]) (w' := (sI w11 145 x57_2.toInt.toNat ((w11.1 145 x57_2.toInt.toNat) + (w11.1 145 ((w11.1 137 (((r10 + (w11.1 135 ((r11 + x57_2).toInt.toNat))) + x57_4).toInt.toNat)).toInt.toNat))))) rfl ?_
      obtain ⟨b18, hs⟩ := hs
      refine tm_k (pc' := 133) (L' := [some (.ref 129), some (.int x57_1), some (.int x57_2), some (.int x57_3), some (.int x57_4), some (.int (w11.1 137 (((r10 + (w11.1 135 ((r11 + x57_2).toInt.toNat))) + x57_4).toInt.toNat)))]) (S' := [.int (w11.1 146 x57_2.toInt.toNat), .int (w11.1 146 ((w11.1 137 (((r10 + (w11.1 135 ((r11 + x57_2).toInt.toNat))) + x57_4).toInt.toNat)).toInt.toNat)), .int x57_2, .ref 146]) (w' := (sI w11 145 x57_2.toInt.toNat ((w11.1 145 x57_2.toInt.toNat) + (w11.1 145 ((w11.1 137 (((r10 + (w11.1 135 ((r11 + x57_2).toInt.toNat))) + x57_4).toInt.toNat)).toInt.toNat))))) rfl b18 ?_
      refine tm_i (p1 := 146) (p2 := 136) rfl (fun h19 => ?_) (fun h19 => ?_)
      · replace hs := hs.1 h19
        refine tm_go 3 (pc' := 151) (L' := [some (.ref 129), some (.int x57_1), some (.int x57_2), some (.int x57_3), some (.int x57_4), some (.int (w11.1 137 (((r10 + (w11.1 135 ((r11 + x57_2).toInt.toNat))) + x57_4).toInt.toNat)))]) (S' := [.int x57_2, .ref 146, .int x57_2, .ref 146]) (w' := (sI w11 145 x57_2.toInt.toNat ((w11.1 145 x57_2.toInt.toNat) + (w11.1 145 ((w11.1 137 (((r10 + (w11.1 135 ((r11 + x57_2).toInt.toNat))) + x57_4).toInt.toNat)).toInt.toNat))))) rfl ?_
        obtain ⟨b20, hs⟩ := hs
        refine tm_k (pc' := 152) (L' := [some (.ref 129), some (.int x57_1), some (.int x57_2), some (.int x57_3), some (.int x57_4), some (.int (w11.1 137 (((r10 + (w11.1 135 ((r11 + x57_2).toInt.toNat))) + x57_4).toInt.toNat)))]) (S' := [.int (w11.1 146 x57_2.toInt.toNat), .int x57_2, .ref 146]) (w' := (sI w11 145 x57_2.toInt.toNat ((w11.1 145 x57_2.toInt.toNat) + (w11.1 145 ((w11.1 137 (((r10 + (w11.1 135 ((r11 + x57_2).toInt.toNat))) + x57_4).toInt.toNat)).toInt.toNat))))) rfl b20 ?_
        obtain ⟨b21, hs⟩ := hs
        refine tm_k (pc' := 153) (L' := [some (.ref 129), some (.int x57_1), some (.int x57_2), some (.int x57_3), some (.int x57_4), some (.int (w11.1 137 (((r10 + (w11.1 135 ((r11 + x57_2).toInt.toNat))) + x57_4).toInt.toNat)))]) (S' := []) (w' := (sI (sI w11 145 x57_2.toInt.toNat ((w11.1 145 x57_2.toInt.toNat) + (w11.1 145 ((w11.1 137 (((r10 + (w11.1 135 ((r11 + x57_2).toInt.toNat))) + x57_4).toInt.toNat)).toInt.toNat)))) 146 x57_2.toInt.toNat (w11.1 146 x57_2.toInt.toNat))) rfl b21 ?_
        refine tm_go 2 (pc' := 57) (L' := [some (.ref 129), some (.int x57_1), some (.int x57_2), some (.int x57_3), some (.int (x57_4 + (1 : Int32))), some (.int (w11.1 137 (((r10 + (w11.1 135 ((r11 + x57_2).toInt.toNat))) + x57_4).toInt.toNat)))]) (S' := []) (w' := (sI (sI w11 145 x57_2.toInt.toNat ((w11.1 145 x57_2.toInt.toNat) + (w11.1 145 ((w11.1 137 (((r10 + (w11.1 135 ((r11 + x57_2).toInt.toNat))) + x57_4).toInt.toNat)).toInt.toNat)))) 146 x57_2.toInt.toNat (w11.1 146 x57_2.toInt.toNat))) rfl ?_
        exact ih _ _ _ hs hE
      · replace hs := hs.2 h19
        refine tm_go 3 (pc' := 142) (L' := [some (.ref 129), some (.int x57_1), some (.int x57_2), some (.int x57_3), some (.int x57_4), some (.int (w11.1 137 (((r10 + (w11.1 135 ((r11 + x57_2).toInt.toNat))) + x57_4).toInt.toNat)))]) (S' := [.int (w11.1 137 (((r10 + (w11.1 135 ((r11 + x57_2).toInt.toNat))) + x57_4).toInt.toNat)), .ref 146, .int x57_2, .ref 146]) (w' := (sI w11 145 x57_2.toInt.toNat ((w11.1 145 x57_2.toInt.toNat) + (w11.1 145 ((w11.1 137 (((r10 + (w11.1 135 ((r11 + x57_2).toInt.toNat))) + x57_4).toInt.toNat)).toInt.toNat))))) rfl ?_
        obtain ⟨b22, hs⟩ := hs
        refine tm_k (pc' := 143) (L' := [some (.ref 129), some (.int x57_1), some (.int x57_2), some (.int x57_3), some (.int x57_4), some (.int (w11.1 137 (((r10 + (w11.1 135 ((r11 + x57_2).toInt.toNat))) + x57_4).toInt.toNat)))]) (S' := [.int (w11.1 146 ((w11.1 137 (((r10 + (w11.1 135 ((r11 + x57_2).toInt.toNat))) + x57_4).toInt.toNat)).toInt.toNat)), .int x57_2, .ref 146]) (w' := (sI w11 145 x57_2.toInt.toNat ((w11.1 145 x57_2.toInt.toNat) + (w11.1 145 ((w11.1 137 (((r10 + (w11.1 135 ((r11 + x57_2).toInt.toNat))) + x57_4).toInt.toNat)).toInt.toNat))))) rfl b22 ?_
        refine tm_go 1 (pc' := 152) (L' := [some (.ref 129), some (.int x57_1), some (.int x57_2), some (.int x57_3), some (.int x57_4), some (.int (w11.1 137 (((r10 + (w11.1 135 ((r11 + x57_2).toInt.toNat))) + x57_4).toInt.toNat)))]) (S' := [.int (w11.1 146 ((w11.1 137 (((r10 + (w11.1 135 ((r11 + x57_2).toInt.toNat))) + x57_4).toInt.toNat)).toInt.toNat)), .int x57_2, .ref 146]) (w' := (sI w11 145 x57_2.toInt.toNat ((w11.1 145 x57_2.toInt.toNat) + (w11.1 145 ((w11.1 137 (((r10 + (w11.1 135 ((r11 + x57_2).toInt.toNat))) + x57_4).toInt.toNat)).toInt.toNat))))) rfl ?_
        obtain ⟨b23, hs⟩ := hs
        refine tm_k (pc' := 153) (L' := [some (.ref 129), some (.int x57_1), some (.int x57_2), some (.int x57_3), some (.int x57_4), some (.int (w11.1 137 (((r10 + (w11.1 135 ((r11 + x57_2).toInt.toNat))) + x57_4).toInt.toNat)))]) (S' := []) (w' := (sI (sI w11 145 x57_2.toInt.toNat ((w11.1 145 x57_2.toInt.toNat) + (w11.1 145 ((w11.1 137 (((r10 + (w11.1 135 ((r11 + x57_2).toInt.toNat))) + x57_4).toInt.toNat)).toInt.toNat)))) 146 x57_2.toInt.toNat (w11.1 146 ((w11.1 137 (((r10 + (w11.1 135 ((r11 + x57_2).toInt.toNat))) + x57_4).toInt.toNat)).toInt.toNat)))) rfl b23 ?_
        refine tm_go 2 (pc' := 57) (L' := [some (.ref 129), some (.int x57_1), some (.int x57_2), some (.int x57_3), some (.int (x57_4 + (1 : Int32))), some (.int (w11.1 137 (((r10 + (w11.1 135 ((r11 + x57_2).toInt.toNat))) + x57_4).toInt.toNat)))]) (S' := []) (w' := (sI (sI w11 145 x57_2.toInt.toNat ((w11.1 145 x57_2.toInt.toNat) + (w11.1 145 ((w11.1 137 (((r10 + (w11.1 135 ((r11 + x57_2).toInt.toNat))) + x57_4).toInt.toNat)).toInt.toNat)))) 146 x57_2.toInt.toNat (w11.1 146 ((w11.1 137 (((r10 + (w11.1 135 ((r11 + x57_2).toInt.toNat))) + x57_4).toInt.toNat)).toInt.toNat)))) rfl ?_
        exact ih _ _ _ hs hE
set_option maxHeartbeats 4000000 in
set_option maxRecDepth 100000 in
theorem tx_Tx_isSmall_281 {d : Nat} {x4_1 : Int32} {y281_2 : Int32} {ys281_0 : Int32} {ys281_1 : Int32} {ys281_2 : Int32} {z3 : Option Value} {z4 : Option Value} {z5 : Option Value} {w : MW} {A : Int32 → MW → Prop} {E : MW → Prop} {Q : Int32 → MW → Prop} (hs : q_Tx_isSmall_281 x4_1 y281_2 ys281_0 ys281_1 ys281_2 w A E Q) (hA : ∀ (x4_2 : Int32)  (z3 : Option Value) (z4 : Option Value) (z5 : Option Value) (w : MW), A x4_2 w → Tm (d + 1) 334 4 [some (.ref 129), some (.int x4_1), some (.int x4_2), z3, z4, z5] [] w (RZ Q)) (hE : ∀  (v2 : Option Value) (v3 : Option Value) (v4 : Option Value) (v5 : Option Value) (w : MW), E  w → Tm (d + 1) 334 319 [some (.ref 129), some (.int x4_1), v2, v3, v4, v5] [] w (RZ Q)) : Tm (d + 1) 334 281 [some (.ref 129), some (.int x4_1), some (.int y281_2), z3, z4, z5] [.int ys281_0, .int ys281_1, .int ys281_2, .ref 146] w (RZ Q) := by
  unfold q_Tx_isSmall_281 at hs
  refine tm_go 1 (pc' := 282) (L' := [some (.ref 129), some (.int x4_1), some (.int y281_2), z3, z4, z5]) (S' := [.int (ys281_1 + ys281_0), .int ys281_2, .ref 146]) (w' := w) rfl ?_
  obtain ⟨b28, hs⟩ := hs
  refine tm_k (pc' := 283) (L' := [some (.ref 129), some (.int x4_1), some (.int y281_2), z3, z4, z5]) (S' := []) (w' := (sI w 146 ys281_2.toInt.toNat (ys281_1 + ys281_0))) rfl b28 ?_
  refine tm_go 6 (pc' := 293) (L' := [some (.ref 129), some (.int x4_1), some (.int y281_2), z3, z4, z5]) (S' := [.int y281_2, .ref 145, .int y281_2, .ref 145]) (w' := (sI w 146 ys281_2.toInt.toNat (ys281_1 + ys281_0))) rfl ?_
  obtain ⟨b29, hs⟩ := hs
  refine tm_k (pc' := 294) (L' := [some (.ref 129), some (.int x4_1), some (.int y281_2), z3, z4, z5]) (S' := [.int (w.1 145 y281_2.toInt.toNat), .int y281_2, .ref 145]) (w' := (sI w 146 ys281_2.toInt.toNat (ys281_1 + ys281_0))) rfl b29 ?_
  refine tm_go 1 (pc' := 297) (L' := [some (.ref 129), some (.int x4_1), some (.int y281_2), z3, z4, z5]) (S' := [.int 500, .int (w.1 145 y281_2.toInt.toNat), .int y281_2, .ref 145]) (w' := (sI w 146 ys281_2.toInt.toNat (ys281_1 + ys281_0))) rfl ?_
  refine tm_i (p1 := 306) (p2 := 300) rfl (fun h30 => ?_) (fun h30 => ?_)
  · replace hs := hs.1 h30
    refine tm_go 3 (pc' := 311) (L' := [some (.ref 129), some (.int x4_1), some (.int y281_2), z3, z4, z5]) (S' := [.int y281_2, .ref 145, .int y281_2, .ref 145]) (w' := (sI w 146 ys281_2.toInt.toNat (ys281_1 + ys281_0))) rfl ?_
    obtain ⟨b31, hs⟩ := hs
    refine tm_k (pc' := 312) (L' := [some (.ref 129), some (.int x4_1), some (.int y281_2), z3, z4, z5]) (S' := [.int (w.1 145 y281_2.toInt.toNat), .int y281_2, .ref 145]) (w' := (sI w 146 ys281_2.toInt.toNat (ys281_1 + ys281_0))) rfl b31 ?_
    obtain ⟨b32, hs⟩ := hs
    refine tm_k (pc' := 313) (L' := [some (.ref 129), some (.int x4_1), some (.int y281_2), z3, z4, z5]) (S' := []) (w' := (sI (sI w 146 ys281_2.toInt.toNat (ys281_1 + ys281_0)) 145 y281_2.toInt.toNat (w.1 145 y281_2.toInt.toNat))) rfl b32 ?_
    refine tm_go 2 (pc' := 4) (L' := [some (.ref 129), some (.int x4_1), some (.int (y281_2 + (1 : Int32))), z3, z4, z5]) (S' := []) (w' := (sI (sI w 146 ys281_2.toInt.toNat (ys281_1 + ys281_0)) 145 y281_2.toInt.toNat (w.1 145 y281_2.toInt.toNat))) rfl ?_
    exact hA _ _ _ _ _ hs
  · replace hs := hs.2 h30
    refine tm_go 2 (pc' := 312) (L' := [some (.ref 129), some (.int x4_1), some (.int y281_2), z3, z4, z5]) (S' := [.int 501, .int y281_2, .ref 145]) (w' := (sI w 146 ys281_2.toInt.toNat (ys281_1 + ys281_0))) rfl ?_
    obtain ⟨b33, hs⟩ := hs
    refine tm_k (pc' := 313) (L' := [some (.ref 129), some (.int x4_1), some (.int y281_2), z3, z4, z5]) (S' := []) (w' := (sI (sI w 146 ys281_2.toInt.toNat (ys281_1 + ys281_0)) 145 y281_2.toInt.toNat 501)) rfl b33 ?_
    refine tm_go 2 (pc' := 4) (L' := [some (.ref 129), some (.int x4_1), some (.int (y281_2 + (1 : Int32))), z3, z4, z5]) (S' := []) (w' := (sI (sI w 146 ys281_2.toInt.toNat (ys281_1 + ys281_0)) 145 y281_2.toInt.toNat 501)) rfl ?_
    exact hA _ _ _ _ _ hs
set_option maxHeartbeats 4000000 in
set_option maxRecDepth 100000 in
theorem tx_Tx_isSmall_46 {d : Nat} {x4_1 : Int32} {y46_2 : Int32} {y46_3 : Int32} {ys46_0 : Int32} {ys46_1 : Int32} {z4 : Option Value} {z5 : Option Value} {w : MW} {A : Int32 → MW → Prop} {E : MW → Prop} {Q : Int32 → MW → Prop} (hs : q_Tx_isSmall_46 x4_1 y46_2 y46_3 ys46_0 ys46_1 w A E Q) (hA : ∀ (x4_2 : Int32)  (z3 : Option Value) (z4 : Option Value) (z5 : Option Value) (w : MW), A x4_2 w → Tm (d + 1) 334 4 [some (.ref 129), some (.int x4_1), some (.int x4_2), z3, z4, z5] [] w (RZ Q)) (hE : ∀  (v2 : Option Value) (v3 : Option Value) (v4 : Option Value) (v5 : Option Value) (w : MW), E  w → Tm (d + 1) 334 319 [some (.ref 129), some (.int x4_1), v2, v3, v4, v5] [] w (RZ Q)) : Tm (d + 1) 334 46 [some (.ref 129), some (.int x4_1), some (.int y46_2), some (.int y46_3), z4, z5] [.int ys46_0, .int ys46_1, .ref 145] w (RZ Q) := by
  unfold q_Tx_isSmall_46 at hs
  obtain ⟨b5, hs⟩ := hs
  refine tm_k (pc' := 47) (L' := [some (.ref 129), some (.int x4_1), some (.int y46_2), some (.int y46_3), z4, z5]) (S' := []) (w' := (sI w 145 ys46_1.toInt.toNat ys46_0)) rfl b5 ?_
  refine tm_go 4 (pc' := 53) (L' := [some (.ref 129), some (.int x4_1), some (.int y46_2), some (.int y46_3), z4, z5]) (S' := [.int 0, .int y46_2, .ref 146]) (w' := (sI w 145 ys46_1.toInt.toNat ys46_0)) rfl ?_
  obtain ⟨b6, hs⟩ := hs
  refine tm_k (pc' := 54) (L' := [some (.ref 129), some (.int x4_1), some (.int y46_2), some (.int y46_3), z4, z5]) (S' := []) (w' := (sI (sI w 145 ys46_1.toInt.toNat ys46_0) 146 y46_2.toInt.toNat 0)) rfl b6 ?_
  refine tm_go 2 (pc' := 57) (L' := [some (.ref 129), some (.int x4_1), some (.int y46_2), some (.int y46_3), some (.int 0), z5]) (S' := []) (w' := (sI (sI w 145 ys46_1.toInt.toNat ys46_0) 146 y46_2.toInt.toNat 0)) rfl ?_
  refine tx_Tx_isSmall_57 FU _ _ _ hs (fun  z24_4 z24_5 w24 hs => ?_)
  refine tm_go 2 (pc' := 162) (L' := [some (.ref 129), some (.int x4_1), some (.int y46_2), some (.int y46_3), z24_4, z24_5]) (S' := [.int 19, .int y46_3]) (w' := w24) rfl ?_
  refine tm_i (p1 := 263) (p2 := 165) rfl (fun h25 => ?_) (fun h25 => ?_)
  · replace hs := hs.1 h25
    refine tm_go 4 (pc' := 269) (L' := [some (.ref 129), some (.int x4_1), some (.int y46_2), some (.int y46_3), z24_4, z24_5]) (S' := [.int y46_2, .ref 146, .int y46_2, .ref 146]) (w' := w24) rfl ?_
    obtain ⟨b26, hs⟩ := hs
    refine tm_k (pc' := 270) (L' := [some (.ref 129), some (.int x4_1), some (.int y46_2), some (.int y46_3), z24_4, z24_5]) (S' := [.int (w24.1 146 y46_2.toInt.toNat), .int y46_2, .ref 146]) (w' := w24) rfl b26 ?_
    refine tm_go 2 (pc' := 273) (L' := [some (.ref 129), some (.int x4_1), some (.int y46_2), some (.int y46_3), z24_4, z24_5]) (S' := [.int 23, .int y46_3, .int (w24.1 146 y46_2.toInt.toNat), .int y46_2, .ref 146]) (w' := w24) rfl ?_
    refine tm_i (p1 := 280) (p2 := 276) rfl (fun h27 => ?_) (fun h27 => ?_)
    · replace hs := hs.1 h27
      refine tm_go 1 (pc' := 281) (L' := [some (.ref 129), some (.int x4_1), some (.int y46_2), some (.int y46_3), z24_4, z24_5]) (S' := [.int 0, .int (w24.1 146 y46_2.toInt.toNat), .int y46_2, .ref 146]) (w' := w24) rfl ?_
      exact tx_Tx_isSmall_281 hs hA hE
    · replace hs := hs.2 h27
      refine tm_go 2 (pc' := 281) (L' := [some (.ref 129), some (.int x4_1), some (.int y46_2), some (.int y46_3), z24_4, z24_5]) (S' := [.int 1, .int (w24.1 146 y46_2.toInt.toNat), .int y46_2, .ref 146]) (w' := w24) rfl ?_
      exact tx_Tx_isSmall_281 hs hA hE
  · replace hs := hs.2 h25
    refine tm_go 11 (pc' := 183) (L' := [some (.ref 129), some (.int x4_1), some (.int y46_2), some (.int y46_3), z24_4, z24_5]) (S' := [.ref 129, .ref 132, .int ((40 : Int32) * ((1 : Int32) - (w24.1 129 12))), .ref 143]) (w' := w24) rfl ?_
    refine tm_c rfl (Nat.le_of_ble_eq_true rfl) (dm_Tx_base (d := d + 0) hs) (fun v w34 hq => ?_)
    obtain ⟨r34, rfl, hs⟩ := hq
    refine tm_go 2 (pc' := 188) (L' := [some (.ref 129), some (.int x4_1), some (.int y46_2), some (.int y46_3), z24_4, z24_5]) (S' := [.int (r34 + y46_2), .ref 132, .int ((40 : Int32) * ((1 : Int32) - (w24.1 129 12))), .ref 143]) (w' := w34) rfl ?_
    obtain ⟨b35, hs⟩ := hs
    refine tm_k (pc' := 189) (L' := [some (.ref 129), some (.int x4_1), some (.int y46_2), some (.int y46_3), z24_4, z24_5]) (S' := [.long (w34.2.1 132 ((r34 + y46_2).toInt.toNat)), .int ((40 : Int32) * ((1 : Int32) - (w24.1 129 12))), .ref 143]) (w' := w34) rfl b35 ?_
    refine tm_go 2 (pc' := 191) (L' := [some (.ref 129), some (.int x4_1), some (.int y46_2), some (.int y46_3), z24_4, z24_5]) (S' := [.int (((40 : Int32) * ((1 : Int32) - (w24.1 129 12))) + (Int64.toInt32 (w34.2.1 132 ((r34 + y46_2).toInt.toNat)))), .ref 143]) (w' := w34) rfl ?_
    obtain ⟨b36, hs⟩ := hs
    refine tm_k (pc' := 192) (L' := [some (.ref 129), some (.int x4_1), some (.int y46_2), some (.int y46_3), z24_4, z24_5]) (S' := [.int (w34.1 143 ((((40 : Int32) * ((1 : Int32) - (w24.1 129 12))) + (Int64.toInt32 (w34.2.1 132 ((r34 + y46_2).toInt.toNat)))).toInt.toNat))]) (w' := w34) rfl b36 ?_
    refine tm_go 5 (pc' := 200) (L' := [some (.ref 129), some (.int x4_1), some (.int y46_2), some (.int y46_3), some (.int (w34.1 143 ((((40 : Int32) * ((1 : Int32) - (w24.1 129 12))) + (Int64.toInt32 (w34.2.1 132 ((r34 + y46_2).toInt.toNat)))).toInt.toNat))), z24_5]) (S' := [.int y46_2, .ref 145, .int y46_2, .ref 145]) (w' := w34) rfl ?_
    obtain ⟨b37, hs⟩ := hs
    refine tm_k (pc' := 201) (L' := [some (.ref 129), some (.int x4_1), some (.int y46_2), some (.int y46_3), some (.int (w34.1 143 ((((40 : Int32) * ((1 : Int32) - (w24.1 129 12))) + (Int64.toInt32 (w34.2.1 132 ((r34 + y46_2).toInt.toNat)))).toInt.toNat))), z24_5]) (S' := [.int (w34.1 145 y46_2.toInt.toNat), .int y46_2, .ref 145]) (w' := w34) rfl b37 ?_
    refine tm_go 5 (pc' := 210) (L' := [some (.ref 129), some (.int x4_1), some (.int y46_2), some (.int y46_3), some (.int (w34.1 143 ((((40 : Int32) * ((1 : Int32) - (w24.1 129 12))) + (Int64.toInt32 (w34.2.1 132 ((r34 + y46_2).toInt.toNat)))).toInt.toNat))), z24_5]) (S' := [.ref 129, .ref 137, .ref 145, .int (w34.1 145 y46_2.toInt.toNat), .int y46_2, .ref 145]) (w' := w34) rfl ?_
    refine tm_c rfl (Nat.le_of_ble_eq_true rfl) (dm_Tx_base (d := d + 0) hs) (fun v w38 hq => ?_)
    obtain ⟨r38, rfl, hs⟩ := hq
    refine tm_go 3 (pc' := 218) (L' := [some (.ref 129), some (.int x4_1), some (.int y46_2), some (.int y46_3), some (.int (w34.1 143 ((((40 : Int32) * ((1 : Int32) - (w24.1 129 12))) + (Int64.toInt32 (w34.2.1 132 ((r34 + y46_2).toInt.toNat)))).toInt.toNat))), z24_5]) (S' := [.ref 129, .ref 135, .int r38, .ref 137, .ref 145, .int (w34.1 145 y46_2.toInt.toNat), .int y46_2, .ref 145]) (w' := w38) rfl ?_
    refine tm_c rfl (Nat.le_of_ble_eq_true rfl) (dm_Tx_base (d := d + 0) hs) (fun v w39 hq => ?_)
    obtain ⟨r39, rfl, hs⟩ := hq
    refine tm_go 2 (pc' := 224) (L' := [some (.ref 129), some (.int x4_1), some (.int y46_2), some (.int y46_3), some (.int (w34.1 143 ((((40 : Int32) * ((1 : Int32) - (w24.1 129 12))) + (Int64.toInt32 (w34.2.1 132 ((r34 + y46_2).toInt.toNat)))).toInt.toNat))), z24_5]) (S' := [.int (r39 + (w34.1 143 ((((40 : Int32) * ((1 : Int32) - (w24.1 129 12))) + (Int64.toInt32 (w34.2.1 132 ((r34 + y46_2).toInt.toNat)))).toInt.toNat))), .ref 135, .int r38, .ref 137, .ref 145, .int (w34.1 145 y46_2.toInt.toNat), .int y46_2, .ref 145]) (w' := w39) rfl ?_
    obtain ⟨b40, hs⟩ := hs
    refine tm_k (pc' := 225) (L' := [some (.ref 129), some (.int x4_1), some (.int y46_2), some (.int y46_3), some (.int (w34.1 143 ((((40 : Int32) * ((1 : Int32) - (w24.1 129 12))) + (Int64.toInt32 (w34.2.1 132 ((r34 + y46_2).toInt.toNat)))).toInt.toNat))), z24_5]) (S' := [.int (w39.1 135 ((r39 + (w34.1 143 ((((40 : Int32) * ((1 : Int32) - (w24.1 129 12))) + (Int64.toInt32 (w34.2.1 132 ((r34 + y46_2).toInt.toNat)))).toInt.toNat))).toInt.toNat)), .int r38, .ref 137, .ref 145, .int (w34.1 145 y46_2.toInt.toNat), .int y46_2, .ref 145]) (w' := w39) rfl b40 ?_
    refine tm_go 1 (pc' := 226) (L' := [some (.ref 129), some (.int x4_1), some (.int y46_2), some (.int y46_3), some (.int (w34.1 143 ((((40 : Int32) * ((1 : Int32) - (w24.1 129 12))) + (Int64.toInt32 (w34.2.1 132 ((r34 + y46_2).toInt.toNat)))).toInt.toNat))), z24_5]) (S' := [.int (r38 + (w39.1 135 ((r39 + (w34.1 143 ((((40 : Int32) * ((1 : Int32) - (w24.1 129 12))) + (Int64.toInt32 (w34.2.1 132 ((r34 + y46_2).toInt.toNat)))).toInt.toNat))).toInt.toNat))), .ref 137, .ref 145, .int (w34.1 145 y46_2.toInt.toNat), .int y46_2, .ref 145]) (w' := w39) rfl ?_
    obtain ⟨b41, hs⟩ := hs
    refine tm_k (pc' := 227) (L' := [some (.ref 129), some (.int x4_1), some (.int y46_2), some (.int y46_3), some (.int (w34.1 143 ((((40 : Int32) * ((1 : Int32) - (w24.1 129 12))) + (Int64.toInt32 (w34.2.1 132 ((r34 + y46_2).toInt.toNat)))).toInt.toNat))), z24_5]) (S' := [.int (w39.1 137 ((r38 + (w39.1 135 ((r39 + (w34.1 143 ((((40 : Int32) * ((1 : Int32) - (w24.1 129 12))) + (Int64.toInt32 (w34.2.1 132 ((r34 + y46_2).toInt.toNat)))).toInt.toNat))).toInt.toNat))).toInt.toNat)), .ref 145, .int (w34.1 145 y46_2.toInt.toNat), .int y46_2, .ref 145]) (w' := w39) rfl b41 ?_
    obtain ⟨b42, hs⟩ := hs
    refine tm_k (pc' := 228) (L' := [some (.ref 129), some (.int x4_1), some (.int y46_2), some (.int y46_3), some (.int (w34.1 143 ((((40 : Int32) * ((1 : Int32) - (w24.1 129 12))) + (Int64.toInt32 (w34.2.1 132 ((r34 + y46_2).toInt.toNat)))).toInt.toNat))), z24_5]) (S' := [.int (w39.1 145 ((w39.1 137 ((r38 + (w39.1 135 ((r39 + (w34.1 143 ((((40 : Int32) * ((1 : Int32) - (w24.1 129 12))) + (Int64.toInt32 (w34.2.1 132 ((r34 + y46_2).toInt.toNat)))).toInt.toNat))).toInt.toNat))).toInt.toNat)).toInt.toNat)), .int (w34.1 145 y46_2.toInt.toNat), .int y46_2, .ref 145]) (w' := w39) rfl b42 ?_
    refine tm_go 1 (pc' := 229) (L' := [some (.ref 129), some (.int x4_1), some (.int y46_2), some (.int y46_3), some (.int (w34.1 143 ((((40 : Int32) * ((1 : Int32) - (w24.1 129 12))) + (Int64.toInt32 (w34.2.1 132 ((r34 + y46_2).toInt.toNat)))).toInt.toNat))), z24_5]) (S' := [.int ((w34.1 145 y46_2.toInt.toNat) + (w39.1 145 ((w39.1 137 ((r38 + (w39.1 135 ((r39 + (w34.1 143 ((((40 : Int32) * ((1 : Int32) - (w24.1 129 12))) + (Int64.toInt32 (w34.2.1 132 ((r34 + y46_2).toInt.toNat)))).toInt.toNat))).toInt.toNat))).toInt.toNat)).toInt.toNat))), .int y46_2, .ref 145]) (w' := w39) rfl ?_
    obtain ⟨b43, hs⟩ := hs
    refine tm_k (pc' := 230) (L' := [some (.ref 129), some (.int x4_1), some (.int y46_2), some (.int y46_3), some (.int (w34.1 143 ((((40 : Int32) * ((1 : Int32) - (w24.1 129 12))) + (Int64.toInt32 (w34.2.1 132 ((r34 + y46_2).toInt.toNat)))).toInt.toNat))), z24_5]) (S' := []) (w' := (sI w39 145 y46_2.toInt.toNat ((w34.1 145 y46_2.toInt.toNat) + (w39.1 145 ((w39.1 137 ((r38 + (w39.1 135 ((r39 + (w34.1 143 ((((40 : Int32) * ((1 : Int32) - (w24.1 129 12))) + (Int64.toInt32 (w34.2.1 132 ((r34 + y46_2).toInt.toNat)))).toInt.toNat))).toInt.toNat))).toInt.toNat)).toInt.toNat))))) rfl b43 ?_
    refine tm_go 8 (pc' := 244) (L' := [some (.ref 129), some (.int x4_1), some (.int y46_2), some (.int y46_3), some (.int (w34.1 143 ((((40 : Int32) * ((1 : Int32) - (w24.1 129 12))) + (Int64.toInt32 (w34.2.1 132 ((r34 + y46_2).toInt.toNat)))).toInt.toNat))), z24_5]) (S' := [.ref 129, .ref 137, .ref 146, .int y46_2, .ref 146]) (w' := (sI w39 145 y46_2.toInt.toNat ((w34.1 145 y46_2.toInt.toNat) + (w39.1 145 ((w39.1 137 ((r38 + (w39.1 135 ((r39 + (w34.1 143 ((((40 : Int32) * ((1 : Int32) - (w24.1 129 12))) + (Int64.toInt32 (w34.2.1 132 ((r34 + y46_2).toInt.toNat)))).toInt.toNat))).toInt.toNat))).toInt.toNat)).toInt.toNat))))) rfl ?_
    refine tm_c rfl (Nat.le_of_ble_eq_true rfl) (dm_Tx_base (d := d + 0) hs) (fun v w44 hq => ?_)
    obtain ⟨r44, rfl, hs⟩ := hq
    refine tm_go 3 (pc' := 252) (L' := [some (.ref 129), some (.int x4_1), some (.int y46_2), some (.int y46_3), some (.int (w34.1 143 ((((40 : Int32) * ((1 : Int32) - (w24.1 129 12))) + (Int64.toInt32 (w34.2.1 132 ((r34 + y46_2).toInt.toNat)))).toInt.toNat))), z24_5]) (S' := [.ref 129, .ref 135, .int r44, .ref 137, .ref 146, .int y46_2, .ref 146]) (w' := w44) rfl ?_
    refine tm_c rfl (Nat.le_of_ble_eq_true rfl) (dm_Tx_base (d := d + 0) hs) (fun v w45 hq => ?_)
    obtain ⟨r45, rfl, hs⟩ := hq
    refine tm_go 2 (pc' := 258) (L' := [some (.ref 129), some (.int x4_1), some (.int y46_2), some (.int y46_3), some (.int (w34.1 143 ((((40 : Int32) * ((1 : Int32) - (w24.1 129 12))) + (Int64.toInt32 (w34.2.1 132 ((r34 + y46_2).toInt.toNat)))).toInt.toNat))), z24_5]) (S' := [.int (r45 + (w34.1 143 ((((40 : Int32) * ((1 : Int32) - (w24.1 129 12))) + (Int64.toInt32 (w34.2.1 132 ((r34 + y46_2).toInt.toNat)))).toInt.toNat))), .ref 135, .int r44, .ref 137, .ref 146, .int y46_2, .ref 146]) (w' := w45) rfl ?_
    obtain ⟨b46, hs⟩ := hs
    refine tm_k (pc' := 259) (L' := [some (.ref 129), some (.int x4_1), some (.int y46_2), some (.int y46_3), some (.int (w34.1 143 ((((40 : Int32) * ((1 : Int32) - (w24.1 129 12))) + (Int64.toInt32 (w34.2.1 132 ((r34 + y46_2).toInt.toNat)))).toInt.toNat))), z24_5]) (S' := [.int (w45.1 135 ((r45 + (w34.1 143 ((((40 : Int32) * ((1 : Int32) - (w24.1 129 12))) + (Int64.toInt32 (w34.2.1 132 ((r34 + y46_2).toInt.toNat)))).toInt.toNat))).toInt.toNat)), .int r44, .ref 137, .ref 146, .int y46_2, .ref 146]) (w' := w45) rfl b46 ?_
    refine tm_go 1 (pc' := 260) (L' := [some (.ref 129), some (.int x4_1), some (.int y46_2), some (.int y46_3), some (.int (w34.1 143 ((((40 : Int32) * ((1 : Int32) - (w24.1 129 12))) + (Int64.toInt32 (w34.2.1 132 ((r34 + y46_2).toInt.toNat)))).toInt.toNat))), z24_5]) (S' := [.int (r44 + (w45.1 135 ((r45 + (w34.1 143 ((((40 : Int32) * ((1 : Int32) - (w24.1 129 12))) + (Int64.toInt32 (w34.2.1 132 ((r34 + y46_2).toInt.toNat)))).toInt.toNat))).toInt.toNat))), .ref 137, .ref 146, .int y46_2, .ref 146]) (w' := w45) rfl ?_
    obtain ⟨b47, hs⟩ := hs
    refine tm_k (pc' := 261) (L' := [some (.ref 129), some (.int x4_1), some (.int y46_2), some (.int y46_3), some (.int (w34.1 143 ((((40 : Int32) * ((1 : Int32) - (w24.1 129 12))) + (Int64.toInt32 (w34.2.1 132 ((r34 + y46_2).toInt.toNat)))).toInt.toNat))), z24_5]) (S' := [.int (w45.1 137 ((r44 + (w45.1 135 ((r45 + (w34.1 143 ((((40 : Int32) * ((1 : Int32) - (w24.1 129 12))) + (Int64.toInt32 (w34.2.1 132 ((r34 + y46_2).toInt.toNat)))).toInt.toNat))).toInt.toNat))).toInt.toNat)), .ref 146, .int y46_2, .ref 146]) (w' := w45) rfl b47 ?_
    obtain ⟨b48, hs⟩ := hs
    refine tm_k (pc' := 262) (L' := [some (.ref 129), some (.int x4_1), some (.int y46_2), some (.int y46_3), some (.int (w34.1 143 ((((40 : Int32) * ((1 : Int32) - (w24.1 129 12))) + (Int64.toInt32 (w34.2.1 132 ((r34 + y46_2).toInt.toNat)))).toInt.toNat))), z24_5]) (S' := [.int (w45.1 146 ((w45.1 137 ((r44 + (w45.1 135 ((r45 + (w34.1 143 ((((40 : Int32) * ((1 : Int32) - (w24.1 129 12))) + (Int64.toInt32 (w34.2.1 132 ((r34 + y46_2).toInt.toNat)))).toInt.toNat))).toInt.toNat))).toInt.toNat)).toInt.toNat)), .int y46_2, .ref 146]) (w' := w45) rfl b48 ?_
    obtain ⟨b49, hs⟩ := hs
    refine tm_k (pc' := 263) (L' := [some (.ref 129), some (.int x4_1), some (.int y46_2), some (.int y46_3), some (.int (w34.1 143 ((((40 : Int32) * ((1 : Int32) - (w24.1 129 12))) + (Int64.toInt32 (w34.2.1 132 ((r34 + y46_2).toInt.toNat)))).toInt.toNat))), z24_5]) (S' := []) (w' := (sI w45 146 y46_2.toInt.toNat (w45.1 146 ((w45.1 137 ((r44 + (w45.1 135 ((r45 + (w34.1 143 ((((40 : Int32) * ((1 : Int32) - (w24.1 129 12))) + (Int64.toInt32 (w34.2.1 132 ((r34 + y46_2).toInt.toNat)))).toInt.toNat))).toInt.toNat))).toInt.toNat)).toInt.toNat)))) rfl b49 ?_
    refine tm_go 4 (pc' := 269) (L' := [some (.ref 129), some (.int x4_1), some (.int y46_2), some (.int y46_3), some (.int (w34.1 143 ((((40 : Int32) * ((1 : Int32) - (w24.1 129 12))) + (Int64.toInt32 (w34.2.1 132 ((r34 + y46_2).toInt.toNat)))).toInt.toNat))), z24_5]) (S' := [.int y46_2, .ref 146, .int y46_2, .ref 146]) (w' := (sI w45 146 y46_2.toInt.toNat (w45.1 146 ((w45.1 137 ((r44 + (w45.1 135 ((r45 + (w34.1 143 ((((40 : Int32) * ((1 : Int32) - (w24.1 129 12))) + (Int64.toInt32 (w34.2.1 132 ((r34 + y46_2).toInt.toNat)))).toInt.toNat))).toInt.toNat))).toInt.toNat)).toInt.toNat)))) rfl ?_
    obtain ⟨b50, hs⟩ := hs
    refine tm_k (pc' := 270) (L' := [some (.ref 129), some (.int x4_1), some (.int y46_2), some (.int y46_3), some (.int (w34.1 143 ((((40 : Int32) * ((1 : Int32) - (w24.1 129 12))) + (Int64.toInt32 (w34.2.1 132 ((r34 + y46_2).toInt.toNat)))).toInt.toNat))), z24_5]) (S' := [.int ((sI w45 146 y46_2.toInt.toNat (w45.1 146 ((w45.1 137 ((r44 + (w45.1 135 ((r45 + (w34.1 143 ((((40 : Int32) * ((1 : Int32) - (w24.1 129 12))) + (Int64.toInt32 (w34.2.1 132 ((r34 + y46_2).toInt.toNat)))).toInt.toNat))).toInt.toNat))).toInt.toNat)).toInt.toNat))).1 146 y46_2.toInt.toNat), .int y46_2, .ref 146]) (w' := (sI w45 146 y46_2.toInt.toNat (w45.1 146 ((w45.1 137 ((r44 + (w45.1 135 ((r45 + (w34.1 143 ((((40 : Int32) * ((1 : Int32) - (w24.1 129 12))) + (Int64.toInt32 (w34.2.1 132 ((r34 + y46_2).toInt.toNat)))).toInt.toNat))).toInt.toNat))).toInt.toNat)).toInt.toNat)))) rfl b50 ?_
    refine tm_go 2 (pc' := 273) (L' := [some (.ref 129), some (.int x4_1), some (.int y46_2), some (.int y46_3), some (.int (w34.1 143 ((((40 : Int32) * ((1 : Int32) - (w24.1 129 12))) + (Int64.toInt32 (w34.2.1 132 ((r34 + y46_2).toInt.toNat)))).toInt.toNat))), z24_5]) (S' := [.int 23, .int y46_3, .int ((sI w45 146 y46_2.toInt.toNat (w45.1 146 ((w45.1 137 ((r44 + (w45.1 135 ((r45 + (w34.1 143 ((((40 : Int32) * ((1 : Int32) - (w24.1 129 12))) + (Int64.toInt32 (w34.2.1 132 ((r34 + y46_2).toInt.toNat)))).toInt.toNat))).toInt.toNat))).toInt.toNat)).toInt.toNat))).1 146 y46_2.toInt.toNat), .int y46_2, .ref 146]) (w' := (sI w45 146 y46_2.toInt.toNat (w45.1 146 ((w45.1 137 ((r44 + (w45.1 135 ((r45 + (w34.1 143 ((((40 : Int32) * ((1 : Int32) - (w24.1 129 12))) + (Int64.toInt32 (w34.2.1 132 ((r34 + y46_2).toInt.toNat)))).toInt.toNat))).toInt.toNat))).toInt.toNat)).toInt.toNat)))) rfl ?_
    refine tm_i (p1 := 280) (p2 := 276) rfl (fun h51 => ?_) (fun h51 => ?_)
    · replace hs := hs.1 h51
      refine tm_go 1 (pc' := 281) (L' := [some (.ref 129), some (.int x4_1), some (.int y46_2), some (.int y46_3), some (.int (w34.1 143 ((((40 : Int32) * ((1 : Int32) - (w24.1 129 12))) + (Int64.toInt32 (w34.2.1 132 ((r34 + y46_2).toInt.toNat)))).toInt.toNat))), z24_5]) (S' := [.int 0, .int ((sI w45 146 y46_2.toInt.toNat (w45.1 146 ((w45.1 137 ((r44 + (w45.1 135 ((r45 + (w34.1 143 ((((40 : Int32) * ((1 : Int32) - (w24.1 129 12))) + (Int64.toInt32 (w34.2.1 132 ((r34 + y46_2).toInt.toNat)))).toInt.toNat))).toInt.toNat))).toInt.toNat)).toInt.toNat))).1 146 y46_2.toInt.toNat), .int y46_2, .ref 146]) (w' := (sI w45 146 y46_2.toInt.toNat (w45.1 146 ((w45.1 137 ((r44 + (w45.1 135 ((r45 + (w34.1 143 ((((40 : Int32) * ((1 : Int32) - (w24.1 129 12))) + (Int64.toInt32 (w34.2.1 132 ((r34 + y46_2).toInt.toNat)))).toInt.toNat))).toInt.toNat))).toInt.toNat)).toInt.toNat)))) rfl ?_
      exact tx_Tx_isSmall_281 hs hA hE
    · replace hs := hs.2 h51
      refine tm_go 2 (pc' := 281) (L' := [some (.ref 129), some (.int x4_1), some (.int y46_2), some (.int y46_3), some (.int (w34.1 143 ((((40 : Int32) * ((1 : Int32) - (w24.1 129 12))) + (Int64.toInt32 (w34.2.1 132 ((r34 + y46_2).toInt.toNat)))).toInt.toNat))), z24_5]) (S' := [.int 1, .int ((sI w45 146 y46_2.toInt.toNat (w45.1 146 ((w45.1 137 ((r44 + (w45.1 135 ((r45 + (w34.1 143 ((((40 : Int32) * ((1 : Int32) - (w24.1 129 12))) + (Int64.toInt32 (w34.2.1 132 ((r34 + y46_2).toInt.toNat)))).toInt.toNat))).toInt.toNat))).toInt.toNat)).toInt.toNat))).1 146 y46_2.toInt.toNat), .int y46_2, .ref 146]) (w' := (sI w45 146 y46_2.toInt.toNat (w45.1 146 ((w45.1 137 ((r44 + (w45.1 135 ((r45 + (w34.1 143 ((((40 : Int32) * ((1 : Int32) - (w24.1 129 12))) + (Int64.toInt32 (w34.2.1 132 ((r34 + y46_2).toInt.toNat)))).toInt.toNat))).toInt.toNat))).toInt.toNat)).toInt.toNat)))) rfl ?_
      exact tx_Tx_isSmall_281 hs hA hE
set_option maxHeartbeats 4000000 in
set_option maxRecDepth 100000 in
theorem tx_Tx_isSmall_4 {d : Nat} {x4_1 : Int32} {E : MW → Prop} {Q : Int32 → MW → Prop} (n : Nat) : ∀ (x4_2 : Int32)  (z3 : Option Value) (z4 : Option Value) (z5 : Option Value) (w : MW), q_Tx_isSmall_4 x4_1 E Q n x4_2 w → (∀  (v2 : Option Value) (v3 : Option Value) (v4 : Option Value) (v5 : Option Value) (w : MW), E  w → Tm (d + 1) 334 319 [some (.ref 129), some (.int x4_1), v2, v3, v4, v5] [] w (RZ Q)) → Tm (d + 1) 334 4 [some (.ref 129), some (.int x4_1), some (.int x4_2), z3, z4, z5] [] w (RZ Q) := by
  induction n with
  | zero => intro x4_2 z3 z4 z5 w hs; rw [q_Tx_isSmall_4.eq_1] at hs; exact hs.elim
  | succ n ih =>
    intro x4_2 z3 z4 z5 w hs hE
    rw [q_Tx_isSmall_4.eq_2] at hs
    refine tm_go 3 (pc' := 9) (L' := [some (.ref 129), some (.int x4_1), some (.int x4_2), z3, z4, z5]) (S' := [.int (w.1 129 13), .int x4_2]) (w' := w) rfl ?_
    refine tm_i (p1 := 319) (p2 := 12) rfl (fun h1 => ?_) (fun h1 => ?_)
    · replace hs := hs.1 h1
      exact hE _ _ _ _ _ hs
    · replace hs := hs.2 h1
      refine tm_go 3 (pc' := 17) (L' := [some (.ref 129), some (.int x4_1), some (.int x4_2), z3, z4, z5]) (S' := [.ref 129, .ref 131]) (w' := w) rfl ?_
      refine tm_c rfl (Nat.le_of_ble_eq_true rfl) (dm_Tx_base (d := d + 0) hs) (fun v w2 hq => ?_)
      obtain ⟨r2, rfl, hs⟩ := hq
      refine tm_go 2 (pc' := 22) (L' := [some (.ref 129), some (.int x4_1), some (.int x4_2), z3, z4, z5]) (S' := [.int (r2 + x4_2), .ref 131]) (w' := w2) rfl ?_
      obtain ⟨b3, hs⟩ := hs
      refine tm_k (pc' := 23) (L' := [some (.ref 129), some (.int x4_1), some (.int x4_2), z3, z4, z5]) (S' := [.int (w2.1 131 ((r2 + x4_2).toInt.toNat))]) (w' := w2) rfl b3 ?_
      refine tm_go 6 (pc' := 32) (L' := [some (.ref 129), some (.int x4_1), some (.int x4_2), some (.int (w2.1 131 ((r2 + x4_2).toInt.toNat))), z4, z5]) (S' := [.int 10, .int (w2.1 131 ((r2 + x4_2).toInt.toNat)), .int x4_2, .ref 145]) (w' := w2) rfl ?_
      refine tm_i (p1 := 45) (p2 := 35) rfl (fun h4 => ?_) (fun h4 => ?_)
      · replace hs := hs.1 h4
        refine tm_go 1 (pc' := 46) (L' := [some (.ref 129), some (.int x4_1), some (.int x4_2), some (.int (w2.1 131 ((r2 + x4_2).toInt.toNat))), z4, z5]) (S' := [.int 0, .int x4_2, .ref 145]) (w' := w2) rfl ?_
        exact tx_Tx_isSmall_46 hs (fun q0 q1 q2 q3 q4 hs => ih q0 q1 q2 q3 q4 hs hE) hE
      · replace hs := hs.2 h4
        refine tm_go 2 (pc' := 38) (L' := [some (.ref 129), some (.int x4_1), some (.int x4_2), some (.int (w2.1 131 ((r2 + x4_2).toInt.toNat))), z4, z5]) (S' := [.int 23, .int (w2.1 131 ((r2 + x4_2).toInt.toNat)), .int x4_2, .ref 145]) (w' := w2) rfl ?_
        refine tm_i (p1 := 45) (p2 := 41) rfl (fun h52 => ?_) (fun h52 => ?_)
        · replace hs := hs.1 h52
          refine tm_go 1 (pc' := 46) (L' := [some (.ref 129), some (.int x4_1), some (.int x4_2), some (.int (w2.1 131 ((r2 + x4_2).toInt.toNat))), z4, z5]) (S' := [.int 0, .int x4_2, .ref 145]) (w' := w2) rfl ?_
          exact tx_Tx_isSmall_46 hs (fun q0 q1 q2 q3 q4 hs => ih q0 q1 q2 q3 q4 hs hE) hE
        · replace hs := hs.2 h52
          refine tm_go 2 (pc' := 46) (L' := [some (.ref 129), some (.int x4_1), some (.int x4_2), some (.int (w2.1 131 ((r2 + x4_2).toInt.toNat))), z4, z5]) (S' := [.int 1, .int x4_2, .ref 145]) (w' := w2) rfl ?_
          exact tx_Tx_isSmall_46 hs (fun q0 q1 q2 q3 q4 hs => ih q0 q1 q2 q3 q4 hs hE) hE
set_option maxHeartbeats 4000000 in
set_option maxRecDepth 100000 in
theorem tx_Tx_isSmall_321 {d : Nat} {E : Int32 → MW → Prop} {Q : Int32 → MW → Prop} (n : Nat) : ∀ (x321_1 : Int32) (x321_2 : Int32)  (z3 : Option Value) (z4 : Option Value) (z5 : Option Value) (w : MW), q_Tx_isSmall_321  E Q n x321_1 x321_2 w → (∀ (e321_1 : Int32)  (v2 : Option Value) (v3 : Option Value) (v4 : Option Value) (v5 : Option Value) (w : MW), E e321_1 w → Tm (d + 1) 334 400 [some (.ref 129), some (.int e321_1), v2, v3, v4, v5] [] w (RZ Q)) → Tm (d + 1) 334 321 [some (.ref 129), some (.int x321_1), some (.int x321_2), z3, z4, z5] [] w (RZ Q) := by
  induction n with
  | zero => intro x321_1 x321_2 z3 z4 z5 w hs; rw [q_Tx_isSmall_321.eq_1] at hs; exact hs.elim
  | succ n ih =>
    intro x321_1 x321_2 z3 z4 z5 w hs hE
    rw [q_Tx_isSmall_321.eq_2] at hs
    refine tm_go 3 (pc' := 326) (L' := [some (.ref 129), some (.int x321_1), some (.int x321_2), z3, z4, z5]) (S' := [.int (w.1 129 23), .int x321_2]) (w' := w) rfl ?_
    refine tm_i (p1 := 400) (p2 := 329) rfl (fun h54 => ?_) (fun h54 => ?_)
    · replace hs := hs.1 h54
      exact hE _ _ _ _ _ _ hs
    · replace hs := hs.2 h54
      refine tm_go 2 (pc' := 333) (L' := [some (.ref 129), some (.int x321_1), some (.int x321_2), z3, z4, z5]) (S' := [.int 500, .int x321_1]) (w' := w) rfl ?_
      refine tm_i (p1 := 400) (p2 := 336) rfl (fun h55 => ?_) (fun h55 => ?_)
      · replace hs := hs.1 h55
        exact hE _ _ _ _ _ _ hs
      · replace hs := hs.2 h55
        refine tm_go 3 (pc' := 341) (L' := [some (.ref 129), some (.int x321_1), some (.int x321_2), z3, z4, z5]) (S' := [.ref 129, .ref 138]) (w' := w) rfl ?_
        refine tm_c rfl (Nat.le_of_ble_eq_true rfl) (dm_Tx_base (d := d + 0) hs) (fun v w56 hq => ?_)
        obtain ⟨r56, rfl, hs⟩ := hq
        refine tm_go 2 (pc' := 346) (L' := [some (.ref 129), some (.int x321_1), some (.int x321_2), z3, z4, z5]) (S' := [.int (r56 + x321_2), .ref 138]) (w' := w56) rfl ?_
        obtain ⟨b57, hs⟩ := hs
        refine tm_k (pc' := 347) (L' := [some (.ref 129), some (.int x321_1), some (.int x321_2), z3, z4, z5]) (S' := [.int (w56.1 138 ((r56 + x321_2).toInt.toNat))]) (w' := w56) rfl b57 ?_
        refine tm_go 5 (pc' := 354) (L' := [some (.ref 129), some (.int x321_1), some (.int x321_2), some (.int (w56.1 138 ((r56 + x321_2).toInt.toNat))), z4, z5]) (S' := [.ref 129, .ref 131, .int x321_1]) (w' := w56) rfl ?_
        refine tm_c rfl (Nat.le_of_ble_eq_true rfl) (dm_Tx_base (d := d + 0) hs) (fun v w58 hq => ?_)
        obtain ⟨r58, rfl, hs⟩ := hq
        refine tm_go 2 (pc' := 359) (L' := [some (.ref 129), some (.int x321_1), some (.int x321_2), some (.int (w56.1 138 ((r56 + x321_2).toInt.toNat))), z4, z5]) (S' := [.int (r58 + (w56.1 138 ((r56 + x321_2).toInt.toNat))), .ref 131, .int x321_1]) (w' := w58) rfl ?_
        obtain ⟨b59, hs⟩ := hs
        refine tm_k (pc' := 360) (L' := [some (.ref 129), some (.int x321_1), some (.int x321_2), some (.int (w56.1 138 ((r56 + x321_2).toInt.toNat))), z4, z5]) (S' := [.int (w58.1 131 ((r58 + (w56.1 138 ((r56 + x321_2).toInt.toNat))).toInt.toNat)), .int x321_1]) (w' := w58) rfl b59 ?_
        refine tm_go 1 (pc' := 362) (L' := [some (.ref 129), some (.int x321_1), some (.int x321_2), some (.int (w56.1 138 ((r56 + x321_2).toInt.toNat))), z4, z5]) (S' := [.int 24, .int (w58.1 131 ((r58 + (w56.1 138 ((r56 + x321_2).toInt.toNat))).toInt.toNat)), .int x321_1]) (w' := w58) rfl ?_
        refine tm_i (p1 := 369) (p2 := 365) rfl (fun h60 => ?_) (fun h60 => ?_)
        · replace hs := hs.1 h60
          refine tm_go 3 (pc' := 374) (L' := [some (.ref 129), some (.int x321_1), some (.int x321_2), some (.int (w56.1 138 ((r56 + x321_2).toInt.toNat))), z4, z5]) (S' := [.int (w56.1 138 ((r56 + x321_2).toInt.toNat)), .ref 146, .int x321_1]) (w' := w58) rfl ?_
          obtain ⟨b61, hs⟩ := hs
          refine tm_k (pc' := 375) (L' := [some (.ref 129), some (.int x321_1), some (.int x321_2), some (.int (w56.1 138 ((r56 + x321_2).toInt.toNat))), z4, z5]) (S' := [.int (w58.1 146 ((w56.1 138 ((r56 + x321_2).toInt.toNat)).toInt.toNat)), .int x321_1]) (w' := w58) rfl b61 ?_
          refine tm_go 1 (pc' := 377) (L' := [some (.ref 129), some (.int x321_1), some (.int x321_2), some (.int (w56.1 138 ((r56 + x321_2).toInt.toNat))), z4, z5]) (S' := [.int 40, .int (w58.1 146 ((w56.1 138 ((r56 + x321_2).toInt.toNat)).toInt.toNat)), .int x321_1]) (w' := w58) rfl ?_
          refine tm_i (p1 := 386) (p2 := 380) rfl (fun h62 => ?_) (fun h62 => ?_)
          · replace hs := hs.1 h62
            refine tm_go 3 (pc' := 391) (L' := [some (.ref 129), some (.int x321_1), some (.int x321_2), some (.int (w56.1 138 ((r56 + x321_2).toInt.toNat))), z4, z5]) (S' := [.int (w56.1 138 ((r56 + x321_2).toInt.toNat)), .ref 145, .int x321_1]) (w' := w58) rfl ?_
            obtain ⟨b63, hs⟩ := hs
            refine tm_k (pc' := 392) (L' := [some (.ref 129), some (.int x321_1), some (.int x321_2), some (.int (w56.1 138 ((r56 + x321_2).toInt.toNat))), z4, z5]) (S' := [.int (w58.1 145 ((w56.1 138 ((r56 + x321_2).toInt.toNat)).toInt.toNat)), .int x321_1]) (w' := w58) rfl b63 ?_
            refine tm_go 4 (pc' := 321) (L' := [some (.ref 129), some (.int (x321_1 + (w58.1 145 ((w56.1 138 ((r56 + x321_2).toInt.toNat)).toInt.toNat)))), some (.int (x321_2 + (1 : Int32))), some (.int (w56.1 138 ((r56 + x321_2).toInt.toNat))), z4, z5]) (S' := []) (w' := w58) rfl ?_
            exact ih _ _ _ _ _ _ hs hE
          · replace hs := hs.2 h62
            refine tm_go 6 (pc' := 321) (L' := [some (.ref 129), some (.int (x321_1 + (501 : Int32))), some (.int (x321_2 + (1 : Int32))), some (.int (w56.1 138 ((r56 + x321_2).toInt.toNat))), z4, z5]) (S' := []) (w' := w58) rfl ?_
            exact ih _ _ _ _ _ _ hs hE
        · replace hs := hs.2 h60
          refine tm_go 6 (pc' := 321) (L' := [some (.ref 129), some (.int (x321_1 + (0 : Int32))), some (.int (x321_2 + (1 : Int32))), some (.int (w56.1 138 ((r56 + x321_2).toInt.toNat))), z4, z5]) (S' := []) (w' := w58) rfl ?_
          exact ih _ _ _ _ _ _ hs hE
set_option maxHeartbeats 4000000 in
set_option maxRecDepth 100000 in
theorem dm_Tx_isSmall {d : Nat} {w : MW} {Q : Int32 → MW → Prop} (hs : p_Tx_isSmall w Q) : Tc (d + 1) 334 [.ref 129] w (RZ Q) := by
  unfold p_Tx_isSmall at hs
  refine tm_go 4 (pc' := 4) (L' := [some (.ref 129), some (.int 0), some (.int 0), none, none, none]) (S' := []) (w' := w) rfl ?_
  refine tx_Tx_isSmall_4 FU _ _ _ _ _ hs (fun  z53_2 z53_3 z53_4 z53_5 w53 hs => ?_)
  refine tm_go 2 (pc' := 321) (L' := [some (.ref 129), some (.int 0), some (.int 0), z53_3, z53_4, z53_5]) (S' := []) (w' := w53) rfl ?_
  refine tx_Tx_isSmall_321 FU _ _ _ _ _ _ hs (fun e321_1_64 z64_2 z64_3 z64_4 z64_5 w64 hs => ?_)
  refine tm_go 3 (pc' := 405) (L' := [some (.ref 129), some (.int e321_1_64), z64_2, z64_3, z64_4, z64_5]) (S' := [.int 500, .int e321_1_64, .ref 129]) (w' := w64) rfl ?_
  refine tm_i (p1 := 415) (p2 := 408) rfl (fun h65 => ?_) (fun h65 => ?_)
  · replace hs := hs.1 h65
    refine tm_go 5 (pc' := 426) (L' := [some (.ref 129), some (.int e321_1_64), z64_2, z64_3, z64_4, z64_5]) (S' := [.int 500, .int e321_1_64]) (w' := (sI w64 129 10 (w64.1 129 10))) rfl ?_
    refine tm_i (p1 := 433) (p2 := 429) rfl (fun h66 => ?_) (fun h66 => ?_)
    · replace hs := hs.1 h66
      refine tm_go 1 (pc' := 434) (L' := [some (.ref 129), some (.int e321_1_64), z64_2, z64_3, z64_4, z64_5]) (S' := [.int 0]) (w' := (sI w64 129 10 (w64.1 129 10))) rfl ?_
      exact tm_r rfl ⟨_, rfl, by decide, hs⟩
    · replace hs := hs.2 h66
      refine tm_go 2 (pc' := 434) (L' := [some (.ref 129), some (.int e321_1_64), z64_2, z64_3, z64_4, z64_5]) (S' := [.int 1]) (w' := (sI w64 129 10 (w64.1 129 10))) rfl ?_
      exact tm_r rfl ⟨_, rfl, by decide, hs⟩
  · replace hs := hs.2 h65
    refine tm_go 6 (pc' := 426) (L' := [some (.ref 129), some (.int e321_1_64), z64_2, z64_3, z64_4, z64_5]) (S' := [.int 500, .int e321_1_64]) (w' := (sI w64 129 10 (w64.1 129 1))) rfl ?_
    refine tm_i (p1 := 433) (p2 := 429) rfl (fun h67 => ?_) (fun h67 => ?_)
    · replace hs := hs.1 h67
      refine tm_go 1 (pc' := 434) (L' := [some (.ref 129), some (.int e321_1_64), z64_2, z64_3, z64_4, z64_5]) (S' := [.int 0]) (w' := (sI w64 129 10 (w64.1 129 1))) rfl ?_
      exact tm_r rfl ⟨_, rfl, by decide, hs⟩
    · replace hs := hs.2 h67
      refine tm_go 2 (pc' := 434) (L' := [some (.ref 129), some (.int e321_1_64), z64_2, z64_3, z64_4, z64_5]) (S' := [.int 1]) (w' := (sI w64 129 10 (w64.1 129 1))) rfl ?_
      exact tm_r rfl ⟨_, rfl, by decide, hs⟩
set_option maxHeartbeats 4000000 in
set_option maxRecDepth 100000 in
theorem dm_Tx_bad {d : Nat} {w : MW} {Q : Int32 → MW → Prop} (hs : p_Tx_bad w Q) : Tc (d + 0) 311 [.ref 129] w (RI Q) := by
  unfold p_Tx_bad at hs
  refine tm_go 5 (pc' := 9) (L' := [some (.ref 129)]) (S' := [.int (-1)]) (w' := (sI w 129 10 (w.1 129 5))) rfl ?_
  exact tm_r rfl ⟨_, rfl, hs⟩
set_option maxHeartbeats 4000000 in
set_option maxRecDepth 100000 in
theorem dm_Tx_at {d : Nat} {w : MW} {a0 : Int32} {Q : Int32 → MW → Prop} (hs : p_Tx_at w a0 Q) : Tc (d + 0) 304 [.ref 129, .int a0] w (RI Q) := by
  unfold p_Tx_at at hs
  refine tm_go 3 (pc' := 5) (L' := [some (.ref 129), some (.int a0)]) (S' := [.int (w.1 129 1), .int a0]) (w' := w) rfl ?_
  refine tm_i (p1 := 17) (p2 := 8) rfl (fun h1 => ?_) (fun h1 => ?_)
  · replace hs := hs.1 h1
    refine tm_go 1 (pc' := 18) (L' := [some (.ref 129), some (.int a0)]) (S' := [.int 0]) (w' := w) rfl ?_
    exact tm_r rfl ⟨_, rfl, hs⟩
  · replace hs := hs.2 h1
    refine tm_go 3 (pc' := 13) (L' := [some (.ref 129), some (.int a0)]) (S' := [.int a0, .ref 130]) (w' := w) rfl ?_
    obtain ⟨b2, hs⟩ := hs
    refine tm_k (pc' := 14) (L' := [some (.ref 129), some (.int a0)]) (S' := [.int (w.1 130 a0.toInt.toNat)]) (w' := w) rfl b2 ?_
    refine tm_go 1 (pc' := 18) (L' := [some (.ref 129), some (.int a0)]) (S' := [.int (w.1 130 a0.toInt.toNat)]) (w' := w) rfl ?_
    exact tm_r rfl ⟨_, rfl, hs⟩
set_option maxHeartbeats 4000000 in
set_option maxRecDepth 100000 in
theorem dm_Tx_isDigit {d : Nat} {w : MW} {a0 : Int32} {Q : Int32 → MW → Prop} (hs : p_Tx_isDigit w a0 Q) : Tc (d + 0) 305 [.int a0] w (RZ Q) := by
  unfold p_Tx_isDigit at hs
  refine tm_go 2 (pc' := 3) (L' := [some (.int a0)]) (S' := [.int 48, .int a0]) (w' := w) rfl ?_
  refine tm_i (p1 := 16) (p2 := 6) rfl (fun h1 => ?_) (fun h1 => ?_)
  · replace hs := hs.1 h1
    refine tm_go 1 (pc' := 17) (L' := [some (.int a0)]) (S' := [.int 0]) (w' := w) rfl ?_
    exact tm_r rfl ⟨_, rfl, by decide, hs⟩
  · replace hs := hs.2 h1
    refine tm_go 2 (pc' := 9) (L' := [some (.int a0)]) (S' := [.int 57, .int a0]) (w' := w) rfl ?_
    refine tm_i (p1 := 16) (p2 := 12) rfl (fun h2 => ?_) (fun h2 => ?_)
    · replace hs := hs.1 h2
      refine tm_go 1 (pc' := 17) (L' := [some (.int a0)]) (S' := [.int 0]) (w' := w) rfl ?_
      exact tm_r rfl ⟨_, rfl, by decide, hs⟩
    · replace hs := hs.2 h2
      refine tm_go 2 (pc' := 17) (L' := [some (.int a0)]) (S' := [.int 1]) (w' := w) rfl ?_
      exact tm_r rfl ⟨_, rfl, by decide, hs⟩
set_option maxHeartbeats 4000000 in
set_option maxRecDepth 100000 in
theorem tx_Tx_digits_5 {d : Nat} {E : MW → Prop} {Q : MW → Prop} (n : Nat) : ∀  (z1 : Option Value) (z2 : Option Value) (w : MW), q_Tx_digits_5  E Q n  w → (∀  (v1 : Option Value) (v2 : Option Value) (w : MW), E  w → Tm (d + 1) 310 72 [some (.ref 129), v1, v2] [] w (RV Q)) → Tm (d + 1) 310 5 [some (.ref 129), z1, z2] [] w (RV Q) := by
  induction n with
  | zero => intro  z1 z2 w hs; rw [q_Tx_digits_5.eq_1] at hs; exact hs.elim
  | succ n ih =>
    intro  z1 z2 w hs hE
    rw [q_Tx_digits_5.eq_2] at hs
    refine tm_go 3 (pc' := 10) (L' := [some (.ref 129), z1, z2]) (S' := [.int (w.1 129 2), .ref 129]) (w' := w) rfl ?_
    refine tm_c rfl (Nat.le_of_ble_eq_true rfl) (dm_Tx_at (d := d + 0) hs) (fun v w1 hq => ?_)
    obtain ⟨r1, rfl, hs⟩ := hq
    refine tm_c rfl (Nat.le_of_ble_eq_true rfl) (dm_Tx_isDigit (d := d + 0) hs) (fun v w2 hq => ?_)
    obtain ⟨r2, rfl, hz2, hs⟩ := hq
    refine tm_i (p1 := 72) (p2 := 19) rfl (fun h3 => ?_) (fun h3 => ?_)
    · replace hs := hs.1 h3
      exact hE _ _ _ hs
    · replace hs := hs.2 h3
      refine tm_go 6 (pc' := 30) (L' := [some (.ref 129), z1, z2]) (S' := [.int 9, .int ((w2.1 129 2) - (w2.1 129 5))]) (w' := w2) rfl ?_
      refine tm_i (p1 := 72) (p2 := 33) rfl (fun h4 => ?_) (fun h4 => ?_)
      · replace hs := hs.1 h4
        exact hE _ _ _ hs
      · replace hs := hs.2 h4
        refine tm_go 8 (pc' := 47) (L' := [some (.ref 129), z1, z2]) (S' := [.int (w2.1 129 2), .ref 129, .long ((10 : Int64) * (w2.2.1 129 8)), .ref 129]) (w' := w2) rfl ?_
        refine tm_c rfl (Nat.le_of_ble_eq_true rfl) (dm_Tx_at (d := d + 0) hs) (fun v w5 hq => ?_)
        obtain ⟨r5, rfl, hs⟩ := hq
        refine tm_go 12 (pc' := 5) (L' := [some (.ref 129), z1, z2]) (S' := []) (w' := (sI (sJ w5 129 8 ((((10 : Int64) * (w2.2.1 129 8)) + (Int32.toInt64 r5)) - (48 : Int64))) 129 2 ((w5.1 129 2) + (1 : Int32)))) rfl ?_
        exact ih _ _ _ hs hE
set_option maxHeartbeats 4000000 in
set_option maxRecDepth 100000 in
theorem tx_Tx_digits_143 {d : Nat} {E : MW → Prop} {Q : MW → Prop} (n : Nat) : ∀ (x143_1 : Int64)   (w : MW), q_Tx_digits_143  E Q n x143_1 w → (∀  (v0 : Option Value) (v1 : Option Value) (v2 : Option Value) (w : MW), E  w → Tm (d + 1) 310 205 [v0, v1, v2] [] w (RV Q)) → Tm (d + 1) 310 143 [some (.ref 129), some (.long x143_1), none] [] w (RV Q) := by
  induction n with
  | zero => intro x143_1  w hs; rw [q_Tx_digits_143.eq_1] at hs; exact hs.elim
  | succ n ih =>
    intro x143_1  w hs hE
    rw [q_Tx_digits_143.eq_2] at hs
    refine tm_go 3 (pc' := 148) (L' := [some (.ref 129), some (.long x143_1), none]) (S' := [.int (w.1 129 2), .ref 129]) (w' := w) rfl ?_
    refine tm_c rfl (Nat.le_of_ble_eq_true rfl) (dm_Tx_at (d := d + 0) hs) (fun v w11 hq => ?_)
    obtain ⟨r11, rfl, hs⟩ := hq
    refine tm_c rfl (Nat.le_of_ble_eq_true rfl) (dm_Tx_isDigit (d := d + 0) hs) (fun v w12 hq => ?_)
    obtain ⟨r12, rfl, hz12, hs⟩ := hq
    refine tm_i (p1 := 205) (p2 := 157) rfl (fun h13 => ?_) (fun h13 => ?_)
    · replace hs := hs.1 h13
      exact hE _ _ _ _ hs
    · replace hs := hs.2 h13
      refine tm_go 3 (pc' := 160) (L' := [some (.ref 129), some (.long x143_1), none]) (S' := [.int (lg_cmp x143_1 (0 : Int64))]) (w' := w12) rfl ?_
      refine tm_i (p1 := 205) (p2 := 163) rfl (fun h14 => ?_) (fun h14 => ?_)
      · replace hs := hs.1 h14
        exact hE _ _ _ _ hs
      · replace hs := hs.2 h14
        refine tm_go 7 (pc' := 174) (L' := [some (.ref 129), some (.long x143_1), none]) (S' := [.int (w12.1 129 2), .ref 129, .long x143_1, .long (w12.2.1 129 8), .ref 129]) (w' := w12) rfl ?_
        refine tm_c rfl (Nat.le_of_ble_eq_true rfl) (dm_Tx_at (d := d + 0) hs) (fun v w15 hq => ?_)
        obtain ⟨r15, rfl, hs⟩ := hq
        refine tm_go 17 (pc' := 143) (L' := [some (.ref 129), some (.long (x143_1 / (10 : Int64))), none]) (S' := []) (w' := (sI (sJ w15 129 8 ((w12.2.1 129 8) + (x143_1 * (Int32.toInt64 (r15 - (48 : Int32)))))) 129 2 ((w15.1 129 2) + (1 : Int32)))) rfl ?_
        exact ih _ _ hs hE
set_option maxHeartbeats 4000000 in
set_option maxRecDepth 100000 in
theorem tx_Tx_digits_119 {d : Nat} {ys119_0 : Int32} {z1 : Option Value} {z2 : Option Value} {w : MW} {Q : MW → Prop} (hs : q_Tx_digits_119 ys119_0 w Q) : Tm (d + 1) 310 119 [some (.ref 129), z1, z2] [.int ys119_0, .ref 129] w (RV Q) := by
  unfold q_Tx_digits_119 at hs
  obtain ⟨b9, hs⟩ := hs
  refine tm_k (pc' := 122) (L' := [some (.ref 129), z1, z2]) (S' := []) (w' := (sI w 129 9 ys119_0)) rfl ⟨rfl, rfl, b9⟩ ?_
  refine tm_go 2 (pc' := 126) (L' := [some (.ref 129), z1, z2]) (S' := [.int ys119_0]) (w' := (sI w 129 9 ys119_0)) rfl ?_
  refine tm_i (p1 := 205) (p2 := 129) rfl (fun h10 => ?_) (fun h10 => ?_)
  · replace hs := hs.1 h10
    exact tm_r rfl ⟨rfl, hs⟩
  · replace hs := hs.2 h10
    refine tm_go 8 (pc' := 143) (L' := [some (.ref 129), some (.long 100), none]) (S' := []) (w' := (sI (sI w 129 9 ys119_0) 129 2 ((w.1 129 2) + (1 : Int32)))) rfl ?_
    refine tx_Tx_digits_143 FU _ _ hs (fun  z16_0 z16_1 z16_2 w16 hs => ?_)
    exact tm_r rfl ⟨rfl, hs⟩
set_option maxHeartbeats 4000000 in
set_option maxRecDepth 100000 in
theorem dm_Tx_digits {d : Nat} {w : MW} {Q : MW → Prop} (hs : p_Tx_digits w Q) : Tc (d + 1) 310 [.ref 129] w (RV Q) := by
  unfold p_Tx_digits at hs
  refine tm_go 3 (pc' := 5) (L' := [some (.ref 129), none, none]) (S' := []) (w' := (sJ w 129 8 0)) rfl ?_
  refine tx_Tx_digits_5 FU _ _ _ hs (fun  z6_1 z6_2 w6 hs => ?_)
  refine tm_go 10 (pc' := 90) (L' := [some (.ref 129), z6_1, z6_2]) (S' := [.int (w6.1 129 2), .ref 129, .ref 129]) (w' := (sJ w6 129 8 ((w6.2.1 129 8) * (1000 : Int64)))) rfl ?_
  refine tm_c rfl (Nat.le_of_ble_eq_true rfl) (dm_Tx_at (d := d + 0) hs) (fun v w7 hq => ?_)
  obtain ⟨r7, rfl, hs⟩ := hq
  refine tm_go 1 (pc' := 95) (L' := [some (.ref 129), z6_1, z6_2]) (S' := [.int 46, .int r7, .ref 129]) (w' := w7) rfl ?_
  refine tm_i (p1 := 118) (p2 := 98) rfl (fun h8 => ?_) (fun h8 => ?_)
  · replace hs := hs.1 h8
    refine tm_go 1 (pc' := 119) (L' := [some (.ref 129), z6_1, z6_2]) (S' := [.int 0, .ref 129]) (w' := w7) rfl ?_
    exact tx_Tx_digits_119 hs 
  · replace hs := hs.2 h8
    refine tm_go 5 (pc' := 105) (L' := [some (.ref 129), z6_1, z6_2]) (S' := [.int ((w7.1 129 2) + (1 : Int32)), .ref 129, .ref 129]) (w' := w7) rfl ?_
    refine tm_c rfl (Nat.le_of_ble_eq_true rfl) (dm_Tx_at (d := d + 0) hs) (fun v w17 hq => ?_)
    obtain ⟨r17, rfl, hs⟩ := hq
    refine tm_c rfl (Nat.le_of_ble_eq_true rfl) (dm_Tx_isDigit (d := d + 0) hs) (fun v w18 hq => ?_)
    obtain ⟨r18, rfl, hz18, hs⟩ := hq
    refine tm_i (p1 := 118) (p2 := 114) rfl (fun h19 => ?_) (fun h19 => ?_)
    · replace hs := hs.1 h19
      refine tm_go 1 (pc' := 119) (L' := [some (.ref 129), z6_1, z6_2]) (S' := [.int 0, .ref 129]) (w' := w18) rfl ?_
      exact tx_Tx_digits_119 hs 
    · replace hs := hs.2 h19
      refine tm_go 2 (pc' := 119) (L' := [some (.ref 129), z6_1, z6_2]) (S' := [.int 1, .ref 129]) (w' := w18) rfl ?_
      exact tx_Tx_digits_119 hs 
set_option maxHeartbeats 4000000 in
set_option maxRecDepth 100000 in
theorem dm_Tx_isLetter {d : Nat} {w : MW} {a0 : Int32} {Q : Int32 → MW → Prop} (hs : p_Tx_isLetter w a0 Q) : Tc (d + 0) 306 [.int a0] w (RZ Q) := by
  unfold p_Tx_isLetter at hs
  refine tm_go 2 (pc' := 3) (L' := [some (.int a0)]) (S' := [.int 97, .int a0]) (w' := w) rfl ?_
  refine tm_i (p1 := 16) (p2 := 6) rfl (fun h1 => ?_) (fun h1 => ?_)
  · replace hs := hs.1 h1
    refine tm_go 1 (pc' := 17) (L' := [some (.int a0)]) (S' := [.int 0]) (w' := w) rfl ?_
    exact tm_r rfl ⟨_, rfl, by decide, hs⟩
  · replace hs := hs.2 h1
    refine tm_go 2 (pc' := 9) (L' := [some (.int a0)]) (S' := [.int 122, .int a0]) (w' := w) rfl ?_
    refine tm_i (p1 := 16) (p2 := 12) rfl (fun h2 => ?_) (fun h2 => ?_)
    · replace hs := hs.1 h2
      refine tm_go 1 (pc' := 17) (L' := [some (.int a0)]) (S' := [.int 0]) (w' := w) rfl ?_
      exact tm_r rfl ⟨_, rfl, by decide, hs⟩
    · replace hs := hs.2 h2
      refine tm_go 2 (pc' := 17) (L' := [some (.int a0)]) (S' := [.int 1]) (w' := w) rfl ?_
      exact tm_r rfl ⟨_, rfl, by decide, hs⟩
set_option maxHeartbeats 4000000 in
set_option maxRecDepth 100000 in
theorem tx_Tx_is_8 {d : Nat} {E : Int32 → MW → Prop} {Q : Int32 → MW → Prop} (n : Nat) : ∀ (x8_3 : Int32) (x8_4 : Int64)  (z1 : Option Value) (z2 : Option Value) (w : MW), q_Tx_is_8  E Q n x8_3 x8_4 w → (∀ (e8_3 : Int32)  (v1 : Option Value) (v2 : Option Value) (v4 : Option Value) (v5 : Option Value) (w : MW), E e8_3 w → Tm (d + 0) 307 54 [some (.ref 129), v1, v2, some (.int e8_3), v4, v5] [] w (RZ Q)) → Tm (d + 0) 307 8 [some (.ref 129), z1, z2, some (.int x8_3), some (.long x8_4), none] [] w (RZ Q) := by
  induction n with
  | zero => intro x8_3 x8_4 z1 z2 w hs; rw [q_Tx_is_8.eq_1] at hs; exact hs.elim
  | succ n ih =>
    intro x8_3 x8_4 z1 z2 w hs hE
    rw [q_Tx_is_8.eq_2] at hs
    refine tm_go 3 (pc' := 12) (L' := [some (.ref 129), z1, z2, some (.int x8_3), some (.long x8_4), none]) (S' := [.int (lg_cmp x8_4 (0 : Int64))]) (w' := w) rfl ?_
    refine tm_i (p1 := 54) (p2 := 15) rfl (fun h1 => ?_) (fun h1 => ?_)
    · replace hs := hs.1 h1
      exact hE _ _ _ _ _ _ hs
    · replace hs := hs.2 h1
      refine tm_go 3 (pc' := 20) (L' := [some (.ref 129), z1, z2, some (.int x8_3), some (.long x8_4), none]) (S' := [.int (w.1 129 6), .int x8_3]) (w' := w) rfl ?_
      refine tm_i (p1 := 39) (p2 := 23) rfl (fun h2 => ?_) (fun h2 => ?_)
      · replace hs := hs.1 h2
        refine tm_go 1 (pc' := 40) (L' := [some (.ref 129), z1, z2, some (.int x8_3), some (.long x8_4), none]) (S' := [.int 0]) (w' := w) rfl ?_
        exact tm_r rfl ⟨_, rfl, by decide, hs⟩
      · replace hs := hs.2 h2
        refine tm_go 3 (pc' := 28) (L' := [some (.ref 129), z1, z2, some (.int x8_3), some (.long x8_4), none]) (S' := [.int x8_3, .ref 130]) (w' := w) rfl ?_
        obtain ⟨b3, hs⟩ := hs
        refine tm_k (pc' := 29) (L' := [some (.ref 129), z1, z2, some (.int x8_3), some (.long x8_4), none]) (S' := [.int (w.1 130 x8_3.toInt.toNat)]) (w' := w) rfl b3 ?_
        refine tm_go 4 (pc' := 36) (L' := [some (.ref 129), z1, z2, some (.int x8_3), some (.long x8_4), none]) (S' := [.int (Int64.toInt32 (x8_4 &&& (255 : Int64))), .int (w.1 130 x8_3.toInt.toNat)]) (w' := w) rfl ?_
        refine tm_i (p1 := 41) (p2 := 39) rfl (fun h4 => ?_) (fun h4 => ?_)
        · replace hs := hs.1 h4
          refine tm_go 6 (pc' := 8) (L' := [some (.ref 129), z1, (ksl z2), some (.int (x8_3 + (1 : Int32))), some (.long ((x8_4.toUInt64 >>> ((8 : Int32).toInt64.toUInt64 &&& Int64.toUInt64 63)).toInt64)), none]) (S' := []) (w' := w) rfl ?_
          exact ih _ _ _ _ _ hs hE
        · replace hs := hs.2 h4
          refine tm_go 1 (pc' := 40) (L' := [some (.ref 129), z1, z2, some (.int x8_3), some (.long x8_4), none]) (S' := [.int 0]) (w' := w) rfl ?_
          exact tm_r rfl ⟨_, rfl, by decide, hs⟩
set_option maxHeartbeats 4000000 in
set_option maxRecDepth 100000 in
theorem dm_Tx_is {d : Nat} {w : MW} {a0 : Int64} {Q : Int32 → MW → Prop} (hs : p_Tx_is w a0 Q) : Tc (d + 0) 307 [.ref 129, .long a0] w (RZ Q) := by
  unfold p_Tx_is at hs
  refine tm_go 5 (pc' := 8) (L' := [some (.ref 129), some (.long a0), none, some (.int (w.1 129 5)), some (.long a0), none]) (S' := []) (w' := w) rfl ?_
  refine tx_Tx_is_8 FU _ _ _ _ _ hs (fun e8_3_5 z5_1 z5_2 z5_4 z5_5 w5 hs => ?_)
  refine tm_go 3 (pc' := 59) (L' := [some (.ref 129), z5_1, z5_2, some (.int e8_3_5), z5_4, z5_5]) (S' := [.int (w5.1 129 6), .int e8_3_5]) (w' := w5) rfl ?_
  refine tm_i (p1 := 66) (p2 := 62) rfl (fun h6 => ?_) (fun h6 => ?_)
  · replace hs := hs.1 h6
    refine tm_go 1 (pc' := 67) (L' := [some (.ref 129), z5_1, z5_2, some (.int e8_3_5), z5_4, z5_5]) (S' := [.int 0]) (w' := w5) rfl ?_
    exact tm_r rfl ⟨_, rfl, by decide, hs⟩
  · replace hs := hs.2 h6
    refine tm_go 2 (pc' := 67) (L' := [some (.ref 129), z5_1, z5_2, some (.int e8_3_5), z5_4, z5_5]) (S' := [.int 1]) (w' := w5) rfl ?_
    exact tm_r rfl ⟨_, rfl, by decide, hs⟩
