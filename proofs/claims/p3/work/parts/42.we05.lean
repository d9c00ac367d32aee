set_option maxHeartbeats 4000000 in
set_option maxRecDepth 100000 in
theorem tx_St_forgetCleanings_2 {d : Nat} {x2_1 : Int32} {E : MW → Prop} {Q : MW → Prop} (n : Nat) : ∀ (x2_2 : Int32)   (w : MW), q_St_forgetCleanings_2 x2_1 E Q n x2_2 w → (∀  (v0 : Option Value) (v1 : Option Value) (v2 : Option Value) (w : MW), E  w → Tm (d + 0) 247 25 [v0, v1, v2] [] w (RV Q)) → Tm (d + 0) 247 2 [some (.ref 7), some (.int x2_1), some (.int x2_2)] [] w (RV Q) := by
  induction n with
  | zero => intro x2_2  w hs; rw [q_St_forgetCleanings_2.eq_1] at hs; exact hs.elim
  | succ n ih =>
    intro x2_2  w hs hE
    rw [q_St_forgetCleanings_2.eq_2] at hs
    refine tm_go 2 (pc' := 4) (L' := [some (.ref 7), some (.int x2_1), some (.int x2_2)]) (S' := [.int 5, .int x2_2]) (w' := w) rfl ?_
    refine tm_i (p1 := 25) (p2 := 7) rfl (fun h1 => ?_) (fun h1 => ?_)
    · replace hs := hs.1 h1
      exact hE _ _ _ _ hs
    · replace hs := hs.2 h1
      refine tm_go 8 (pc' := 18) (L' := [some (.ref 7), some (.int x2_1), some (.int x2_2)]) (S' := [.int (-1), .int ((x2_1 * (6 : Int32)) + x2_2), .ref 23]) (w' := w) rfl ?_
      obtain ⟨b2, hs⟩ := hs
      refine tm_k (pc' := 19) (L' := [some (.ref 7), some (.int x2_1), some (.int x2_2)]) (S' := []) (w' := (sI w 23 (((x2_1 * (6 : Int32)) + x2_2).toInt.toNat) (-1))) rfl b2 ?_
      refine tm_go 2 (pc' := 2) (L' := [some (.ref 7), some (.int x2_1), some (.int (x2_2 + (1 : Int32)))]) (S' := []) (w' := (sI w 23 (((x2_1 * (6 : Int32)) + x2_2).toInt.toNat) (-1))) rfl ?_
      exact ih _ _ hs hE
set_option maxHeartbeats 4000000 in
set_option maxRecDepth 100000 in
theorem dm_St_forgetCleanings {d : Nat} {w : MW} {a0 : Int32} {Q : MW → Prop} (hs : p_St_forgetCleanings w a0 Q) : Tc (d + 0) 247 [.ref 7, .int a0] w (RV Q) := by
  unfold p_St_forgetCleanings at hs
  refine tm_go 2 (pc' := 2) (L' := [some (.ref 7), some (.int a0), some (.int 1)]) (S' := []) (w' := w) rfl ?_
  refine tx_St_forgetCleanings_2 FU _ _ hs (fun  z3_0 z3_1 z3_2 w3 hs => ?_)
  exact tm_r rfl ⟨rfl, hs⟩
set_option maxHeartbeats 4000000 in
set_option maxRecDepth 100000 in
theorem tx_St_arrive_14 {d : Nat} {y14_1 : Int32} {y14_2 : Int32} {y14_3 : Int32}  {w : MW} {Q : MW → Prop} (hs : q_St_arrive_14 y14_1 y14_2 y14_3 w Q) : Tm (d + 1) 248 14 [some (.ref 7), some (.int y14_1), some (.int y14_2), some (.int y14_3)] [] w (RV Q) := by
  unfold q_St_arrive_14 at hs
  refine tm_go 4 (pc' := 20) (L' := [some (.ref 7), some (.int y14_1), some (.int y14_2), some (.int y14_3)]) (S' := [.int y14_2, .int y14_1, .ref 17]) (w' := w) rfl ?_
  obtain ⟨b3, hs⟩ := hs
  refine tm_k (pc' := 21) (L' := [some (.ref 7), some (.int y14_1), some (.int y14_2), some (.int y14_3)]) (S' := []) (w' := (sI w 17 y14_1.toInt.toNat y14_2)) rfl b3 ?_
  refine tm_go 4 (pc' := 27) (L' := [some (.ref 7), some (.int y14_1), some (.int y14_2), some (.int y14_3)]) (S' := [.int y14_1, .ref 18, .int y14_1, .ref 18]) (w' := (sI w 17 y14_1.toInt.toNat y14_2)) rfl ?_
  obtain ⟨b4, hs⟩ := hs
  refine tm_k (pc' := 28) (L' := [some (.ref 7), some (.int y14_1), some (.int y14_2), some (.int y14_3)]) (S' := [.int (w.1 18 y14_1.toInt.toNat), .int y14_1, .ref 18]) (w' := (sI w 17 y14_1.toInt.toNat y14_2)) rfl b4 ?_
  refine tm_go 2 (pc' := 30) (L' := [some (.ref 7), some (.int y14_1), some (.int y14_2), some (.int y14_3)]) (S' := [.int ((w.1 18 y14_1.toInt.toNat) + y14_3), .int y14_1, .ref 18]) (w' := (sI w 17 y14_1.toInt.toNat y14_2)) rfl ?_
  obtain ⟨b5, hs⟩ := hs
  refine tm_k (pc' := 31) (L' := [some (.ref 7), some (.int y14_1), some (.int y14_2), some (.int y14_3)]) (S' := []) (w' := (sI (sI w 17 y14_1.toInt.toNat y14_2) 18 y14_1.toInt.toNat ((w.1 18 y14_1.toInt.toNat) + y14_3))) rfl b5 ?_
  exact tm_r rfl ⟨rfl, hs⟩
set_option maxHeartbeats 4000000 in
set_option maxRecDepth 100000 in
theorem dm_St_arrive {d : Nat} {w : MW} {a0 : Int32} {b0 : Int32} {c0 : Int32} {Q : MW → Prop} (hs : p_St_arrive w a0 b0 c0 Q) : Tc (d + 1) 248 [.ref 7, .int a0, .int b0, .int c0] w (RV Q) := by
  unfold p_St_arrive at hs
  refine tm_go 3 (pc' := 5) (L' := [some (.ref 7), some (.int a0), some (.int b0), some (.int c0)]) (S' := [.int a0, .ref 17]) (w' := w) rfl ?_
  obtain ⟨b1, hs⟩ := hs
  refine tm_k (pc' := 6) (L' := [some (.ref 7), some (.int a0), some (.int b0), some (.int c0)]) (S' := [.int (w.1 17 a0.toInt.toNat)]) (w' := w) rfl b1 ?_
  refine tm_i (p1 := 14) (p2 := 9) rfl (fun h2 => ?_) (fun h2 => ?_)
  · replace hs := hs.1 h2
    exact tx_St_arrive_14 hs 
  · replace hs := hs.2 h2
    refine tm_go 2 (pc' := 11) (L' := [some (.ref 7), some (.int a0), some (.int b0), some (.int c0)]) (S' := [.int a0, .ref 7]) (w' := w) rfl ?_
    refine tm_c rfl (Nat.le_of_ble_eq_true rfl) (dm_St_forgetCleanings (d := d + 0) hs) (fun v w6 hq => ?_)
    obtain ⟨rfl, hs⟩ := hq
    exact tx_St_arrive_14 hs 
set_option maxHeartbeats 4000000 in
set_option maxRecDepth 100000 in
theorem dm_St_isTank {d : Nat} {w : MW} {a0 : Int32} {Q : Int32 → MW → Prop} (hs : p_St_isTank w a0 Q) : Tc (d + 0) 238 [.ref 7, .int a0] w (RZ Q) := by
  unfold p_St_isTank at hs
  refine tm_go 1 (pc' := 1) (L' := [some (.ref 7), some (.int a0)]) (S' := [.int a0]) (w' := w) rfl ?_
  refine tm_i (p1 := 33) (p2 := 4) rfl (fun h1 => ?_) (fun h1 => ?_)
  · replace hs := hs.1 h1
    refine tm_go 1 (pc' := 34) (L' := [some (.ref 7), some (.int a0)]) (S' := [.int 0]) (w' := w) rfl ?_
    exact tm_r rfl ⟨_, rfl, by decide, hs⟩
  · replace hs := hs.2 h1
    refine tm_go 2 (pc' := 6) (L' := [some (.ref 7), some (.int a0)]) (S' := [.ref 7, .int a0]) (w' := w) rfl ?_
    obtain ⟨b2, hs⟩ := hs
    refine tm_g (pc' := 9) (k := 7) (j := 0) rfl b2 ?_
    refine tm_go 1 (pc' := 12) (L' := [some (.ref 7), some (.int a0)]) (S' := [.int (w.1 8 0), .int a0]) (w' := w) rfl ?_
    refine tm_i (p1 := 33) (p2 := 15) rfl (fun h3 => ?_) (fun h3 => ?_)
    · replace hs := hs.1 h3
      refine tm_go 1 (pc' := 34) (L' := [some (.ref 7), some (.int a0)]) (S' := [.int 0]) (w' := w) rfl ?_
      exact tm_r rfl ⟨_, rfl, by decide, hs⟩
    · replace hs := hs.2 h3
      refine tm_go 1 (pc' := 16) (L' := [some (.ref 7), some (.int a0)]) (S' := [.ref 7]) (w' := w) rfl ?_
      obtain ⟨b4, hs⟩ := hs
      refine tm_g (pc' := 19) (k := 7) (j := 0) rfl b4 ?_
      refine tm_go 2 (pc' := 23) (L' := [some (.ref 7), some (.int a0)]) (S' := [.int a0, .ref 9]) (w' := w) rfl ?_
      obtain ⟨b5, hs⟩ := hs
      refine tm_k (pc' := 24) (L' := [some (.ref 7), some (.int a0)]) (S' := [.int (w.1 9 a0.toInt.toNat)]) (w' := w) rfl b5 ?_
      refine tm_go 1 (pc' := 26) (L' := [some (.ref 7), some (.int a0)]) (S' := [.int 9, .int (w.1 9 a0.toInt.toNat)]) (w' := w) rfl ?_
      refine tm_i (p1 := 33) (p2 := 29) rfl (fun h6 => ?_) (fun h6 => ?_)
      · replace hs := hs.1 h6
        refine tm_go 1 (pc' := 34) (L' := [some (.ref 7), some (.int a0)]) (S' := [.int 0]) (w' := w) rfl ?_
        exact tm_r rfl ⟨_, rfl, by decide, hs⟩
      · replace hs := hs.2 h6
        refine tm_go 2 (pc' := 34) (L' := [some (.ref 7), some (.int a0)]) (S' := [.int 1]) (w' := w) rfl ?_
        exact tm_r rfl ⟨_, rfl, by decide, hs⟩
set_option maxHeartbeats 4000000 in
set_option maxRecDepth 100000 in
theorem tx_St_heldLevel_4 {d : Nat} {x4_1 : Int32} {E : MW → Prop} {Q : Int32 → MW → Prop} (n : Nat) : ∀ (x4_2 : Int32) (x4_3 : Int32)   (w : MW), q_St_heldLevel_4 x4_1 E Q n x4_2 x4_3 w → (∀  (v0 : Option Value) (v1 : Option Value) (v2 : Option Value) (v3 : Option Value) (w : MW), E  w → Tm (d + 1) 245 52 [v0, v1, v2, v3] [] w (RI Q)) → Tm (d + 1) 245 4 [some (.ref 7), some (.int x4_1), some (.int x4_2), some (.int x4_3)] [] w (RI Q) := by
  induction n with
  | zero => intro x4_2 x4_3  w hs; rw [q_St_heldLevel_4.eq_1] at hs; exact hs.elim
  | succ n ih =>
    intro x4_2 x4_3  w hs hE
    rw [q_St_heldLevel_4.eq_2] at hs
    refine tm_go 2 (pc' := 6) (L' := [some (.ref 7), some (.int x4_1), some (.int x4_2), some (.int x4_3)]) (S' := [.int 1, .int x4_3]) (w' := w) rfl ?_
    refine tm_i (p1 := 52) (p2 := 9) rfl (fun h1 => ?_) (fun h1 => ?_)
    · replace hs := hs.1 h1
      exact hE _ _ _ _ _ hs
    · replace hs := hs.2 h1
      refine tm_go 8 (pc' := 20) (L' := [some (.ref 7), some (.int x4_1), some (.int x4_2), some (.int x4_3)]) (S' := [.int ((x4_1 * (6 : Int32)) + x4_3), .ref 23, .int x4_2]) (w' := w) rfl ?_
      obtain ⟨b2, hs⟩ := hs
      refine tm_k (pc' := 21) (L' := [some (.ref 7), some (.int x4_1), some (.int x4_2), some (.int x4_3)]) (S' := [.int (w.1 23 (((x4_1 * (6 : Int32)) + x4_3).toInt.toNat)), .int x4_2]) (w' := w) rfl b2 ?_
      refine tm_c rfl (Nat.le_of_ble_eq_true rfl) (dm_Ma_max (d := d + 0) hs) (fun v w3 hq => ?_)
      obtain ⟨r3, rfl, hs⟩ := hq
      refine tm_go 2 (pc' := 26) (L' := [some (.ref 7), some (.int x4_1), some (.int r3), some (.int x4_3)]) (S' := [.int r3]) (w' := w3) rfl ?_
      refine tm_i (p1 := 46) (p2 := 29) rfl (fun h4 => ?_) (fun h4 => ?_)
      · replace hs := hs.1 h4
        refine tm_go 2 (pc' := 4) (L' := [some (.ref 7), some (.int x4_1), some (.int r3), some (.int (x4_3 + ((-1) : Int32)))]) (S' := []) (w' := w3) rfl ?_
        exact ih _ _ _ hs hE
      · replace hs := hs.2 h4
        refine tm_go 7 (pc' := 40) (L' := [some (.ref 7), some (.int x4_1), some (.int r3), some (.int x4_3)]) (S' := [.int x4_3, .ref 25, .int ((w3.1 7 1) - r3)]) (w' := w3) rfl ?_
        obtain ⟨b5, hs⟩ := hs
        refine tm_k (pc' := 41) (L' := [some (.ref 7), some (.int x4_1), some (.int r3), some (.int x4_3)]) (S' := [.int (w3.1 25 x4_3.toInt.toNat), .int ((w3.1 7 1) - r3)]) (w' := w3) rfl b5 ?_
        refine tm_i (p1 := 46) (p2 := 44) rfl (fun h6 => ?_) (fun h6 => ?_)
        · replace hs := hs.1 h6
          refine tm_go 2 (pc' := 4) (L' := [some (.ref 7), some (.int x4_1), some (.int r3), some (.int (x4_3 + ((-1) : Int32)))]) (S' := []) (w' := w3) rfl ?_
          exact ih _ _ _ hs hE
        · replace hs := hs.2 h6
          refine tm_go 1 (pc' := 45) (L' := [some (.ref 7), some (.int x4_1), some (.int r3), some (.int x4_3)]) (S' := [.int x4_3]) (w' := w3) rfl ?_
          exact tm_r rfl ⟨_, rfl, hs⟩
set_option maxHeartbeats 4000000 in
set_option maxRecDepth 100000 in
theorem dm_St_heldLevel {d : Nat} {w : MW} {a0 : Int32} {Q : Int32 → MW → Prop} (hs : p_St_heldLevel w a0 Q) : Tc (d + 1) 245 [.ref 7, .int a0] w (RI Q) := by
  unfold p_St_heldLevel at hs
  refine tm_go 4 (pc' := 4) (L' := [some (.ref 7), some (.int a0), some (.int (-1)), some (.int 5)]) (S' := []) (w' := w) rfl ?_
  refine tx_St_heldLevel_4 FU _ _ _ hs (fun  z7_0 z7_1 z7_2 z7_3 w7 hs => ?_)
  refine tm_go 1 (pc' := 53) (L' := [z7_0, z7_1, z7_2, z7_3]) (S' := [.int 0]) (w' := w7) rfl ?_
  exact tm_r rfl ⟨_, rfl, hs⟩
set_option maxHeartbeats 4000000 in
set_option maxRecDepth 100000 in
theorem dm_St_mayCome {d : Nat} {w : MW} {a0 : Int32} {b0 : Int32} {Q : Int32 → MW → Prop} (hs : p_St_mayCome w a0 b0 Q) : Tc (d + 2) 243 [.ref 7, .int a0, .int b0] w (RZ Q) := by
  unfold p_St_mayCome at hs
  refine tm_go 3 (pc' := 5) (L' := [some (.ref 7), some (.int a0), some (.int b0), none]) (S' := [.int a0, .ref 17]) (w' := w) rfl ?_
  obtain ⟨b1, hs⟩ := hs
  refine tm_k (pc' := 6) (L' := [some (.ref 7), some (.int a0), some (.int b0), none]) (S' := [.int (w.1 17 a0.toInt.toNat)]) (w' := w) rfl b1 ?_
  refine tm_i (p1 := 25) (p2 := 9) rfl (fun h2 => ?_) (fun h2 => ?_)
  · replace hs := hs.1 h2
    refine tm_go 3 (pc' := 30) (L' := [some (.ref 7), some (.int a0), some (.int b0), none]) (S' := [.int a0, .ref 19]) (w' := w) rfl ?_
    obtain ⟨b3, hs⟩ := hs
    refine tm_k (pc' := 31) (L' := [some (.ref 7), some (.int a0), some (.int b0), none]) (S' := [.int (w.1 19 a0.toInt.toNat)]) (w' := w) rfl b3 ?_
    refine tm_i (p1 := 36) (p2 := 34) rfl (fun h4 => ?_) (fun h4 => ?_)
    · replace hs := hs.1 h4
      refine tm_go 5 (pc' := 45) (L' := [some (.ref 7), some (.int a0), some (.int b0), none]) (S' := [.int a0, .ref 19, .ref 24]) (w' := w) rfl ?_
      obtain ⟨b5, hs⟩ := hs
      refine tm_k (pc' := 46) (L' := [some (.ref 7), some (.int a0), some (.int b0), none]) (S' := [.int (w.1 19 a0.toInt.toNat), .ref 24]) (w' := w) rfl b5 ?_
      refine tm_go 4 (pc' := 51) (L' := [some (.ref 7), some (.int a0), some (.int b0), none]) (S' := [.int (((w.1 19 a0.toInt.toNat) * (15 : Int32)) + b0), .ref 24]) (w' := w) rfl ?_
      obtain ⟨b6, hs⟩ := hs
      refine tm_k (pc' := 52) (L' := [some (.ref 7), some (.int a0), some (.int b0), none]) (S' := [.int (w.1 24 ((((w.1 19 a0.toInt.toNat) * (15 : Int32)) + b0).toInt.toNat))]) (w' := w) rfl b6 ?_
      refine tm_go 2 (pc' := 54) (L' := [some (.ref 7), some (.int a0), some (.int b0), some (.int (w.1 24 ((((w.1 19 a0.toInt.toNat) * (15 : Int32)) + b0).toInt.toNat)))]) (S' := [.int (w.1 24 ((((w.1 19 a0.toInt.toNat) * (15 : Int32)) + b0).toInt.toNat))]) (w' := w) rfl ?_
      refine tm_i (p1 := 66) (p2 := 57) rfl (fun h7 => ?_) (fun h7 => ?_)
      · replace hs := hs.1 h7
        refine tm_go 2 (pc' := 71) (L' := [some (.ref 7), some (.int a0), some (.int b0), some (.int (w.1 24 ((((w.1 19 a0.toInt.toNat) * (15 : Int32)) + b0).toInt.toNat)))]) (S' := [.int 1]) (w' := w) rfl ?_
        exact tm_r rfl ⟨_, rfl, by decide, hs⟩
      · replace hs := hs.2 h7
        refine tm_go 2 (pc' := 59) (L' := [some (.ref 7), some (.int a0), some (.int b0), some (.int (w.1 24 ((((w.1 19 a0.toInt.toNat) * (15 : Int32)) + b0).toInt.toNat)))]) (S' := [.int a0, .ref 7]) (w' := w) rfl ?_
        refine tm_c rfl (Nat.le_of_ble_eq_true rfl) (dm_St_heldLevel (d := d + 0) hs) (fun v w8 hq => ?_)
        obtain ⟨r8, rfl, hs⟩ := hq
        refine tm_go 1 (pc' := 63) (L' := [some (.ref 7), some (.int a0), some (.int b0), some (.int (w.1 24 ((((w.1 19 a0.toInt.toNat) * (15 : Int32)) + b0).toInt.toNat)))]) (S' := [.int (w.1 24 ((((w.1 19 a0.toInt.toNat) * (15 : Int32)) + b0).toInt.toNat)), .int r8]) (w' := w8) rfl ?_
        refine tm_i (p1 := 70) (p2 := 66) rfl (fun h9 => ?_) (fun h9 => ?_)
        · replace hs := hs.1 h9
          refine tm_go 1 (pc' := 71) (L' := [some (.ref 7), some (.int a0), some (.int b0), some (.int (w.1 24 ((((w.1 19 a0.toInt.toNat) * (15 : Int32)) + b0).toInt.toNat)))]) (S' := [.int 0]) (w' := w8) rfl ?_
          exact tm_r rfl ⟨_, rfl, by decide, hs⟩
        · replace hs := hs.2 h9
          refine tm_go 2 (pc' := 71) (L' := [some (.ref 7), some (.int a0), some (.int b0), some (.int (w.1 24 ((((w.1 19 a0.toInt.toNat) * (15 : Int32)) + b0).toInt.toNat)))]) (S' := [.int 1]) (w' := w8) rfl ?_
          exact tm_r rfl ⟨_, rfl, by decide, hs⟩
    · replace hs := hs.2 h4
      refine tm_go 1 (pc' := 35) (L' := [some (.ref 7), some (.int a0), some (.int b0), none]) (S' := [.int 1]) (w' := w) rfl ?_
      exact tm_r rfl ⟨_, rfl, by decide, hs⟩
  · replace hs := hs.2 h2
    refine tm_go 3 (pc' := 14) (L' := [some (.ref 7), some (.int a0), some (.int b0), none]) (S' := [.int a0, .ref 17]) (w' := w) rfl ?_
    obtain ⟨b10, hs⟩ := hs
    refine tm_k (pc' := 15) (L' := [some (.ref 7), some (.int a0), some (.int b0), none]) (S' := [.int (w.1 17 a0.toInt.toNat)]) (w' := w) rfl b10 ?_
    refine tm_go 1 (pc' := 16) (L' := [some (.ref 7), some (.int a0), some (.int b0), none]) (S' := [.int b0, .int (w.1 17 a0.toInt.toNat)]) (w' := w) rfl ?_
    refine tm_i (p1 := 23) (p2 := 19) rfl (fun h11 => ?_) (fun h11 => ?_)
    · replace hs := hs.1 h11
      refine tm_go 1 (pc' := 24) (L' := [some (.ref 7), some (.int a0), some (.int b0), none]) (S' := [.int 0]) (w' := w) rfl ?_
      exact tm_r rfl ⟨_, rfl, by decide, hs⟩
    · replace hs := hs.2 h11
      refine tm_go 2 (pc' := 24) (L' := [some (.ref 7), some (.int a0), some (.int b0), none]) (S' := [.int 1]) (w' := w) rfl ?_
      exact tm_r rfl ⟨_, rfl, by decide, hs⟩
set_option maxHeartbeats 4000000 in
set_option maxRecDepth 100000 in
theorem dm_Bh_fill {d : Nat} {w : MW} {a0 : Int32} {b0 : Int32} {c0 : Int64} {Q : Int32 → MW → Prop} (hs : p_Bh_fill w a0 b0 c0 Q) : Tc (d + 4) 5 [.ref 0, .int a0, .int b0, .long c0] w (RZ Q) := by
  unfold p_Bh_fill at hs
  refine tm_go 3 (pc' := 5) (L' := [some (.ref 0), some (.int a0), some (.int b0), some (.long c0), none, none, none]) (S' := [.int a0, .ref 7]) (w' := w) rfl ?_
  refine tm_c rfl (Nat.le_of_ble_eq_true rfl) (dm_St_isTank (d := d + 3) hs) (fun v w1 hq => ?_)
  obtain ⟨r1, rfl, hz1, hs⟩ := hq
  refine tm_i (p1 := 32) (p2 := 11) rfl (fun h2 => ?_) (fun h2 => ?_)
  · replace hs := hs.1 h2
    refine tm_go 1 (pc' := 33) (L' := [some (.ref 0), some (.int a0), some (.int b0), some (.long c0), none, none, none]) (S' := [.int 0]) (w' := w1) rfl ?_
    exact tm_r rfl ⟨_, rfl, by decide, hs⟩
  · replace hs := hs.2 h2
    refine tm_go 1 (pc' := 12) (L' := [some (.ref 0), some (.int a0), some (.int b0), some (.long c0), none, none, none]) (S' := [.int b0]) (w' := w1) rfl ?_
    refine tm_c rfl (Nat.le_of_ble_eq_true rfl) (dm_Bh_isLiquid (d := d + 3) hs) (fun v w3 hq => ?_)
    obtain ⟨r3, rfl, hz3, hs⟩ := hq
    refine tm_i (p1 := 32) (p2 := 18) rfl (fun h4 => ?_) (fun h4 => ?_)
    · replace hs := hs.1 h4
      refine tm_go 1 (pc' := 33) (L' := [some (.ref 0), some (.int a0), some (.int b0), some (.long c0), none, none, none]) (S' := [.int 0]) (w' := w3) rfl ?_
      exact tm_r rfl ⟨_, rfl, by decide, hs⟩
    · replace hs := hs.2 h4
      refine tm_go 3 (pc' := 21) (L' := [some (.ref 0), some (.int a0), some (.int b0), some (.long c0), none, none, none]) (S' := [.int (lg_cmp c0 (1 : Int64))]) (w' := w3) rfl ?_
      refine tm_i (p1 := 32) (p2 := 24) rfl (fun h5 => ?_) (fun h5 => ?_)
      · replace hs := hs.1 h5
        refine tm_go 1 (pc' := 33) (L' := [some (.ref 0), some (.int a0), some (.int b0), some (.long c0), none, none, none]) (S' := [.int 0]) (w' := w3) rfl ?_
        exact tm_r rfl ⟨_, rfl, by decide, hs⟩
      · replace hs := hs.2 h5
        refine tm_go 3 (pc' := 29) (L' := [some (.ref 0), some (.int a0), some (.int b0), some (.long c0), none, none, none]) (S' := [.int (lg_cmp c0 (100000 : Int64))]) (w' := w3) rfl ?_
        refine tm_i (p1 := 34) (p2 := 32) rfl (fun h6 => ?_) (fun h6 => ?_)
        · replace hs := hs.1 h6
          refine tm_go 3 (pc' := 39) (L' := [some (.ref 0), some (.int a0), some (.int b0), some (.long c0), none, none, none]) (S' := [.ref 7, .long c0]) (w' := w3) rfl ?_
          obtain ⟨b7, hs⟩ := hs
          refine tm_g (pc' := 42) (k := 7) (j := 0) rfl b7 ?_
          refine tm_go 2 (pc' := 46) (L' := [some (.ref 0), some (.int a0), some (.int b0), some (.long c0), none, none, none]) (S' := [.int a0, .ref 10, .long c0]) (w' := w3) rfl ?_
          obtain ⟨b8, hs⟩ := hs
          refine tm_k (pc' := 47) (L' := [some (.ref 0), some (.int a0), some (.int b0), some (.long c0), none, none, none]) (S' := [.int (w3.1 10 a0.toInt.toNat), .long c0]) (w' := w3) rfl b8 ?_
          refine tm_go 4 (pc' := 55) (L' := [some (.ref 0), some (.int a0), some (.int b0), some (.long c0), none, none, none]) (S' := [.int a0, .ref 18, .int (w3.1 10 a0.toInt.toNat), .long c0]) (w' := w3) rfl ?_
          obtain ⟨b9, hs⟩ := hs
          refine tm_k (pc' := 56) (L' := [some (.ref 0), some (.int a0), some (.int b0), some (.long c0), none, none, none]) (S' := [.int (w3.1 18 a0.toInt.toNat), .int (w3.1 10 a0.toInt.toNat), .long c0]) (w' := w3) rfl b9 ?_
          refine tm_go 3 (pc' := 59) (L' := [some (.ref 0), some (.int a0), some (.int b0), some (.long c0), none, none, none]) (S' := [.int (lg_cmp c0 (Int32.toInt64 ((w3.1 10 a0.toInt.toNat) - (w3.1 18 a0.toInt.toNat))))]) (w' := w3) rfl ?_
          refine tm_i (p1 := 74) (p2 := 62) rfl (fun h10 => ?_) (fun h10 => ?_)
          · replace hs := hs.1 h10
            refine tm_go 1 (pc' := 75) (L' := [some (.ref 0), some (.int a0), some (.int b0), some (.long c0), none, none, none]) (S' := [.int 0]) (w' := w3) rfl ?_
            exact tm_r rfl ⟨_, rfl, by decide, hs⟩
          · replace hs := hs.2 h10
            refine tm_go 4 (pc' := 68) (L' := [some (.ref 0), some (.int a0), some (.int b0), some (.long c0), none, none, none]) (S' := [.int b0, .int a0, .ref 7]) (w' := w3) rfl ?_
            refine tm_c rfl (Nat.le_of_ble_eq_true rfl) (dm_St_mayCome (d := d + 1) hs) (fun v w11 hq => ?_)
            obtain ⟨r11, rfl, hz11, hs⟩ := hq
            refine tm_i (p1 := 76) (p2 := 74) rfl (fun h12 => ?_) (fun h12 => ?_)
            · replace hs := hs.1 h12
              refine tm_go 4 (pc' := 84) (L' := [some (.ref 0), some (.int a0), some (.int b0), some (.long c0), none, none, none]) (S' := [.int a0, .ref 17]) (w' := w11) rfl ?_
              obtain ⟨b13, hs⟩ := hs
              refine tm_k (pc' := 85) (L' := [some (.ref 0), some (.int a0), some (.int b0), some (.long c0), none, none, none]) (S' := [.int (w11.1 17 a0.toInt.toNat)]) (w' := w11) rfl b13 ?_
              refine tm_go 6 (pc' := 96) (L' := [some (.ref 0), some (.int a0), some (.int b0), some (.long c0), none, some (.int (w11.1 17 a0.toInt.toNat)), none]) (S' := [.int b0, .int a0, .ref 17]) (w' := w11) rfl ?_
              obtain ⟨b14, hs⟩ := hs
              refine tm_k (pc' := 97) (L' := [some (.ref 0), some (.int a0), some (.int b0), some (.long c0), none, some (.int (w11.1 17 a0.toInt.toNat)), none]) (S' := []) (w' := (sI w11 17 a0.toInt.toNat b0)) rfl b14 ?_
              refine tm_go 2 (pc' := 101) (L' := [some (.ref 0), some (.int a0), some (.int b0), some (.long c0), none, some (.int (w11.1 17 a0.toInt.toNat)), none]) (S' := [.ref 42]) (w' := (sI w11 17 a0.toInt.toNat b0)) rfl ?_
              refine tm_c rfl (Nat.le_of_ble_eq_true rfl) (dm_Sf_isSafe (d := d + 0) hs) (fun v w15 hq => ?_)
              obtain ⟨r15, rfl, hz15, hs⟩ := hq
              refine tm_go 6 (pc' := 116) (L' := [some (.ref 0), some (.int a0), some (.int b0), some (.long c0), none, some (.int (w11.1 17 a0.toInt.toNat)), some (.int r15)]) (S' := [.int (w11.1 17 a0.toInt.toNat), .int a0, .ref 17]) (w' := w15) rfl ?_
              obtain ⟨b16, hs⟩ := hs
              refine tm_k (pc' := 117) (L' := [some (.ref 0), some (.int a0), some (.int b0), some (.long c0), none, some (.int (w11.1 17 a0.toInt.toNat)), some (.int r15)]) (S' := []) (w' := (sI w15 17 a0.toInt.toNat (w11.1 17 a0.toInt.toNat))) rfl b16 ?_
              refine tm_go 1 (pc' := 119) (L' := [some (.ref 0), some (.int a0), some (.int b0), some (.long c0), none, some (.int (w11.1 17 a0.toInt.toNat)), some (.int r15)]) (S' := [.int r15]) (w' := (sI w15 17 a0.toInt.toNat (w11.1 17 a0.toInt.toNat))) rfl ?_
              refine tm_i (p1 := 133) (p2 := 122) rfl (fun h17 => ?_) (fun h17 => ?_)
              · replace hs := hs.1 h17
                refine tm_go 1 (pc' := 135) (L' := [some (.ref 0), some (.int a0), some (.int b0), some (.long c0), none, some (.int (w11.1 17 a0.toInt.toNat)), some (.int r15)]) (S' := [.int r15]) (w' := (sI w15 17 a0.toInt.toNat (w11.1 17 a0.toInt.toNat))) rfl ?_
                exact tm_rk rfl hz15 ⟨_, rfl, hz15, hs⟩
              · replace hs := hs.2 h17
                refine tm_go 6 (pc' := 130) (L' := [some (.ref 0), some (.int a0), some (.int b0), some (.long c0), none, some (.int (w11.1 17 a0.toInt.toNat)), some (.int r15)]) (S' := [.int (Int64.toInt32 c0), .int b0, .int a0, .ref 7]) (w' := (sI w15 17 a0.toInt.toNat (w11.1 17 a0.toInt.toNat))) rfl ?_
                refine tm_c rfl (Nat.le_of_ble_eq_true rfl) (dm_St_arrive (d := d + 2) hs) (fun v w18 hq => ?_)
                obtain ⟨rfl, hs⟩ := hq
                refine tm_go 1 (pc' := 135) (L' := [some (.ref 0), some (.int a0), some (.int b0), some (.long c0), none, some (.int (w11.1 17 a0.toInt.toNat)), some (.int r15)]) (S' := [.int r15]) (w' := w18) rfl ?_
                exact tm_rk rfl hz15 ⟨_, rfl, hz15, hs⟩
            · replace hs := hs.2 h12
              refine tm_go 1 (pc' := 75) (L' := [some (.ref 0), some (.int a0), some (.int b0), some (.long c0), none, none, none]) (S' := [.int 0]) (w' := w11) rfl ?_
              exact tm_r rfl ⟨_, rfl, by decide, hs⟩
        · replace hs := hs.2 h6
          refine tm_go 1 (pc' := 33) (L' := [some (.ref 0), some (.int a0), some (.int b0), some (.long c0), none, none, none]) (S' := [.int 0]) (w' := w3) rfl ?_
          exact tm_r rfl ⟨_, rfl, by decide, hs⟩
set_option maxHeartbeats 4000000 in
set_option maxRecDepth 100000 in
theorem dm_St_mayMeet {d : Nat} {w : MW} {a0 : Int32} {b0 : Int32} {Q : Int32 → MW → Prop} (hs : p_St_mayMeet w a0 b0 Q) : Tc (d + 0) 242 [.ref 7, .int a0, .int b0] w (RZ Q) := by
  unfold p_St_mayMeet at hs
  refine tm_go 3 (pc' := 5) (L' := [some (.ref 7), some (.int a0), some (.int b0)]) (S' := [.int a0, .ref 22]) (w' := w) rfl ?_
  obtain ⟨b1, hs⟩ := hs
  refine tm_k (pc' := 6) (L' := [some (.ref 7), some (.int a0), some (.int b0)]) (S' := [.int (w.1 22 a0.toInt.toNat)]) (w' := w) rfl b1 ?_
  refine tm_go 4 (pc' := 10) (L' := [some (.ref 7), some (.int a0), some (.int b0)]) (S' := [.int (((w.1 22 a0.toInt.toNat) >>> (b0 &&& 31)) &&& (1 : Int32))]) (w' := w) rfl ?_
  refine tm_i (p1 := 17) (p2 := 13) rfl (fun h2 => ?_) (fun h2 => ?_)
  · replace hs := hs.1 h2
    refine tm_go 1 (pc' := 18) (L' := [some (.ref 7), some (.int a0), some (.int b0)]) (S' := [.int 0]) (w' := w) rfl ?_
    exact tm_r rfl ⟨_, rfl, by decide, hs⟩
  · replace hs := hs.2 h2
    refine tm_go 2 (pc' := 18) (L' := [some (.ref 7), some (.int a0), some (.int b0)]) (S' := [.int 1]) (w' := w) rfl ?_
    exact tm_r rfl ⟨_, rfl, by decide, hs⟩
set_option maxHeartbeats 4000000 in
set_option maxRecDepth 100000 in
theorem dm_Bh_may {d : Nat} {w : MW} {a0 : Int32} {b0 : Int32} {Q : Int32 → MW → Prop} (hs : p_Bh_may w a0 b0 Q) : Tc (d + 1) 7 [.ref 0, .int a0, .int b0] w (RZ Q) := by
  unfold p_Bh_may at hs
  refine tm_go 1 (pc' := 1) (L' := [some (.ref 0), some (.int a0), some (.int b0)]) (S' := [.int a0]) (w' := w) rfl ?_
  refine tm_c rfl (Nat.le_of_ble_eq_true rfl) (dm_Bh_isLiquid (d := d + 0) hs) (fun v w1 hq => ?_)
  obtain ⟨r1, rfl, hz1, hs⟩ := hq
  refine tm_i (p1 := 31) (p2 := 7) rfl (fun h2 => ?_) (fun h2 => ?_)
  · replace hs := hs.1 h2
    refine tm_go 1 (pc' := 32) (L' := [some (.ref 0), some (.int a0), some (.int b0)]) (S' := [.int 0]) (w' := w1) rfl ?_
    exact tm_r rfl ⟨_, rfl, by decide, hs⟩
  · replace hs := hs.2 h2
    refine tm_go 1 (pc' := 8) (L' := [some (.ref 0), some (.int a0), some (.int b0)]) (S' := [.int b0]) (w' := w1) rfl ?_
    refine tm_c rfl (Nat.le_of_ble_eq_true rfl) (dm_Bh_isLiquid (d := d + 0) hs) (fun v w3 hq => ?_)
    obtain ⟨r3, rfl, hz3, hs⟩ := hq
    refine tm_i (p1 := 31) (p2 := 14) rfl (fun h4 => ?_) (fun h4 => ?_)
    · replace hs := hs.1 h4
      refine tm_go 1 (pc' := 32) (L' := [some (.ref 0), some (.int a0), some (.int b0)]) (S' := [.int 0]) (w' := w3) rfl ?_
      exact tm_r rfl ⟨_, rfl, by decide, hs⟩
    · replace hs := hs.2 h4
      refine tm_go 2 (pc' := 16) (L' := [some (.ref 0), some (.int a0), some (.int b0)]) (S' := [.int b0, .int a0]) (w' := w3) rfl ?_
      refine tm_i (p1 := 31) (p2 := 19) rfl (fun h5 => ?_) (fun h5 => ?_)
      · replace hs := hs.1 h5
        refine tm_go 1 (pc' := 32) (L' := [some (.ref 0), some (.int a0), some (.int b0)]) (S' := [.int 0]) (w' := w3) rfl ?_
        exact tm_r rfl ⟨_, rfl, by decide, hs⟩
      · replace hs := hs.2 h5
        refine tm_go 4 (pc' := 25) (L' := [some (.ref 0), some (.int a0), some (.int b0)]) (S' := [.int b0, .int a0, .ref 7]) (w' := w3) rfl ?_
        refine tm_c rfl (Nat.le_of_ble_eq_true rfl) (dm_St_mayMeet (d := d + 0) hs) (fun v w6 hq => ?_)
        obtain ⟨r6, rfl, hz6, hs⟩ := hq
        refine tm_i (p1 := 33) (p2 := 31) rfl (fun h7 => ?_) (fun h7 => ?_)
        · replace hs := hs.1 h7
          refine tm_go 5 (pc' := 42) (L' := [some (.ref 0), some (.int a0), some (.int b0)]) (S' := [.int a0, .ref 22, .int a0, .ref 22]) (w' := w6) rfl ?_
          obtain ⟨b8, hs⟩ := hs
          refine tm_k (pc' := 43) (L' := [some (.ref 0), some (.int a0), some (.int b0)]) (S' := [.int (w6.1 22 a0.toInt.toNat), .int a0, .ref 22]) (w' := w6) rfl b8 ?_
          refine tm_go 4 (pc' := 47) (L' := [some (.ref 0), some (.int a0), some (.int b0)]) (S' := [.int ((w6.1 22 a0.toInt.toNat) ||| ((1 : Int32) <<< (b0 &&& 31))), .int a0, .ref 22]) (w' := w6) rfl ?_
          obtain ⟨b9, hs⟩ := hs
          refine tm_k (pc' := 48) (L' := [some (.ref 0), some (.int a0), some (.int b0)]) (S' := []) (w' := (sI w6 22 a0.toInt.toNat ((w6.1 22 a0.toInt.toNat) ||| ((1 : Int32) <<< (b0 &&& 31))))) rfl b9 ?_
          refine tm_go 5 (pc' := 57) (L' := [some (.ref 0), some (.int a0), some (.int b0)]) (S' := [.int b0, .ref 22, .int b0, .ref 22]) (w' := (sI w6 22 a0.toInt.toNat ((w6.1 22 a0.toInt.toNat) ||| ((1 : Int32) <<< (b0 &&& 31))))) rfl ?_
          obtain ⟨b10, hs⟩ := hs
          refine tm_k (pc' := 58) (L' := [some (.ref 0), some (.int a0), some (.int b0)]) (S' := [.int ((sI w6 22 a0.toInt.toNat ((w6.1 22 a0.toInt.toNat) ||| ((1 : Int32) <<< (b0 &&& 31)))).1 22 b0.toInt.toNat), .int b0, .ref 22]) (w' := (sI w6 22 a0.toInt.toNat ((w6.1 22 a0.toInt.toNat) ||| ((1 : Int32) <<< (b0 &&& 31))))) rfl b10 ?_
          refine tm_go 4 (pc' := 62) (L' := [some (.ref 0), some (.int a0), some (.int b0)]) (S' := [.int (((sI w6 22 a0.toInt.toNat ((w6.1 22 a0.toInt.toNat) ||| ((1 : Int32) <<< (b0 &&& 31)))).1 22 b0.toInt.toNat) ||| ((1 : Int32) <<< (a0 &&& 31))), .int b0, .ref 22]) (w' := (sI w6 22 a0.toInt.toNat ((w6.1 22 a0.toInt.toNat) ||| ((1 : Int32) <<< (b0 &&& 31))))) rfl ?_
          obtain ⟨b11, hs⟩ := hs
          refine tm_k (pc' := 63) (L' := [some (.ref 0), some (.int a0), some (.int b0)]) (S' := []) (w' := (sI (sI w6 22 a0.toInt.toNat ((w6.1 22 a0.toInt.toNat) ||| ((1 : Int32) <<< (b0 &&& 31)))) 22 b0.toInt.toNat (((sI w6 22 a0.toInt.toNat ((w6.1 22 a0.toInt.toNat) ||| ((1 : Int32) <<< (b0 &&& 31)))).1 22 b0.toInt.toNat) ||| ((1 : Int32) <<< (a0 &&& 31))))) rfl b11 ?_
          refine tm_go 1 (pc' := 64) (L' := [some (.ref 0), some (.int a0), some (.int b0)]) (S' := [.int 1]) (w' := (sI (sI w6 22 a0.toInt.toNat ((w6.1 22 a0.toInt.toNat) ||| ((1 : Int32) <<< (b0 &&& 31)))) 22 b0.toInt.toNat (((sI w6 22 a0.toInt.toNat ((w6.1 22 a0.toInt.toNat) ||| ((1 : Int32) <<< (b0 &&& 31)))).1 22 b0.toInt.toNat) ||| ((1 : Int32) <<< (a0 &&& 31))))) rfl ?_
          exact tm_r rfl ⟨_, rfl, by decide, hs⟩
        · replace hs := hs.2 h7
          refine tm_go 1 (pc' := 32) (L' := [some (.ref 0), some (.int a0), some (.int b0)]) (S' := [.int 0]) (w' := w6) rfl ?_
          exact tm_r rfl ⟨_, rfl, by decide, hs⟩
set_option maxHeartbeats 4000000 in
set_option maxRecDepth 100000 in
theorem dm_Bh_need {d : Nat} {w : MW} {a0 : Int32} {b0 : Int32} {c0 : Int32} {Q : Int32 → MW → Prop} (hs : p_Bh_need w a0 b0 c0 Q) : Tc (d + 1) 8 [.ref 0, .int a0, .int b0, .int c0] w (RZ Q) := by
  unfold p_Bh_need at hs
  refine tm_go 1 (pc' := 1) (L' := [some (.ref 0), some (.int a0), some (.int b0), some (.int c0)]) (S' := [.int a0]) (w' := w) rfl ?_
  refine tm_c rfl (Nat.le_of_ble_eq_true rfl) (dm_Bh_isLiquid (d := d + 0) hs) (fun v w1 hq => ?_)
  obtain ⟨r1, rfl, hz1, hs⟩ := hq
  refine tm_i (p1 := 23) (p2 := 7) rfl (fun h2 => ?_) (fun h2 => ?_)
  · replace hs := hs.1 h2
    refine tm_go 1 (pc' := 24) (L' := [some (.ref 0), some (.int a0), some (.int b0), some (.int c0)]) (S' := [.int 0]) (w' := w1) rfl ?_
    exact tm_r rfl ⟨_, rfl, by decide, hs⟩
  · replace hs := hs.2 h2
    refine tm_go 1 (pc' := 8) (L' := [some (.ref 0), some (.int a0), some (.int b0), some (.int c0)]) (S' := [.int b0]) (w' := w1) rfl ?_
    refine tm_c rfl (Nat.le_of_ble_eq_true rfl) (dm_Bh_isLiquid (d := d + 0) hs) (fun v w3 hq => ?_)
    obtain ⟨r3, rfl, hz3, hs⟩ := hq
    refine tm_i (p1 := 23) (p2 := 14) rfl (fun h4 => ?_) (fun h4 => ?_)
    · replace hs := hs.1 h4
      refine tm_go 1 (pc' := 24) (L' := [some (.ref 0), some (.int a0), some (.int b0), some (.int c0)]) (S' := [.int 0]) (w' := w3) rfl ?_
      exact tm_r rfl ⟨_, rfl, by decide, hs⟩
    · replace hs := hs.2 h4
      refine tm_go 1 (pc' := 15) (L' := [some (.ref 0), some (.int a0), some (.int b0), some (.int c0)]) (S' := [.int c0]) (w' := w3) rfl ?_
      refine tm_i (p1 := 23) (p2 := 18) rfl (fun h5 => ?_) (fun h5 => ?_)
      · replace hs := hs.1 h5
        refine tm_go 1 (pc' := 24) (L' := [some (.ref 0), some (.int a0), some (.int b0), some (.int c0)]) (S' := [.int 0]) (w' := w3) rfl ?_
        exact tm_r rfl ⟨_, rfl, by decide, hs⟩
      · replace hs := hs.2 h5
        refine tm_go 2 (pc' := 20) (L' := [some (.ref 0), some (.int a0), some (.int b0), some (.int c0)]) (S' := [.int 5, .int c0]) (w' := w3) rfl ?_
        refine tm_i (p1 := 25) (p2 := 23) rfl (fun h6 => ?_) (fun h6 => ?_)
        · replace hs := hs.1 h6
          refine tm_go 9 (pc' := 39) (L' := [some (.ref 0), some (.int a0), some (.int b0), some (.int c0)]) (S' := [.int c0, .int ((a0 * (15 : Int32)) + b0), .ref 24]) (w' := w3) rfl ?_
          obtain ⟨b7, hs⟩ := hs
          refine tm_k (pc' := 40) (L' := [some (.ref 0), some (.int a0), some (.int b0), some (.int c0)]) (S' := []) (w' := (sI w3 24 (((a0 * (15 : Int32)) + b0).toInt.toNat) c0)) rfl b7 ?_
          refine tm_go 1 (pc' := 41) (L' := [some (.ref 0), some (.int a0), some (.int b0), some (.int c0)]) (S' := [.int 1]) (w' := (sI w3 24 (((a0 * (15 : Int32)) + b0).toInt.toNat) c0)) rfl ?_
          exact tm_r rfl ⟨_, rfl, by decide, hs⟩
        · replace hs := hs.2 h6
          refine tm_go 1 (pc' := 24) (L' := [some (.ref 0), some (.int a0), some (.int b0), some (.int c0)]) (S' := [.int 0]) (w' := w3) rfl ?_
          exact tm_r rfl ⟨_, rfl, by decide, hs⟩
set_option maxHeartbeats 4000000 in
set_option maxRecDepth 100000 in
theorem dm_Bh_lasts {d : Nat} {w : MW} {a0 : Int32} {b0 : Int32} {Q : Int32 → MW → Prop} (hs : p_Bh_lasts w a0 b0 Q) : Tc (d + 0) 9 [.ref 0, .int a0, .int b0] w (RZ Q) := by
  unfold p_Bh_lasts at hs
  refine tm_go 2 (pc' := 2) (L' := [some (.ref 0), some (.int a0), some (.int b0)]) (S' := [.int 1, .int a0]) (w' := w) rfl ?_
  refine tm_i (p1 := 20) (p2 := 5) rfl (fun h1 => ?_) (fun h1 => ?_)
  · replace hs := hs.1 h1
    refine tm_go 1 (pc' := 21) (L' := [some (.ref 0), some (.int a0), some (.int b0)]) (S' := [.int 0]) (w' := w) rfl ?_
    exact tm_r rfl ⟨_, rfl, by decide, hs⟩
  · replace hs := hs.2 h1
    refine tm_go 2 (pc' := 7) (L' := [some (.ref 0), some (.int a0), some (.int b0)]) (S' := [.int 5, .int a0]) (w' := w) rfl ?_
    refine tm_i (p1 := 20) (p2 := 10) rfl (fun h2 => ?_) (fun h2 => ?_)
    · replace hs := hs.1 h2
      refine tm_go 1 (pc' := 21) (L' := [some (.ref 0), some (.int a0), some (.int b0)]) (S' := [.int 0]) (w' := w) rfl ?_
      exact tm_r rfl ⟨_, rfl, by decide, hs⟩
    · replace hs := hs.2 h2
      refine tm_go 1 (pc' := 11) (L' := [some (.ref 0), some (.int a0), some (.int b0)]) (S' := [.int b0]) (w' := w) rfl ?_
      refine tm_i (p1 := 20) (p2 := 14) rfl (fun h3 => ?_) (fun h3 => ?_)
      · replace hs := hs.1 h3
        refine tm_go 1 (pc' := 21) (L' := [some (.ref 0), some (.int a0), some (.int b0)]) (S' := [.int 0]) (w' := w) rfl ?_
        exact tm_r rfl ⟨_, rfl, by decide, hs⟩
      · replace hs := hs.2 h3
        refine tm_go 2 (pc' := 17) (L' := [some (.ref 0), some (.int a0), some (.int b0)]) (S' := [.int 1000000, .int b0]) (w' := w) rfl ?_
        refine tm_i (p1 := 22) (p2 := 20) rfl (fun h4 => ?_) (fun h4 => ?_)
        · replace hs := hs.1 h4
          refine tm_go 5 (pc' := 31) (L' := [some (.ref 0), some (.int a0), some (.int b0)]) (S' := [.int b0, .int a0, .ref 25]) (w' := w) rfl ?_
          obtain ⟨b5, hs⟩ := hs
          refine tm_k (pc' := 32) (L' := [some (.ref 0), some (.int a0), some (.int b0)]) (S' := []) (w' := (sI w 25 a0.toInt.toNat b0)) rfl b5 ?_
          refine tm_go 1 (pc' := 33) (L' := [some (.ref 0), some (.int a0), some (.int b0)]) (S' := [.int 1]) (w' := (sI w 25 a0.toInt.toNat b0)) rfl ?_
          exact tm_r rfl ⟨_, rfl, by decide, hs⟩
        · replace hs := hs.2 h4
          refine tm_go 1 (pc' := 21) (L' := [some (.ref 0), some (.int a0), some (.int b0)]) (S' := [.int 0]) (w' := w) rfl ?_
          exact tm_r rfl ⟨_, rfl, by decide, hs⟩
set_option maxHeartbeats 4000000 in
set_option maxRecDepth 100000 in
theorem dm_Pr_isSignal {d : Nat} {w : MW} {a0 : Int32} {Q : Int32 → MW → Prop} (hs : p_Pr_isSignal w a0 Q) : Tc (d + 0) 155 [.ref 62, .int a0] w (RZ Q) := by
  unfold p_Pr_isSignal at hs
  refine tm_go 1 (pc' := 1) (L' := [some (.ref 62), some (.int a0)]) (S' := [.int a0]) (w' := w) rfl ?_
  refine tm_i (p1 := 27) (p2 := 4) rfl (fun h1 => ?_) (fun h1 => ?_)
  · replace hs := hs.1 h1
    refine tm_go 1 (pc' := 28) (L' := [some (.ref 62), some (.int a0)]) (S' := [.int 0]) (w' := w) rfl ?_
    exact tm_r rfl ⟨_, rfl, by decide, hs⟩
  · replace hs := hs.2 h1
    refine tm_go 3 (pc' := 9) (L' := [some (.ref 62), some (.int a0)]) (S' := [.int (w.1 62 10), .int a0]) (w' := w) rfl ?_
    refine tm_i (p1 := 27) (p2 := 12) rfl (fun h2 => ?_) (fun h2 => ?_)
    · replace hs := hs.1 h2
      refine tm_go 1 (pc' := 28) (L' := [some (.ref 62), some (.int a0)]) (S' := [.int 0]) (w' := w) rfl ?_
      exact tm_r rfl ⟨_, rfl, by decide, hs⟩
    · replace hs := hs.2 h2
      refine tm_go 3 (pc' := 17) (L' := [some (.ref 62), some (.int a0)]) (S' := [.int a0, .ref 71]) (w' := w) rfl ?_
      obtain ⟨b3, hs⟩ := hs
      refine tm_k (pc' := 18) (L' := [some (.ref 62), some (.int a0)]) (S' := [.int (w.1 71 a0.toInt.toNat)]) (w' := w) rfl b3 ?_
      refine tm_go 1 (pc' := 20) (L' := [some (.ref 62), some (.int a0)]) (S' := [.int 8, .int (w.1 71 a0.toInt.toNat)]) (w' := w) rfl ?_
      refine tm_i (p1 := 27) (p2 := 23) rfl (fun h4 => ?_) (fun h4 => ?_)
      · replace hs := hs.1 h4
        refine tm_go 1 (pc' := 28) (L' := [some (.ref 62), some (.int a0)]) (S' := [.int 0]) (w' := w) rfl ?_
        exact tm_r rfl ⟨_, rfl, by decide, hs⟩
      · replace hs := hs.2 h4
        refine tm_go 2 (pc' := 28) (L' := [some (.ref 62), some (.int a0)]) (S' := [.int 1]) (w' := w) rfl ?_
        exact tm_r rfl ⟨_, rfl, by decide, hs⟩
set_option maxHeartbeats 4000000 in
set_option maxRecDepth 100000 in
theorem dm_Bh_sense {d : Nat} {w : MW} {a0 : Int32} {b0 : Int32} {c0 : Int32} {Q : Int32 → MW → Prop} (hs : p_Bh_sense w a0 b0 c0 Q) : Tc (d + 1) 10 [.ref 0, .int a0, .int b0, .int c0] w (RZ Q) := by
  unfold p_Bh_sense at hs
  refine tm_go 2 (pc' := 4) (L' := [some (.ref 0), some (.int a0), some (.int b0), some (.int c0)]) (S' := [.ref 61]) (w' := w) rfl ?_
  obtain ⟨b1, hs⟩ := hs
  refine tm_g (pc' := 7) (k := 61) (j := 3) rfl b1 ?_
  refine tm_go 1 (pc' := 8) (L' := [some (.ref 0), some (.int a0), some (.int b0), some (.int c0)]) (S' := [.int a0, .ref 62]) (w' := w) rfl ?_
  refine tm_c rfl (Nat.le_of_ble_eq_true rfl) (dm_Pr_isSignal (d := d + 0) hs) (fun v w2 hq => ?_)
  obtain ⟨r2, rfl, hz2, hs⟩ := hq
  refine tm_i (p1 := 23) (p2 := 14) rfl (fun h3 => ?_) (fun h3 => ?_)
  · replace hs := hs.1 h3
    refine tm_go 1 (pc' := 24) (L' := [some (.ref 0), some (.int a0), some (.int b0), some (.int c0)]) (S' := [.int 0]) (w' := w2) rfl ?_
    exact tm_r rfl ⟨_, rfl, by decide, hs⟩
  · replace hs := hs.2 h3
    refine tm_go 1 (pc' := 15) (L' := [some (.ref 0), some (.int a0), some (.int b0), some (.int c0)]) (S' := [.int b0]) (w' := w2) rfl ?_
    refine tm_i (p1 := 23) (p2 := 18) rfl (fun h4 => ?_) (fun h4 => ?_)
    · replace hs := hs.1 h4
      refine tm_go 1 (pc' := 24) (L' := [some (.ref 0), some (.int a0), some (.int b0), some (.int c0)]) (S' := [.int 0]) (w' := w2) rfl ?_
      exact tm_r rfl ⟨_, rfl, by decide, hs⟩
    · replace hs := hs.2 h4
      refine tm_go 2 (pc' := 20) (L' := [some (.ref 0), some (.int a0), some (.int b0), some (.int c0)]) (S' := [.int 5, .int b0]) (w' := w2) rfl ?_
      refine tm_i (p1 := 25) (p2 := 23) rfl (fun h5 => ?_) (fun h5 => ?_)
      · replace hs := hs.1 h5
        refine tm_go 2 (pc' := 29) (L' := [some (.ref 0), some (.int a0), some (.int b0), some (.int c0)]) (S' := [.ref 61]) (w' := w2) rfl ?_
        obtain ⟨b6, hs⟩ := hs
        refine tm_g (pc' := 32) (k := 61) (j := 3) rfl b6 ?_
        refine tm_go 3 (pc' := 37) (L' := [some (.ref 0), some (.int a0), some (.int b0), some (.int c0)]) (S' := [.int b0, .int a0, .ref 75]) (w' := w2) rfl ?_
        obtain ⟨b7, hs⟩ := hs
        refine tm_k (pc' := 38) (L' := [some (.ref 0), some (.int a0), some (.int b0), some (.int c0)]) (S' := []) (w' := (sI w2 75 a0.toInt.toNat b0)) rfl b7 ?_
        refine tm_go 2 (pc' := 42) (L' := [some (.ref 0), some (.int a0), some (.int b0), some (.int c0)]) (S' := [.ref 61]) (w' := (sI w2 75 a0.toInt.toNat b0)) rfl ?_
        obtain ⟨b8, hs⟩ := hs
        refine tm_g (pc' := 45) (k := 61) (j := 3) rfl b8 ?_
        refine tm_go 3 (pc' := 50) (L' := [some (.ref 0), some (.int a0), some (.int b0), some (.int c0)]) (S' := [.int c0, .int a0, .ref 76]) (w' := (sI w2 75 a0.toInt.toNat b0)) rfl ?_
        obtain ⟨b9, hs⟩ := hs
        refine tm_k (pc' := 51) (L' := [some (.ref 0), some (.int a0), some (.int b0), some (.int c0)]) (S' := []) (w' := (sI (sI w2 75 a0.toInt.toNat b0) 76 a0.toInt.toNat c0)) rfl b9 ?_
        refine tm_go 1 (pc' := 52) (L' := [some (.ref 0), some (.int a0), some (.int b0), some (.int c0)]) (S' := [.int 1]) (w' := (sI (sI w2 75 a0.toInt.toNat b0) 76 a0.toInt.toNat c0)) rfl ?_
        exact tm_r rfl ⟨_, rfl, by decide, hs⟩
      · replace hs := hs.2 h5
        refine tm_go 1 (pc' := 24) (L' := [some (.ref 0), some (.int a0), some (.int b0), some (.int c0)]) (S' := [.int 0]) (w' := w2) rfl ?_
        exact tm_r rfl ⟨_, rfl, by decide, hs⟩
set_option maxHeartbeats 4000000 in
set_option maxRecDepth 100000 in
theorem dm_Bh_watch {d : Nat} {w : MW} {a0 : Int32} {b0 : Int32} {c0 : Int32} {e0 : Int64} {Q : Int32 → MW → Prop} (hs : p_Bh_watch w a0 b0 c0 e0 Q) : Tc (d + 0) 11 [.ref 0, .int a0, .int b0, .int c0, .long e0] w (RZ Q) := by
  unfold p_Bh_watch at hs
  refine tm_go 1 (pc' := 1) (L' := [some (.ref 0), some (.int a0), some (.int b0), some (.int c0), some (.long e0), none]) (S' := [.int a0]) (w' := w) rfl ?_
  refine tm_i (p1 := 19) (p2 := 4) rfl (fun h1 => ?_) (fun h1 => ?_)
  · replace hs := hs.1 h1
    refine tm_go 1 (pc' := 20) (L' := [some (.ref 0), some (.int a0), some (.int b0), some (.int c0), some (.long e0), none]) (S' := [.int 0]) (w' := w) rfl ?_
    exact tm_r rfl ⟨_, rfl, by decide, hs⟩
  · replace hs := hs.2 h1
    refine tm_go 2 (pc' := 7) (L' := [some (.ref 0), some (.int a0), some (.int b0), some (.int c0), some (.long e0), none]) (S' := [.int 15, .int a0]) (w' := w) rfl ?_
    refine tm_i (p1 := 19) (p2 := 10) rfl (fun h2 => ?_) (fun h2 => ?_)
    · replace hs := hs.1 h2
      refine tm_go 1 (pc' := 20) (L' := [some (.ref 0), some (.int a0), some (.int b0), some (.int c0), some (.long e0), none]) (S' := [.int 0]) (w' := w) rfl ?_
      exact tm_r rfl ⟨_, rfl, by decide, hs⟩
    · replace hs := hs.2 h2
      refine tm_go 1 (pc' := 11) (L' := [some (.ref 0), some (.int a0), some (.int b0), some (.int c0), some (.long e0), none]) (S' := [.int b0]) (w' := w) rfl ?_
      refine tm_i (p1 := 19) (p2 := 14) rfl (fun h3 => ?_) (fun h3 => ?_)
      · replace hs := hs.1 h3
        refine tm_go 1 (pc' := 20) (L' := [some (.ref 0), some (.int a0), some (.int b0), some (.int c0), some (.long e0), none]) (S' := [.int 0]) (w' := w) rfl ?_
        exact tm_r rfl ⟨_, rfl, by decide, hs⟩
      · replace hs := hs.2 h3
        refine tm_go 2 (pc' := 16) (L' := [some (.ref 0), some (.int a0), some (.int b0), some (.int c0), some (.long e0), none]) (S' := [.int 5, .int b0]) (w' := w) rfl ?_
        refine tm_i (p1 := 21) (p2 := 19) rfl (fun h4 => ?_) (fun h4 => ?_)
        · replace hs := hs.1 h4
          refine tm_go 4 (pc' := 27) (L' := [some (.ref 0), some (.int a0), some (.int b0), some (.int c0), some (.long e0), none]) (S' := [.int b0, .int a0, .ref 126]) (w' := w) rfl ?_
          obtain ⟨b5, hs⟩ := hs
          refine tm_k (pc' := 28) (L' := [some (.ref 0), some (.int a0), some (.int b0), some (.int c0), some (.long e0), none]) (S' := []) (w' := (sI w 126 a0.toInt.toNat b0)) rfl b5 ?_
          refine tm_go 4 (pc' := 34) (L' := [some (.ref 0), some (.int a0), some (.int b0), some (.int c0), some (.long e0), none]) (S' := [.int c0, .int a0, .ref 124]) (w' := (sI w 126 a0.toInt.toNat b0)) rfl ?_
          obtain ⟨b6, hs⟩ := hs
          refine tm_k (pc' := 35) (L' := [some (.ref 0), some (.int a0), some (.int b0), some (.int c0), some (.long e0), none]) (S' := []) (w' := (sI (sI w 126 a0.toInt.toNat b0) 124 a0.toInt.toNat c0)) rfl b6 ?_
          refine tm_go 4 (pc' := 42) (L' := [some (.ref 0), some (.int a0), some (.int b0), some (.int c0), some (.long e0), none]) (S' := [.long e0, .int a0, .ref 125]) (w' := (sI (sI w 126 a0.toInt.toNat b0) 124 a0.toInt.toNat c0)) rfl ?_
          obtain ⟨b7, hs⟩ := hs
          refine tm_k (pc' := 43) (L' := [some (.ref 0), some (.int a0), some (.int b0), some (.int c0), some (.long e0), none]) (S' := []) (w' := (sJ (sI (sI w 126 a0.toInt.toNat b0) 124 a0.toInt.toNat c0) 125 a0.toInt.toNat e0)) rfl b7 ?_
          refine tm_go 1 (pc' := 44) (L' := [some (.ref 0), some (.int a0), some (.int b0), some (.int c0), some (.long e0), none]) (S' := [.int 1]) (w' := (sJ (sI (sI w 126 a0.toInt.toNat b0) 124 a0.toInt.toNat c0) 125 a0.toInt.toNat e0)) rfl ?_
          exact tm_r rfl ⟨_, rfl, by decide, hs⟩
        · replace hs := hs.2 h4
          refine tm_go 1 (pc' := 20) (L' := [some (.ref 0), some (.int a0), some (.int b0), some (.int c0), some (.long e0), none]) (S' := [.int 0]) (w' := w) rfl ?_
          exact tm_r rfl ⟨_, rfl, by decide, hs⟩
set_option maxHeartbeats 4000000 in
set_option maxRecDepth 100000 in
theorem dm_Bh_signal {d : Nat} {w : MW} {a0 : Int32} {b0 : Int64} {Q : Int32 → MW → Prop} (hs : p_Bh_signal w a0 b0 Q) : Tc (d + 1) 12 [.ref 0, .int a0, .long b0] w (RZ Q) := by
  unfold p_Bh_signal at hs
  refine tm_go 2 (pc' := 4) (L' := [some (.ref 0), some (.int a0), some (.long b0), none]) (S' := [.ref 61]) (w' := w) rfl ?_
  obtain ⟨b1, hs⟩ := hs
  refine tm_g (pc' := 7) (k := 61) (j := 3) rfl b1 ?_
  refine tm_go 1 (pc' := 8) (L' := [some (.ref 0), some (.int a0), some (.long b0), none]) (S' := [.int a0, .ref 62]) (w' := w) rfl ?_
  refine tm_c rfl (Nat.le_of_ble_eq_true rfl) (dm_Pr_isSignal (d := d + 0) hs) (fun v w2 hq => ?_)
  obtain ⟨r2, rfl, hz2, hs⟩ := hq
  refine tm_i (p1 := 16) (p2 := 14) rfl (fun h3 => ?_) (fun h3 => ?_)
  · replace hs := hs.1 h3
    refine tm_go 2 (pc' := 20) (L' := [some (.ref 0), some (.int a0), some (.long b0), none]) (S' := [.ref 61]) (w' := w2) rfl ?_
    obtain ⟨b4, hs⟩ := hs
    refine tm_g (pc' := 23) (k := 61) (j := 3) rfl b4 ?_
    refine tm_go 3 (pc' := 28) (L' := [some (.ref 0), some (.int a0), some (.long b0), none]) (S' := [.long b0, .int a0, .ref 74]) (w' := w2) rfl ?_
    obtain ⟨b5, hs⟩ := hs
    refine tm_k (pc' := 29) (L' := [some (.ref 0), some (.int a0), some (.long b0), none]) (S' := []) (w' := (sJ w2 74 a0.toInt.toNat b0)) rfl b5 ?_
    refine tm_go 1 (pc' := 30) (L' := [some (.ref 0), some (.int a0), some (.long b0), none]) (S' := [.int 1]) (w' := (sJ w2 74 a0.toInt.toNat b0)) rfl ?_
    exact tm_r rfl ⟨_, rfl, by decide, hs⟩
  · replace hs := hs.2 h3
    refine tm_go 1 (pc' := 15) (L' := [some (.ref 0), some (.int a0), some (.long b0), none]) (S' := [.int 0]) (w' := w2) rfl ?_
    exact tm_r rfl ⟨_, rfl, by decide, hs⟩
set_option maxHeartbeats 4000000 in
set_option maxRecDepth 100000 in
theorem dm_Ac_isAct {d : Nat} {w : MW} {a0 : Int32} {Q : Int32 → MW → Prop} (hs : p_Ac_isAct w a0 Q) : Tc (d + 0) 126 [.int a0] w (RZ Q) := by
  unfold p_Ac_isAct at hs
  refine tm_go 1 (pc' := 1) (L' := [some (.int a0)]) (S' := [.int a0]) (w' := w) rfl ?_
  refine tm_i (p1 := 14) (p2 := 4) rfl (fun h1 => ?_) (fun h1 => ?_)
  · replace hs := hs.1 h1
    refine tm_go 1 (pc' := 15) (L' := [some (.int a0)]) (S' := [.int 0]) (w' := w) rfl ?_
    exact tm_r rfl ⟨_, rfl, by decide, hs⟩
  · replace hs := hs.2 h1
    refine tm_go 2 (pc' := 7) (L' := [some (.int a0)]) (S' := [.int 32, .int a0]) (w' := w) rfl ?_
    refine tm_i (p1 := 14) (p2 := 10) rfl (fun h2 => ?_) (fun h2 => ?_)
    · replace hs := hs.1 h2
      refine tm_go 1 (pc' := 15) (L' := [some (.int a0)]) (S' := [.int 0]) (w' := w) rfl ?_
      exact tm_r rfl ⟨_, rfl, by decide, hs⟩
    · replace hs := hs.2 h2
      refine tm_go 2 (pc' := 15) (L' := [some (.int a0)]) (S' := [.int 1]) (w' := w) rfl ?_
      exact tm_r rfl ⟨_, rfl, by decide, hs⟩
set_option maxHeartbeats 4000000 in
set_option maxRecDepth 100000 in
theorem tx_Ac_tie_71 {d : Nat} {y71_1 : Int32} {y71_2 : Int32} {y71_3 : Int32} {y71_4 : Int32} {y71_5 : Int32}  {w : MW} {Q : Int32 → MW → Prop} (hs : q_Ac_tie_71 y71_1 y71_2 y71_3 y71_4 y71_5 w Q) : Tm (d + 1) 127 71 [some (.ref 47), some (.int y71_1), some (.int y71_2), some (.int y71_3), some (.int y71_4), some (.int y71_5)] [] w (RZ Q) := by
  unfold q_Ac_tie_71 at hs
  refine tm_go 4 (pc' := 77) (L' := [some (.ref 47), some (.int y71_1), some (.int y71_2), some (.int y71_3), some (.int y71_4), some (.int y71_5)]) (S' := [.int y71_2, .int y71_1, .ref 60]) (w' := w) rfl ?_
  obtain ⟨b8, hs⟩ := hs
  refine tm_k (pc' := 78) (L' := [some (.ref 47), some (.int y71_1), some (.int y71_2), some (.int y71_3), some (.int y71_4), some (.int y71_5)]) (S' := []) (w' := (sI w 60 y71_1.toInt.toNat y71_2)) rfl b8 ?_
  refine tm_go 4 (pc' := 84) (L' := [some (.ref 47), some (.int y71_1), some (.int y71_2), some (.int y71_3), some (.int y71_4), some (.int y71_5)]) (S' := [.int y71_3, .int y71_1, .ref 57]) (w' := (sI w 60 y71_1.toInt.toNat y71_2)) rfl ?_
  obtain ⟨b9, hs⟩ := hs
  refine tm_k (pc' := 85) (L' := [some (.ref 47), some (.int y71_1), some (.int y71_2), some (.int y71_3), some (.int y71_4), some (.int y71_5)]) (S' := []) (w' := (sI (sI w 60 y71_1.toInt.toNat y71_2) 57 y71_1.toInt.toNat y71_3)) rfl b9 ?_
  refine tm_go 4 (pc' := 92) (L' := [some (.ref 47), some (.int y71_1), some (.int y71_2), some (.int y71_3), some (.int y71_4), some (.int y71_5)]) (S' := [.int y71_4, .int y71_1, .ref 58]) (w' := (sI (sI w 60 y71_1.toInt.toNat y71_2) 57 y71_1.toInt.toNat y71_3)) rfl ?_
  obtain ⟨b10, hs⟩ := hs
  refine tm_k (pc' := 93) (L' := [some (.ref 47), some (.int y71_1), some (.int y71_2), some (.int y71_3), some (.int y71_4), some (.int y71_5)]) (S' := []) (w' := (sI (sI (sI w 60 y71_1.toInt.toNat y71_2) 57 y71_1.toInt.toNat y71_3) 58 y71_1.toInt.toNat y71_4)) rfl b10 ?_
  refine tm_go 4 (pc' := 100) (L' := [some (.ref 47), some (.int y71_1), some (.int y71_2), some (.int y71_3), some (.int y71_4), some (.int y71_5)]) (S' := [.int y71_5, .int y71_1, .ref 59]) (w' := (sI (sI (sI w 60 y71_1.toInt.toNat y71_2) 57 y71_1.toInt.toNat y71_3) 58 y71_1.toInt.toNat y71_4)) rfl ?_
  obtain ⟨b11, hs⟩ := hs
  refine tm_k (pc' := 101) (L' := [some (.ref 47), some (.int y71_1), some (.int y71_2), some (.int y71_3), some (.int y71_4), some (.int y71_5)]) (S' := []) (w' := (sI (sI (sI (sI w 60 y71_1.toInt.toNat y71_2) 57 y71_1.toInt.toNat y71_3) 58 y71_1.toInt.toNat y71_4) 59 y71_1.toInt.toNat y71_5)) rfl b11 ?_
  refine tm_go 1 (pc' := 102) (L' := [some (.ref 47), some (.int y71_1), some (.int y71_2), some (.int y71_3), some (.int y71_4), some (.int y71_5)]) (S' := [.int 1]) (w' := (sI (sI (sI (sI w 60 y71_1.toInt.toNat y71_2) 57 y71_1.toInt.toNat y71_3) 58 y71_1.toInt.toNat y71_4) 59 y71_1.toInt.toNat y71_5)) rfl ?_
  exact tm_r rfl ⟨_, rfl, by decide, hs⟩
set_option maxHeartbeats 4000000 in
set_option maxRecDepth 100000 in
theorem tx_Ac_tie_52 {d : Nat} {y52_1 : Int32} {y52_2 : Int32} {y52_3 : Int32} {y52_4 : Int32} {y52_5 : Int32}  {w : MW} {Q : Int32 → MW → Prop} (hs : q_Ac_tie_52 y52_1 y52_2 y52_3 y52_4 y52_5 w Q) : Tm (d + 1) 127 52 [some (.ref 47), some (.int y52_1), some (.int y52_2), some (.int y52_3), some (.int y52_4), some (.int y52_5)] [] w (RZ Q) := by
  unfold q_Ac_tie_52 at hs
  refine tm_go 2 (pc' := 54) (L' := [some (.ref 47), some (.int y52_1), some (.int y52_2), some (.int y52_3), some (.int y52_4), some (.int y52_5)]) (S' := [.int 3, .int y52_2]) (w' := w) rfl ?_
  refine tm_i (p1 := 71) (p2 := 57) rfl (fun h7 => ?_) (fun h7 => ?_)
  · replace hs := hs.1 h7
    exact tx_Ac_tie_71 hs 
  · replace hs := hs.2 h7
    refine tm_go 2 (pc' := 60) (L' := [some (.ref 47), some (.int y52_1), some (.int y52_2), some (.int y52_3), some (.int y52_4), some (.int y52_5)]) (S' := [.int 1, .int y52_4]) (w' := w) rfl ?_
    refine tm_i (p1 := 69) (p2 := 63) rfl (fun h12 => ?_) (fun h12 => ?_)
    · replace hs := hs.1 h12
      refine tm_go 1 (pc' := 70) (L' := [some (.ref 47), some (.int y52_1), some (.int y52_2), some (.int y52_3), some (.int y52_4), some (.int y52_5)]) (S' := [.int 0]) (w' := w) rfl ?_
      exact tm_r rfl ⟨_, rfl, by decide, hs⟩
    · replace hs := hs.2 h12
      refine tm_go 2 (pc' := 66) (L' := [some (.ref 47), some (.int y52_1), some (.int y52_2), some (.int y52_3), some (.int y52_4), some (.int y52_5)]) (S' := [.int 5, .int y52_4]) (w' := w) rfl ?_
      refine tm_i (p1 := 71) (p2 := 69) rfl (fun h13 => ?_) (fun h13 => ?_)
      · replace hs := hs.1 h13
        exact tx_Ac_tie_71 hs 
      · replace hs := hs.2 h13
        refine tm_go 1 (pc' := 70) (L' := [some (.ref 47), some (.int y52_1), some (.int y52_2), some (.int y52_3), some (.int y52_4), some (.int y52_5)]) (S' := [.int 0]) (w' := w) rfl ?_
        exact tm_r rfl ⟨_, rfl, by decide, hs⟩
set_option maxHeartbeats 4000000 in
set_option maxRecDepth 100000 in
theorem tx_Ac_tie_35 {d : Nat} {y35_1 : Int32} {y35_2 : Int32} {y35_3 : Int32} {y35_4 : Int32} {y35_5 : Int32}  {w : MW} {Q : Int32 → MW → Prop} (hs : q_Ac_tie_35 y35_1 y35_2 y35_3 y35_4 y35_5 w Q) : Tm (d + 1) 127 35 [some (.ref 47), some (.int y35_1), some (.int y35_2), some (.int y35_3), some (.int y35_4), some (.int y35_5)] [] w (RZ Q) := by
  unfold q_Ac_tie_35 at hs
  refine tm_go 2 (pc' := 37) (L' := [some (.ref 47), some (.int y35_1), some (.int y35_2), some (.int y35_3), some (.int y35_4), some (.int y35_5)]) (S' := [.int 2, .int y35_2]) (w' := w) rfl ?_
  refine tm_i (p1 := 52) (p2 := 40) rfl (fun h6 => ?_) (fun h6 => ?_)
  · replace hs := hs.1 h6
    exact tx_Ac_tie_52 hs 
  · replace hs := hs.2 h6
    refine tm_go 1 (pc' := 42) (L' := [some (.ref 47), some (.int y35_1), some (.int y35_2), some (.int y35_3), some (.int y35_4), some (.int y35_5)]) (S' := [.int y35_4]) (w' := w) rfl ?_
    refine tm_i (p1 := 69) (p2 := 45) rfl (fun h14 => ?_) (fun h14 => ?_)
    · replace hs := hs.1 h14
      refine tm_go 1 (pc' := 70) (L' := [some (.ref 47), some (.int y35_1), some (.int y35_2), some (.int y35_3), some (.int y35_4), some (.int y35_5)]) (S' := [.int 0]) (w' := w) rfl ?_
      exact tm_r rfl ⟨_, rfl, by decide, hs⟩
    · replace hs := hs.2 h14
      refine tm_go 2 (pc' := 49) (L' := [some (.ref 47), some (.int y35_1), some (.int y35_2), some (.int y35_3), some (.int y35_4), some (.int y35_5)]) (S' := [.int 10, .int y35_4]) (w' := w) rfl ?_
      refine tm_i (p1 := 69) (p2 := 52) rfl (fun h15 => ?_) (fun h15 => ?_)
      · replace hs := hs.1 h15
        refine tm_go 1 (pc' := 70) (L' := [some (.ref 47), some (.int y35_1), some (.int y35_2), some (.int y35_3), some (.int y35_4), some (.int y35_5)]) (S' := [.int 0]) (w' := w) rfl ?_
        exact tm_r rfl ⟨_, rfl, by decide, hs⟩
      · replace hs := hs.2 h15
        exact tx_Ac_tie_52 hs 
set_option maxHeartbeats 4000000 in
set_option maxRecDepth 100000 in
theorem dm_Ac_tie {d : Nat} {w : MW} {a0 : Int32} {b0 : Int32} {c0 : Int32} {e0 : Int32} {f0 : Int32} {Q : Int32 → MW → Prop} (hs : p_Ac_tie w a0 b0 c0 e0 f0 Q) : Tc (d + 1) 127 [.ref 47, .int a0, .int b0, .int c0, .int e0, .int f0] w (RZ Q) := by
  unfold p_Ac_tie at hs
  refine tm_go 1 (pc' := 1) (L' := [some (.ref 47), some (.int a0), some (.int b0), some (.int c0), some (.int e0), some (.int f0)]) (S' := [.int a0]) (w' := w) rfl ?_
  refine tm_c rfl (Nat.le_of_ble_eq_true rfl) (dm_Ac_isAct (d := d + 0) hs) (fun v w1 hq => ?_)
  obtain ⟨r1, rfl, hz1, hs⟩ := hq
  refine tm_i (p1 := 16) (p2 := 7) rfl (fun h2 => ?_) (fun h2 => ?_)
  · replace hs := hs.1 h2
    refine tm_go 1 (pc' := 17) (L' := [some (.ref 47), some (.int a0), some (.int b0), some (.int c0), some (.int e0), some (.int f0)]) (S' := [.int 0]) (w' := w1) rfl ?_
    exact tm_r rfl ⟨_, rfl, by decide, hs⟩
  · replace hs := hs.2 h2
    refine tm_go 1 (pc' := 8) (L' := [some (.ref 47), some (.int a0), some (.int b0), some (.int c0), some (.int e0), some (.int f0)]) (S' := [.int b0]) (w' := w1) rfl ?_
    refine tm_i (p1 := 16) (p2 := 11) rfl (fun h3 => ?_) (fun h3 => ?_)
    · replace hs := hs.1 h3
      refine tm_go 1 (pc' := 17) (L' := [some (.ref 47), some (.int a0), some (.int b0), some (.int c0), some (.int e0), some (.int f0)]) (S' := [.int 0]) (w' := w1) rfl ?_
      exact tm_r rfl ⟨_, rfl, by decide, hs⟩
    · replace hs := hs.2 h3
      refine tm_go 2 (pc' := 13) (L' := [some (.ref 47), some (.int a0), some (.int b0), some (.int c0), some (.int e0), some (.int f0)]) (S' := [.int 4, .int b0]) (w' := w1) rfl ?_
      refine tm_i (p1 := 18) (p2 := 16) rfl (fun h4 => ?_) (fun h4 => ?_)
      · replace hs := hs.1 h4
        refine tm_go 1 (pc' := 19) (L' := [some (.ref 47), some (.int a0), some (.int b0), some (.int c0), some (.int e0), some (.int f0)]) (S' := [.int b0]) (w' := w1) rfl ?_
        refine tm_i (p1 := 35) (p2 := 22) rfl (fun h5 => ?_) (fun h5 => ?_)
        · replace hs := hs.1 h5
          exact tx_Ac_tie_35 hs 
        · replace hs := hs.2 h5
          refine tm_go 2 (pc' := 25) (L' := [some (.ref 47), some (.int a0), some (.int b0), some (.int c0), some (.int e0), some (.int f0)]) (S' := [.int 1, .int f0]) (w' := w1) rfl ?_
          refine tm_i (p1 := 69) (p2 := 28) rfl (fun h16 => ?_) (fun h16 => ?_)
          · replace hs := hs.1 h16
            refine tm_go 1 (pc' := 70) (L' := [some (.ref 47), some (.int a0), some (.int b0), some (.int c0), some (.int e0), some (.int f0)]) (S' := [.int 0]) (w' := w1) rfl ?_
            exact tm_r rfl ⟨_, rfl, by decide, hs⟩
          · replace hs := hs.2 h16
            refine tm_go 2 (pc' := 32) (L' := [some (.ref 47), some (.int a0), some (.int b0), some (.int c0), some (.int e0), some (.int f0)]) (S' := [.int 100, .int f0]) (w' := w1) rfl ?_
            refine tm_i (p1 := 69) (p2 := 35) rfl (fun h17 => ?_) (fun h17 => ?_)
            · replace hs := hs.1 h17
              refine tm_go 1 (pc' := 70) (L' := [some (.ref 47), some (.int a0), some (.int b0), some (.int c0), some (.int e0), some (.int f0)]) (S' := [.int 0]) (w' := w1) rfl ?_
              exact tm_r rfl ⟨_, rfl, by decide, hs⟩
            · replace hs := hs.2 h17
              exact tx_Ac_tie_35 hs 
      · replace hs := hs.2 h4
        refine tm_go 1 (pc' := 17) (L' := [some (.ref 47), some (.int a0), some (.int b0), some (.int c0), some (.int e0), some (.int f0)]) (S' := [.int 0]) (w' := w1) rfl ?_
        exact tm_r rfl ⟨_, rfl, by decide, hs⟩
set_option maxHeartbeats 4000000 in
set_option maxRecDepth 100000 in
theorem dm_Bh_bind {d : Nat} {w : MW} {a0 : Int32} {b0 : Int32} {c0 : Int32} {e0 : Int32} {f0 : Int32} {Q : Int32 → MW → Prop} (hs : p_Bh_bind w a0 b0 c0 e0 f0 Q) : Tc (d + 2) 13 [.ref 0, .int a0, .int b0, .int c0, .int e0, .int f0] w (RZ Q) := by
  unfold p_Bh_bind at hs
  refine tm_go 7 (pc' := 11) (L' := [some (.ref 0), some (.int a0), some (.int b0), some (.int c0), some (.int e0), some (.int f0)]) (S' := [.int f0, .int e0, .int c0, .int b0, .int a0, .ref 47]) (w' := w) rfl ?_
  refine tm_c rfl (Nat.le_of_ble_eq_true rfl) (dm_Ac_tie (d := d + 0) hs) (fun v w1 hq => ?_)
  obtain ⟨r1, rfl, hz1, hs⟩ := hq
  exact tm_rk rfl hz1 ⟨_, rfl, hz1, hs⟩
set_option maxHeartbeats 4000000 in
set_option maxRecDepth 100000 in
theorem dm_St_cleanSpace {d : Nat} {w : MW} {a0 : Int32} {b0 : Int32} {Q : MW → Prop} (hs : p_St_cleanSpace w a0 b0 Q) : Tc (d + 0) 246 [.ref 7, .int a0, .int b0] w (RV Q) := by
  unfold p_St_cleanSpace at hs
  refine tm_go 9 (pc' := 14) (L' := [some (.ref 7), some (.int a0), some (.int b0)]) (S' := [.int (w.1 7 1), .int ((a0 * (6 : Int32)) + b0), .ref 23]) (w' := w) rfl ?_
  obtain ⟨b1, hs⟩ := hs
  refine tm_k (pc' := 15) (L' := [some (.ref 7), some (.int a0), some (.int b0)]) (S' := []) (w' := (sI w 23 (((a0 * (6 : Int32)) + b0).toInt.toNat) (w.1 7 1))) rfl b1 ?_
  exact tm_r rfl ⟨rfl, hs⟩
set_option maxHeartbeats 4000000 in
set_option maxRecDepth 100000 in
theorem dm_St_isPipe {d : Nat} {w : MW} {a0 : Int32} {Q : Int32 → MW → Prop} (hs : p_St_isPipe w a0 Q) : Tc (d + 0) 240 [.ref 7, .int a0] w (RZ Q) := by
  unfold p_St_isPipe at hs
  refine tm_go 2 (pc' := 2) (L' := [some (.ref 7), some (.int a0)]) (S' := [.ref 7, .int a0]) (w' := w) rfl ?_
  obtain ⟨b1, hs⟩ := hs
  refine tm_g (pc' := 5) (k := 7) (j := 0) rfl b1 ?_
  refine tm_go 1 (pc' := 8) (L' := [some (.ref 7), some (.int a0)]) (S' := [.int (w.1 8 0), .int a0]) (w' := w) rfl ?_
  refine tm_i (p1 := 34) (p2 := 11) rfl (fun h2 => ?_) (fun h2 => ?_)
  · replace hs := hs.1 h2
    refine tm_go 1 (pc' := 35) (L' := [some (.ref 7), some (.int a0)]) (S' := [.int 0]) (w' := w) rfl ?_
    exact tm_r rfl ⟨_, rfl, by decide, hs⟩
  · replace hs := hs.2 h2
    refine tm_go 2 (pc' := 13) (L' := [some (.ref 7), some (.int a0)]) (S' := [.ref 7, .int a0]) (w' := w) rfl ?_
    obtain ⟨b3, hs⟩ := hs
    refine tm_g (pc' := 16) (k := 7) (j := 0) rfl b3 ?_
    refine tm_go 2 (pc' := 20) (L' := [some (.ref 7), some (.int a0)]) (S' := [.ref 7, .int (w.1 8 0), .int a0]) (w' := w) rfl ?_
    obtain ⟨b4, hs⟩ := hs
    refine tm_g (pc' := 23) (k := 7) (j := 0) rfl b4 ?_
    refine tm_go 2 (pc' := 27) (L' := [some (.ref 7), some (.int a0)]) (S' := [.int ((w.1 8 0) + (w.1 8 1)), .int a0]) (w' := w) rfl ?_
    refine tm_i (p1 := 34) (p2 := 30) rfl (fun h5 => ?_) (fun h5 => ?_)
    · replace hs := hs.1 h5
      refine tm_go 1 (pc' := 35) (L' := [some (.ref 7), some (.int a0)]) (S' := [.int 0]) (w' := w) rfl ?_
      exact tm_r rfl ⟨_, rfl, by decide, hs⟩
    · replace hs := hs.2 h5
      refine tm_go 2 (pc' := 35) (L' := [some (.ref 7), some (.int a0)]) (S' := [.int 1]) (w' := w) rfl ?_
      exact tm_r rfl ⟨_, rfl, by decide, hs⟩
set_option maxHeartbeats 4000000 in
set_option maxRecDepth 100000 in
theorem tx_Wa_hasSpace_31 {d : Nat} {x31_1 : Int32} {E : MW → Prop} {Q : Int32 → MW → Prop} (n : Nat) : ∀ (x31_2 : Int32)   (w : MW), q_Wa_hasSpace_31 x31_1 E Q n x31_2 w → (∀  (v0 : Option Value) (v1 : Option Value) (v2 : Option Value) (w : MW), E  w → Tm (d + 1) 266 67 [v0, v1, v2] [] w (RZ Q)) → Tm (d + 1) 266 31 [some (.ref 26), some (.int x31_1), some (.int x31_2)] [] w (RZ Q) := by
  induction n with
  | zero => intro x31_2  w hs; rw [q_Wa_hasSpace_31.eq_1] at hs; exact hs.elim
  | succ n ih =>
    intro x31_2  w hs hE
    rw [q_Wa_hasSpace_31.eq_2] at hs
    refine tm_go 3 (pc' := 36) (L' := [some (.ref 26), some (.int x31_1), some (.int x31_2)]) (S' := [.int (w.1 26 1), .int x31_2]) (w' := w) rfl ?_
    refine tm_i (p1 := 67) (p2 := 39) rfl (fun h3 => ?_) (fun h3 => ?_)
    · replace hs := hs.1 h3
      exact hE _ _ _ _ hs
    · replace hs := hs.2 h3
      refine tm_go 3 (pc' := 44) (L' := [some (.ref 26), some (.int x31_1), some (.int x31_2)]) (S' := [.int x31_2, .ref 27]) (w' := w) rfl ?_
      obtain ⟨b4, hs⟩ := hs
      refine tm_k (pc' := 45) (L' := [some (.ref 26), some (.int x31_1), some (.int x31_2)]) (S' := [.int (w.1 27 x31_2.toInt.toNat)]) (w' := w) rfl b4 ?_
      refine tm_go 1 (pc' := 46) (L' := [some (.ref 26), some (.int x31_1), some (.int x31_2)]) (S' := [.int x31_1, .int (w.1 27 x31_2.toInt.toNat)]) (w' := w) rfl ?_
      refine tm_i (p1 := 59) (p2 := 49) rfl (fun h5 => ?_) (fun h5 => ?_)
      · replace hs := hs.1 h5
        refine tm_go 1 (pc' := 60) (L' := [some (.ref 26), some (.int x31_1), some (.int x31_2)]) (S' := [.int 1]) (w' := w) rfl ?_
        exact tm_r rfl ⟨_, rfl, by decide, hs⟩
      · replace hs := hs.2 h5
        refine tm_go 3 (pc' := 54) (L' := [some (.ref 26), some (.int x31_1), some (.int x31_2)]) (S' := [.int x31_2, .ref 28]) (w' := w) rfl ?_
        obtain ⟨b6, hs⟩ := hs
        refine tm_k (pc' := 55) (L' := [some (.ref 26), some (.int x31_1), some (.int x31_2)]) (S' := [.int (w.1 28 x31_2.toInt.toNat)]) (w' := w) rfl b6 ?_
        refine tm_go 1 (pc' := 56) (L' := [some (.ref 26), some (.int x31_1), some (.int x31_2)]) (S' := [.int x31_1, .int (w.1 28 x31_2.toInt.toNat)]) (w' := w) rfl ?_
        refine tm_i (p1 := 61) (p2 := 59) rfl (fun h7 => ?_) (fun h7 => ?_)
        · replace hs := hs.1 h7
          refine tm_go 2 (pc' := 31) (L' := [some (.ref 26), some (.int x31_1), some (.int (x31_2 + (1 : Int32)))]) (S' := []) (w' := w) rfl ?_
          exact ih _ _ hs hE
        · replace hs := hs.2 h7
          refine tm_go 1 (pc' := 60) (L' := [some (.ref 26), some (.int x31_1), some (.int x31_2)]) (S' := [.int 1]) (w' := w) rfl ?_
          exact tm_r rfl ⟨_, rfl, by decide, hs⟩
set_option maxHeartbeats 4000000 in
set_option maxRecDepth 100000 in
theorem dm_Wa_hasSpace {d : Nat} {w : MW} {a0 : Int32} {Q : Int32 → MW → Prop} (hs : p_Wa_hasSpace w a0 Q) : Tc (d + 1) 266 [.ref 26, .int a0] w (RZ Q) := by
  unfold p_Wa_hasSpace at hs
  refine tm_go 3 (pc' := 5) (L' := [some (.ref 26), some (.int a0), none]) (S' := [.int a0, .ref 7]) (w' := w) rfl ?_
  refine tm_c rfl (Nat.le_of_ble_eq_true rfl) (dm_St_isPipe (d := d + 0) hs) (fun v w1 hq => ?_)
  obtain ⟨r1, rfl, hz1, hs⟩ := hq
  refine tm_i (p1 := 29) (p2 := 11) rfl (fun h2 => ?_) (fun h2 => ?_)
  · replace hs := hs.1 h2
    refine tm_go 2 (pc' := 31) (L' := [some (.ref 26), some (.int a0), some (.int 0)]) (S' := []) (w' := w1) rfl ?_
    refine tx_Wa_hasSpace_31 FU _ _ hs (fun  z8_0 z8_1 z8_2 w8 hs => ?_)
    refine tm_go 1 (pc' := 68) (L' := [z8_0, z8_1, z8_2]) (S' := [.int 0]) (w' := w8) rfl ?_
    exact tm_r rfl ⟨_, rfl, by decide, hs⟩
  · replace hs := hs.2 h2
    refine tm_go 5 (pc' := 20) (L' := [some (.ref 26), some (.int a0), none]) (S' := [.ref 7, .int a0, .ref 36]) (w' := w1) rfl ?_
    obtain ⟨b9, hs⟩ := hs
    refine tm_g (pc' := 23) (k := 7) (j := 0) rfl b9 ?_
    refine tm_go 2 (pc' := 27) (L' := [some (.ref 26), some (.int a0), none]) (S' := [.int (a0 - (w1.1 8 0)), .ref 36]) (w' := w1) rfl ?_
    obtain ⟨b10, hs⟩ := hs
    refine tm_k (pc' := 28) (L' := [some (.ref 26), some (.int a0), none]) (S' := [.int (w1.1 36 ((a0 - (w1.1 8 0)).toInt.toNat))]) (w' := w1) rfl b10 ?_
    obtain ⟨b11, hs⟩ := hs
    exact tm_rk rfl b11 ⟨_, rfl, b11, hs⟩
set_option maxHeartbeats 4000000 in
set_option maxRecDepth 100000 in
theorem dm_Ac_cleanSpace {d : Nat} {w : MW} {a0 : Int32} {b0 : Int32} {Q : Int32 → MW → Prop} (hs : p_Ac_cleanSpace w a0 b0 Q) : Tc (d + 2) 133 [.ref 47, .int a0, .int b0] w (RI Q) := by
  unfold p_Ac_cleanSpace at hs
  refine tm_go 4 (pc' := 8) (L' := [some (.ref 47), some (.int a0), some (.int b0)]) (S' := [.int a0, .ref 17]) (w' := w) rfl ?_
  obtain ⟨b1, hs⟩ := hs
  refine tm_k (pc' := 9) (L' := [some (.ref 47), some (.int a0), some (.int b0)]) (S' := [.int (w.1 17 a0.toInt.toNat)]) (w' := w) rfl b1 ?_
  refine tm_i (p1 := 23) (p2 := 12) rfl (fun h2 => ?_) (fun h2 => ?_)
  · replace hs := hs.1 h2
    refine tm_go 1 (pc' := 24) (L' := [some (.ref 47), some (.int a0), some (.int b0)]) (S' := [.int 3]) (w' := w) rfl ?_
    exact tm_r rfl ⟨_, rfl, hs⟩
  · replace hs := hs.2 h2
    refine tm_go 3 (pc' := 17) (L' := [some (.ref 47), some (.int a0), some (.int b0)]) (S' := [.int a0, .ref 26]) (w' := w) rfl ?_
    refine tm_c rfl (Nat.le_of_ble_eq_true rfl) (dm_Wa_hasSpace (d := d + 0) hs) (fun v w3 hq => ?_)
    obtain ⟨r3, rfl, hz3, hs⟩ := hq
    refine tm_i (p1 := 25) (p2 := 23) rfl (fun h4 => ?_) (fun h4 => ?_)
    · replace hs := hs.1 h4
      refine tm_go 4 (pc' := 31) (L' := [some (.ref 47), some (.int a0), some (.int b0)]) (S' := [.int b0, .int a0, .ref 7]) (w' := w3) rfl ?_
      refine tm_c rfl (Nat.le_of_ble_eq_true rfl) (dm_St_cleanSpace (d := d + 1) hs) (fun v w5 hq => ?_)
      obtain ⟨rfl, hs⟩ := hq
      refine tm_go 1 (pc' := 35) (L' := [some (.ref 47), some (.int a0), some (.int b0)]) (S' := [.int 0]) (w' := w5) rfl ?_
      exact tm_r rfl ⟨_, rfl, hs⟩
    · replace hs := hs.2 h4
      refine tm_go 1 (pc' := 24) (L' := [some (.ref 47), some (.int a0), some (.int b0)]) (S' := [.int 3]) (w' := w3) rfl ?_
      exact tm_r rfl ⟨_, rfl, hs⟩
set_option maxHeartbeats 4000000 in
set_option maxRecDepth 100000 in
theorem dm_Wa_closeOne {d : Nat} {w : MW} {a0 : Int32} {Q : MW → Prop} (hs : p_Wa_closeOne w a0 Q) : Tc (d + 1) 272 [.ref 26, .int a0] w (RV Q) := by
  unfold p_Wa_closeOne at hs
  refine tm_go 3 (pc' := 3) (L' := [some (.ref 26), some (.int a0)]) (S' := [.int 0, .int a0, .ref 26]) (w' := w) rfl ?_
  refine tm_c rfl (Nat.le_of_ble_eq_true rfl) (dm_Wa_remove (d := d + 0) hs) (fun v w1 hq => ?_)
  obtain ⟨rfl, hs⟩ := hq
  exact tm_r rfl ⟨rfl, hs⟩
set_option maxHeartbeats 4000000 in
set_option maxRecDepth 100000 in
theorem tx_Wa_indexOf_2 {d : Nat} {x2_1 : Int32} {x2_2 : Int32} {E : MW → Prop} {Q : Int32 → MW → Prop} (n : Nat) : ∀ (x2_3 : Int32)   (w : MW), q_Wa_indexOf_2 x2_1 x2_2 E Q n x2_3 w → (∀  (v0 : Option Value) (v1 : Option Value) (v2 : Option Value) (v3 : Option Value) (w : MW), E  w → Tm (d + 0) 264 38 [v0, v1, v2, v3] [] w (RI Q)) → Tm (d + 0) 264 2 [some (.ref 26), some (.int x2_1), some (.int x2_2), some (.int x2_3)] [] w (RI Q) := by
  induction n with
  | zero => intro x2_3  w hs; rw [q_Wa_indexOf_2.eq_1] at hs; exact hs.elim
  | succ n ih =>
    intro x2_3  w hs hE
    rw [q_Wa_indexOf_2.eq_2] at hs
    refine tm_go 3 (pc' := 7) (L' := [some (.ref 26), some (.int x2_1), some (.int x2_2), some (.int x2_3)]) (S' := [.int (w.1 26 1), .int x2_3]) (w' := w) rfl ?_
    refine tm_i (p1 := 38) (p2 := 10) rfl (fun h1 => ?_) (fun h1 => ?_)
    · replace hs := hs.1 h1
      exact hE _ _ _ _ _ hs
    · replace hs := hs.2 h1
      refine tm_go 3 (pc' := 15) (L' := [some (.ref 26), some (.int x2_1), some (.int x2_2), some (.int x2_3)]) (S' := [.int x2_3, .ref 27]) (w' := w) rfl ?_
      obtain ⟨b2, hs⟩ := hs
      refine tm_k (pc' := 16) (L' := [some (.ref 26), some (.int x2_1), some (.int x2_2), some (.int x2_3)]) (S' := [.int (w.1 27 x2_3.toInt.toNat)]) (w' := w) rfl b2 ?_
      refine tm_go 1 (pc' := 17) (L' := [some (.ref 26), some (.int x2_1), some (.int x2_2), some (.int x2_3)]) (S' := [.int x2_1, .int (w.1 27 x2_3.toInt.toNat)]) (w' := w) rfl ?_
      refine tm_i (p1 := 32) (p2 := 20) rfl (fun h3 => ?_) (fun h3 => ?_)
      · replace hs := hs.1 h3
        refine tm_go 2 (pc' := 2) (L' := [some (.ref 26), some (.int x2_1), some (.int x2_2), some (.int (x2_3 + (1 : Int32)))]) (S' := []) (w' := w) rfl ?_
        exact ih _ _ hs hE
      · replace hs := hs.2 h3
        refine tm_go 3 (pc' := 25) (L' := [some (.ref 26), some (.int x2_1), some (.int x2_2), some (.int x2_3)]) (S' := [.int x2_3, .ref 28]) (w' := w) rfl ?_
        obtain ⟨b4, hs⟩ := hs
        refine tm_k (pc' := 26) (L' := [some (.ref 26), some (.int x2_1), some (.int x2_2), some (.int x2_3)]) (S' := [.int (w.1 28 x2_3.toInt.toNat)]) (w' := w) rfl b4 ?_
        refine tm_go 1 (pc' := 27) (L' := [some (.ref 26), some (.int x2_1), some (.int x2_2), some (.int x2_3)]) (S' := [.int x2_2, .int (w.1 28 x2_3.toInt.toNat)]) (w' := w) rfl ?_
        refine tm_i (p1 := 32) (p2 := 30) rfl (fun h5 => ?_) (fun h5 => ?_)
        · replace hs := hs.1 h5
          refine tm_go 2 (pc' := 2) (L' := [some (.ref 26), some (.int x2_1), some (.int x2_2), some (.int (x2_3 + (1 : Int32)))]) (S' := []) (w' := w) rfl ?_
          exact ih _ _ hs hE
        · replace hs := hs.2 h5
          refine tm_go 1 (pc' := 31) (L' := [some (.ref 26), some (.int x2_1), some (.int x2_2), some (.int x2_3)]) (S' := [.int x2_3]) (w' := w) rfl ?_
          exact tm_r rfl ⟨_, rfl, hs⟩
set_option maxHeartbeats 4000000 in
set_option maxRecDepth 100000 in
theorem dm_Wa_indexOf {d : Nat} {w : MW} {a0 : Int32} {b0 : Int32} {Q : Int32 → MW → Prop} (hs : p_Wa_indexOf w a0 b0 Q) : Tc (d + 0) 264 [.ref 26, .int a0, .int b0] w (RI Q) := by
  unfold p_Wa_indexOf at hs
  refine tm_go 2 (pc' := 2) (L' := [some (.ref 26), some (.int a0), some (.int b0), some (.int 0)]) (S' := []) (w' := w) rfl ?_
  refine tx_Wa_indexOf_2 FU _ _ hs (fun  z6_0 z6_1 z6_2 z6_3 w6 hs => ?_)
  refine tm_go 1 (pc' := 39) (L' := [z6_0, z6_1, z6_2, z6_3]) (S' := [.int (-1)]) (w' := w6) rfl ?_
  exact tm_r rfl ⟨_, rfl, hs⟩
set_option maxHeartbeats 4000000 in
set_option maxRecDepth 100000 in
theorem dm_Ac_closeWay {d : Nat} {w : MW} {a0 : Int32} {b0 : Int32} {Q : Int32 → MW → Prop} (hs : p_Ac_closeWay w a0 b0 Q) : Tc (d + 2) 131 [.ref 47, .int a0, .int b0] w (RI Q) := by
  unfold p_Ac_closeWay at hs
  refine tm_go 4 (pc' := 6) (L' := [some (.ref 47), some (.int a0), some (.int b0), none]) (S' := [.int b0, .int a0, .ref 26]) (w' := w) rfl ?_
  refine tm_c rfl (Nat.le_of_ble_eq_true rfl) (dm_Wa_indexOf (d := d + 1) hs) (fun v w1 hq => ?_)
  obtain ⟨r1, rfl, hs⟩ := hq
  refine tm_go 2 (pc' := 11) (L' := [some (.ref 47), some (.int a0), some (.int b0), some (.int r1)]) (S' := [.int r1]) (w' := w1) rfl ?_
  refine tm_i (p1 := 16) (p2 := 14) rfl (fun h2 => ?_) (fun h2 => ?_)
  · replace hs := hs.1 h2
    refine tm_go 3 (pc' := 21) (L' := [some (.ref 47), some (.int a0), some (.int b0), some (.int r1)]) (S' := [.int r1, .ref 26]) (w' := w1) rfl ?_
    refine tm_c rfl (Nat.le_of_ble_eq_true rfl) (dm_Wa_closeOne (d := d + 0) hs) (fun v w3 hq => ?_)
    obtain ⟨rfl, hs⟩ := hq
    refine tm_go 1 (pc' := 25) (L' := [some (.ref 47), some (.int a0), some (.int b0), some (.int r1)]) (S' := [.int 0]) (w' := w3) rfl ?_
    exact tm_r rfl ⟨_, rfl, hs⟩
  · replace hs := hs.2 h2
    refine tm_go 1 (pc' := 15) (L' := [some (.ref 47), some (.int a0), some (.int b0), some (.int r1)]) (S' := [.int 3]) (w' := w1) rfl ?_
    exact tm_r rfl ⟨_, rfl, hs⟩
set_option maxHeartbeats 4000000 in
set_option maxRecDepth 100000 in
theorem tx_St_emptyCells_12 {d : Nat} {x12_2 : Int32} {E : MW → Prop} {Q : MW → Prop} (n : Nat) : ∀ (x12_3 : Int32)  (z1 : Option Value) (w : MW), q_St_emptyCells_12 x12_2 E Q n x12_3 w → (∀  (v0 : Option Value) (v1 : Option Value) (v2 : Option Value) (v3 : Option Value) (w : MW), E  w → Tm (d + 0) 250 38 [v0, v1, v2, v3] [] w (RV Q)) → Tm (d + 0) 250 12 [some (.ref 7), z1, some (.int x12_2), some (.int x12_3)] [] w (RV Q) := by
  induction n with
  | zero => intro x12_3 z1 w hs; rw [q_St_emptyCells_12.eq_1] at hs; exact hs.elim
  | succ n ih =>
    intro x12_3 z1 w hs hE
    rw [q_St_emptyCells_12.eq_2] at hs
    refine tm_go 1 (pc' := 13) (L' := [some (.ref 7), z1, some (.int x12_2), some (.int x12_3)]) (S' := [.int x12_2]) (w' := w) rfl ?_
    refine tm_i (p1 := 38) (p2 := 16) rfl (fun h2 => ?_) (fun h2 => ?_)
    · replace hs := hs.1 h2
      exact hE _ _ _ _ _ hs
    · replace hs := hs.2 h2
      refine tm_go 2 (pc' := 18) (L' := [some (.ref 7), z1, some (.int x12_2), some (.int x12_3)]) (S' := [.int 4, .int x12_3]) (w' := w) rfl ?_
      refine tm_i (p1 := 38) (p2 := 21) rfl (fun h3 => ?_) (fun h3 => ?_)
      · replace hs := hs.1 h3
        exact hE _ _ _ _ _ hs
      · replace hs := hs.2 h3
        refine tm_go 8 (pc' := 31) (L' := [some (.ref 7), z1, some (.int x12_2), some (.int x12_3)]) (S' := [.long 0, .int ((x12_2 * (4 : Int32)) + x12_3), .ref 20]) (w' := w) rfl ?_
        obtain ⟨b4, hs⟩ := hs
        refine tm_k (pc' := 32) (L' := [some (.ref 7), z1, some (.int x12_2), some (.int x12_3)]) (S' := []) (w' := (sJ w 20 (((x12_2 * (4 : Int32)) + x12_3).toInt.toNat) 0)) rfl b4 ?_
        refine tm_go 2 (pc' := 12) (L' := [some (.ref 7), z1, some (.int x12_2), some (.int (x12_3 + (1 : Int32)))]) (S' := []) (w' := (sJ w 20 (((x12_2 * (4 : Int32)) + x12_3).toInt.toNat) 0)) rfl ?_
        exact ih _ _ _ hs hE
set_option maxHeartbeats 4000000 in
set_option maxRecDepth 100000 in
theorem dm_St_emptyCells {d : Nat} {w : MW} {a0 : Int32} {Q : MW → Prop} (hs : p_St_emptyCells w a0 Q) : Tc (d + 0) 250 [.ref 7, .int a0] w (RV Q) := by
  unfold p_St_emptyCells at hs
  refine tm_go 2 (pc' := 2) (L' := [some (.ref 7), some (.int a0), none, none]) (S' := [.ref 7, .int a0]) (w' := w) rfl ?_
  obtain ⟨b1, hs⟩ := hs
  refine tm_g (pc' := 5) (k := 7) (j := 0) rfl b1 ?_
  refine tm_go 5 (pc' := 12) (L' := [some (.ref 7), some (.int a0), some (.int (a0 - (w.1 8 0))), some (.int 0)]) (S' := []) (w' := w) rfl ?_
  refine tx_St_emptyCells_12 FU _ _ _ hs (fun  z5_0 z5_1 z5_2 z5_3 w5 hs => ?_)
  exact tm_r rfl ⟨rfl, hs⟩
set_option maxHeartbeats 4000000 in
set_option maxRecDepth 100000 in
theorem dm_St_leave {d : Nat} {w : MW} {a0 : Int32} {b0 : Int32} {Q : MW → Prop} (hs : p_St_leave w a0 b0 Q) : Tc (d + 1) 249 [.ref 7, .int a0, .int b0] w (RV Q) := by
  unfold p_St_leave at hs
  refine tm_go 3 (pc' := 5) (L' := [some (.ref 7), some (.int a0), some (.int b0)]) (S' := [.int a0, .ref 17]) (w' := w) rfl ?_
  obtain ⟨b1, hs⟩ := hs
  refine tm_k (pc' := 6) (L' := [some (.ref 7), some (.int a0), some (.int b0)]) (S' := [.int (w.1 17 a0.toInt.toNat)]) (w' := w) rfl b1 ?_
  refine tm_i (p1 := 10) (p2 := 9) rfl (fun h2 => ?_) (fun h2 => ?_)
  · replace hs := hs.1 h2
    refine tm_go 7 (pc' := 21) (L' := [some (.ref 7), some (.int a0), some (.int b0)]) (S' := [.int a0, .ref 18, .int 0, .int a0, .ref 18]) (w' := w) rfl ?_
    obtain ⟨b3, hs⟩ := hs
    refine tm_k (pc' := 22) (L' := [some (.ref 7), some (.int a0), some (.int b0)]) (S' := [.int (w.1 18 a0.toInt.toNat), .int 0, .int a0, .ref 18]) (w' := w) rfl b3 ?_
    refine tm_go 2 (pc' := 24) (L' := [some (.ref 7), some (.int a0), some (.int b0)]) (S' := [.int ((w.1 18 a0.toInt.toNat) - b0), .int 0, .int a0, .ref 18]) (w' := w) rfl ?_
    refine tm_c rfl (Nat.le_of_ble_eq_true rfl) (dm_Ma_max (d := d + 0) hs) (fun v w4 hq => ?_)
    obtain ⟨r4, rfl, hs⟩ := hq
    obtain ⟨b5, hs⟩ := hs
    refine tm_k (pc' := 28) (L' := [some (.ref 7), some (.int a0), some (.int b0)]) (S' := []) (w' := (sI w4 18 a0.toInt.toNat r4)) rfl b5 ?_
    refine tm_go 3 (pc' := 33) (L' := [some (.ref 7), some (.int a0), some (.int b0)]) (S' := [.int a0, .ref 18]) (w' := (sI w4 18 a0.toInt.toNat r4)) rfl ?_
    obtain ⟨b6, hs⟩ := hs
    refine tm_k (pc' := 34) (L' := [some (.ref 7), some (.int a0), some (.int b0)]) (S' := [.int ((sI w4 18 a0.toInt.toNat r4).1 18 a0.toInt.toNat)]) (w' := (sI w4 18 a0.toInt.toNat r4)) rfl b6 ?_
    refine tm_i (p1 := 61) (p2 := 37) rfl (fun h7 => ?_) (fun h7 => ?_)
    · replace hs := hs.1 h7
      exact tm_r rfl ⟨rfl, hs⟩
    · replace hs := hs.2 h7
      refine tm_go 6 (pc' := 47) (L' := [some (.ref 7), some (.int a0), some (.int b0)]) (S' := [.int a0, .ref 17, .int a0, .ref 19]) (w' := (sI w4 18 a0.toInt.toNat r4)) rfl ?_
      obtain ⟨b8, hs⟩ := hs
      refine tm_k (pc' := 48) (L' := [some (.ref 7), some (.int a0), some (.int b0)]) (S' := [.int (w4.1 17 a0.toInt.toNat), .int a0, .ref 19]) (w' := (sI w4 18 a0.toInt.toNat r4)) rfl b8 ?_
      obtain ⟨b9, hs⟩ := hs
      refine tm_k (pc' := 49) (L' := [some (.ref 7), some (.int a0), some (.int b0)]) (S' := []) (w' := (sI (sI w4 18 a0.toInt.toNat r4) 19 a0.toInt.toNat (w4.1 17 a0.toInt.toNat))) rfl b9 ?_
      refine tm_go 4 (pc' := 55) (L' := [some (.ref 7), some (.int a0), some (.int b0)]) (S' := [.int 0, .int a0, .ref 17]) (w' := (sI (sI w4 18 a0.toInt.toNat r4) 19 a0.toInt.toNat (w4.1 17 a0.toInt.toNat))) rfl ?_
      obtain ⟨b10, hs⟩ := hs
      refine tm_k (pc' := 56) (L' := [some (.ref 7), some (.int a0), some (.int b0)]) (S' := []) (w' := (sI (sI (sI w4 18 a0.toInt.toNat r4) 19 a0.toInt.toNat (w4.1 17 a0.toInt.toNat)) 17 a0.toInt.toNat 0)) rfl b10 ?_
      refine tm_go 2 (pc' := 58) (L' := [some (.ref 7), some (.int a0), some (.int b0)]) (S' := [.int a0, .ref 7]) (w' := (sI (sI (sI w4 18 a0.toInt.toNat r4) 19 a0.toInt.toNat (w4.1 17 a0.toInt.toNat)) 17 a0.toInt.toNat 0)) rfl ?_
      refine tm_c rfl (Nat.le_of_ble_eq_true rfl) (dm_St_forgetCleanings (d := d + 0) hs) (fun v w11 hq => ?_)
      obtain ⟨rfl, hs⟩ := hq
      exact tm_r rfl ⟨rfl, hs⟩
  · replace hs := hs.2 h2
    exact tm_r rfl ⟨rfl, hs⟩
set_option maxHeartbeats 4000000 in
set_option maxRecDepth 100000 in
theorem dm_Ac_drainSpace {d : Nat} {w : MW} {a0 : Int32} {Q : Int32 → MW → Prop} (hs : p_Ac_drainSpace w a0 Q) : Tc (d + 2) 134 [.ref 47, .int a0] w (RI Q) := by
  unfold p_Ac_drainSpace at hs
  refine tm_go 3 (pc' := 5) (L' := [some (.ref 47), some (.int a0)]) (S' := [.int a0, .ref 26]) (w' := w) rfl ?_
  refine tm_c rfl (Nat.le_of_ble_eq_true rfl) (dm_Wa_hasSpace (d := d + 0) hs) (fun v w1 hq => ?_)
  obtain ⟨r1, rfl, hz1, hs⟩ := hq
  refine tm_i (p1 := 13) (p2 := 11) rfl (fun h2 => ?_) (fun h2 => ?_)
  · replace hs := hs.1 h2
    refine tm_go 7 (pc' := 26) (L' := [some (.ref 47), some (.int a0)]) (S' := [.int a0, .ref 18, .int a0, .ref 7]) (w' := w1) rfl ?_
    obtain ⟨b3, hs⟩ := hs
    refine tm_k (pc' := 27) (L' := [some (.ref 47), some (.int a0)]) (S' := [.int (w1.1 18 a0.toInt.toNat), .int a0, .ref 7]) (w' := w1) rfl b3 ?_
    refine tm_c rfl (Nat.le_of_ble_eq_true rfl) (dm_St_leave (d := d + 0) hs) (fun v w4 hq => ?_)
    obtain ⟨rfl, hs⟩ := hq
    refine tm_go 3 (pc' := 35) (L' := [some (.ref 47), some (.int a0)]) (S' := [.int a0, .ref 7]) (w' := w4) rfl ?_
    refine tm_c rfl (Nat.le_of_ble_eq_true rfl) (dm_St_emptyCells (d := d + 1) hs) (fun v w5 hq => ?_)
    obtain ⟨rfl, hs⟩ := hq
    refine tm_go 1 (pc' := 39) (L' := [some (.ref 47), some (.int a0)]) (S' := [.int 0]) (w' := w5) rfl ?_
    exact tm_r rfl ⟨_, rfl, hs⟩
  · replace hs := hs.2 h2
    refine tm_go 1 (pc' := 12) (L' := [some (.ref 47), some (.int a0)]) (S' := [.int 3]) (w' := w1) rfl ?_
    exact tm_r rfl ⟨_, rfl, hs⟩
set_option maxHeartbeats 4000000 in
set_option maxRecDepth 100000 in
theorem dm_St_isHolder {d : Nat} {w : MW} {a0 : Int32} {Q : Int32 → MW → Prop} (hs : p_St_isHolder w a0 Q) : Tc (d + 1) 241 [.ref 7, .int a0] w (RZ Q) := by
  unfold p_St_isHolder at hs
  refine tm_go 2 (pc' := 2) (L' := [some (.ref 7), some (.int a0)]) (S' := [.int a0, .ref 7]) (w' := w) rfl ?_
  refine tm_c rfl (Nat.le_of_ble_eq_true rfl) (dm_St_isTank (d := d + 0) hs) (fun v w1 hq => ?_)
  obtain ⟨r1, rfl, hz1, hs⟩ := hq
  refine tm_i (p1 := 16) (p2 := 8) rfl (fun h2 => ?_) (fun h2 => ?_)
  · replace hs := hs.1 h2
    refine tm_go 2 (pc' := 21) (L' := [some (.ref 7), some (.int a0)]) (S' := [.int 1]) (w' := w1) rfl ?_
    exact tm_r rfl ⟨_, rfl, by decide, hs⟩
  · replace hs := hs.2 h2
    refine tm_go 2 (pc' := 10) (L' := [some (.ref 7), some (.int a0)]) (S' := [.int a0, .ref 7]) (w' := w1) rfl ?_
    refine tm_c rfl (Nat.le_of_ble_eq_true rfl) (dm_St_isPipe (d := d + 0) hs) (fun v w3 hq => ?_)
    obtain ⟨r3, rfl, hz3, hs⟩ := hq
    refine tm_i (p1 := 20) (p2 := 16) rfl (fun h4 => ?_) (fun h4 => ?_)
    · replace hs := hs.1 h4
      refine tm_go 1 (pc' := 21) (L' := [some (.ref 7), some (.int a0)]) (S' := [.int 0]) (w' := w3) rfl ?_
      exact tm_r rfl ⟨_, rfl, by decide, hs⟩
    · replace hs := hs.2 h4
      refine tm_go 2 (pc' := 21) (L' := [some (.ref 7), some (.int a0)]) (S' := [.int 1]) (w' := w3) rfl ?_
      exact tm_r rfl ⟨_, rfl, by decide, hs⟩
set_option maxHeartbeats 4000000 in
set_option maxRecDepth 100000 in
theorem dm_St_isValve {d : Nat} {w : MW} {a0 : Int32} {Q : Int32 → MW → Prop} (hs : p_St_isValve w a0 Q) : Tc (d + 0) 239 [.ref 7, .int a0] w (RZ Q) := by
  unfold p_St_isValve at hs
  refine tm_go 1 (pc' := 1) (L' := [some (.ref 7), some (.int a0)]) (S' := [.int a0]) (w' := w) rfl ?_
  refine tm_i (p1 := 33) (p2 := 4) rfl (fun h1 => ?_) (fun h1 => ?_)
  · replace hs := hs.1 h1
    refine tm_go 1 (pc' := 34) (L' := [some (.ref 7), some (.int a0)]) (S' := [.int 0]) (w' := w) rfl ?_
    exact tm_r rfl ⟨_, rfl, by decide, hs⟩
  · replace hs := hs.2 h1
    refine tm_go 2 (pc' := 6) (L' := [some (.ref 7), some (.int a0)]) (S' := [.ref 7, .int a0]) (w' := w) rfl ?_
    obtain ⟨b2, hs⟩ := hs
    refine tm_g (pc' := 9) (k := 7) (j := 0) rfl b2 ?_
    refine tm_go 1 (pc' := 12) (L' := [some (.ref 7), some (.int a0)]) (S' := [.int (w.1 8 0), .int a0]) (w' := w) rfl ?_
    refine tm_i (p1 := 33) (p2 := 15) rfl (fun h3 => ?_) (fun h3 => ?_)
    · replace hs := hs.1 h3
      refine tm_go 1 (pc' := 34) (L' := [some (.ref 7), some (.int a0)]) (S' := [.int 0]) (w' := w) rfl ?_
      exact tm_r rfl ⟨_, rfl, by decide, hs⟩
    · replace hs := hs.2 h3
      refine tm_go 1 (pc' := 16) (L' := [some (.ref 7), some (.int a0)]) (S' := [.ref 7]) (w' := w) rfl ?_
      obtain ⟨b4, hs⟩ := hs
      refine tm_g (pc' := 19) (k := 7) (j := 0) rfl b4 ?_
      refine tm_go 2 (pc' := 23) (L' := [some (.ref 7), some (.int a0)]) (S' := [.int a0, .ref 9]) (w' := w) rfl ?_
      obtain ⟨b5, hs⟩ := hs
      refine tm_k (pc' := 24) (L' := [some (.ref 7), some (.int a0)]) (S' := [.int (w.1 9 a0.toInt.toNat)]) (w' := w) rfl b5 ?_
      refine tm_go 1 (pc' := 26) (L' := [some (.ref 7), some (.int a0)]) (S' := [.int 8, .int (w.1 9 a0.toInt.toNat)]) (w' := w) rfl ?_
      refine tm_i (p1 := 33) (p2 := 29) rfl (fun h6 => ?_) (fun h6 => ?_)
      · replace hs := hs.1 h6
        refine tm_go 1 (pc' := 34) (L' := [some (.ref 7), some (.int a0)]) (S' := [.int 0]) (w' := w) rfl ?_
        exact tm_r rfl ⟨_, rfl, by decide, hs⟩
      · replace hs := hs.2 h6
        refine tm_go 2 (pc' := 34) (L' := [some (.ref 7), some (.int a0)]) (S' := [.int 1]) (w' := w) rfl ?_
        exact tm_r rfl ⟨_, rfl, by decide, hs⟩
set_option maxHeartbeats 4000000 in
set_option maxRecDepth 100000 in
theorem dm_Ac_isBound {d : Nat} {w : MW} {a0 : Int32} {Q : Int32 → MW → Prop} (hs : p_Ac_isBound w a0 Q) : Tc (d + 2) 128 [.ref 47, .int a0] w (RZ Q) := by
  unfold p_Ac_isBound at hs
  refine tm_go 3 (pc' := 5) (L' := [some (.ref 47), some (.int a0)]) (S' := [.int a0, .ref 60]) (w' := w) rfl ?_
  obtain ⟨b1, hs⟩ := hs
  refine tm_k (pc' := 6) (L' := [some (.ref 47), some (.int a0)]) (S' := [.int (w.1 60 a0.toInt.toNat)]) (w' := w) rfl b1 ?_
  by_cases h2 : (w.1 60 a0.toInt.toNat).toInt = 0
  · replace hs := hs.1 h2
    refine tm_tab (dflt := 121) (lo := 0) (ts := [40, 40, 93, 107, 107]) rfl (by rw [h2]; decide) (t := 40) (by rw [h2]; rfl) ?_
    refine tm_go 5 (pc' := 49) (L' := [some (.ref 47), some (.int a0)]) (S' := [.int a0, .ref 57, .ref 7]) (w' := w) rfl ?_
    obtain ⟨b3, hs⟩ := hs
    refine tm_k (pc' := 50) (L' := [some (.ref 47), some (.int a0)]) (S' := [.int (w.1 57 a0.toInt.toNat), .ref 7]) (w' := w) rfl b3 ?_
    refine tm_c rfl (Nat.le_of_ble_eq_true rfl) (dm_St_isTank (d := d + 1) hs) (fun v w4 hq => ?_)
    obtain ⟨r4, rfl, hz4, hs⟩ := hq
    refine tm_i (p1 := 91) (p2 := 56) rfl (fun h5 => ?_) (fun h5 => ?_)
    · replace hs := hs.1 h5
      refine tm_go 1 (pc' := 92) (L' := [some (.ref 47), some (.int a0)]) (S' := [.int 0]) (w' := w4) rfl ?_
      exact tm_r rfl ⟨_, rfl, by decide, hs⟩
    · replace hs := hs.2 h5
      refine tm_go 5 (pc' := 65) (L' := [some (.ref 47), some (.int a0)]) (S' := [.int a0, .ref 58, .ref 7]) (w' := w4) rfl ?_
      obtain ⟨b6, hs⟩ := hs
      refine tm_k (pc' := 66) (L' := [some (.ref 47), some (.int a0)]) (S' := [.int (w4.1 58 a0.toInt.toNat), .ref 7]) (w' := w4) rfl b6 ?_
      refine tm_c rfl (Nat.le_of_ble_eq_true rfl) (dm_St_isTank (d := d + 1) hs) (fun v w7 hq => ?_)
      obtain ⟨r7, rfl, hz7, hs⟩ := hq
      refine tm_i (p1 := 91) (p2 := 72) rfl (fun h8 => ?_) (fun h8 => ?_)
      · replace hs := hs.1 h8
        refine tm_go 1 (pc' := 92) (L' := [some (.ref 47), some (.int a0)]) (S' := [.int 0]) (w' := w7) rfl ?_
        exact tm_r rfl ⟨_, rfl, by decide, hs⟩
      · replace hs := hs.2 h8
        refine tm_go 3 (pc' := 77) (L' := [some (.ref 47), some (.int a0)]) (S' := [.int a0, .ref 57]) (w' := w7) rfl ?_
        obtain ⟨b9, hs⟩ := hs
        refine tm_k (pc' := 78) (L' := [some (.ref 47), some (.int a0)]) (S' := [.int (w7.1 57 a0.toInt.toNat)]) (w' := w7) rfl b9 ?_
        refine tm_go 3 (pc' := 83) (L' := [some (.ref 47), some (.int a0)]) (S' := [.int a0, .ref 58, .int (w7.1 57 a0.toInt.toNat)]) (w' := w7) rfl ?_
        obtain ⟨b10, hs⟩ := hs
        refine tm_k (pc' := 84) (L' := [some (.ref 47), some (.int a0)]) (S' := [.int (w7.1 58 a0.toInt.toNat), .int (w7.1 57 a0.toInt.toNat)]) (w' := w7) rfl b10 ?_
        refine tm_i (p1 := 91) (p2 := 87) rfl (fun h11 => ?_) (fun h11 => ?_)
        · replace hs := hs.1 h11
          refine tm_go 1 (pc' := 92) (L' := [some (.ref 47), some (.int a0)]) (S' := [.int 0]) (w' := w7) rfl ?_
          exact tm_r rfl ⟨_, rfl, by decide, hs⟩
        · replace hs := hs.2 h11
          refine tm_go 2 (pc' := 92) (L' := [some (.ref 47), some (.int a0)]) (S' := [.int 1]) (w' := w7) rfl ?_
          exact tm_r rfl ⟨_, rfl, by decide, hs⟩
  · replace hs := hs.2 h2
    by_cases h12 : (w.1 60 a0.toInt.toNat).toInt = 1
    · replace hs := hs.1 h12
      refine tm_tab (dflt := 121) (lo := 0) (ts := [40, 40, 93, 107, 107]) rfl (by rw [h12]; decide) (t := 40) (by rw [h12]; rfl) ?_
      refine tm_go 5 (pc' := 49) (L' := [some (.ref 47), some (.int a0)]) (S' := [.int a0, .ref 57, .ref 7]) (w' := w) rfl ?_
      obtain ⟨b13, hs⟩ := hs
      refine tm_k (pc' := 50) (L' := [some (.ref 47), some (.int a0)]) (S' := [.int (w.1 57 a0.toInt.toNat), .ref 7]) (w' := w) rfl b13 ?_
      refine tm_c rfl (Nat.le_of_ble_eq_true rfl) (dm_St_isTank (d := d + 1) hs) (fun v w14 hq => ?_)
      obtain ⟨r14, rfl, hz14, hs⟩ := hq
      refine tm_i (p1 := 91) (p2 := 56) rfl (fun h15 => ?_) (fun h15 => ?_)
      · replace hs := hs.1 h15
        refine tm_go 1 (pc' := 92) (L' := [some (.ref 47), some (.int a0)]) (S' := [.int 0]) (w' := w14) rfl ?_
        exact tm_r rfl ⟨_, rfl, by decide, hs⟩
      · replace hs := hs.2 h15
        refine tm_go 5 (pc' := 65) (L' := [some (.ref 47), some (.int a0)]) (S' := [.int a0, .ref 58, .ref 7]) (w' := w14) rfl ?_
        obtain ⟨b16, hs⟩ := hs
        refine tm_k (pc' := 66) (L' := [some (.ref 47), some (.int a0)]) (S' := [.int (w14.1 58 a0.toInt.toNat), .ref 7]) (w' := w14) rfl b16 ?_
        refine tm_c rfl (Nat.le_of_ble_eq_true rfl) (dm_St_isTank (d := d + 1) hs) (fun v w17 hq => ?_)
        obtain ⟨r17, rfl, hz17, hs⟩ := hq
        refine tm_i (p1 := 91) (p2 := 72) rfl (fun h18 => ?_) (fun h18 => ?_)
        · replace hs := hs.1 h18
          refine tm_go 1 (pc' := 92) (L' := [some (.ref 47), some (.int a0)]) (S' := [.int 0]) (w' := w17) rfl ?_
          exact tm_r rfl ⟨_, rfl, by decide, hs⟩
        · replace hs := hs.2 h18
          refine tm_go 3 (pc' := 77) (L' := [some (.ref 47), some (.int a0)]) (S' := [.int a0, .ref 57]) (w' := w17) rfl ?_
          obtain ⟨b19, hs⟩ := hs
          refine tm_k (pc' := 78) (L' := [some (.ref 47), some (.int a0)]) (S' := [.int (w17.1 57 a0.toInt.toNat)]) (w' := w17) rfl b19 ?_
          refine tm_go 3 (pc' := 83) (L' := [some (.ref 47), some (.int a0)]) (S' := [.int a0, .ref 58, .int (w17.1 57 a0.toInt.toNat)]) (w' := w17) rfl ?_
          obtain ⟨b20, hs⟩ := hs
          refine tm_k (pc' := 84) (L' := [some (.ref 47), some (.int a0)]) (S' := [.int (w17.1 58 a0.toInt.toNat), .int (w17.1 57 a0.toInt.toNat)]) (w' := w17) rfl b20 ?_
          refine tm_i (p1 := 91) (p2 := 87) rfl (fun h21 => ?_) (fun h21 => ?_)
          · replace hs := hs.1 h21
            refine tm_go 1 (pc' := 92) (L' := [some (.ref 47), some (.int a0)]) (S' := [.int 0]) (w' := w17) rfl ?_
            exact tm_r rfl ⟨_, rfl, by decide, hs⟩
          · replace hs := hs.2 h21
            refine tm_go 2 (pc' := 92) (L' := [some (.ref 47), some (.int a0)]) (S' := [.int 1]) (w' := w17) rfl ?_
            exact tm_r rfl ⟨_, rfl, by decide, hs⟩
    · replace hs := hs.2 h12
      by_cases h22 : (w.1 60 a0.toInt.toNat).toInt = 2
      · replace hs := hs.1 h22
        refine tm_tab (dflt := 121) (lo := 0) (ts := [40, 40, 93, 107, 107]) rfl (by rw [h22]; decide) (t := 93) (by rw [h22]; rfl) ?_
        refine tm_go 5 (pc' := 102) (L' := [some (.ref 47), some (.int a0)]) (S' := [.int a0, .ref 57, .ref 7]) (w' := w) rfl ?_
        obtain ⟨b23, hs⟩ := hs
        refine tm_k (pc' := 103) (L' := [some (.ref 47), some (.int a0)]) (S' := [.int (w.1 57 a0.toInt.toNat), .ref 7]) (w' := w) rfl b23 ?_
        refine tm_c rfl (Nat.le_of_ble_eq_true rfl) (dm_St_isValve (d := d + 1) hs) (fun v w24 hq => ?_)
        obtain ⟨r24, rfl, hz24, hs⟩ := hq
        exact tm_rk rfl hz24 ⟨_, rfl, hz24, hs⟩
      · replace hs := hs.2 h22
        by_cases h25 : (w.1 60 a0.toInt.toNat).toInt = 3
        · replace hs := hs.1 h25
          refine tm_tab (dflt := 121) (lo := 0) (ts := [40, 40, 93, 107, 107]) rfl (by rw [h25]; decide) (t := 107) (by rw [h25]; rfl) ?_
          refine tm_go 5 (pc' := 116) (L' := [some (.ref 47), some (.int a0)]) (S' := [.int a0, .ref 57, .ref 7]) (w' := w) rfl ?_
          obtain ⟨b26, hs⟩ := hs
          refine tm_k (pc' := 117) (L' := [some (.ref 47), some (.int a0)]) (S' := [.int (w.1 57 a0.toInt.toNat), .ref 7]) (w' := w) rfl b26 ?_
          refine tm_c rfl (Nat.le_of_ble_eq_true rfl) (dm_St_isHolder (d := d + 0) hs) (fun v w27 hq => ?_)
          obtain ⟨r27, rfl, hz27, hs⟩ := hq
          exact tm_rk rfl hz27 ⟨_, rfl, hz27, hs⟩
        · replace hs := hs.2 h25
          by_cases h28 : (w.1 60 a0.toInt.toNat).toInt = 4
          · replace hs := hs.1 h28
            refine tm_tab (dflt := 121) (lo := 0) (ts := [40, 40, 93, 107, 107]) rfl (by rw [h28]; decide) (t := 107) (by rw [h28]; rfl) ?_
            refine tm_go 5 (pc' := 116) (L' := [some (.ref 47), some (.int a0)]) (S' := [.int a0, .ref 57, .ref 7]) (w' := w) rfl ?_
            obtain ⟨b29, hs⟩ := hs
            refine tm_k (pc' := 117) (L' := [some (.ref 47), some (.int a0)]) (S' := [.int (w.1 57 a0.toInt.toNat), .ref 7]) (w' := w) rfl b29 ?_
            refine tm_c rfl (Nat.le_of_ble_eq_true rfl) (dm_St_isHolder (d := d + 0) hs) (fun v w30 hq => ?_)
            obtain ⟨r30, rfl, hz30, hs⟩ := hq
            exact tm_rk rfl hz30 ⟨_, rfl, hz30, hs⟩
          · replace hs := hs.2 h28
            refine tm_tad (dflt := 121) (lo := 0) (ts := [40, 40, 93, 107, 107]) rfl (by simp only [List.length_cons, List.length_nil]; omega) ?_
            refine tm_go 1 (pc' := 122) (L' := [some (.ref 47), some (.int a0)]) (S' := [.int 0]) (w' := w) rfl ?_
            exact tm_r rfl ⟨_, rfl, by decide, hs⟩
set_option maxHeartbeats 4000000 in
set_option maxRecDepth 100000 in
theorem tx_Wa_cheapestEntry_8 {d : Nat} {x8_1 : Int32} {E : Int32 → MW → Prop} {Q : Int32 → MW → Prop} (n : Nat) : ∀ (x8_2 : Int32) (x8_3 : Int32) (x8_4 : Int32)   (w : MW), q_Wa_cheapestEntry_8 x8_1 E Q n x8_2 x8_3 x8_4 w → (∀ (e8_2 : Int32)  (v0 : Option Value) (v1 : Option Value) (v3 : Option Value) (v4 : Option Value) (w : MW), E e8_2 w → Tm (d + 0) 268 70 [v0, v1, some (.int e8_2), v3, v4] [] w (RI Q)) → Tm (d + 0) 268 8 [some (.ref 26), some (.int x8_1), some (.int x8_2), some (.int x8_3), some (.int x8_4)] [] w (RI Q) := by
  induction n with
  | zero => intro x8_2 x8_3 x8_4  w hs; rw [q_Wa_cheapestEntry_8.eq_1] at hs; exact hs.elim
  | succ n ih =>
    intro x8_2 x8_3 x8_4  w hs hE
    rw [q_Wa_cheapestEntry_8.eq_2] at hs
    refine tm_go 4 (pc' := 15) (L' := [some (.ref 26), some (.int x8_1), some (.int x8_2), some (.int x8_3), some (.int x8_4)]) (S' := [.ref 7, .int 2, .int x8_4]) (w' := w) rfl ?_
    obtain ⟨b1, hs⟩ := hs
    refine tm_g (pc' := 18) (k := 7) (j := 0) rfl b1 ?_
    refine tm_go 2 (pc' := 22) (L' := [some (.ref 26), some (.int x8_1), some (.int x8_2), some (.int x8_3), some (.int x8_4)]) (S' := [.int ((2 : Int32) * (w.1 8 1)), .int x8_4]) (w' := w) rfl ?_
    refine tm_i (p1 := 70) (p2 := 25) rfl (fun h2 => ?_) (fun h2 => ?_)
    · replace hs := hs.1 h2
      exact hE _ _ _ _ _ _ hs
    · replace hs := hs.2 h2
      refine tm_go 2 (pc' := 29) (L' := [some (.ref 26), some (.int x8_1), some (.int x8_2), some (.int x8_3), some (.int x8_4)]) (S' := [.ref 7]) (w' := w) rfl ?_
      obtain ⟨b3, hs⟩ := hs
      refine tm_g (pc' := 32) (k := 7) (j := 0) rfl b3 ?_
      refine tm_go 2 (pc' := 37) (L' := [some (.ref 26), some (.int x8_1), some (.int x8_2), some (.int x8_3), some (.int x8_4)]) (S' := [.int x8_4, .ref 13]) (w' := w) rfl ?_
      obtain ⟨b4, hs⟩ := hs
      refine tm_k (pc' := 38) (L' := [some (.ref 26), some (.int x8_1), some (.int x8_2), some (.int x8_3), some (.int x8_4)]) (S' := [.int (w.1 13 x8_4.toInt.toNat)]) (w' := w) rfl b4 ?_
      refine tm_go 1 (pc' := 39) (L' := [some (.ref 26), some (.int x8_1), some (.int x8_2), some (.int x8_3), some (.int x8_4)]) (S' := [.int x8_1, .int (w.1 13 x8_4.toInt.toNat)]) (w' := w) rfl ?_
      refine tm_i (p1 := 64) (p2 := 42) rfl (fun h5 => ?_) (fun h5 => ?_)
      · replace hs := hs.1 h5
        refine tm_go 2 (pc' := 8) (L' := [some (.ref 26), some (.int x8_1), some (.int x8_2), some (.int x8_3), some (.int (x8_4 + (1 : Int32)))]) (S' := []) (w' := w) rfl ?_
        exact ih _ _ _ _ hs hE
      · replace hs := hs.2 h5
        refine tm_go 3 (pc' := 48) (L' := [some (.ref 26), some (.int x8_1), some (.int x8_2), some (.int x8_3), some (.int x8_4)]) (S' := [.int x8_4, .ref 38]) (w' := w) rfl ?_
        obtain ⟨b6, hs⟩ := hs
        refine tm_k (pc' := 49) (L' := [some (.ref 26), some (.int x8_1), some (.int x8_2), some (.int x8_3), some (.int x8_4)]) (S' := [.int (w.1 38 x8_4.toInt.toNat)]) (w' := w) rfl b6 ?_
        refine tm_go 1 (pc' := 50) (L' := [some (.ref 26), some (.int x8_1), some (.int x8_2), some (.int x8_3), some (.int x8_4)]) (S' := [.int x8_3, .int (w.1 38 x8_4.toInt.toNat)]) (w' := w) rfl ?_
        refine tm_i (p1 := 64) (p2 := 53) rfl (fun h7 => ?_) (fun h7 => ?_)
        · replace hs := hs.1 h7
          refine tm_go 2 (pc' := 8) (L' := [some (.ref 26), some (.int x8_1), some (.int x8_2), some (.int x8_3), some (.int (x8_4 + (1 : Int32)))]) (S' := []) (w' := w) rfl ?_
          exact ih _ _ _ _ hs hE
        · replace hs := hs.2 h7
          refine tm_go 5 (pc' := 62) (L' := [some (.ref 26), some (.int x8_1), some (.int x8_4), some (.int x8_3), some (.int x8_4)]) (S' := [.int x8_4, .ref 38]) (w' := w) rfl ?_
          obtain ⟨b8, hs⟩ := hs
          refine tm_k (pc' := 63) (L' := [some (.ref 26), some (.int x8_1), some (.int x8_4), some (.int x8_3), some (.int x8_4)]) (S' := [.int (w.1 38 x8_4.toInt.toNat)]) (w' := w) rfl b8 ?_
          refine tm_go 3 (pc' := 8) (L' := [some (.ref 26), some (.int x8_1), some (.int x8_4), some (.int (w.1 38 x8_4.toInt.toNat)), some (.int (x8_4 + (1 : Int32)))]) (S' := []) (w' := w) rfl ?_
          exact ih _ _ _ _ hs hE
set_option maxHeartbeats 4000000 in
set_option maxRecDepth 100000 in
theorem dm_Wa_cheapestEntry {d : Nat} {w : MW} {a0 : Int32} {Q : Int32 → MW → Prop} (hs : p_Wa_cheapestEntry w a0 Q) : Tc (d + 0) 268 [.ref 26, .int a0] w (RI Q) := by
  unfold p_Wa_cheapestEntry at hs
  refine tm_go 6 (pc' := 8) (L' := [some (.ref 26), some (.int a0), some (.int (-1)), some (.int 536870912), some (.int 0)]) (S' := []) (w' := w) rfl ?_
  refine tx_Wa_cheapestEntry_8 FU _ _ _ _ hs (fun e8_2_9 z9_0 z9_1 z9_3 z9_4 w9 hs => ?_)
  refine tm_go 1 (pc' := 71) (L' := [z9_0, z9_1, some (.int e8_2_9), z9_3, z9_4]) (S' := [.int e8_2_9]) (w' := w9) rfl ?_
  exact tm_r rfl ⟨_, rfl, hs⟩
set_option maxHeartbeats 4000000 in
set_option maxRecDepth 100000 in
theorem tx_Wa_onward_132 {d : Nat} {x25_1 : Int32} {x25_3 : Int32} {y132_4 : Int32} {y132_5 : Int32} {y132_6 : Int32} {y132_7 : Int32} {y132_8 : Int32} {ys132_0 : Int32} {z9 : Option Value} {w : MW} {A : Int32 → Int32 → Int32 → MW → Prop} {E : Int32 → MW → Prop} {Q : Int32 → MW → Prop} (hs : q_Wa_onward_132 x25_1 x25_3 y132_4 y132_5 y132_6 y132_7 y132_8 ys132_0 w A E Q) (hA : ∀ (x25_4 : Int32) (x25_5 : Int32) (x25_6 : Int32)  (z7 : Option Value) (z8 : Option Value) (z9 : Option Value) (w : MW), A x25_4 x25_5 x25_6 w → Tm (d + 0) 269 25 [some (.ref 26), some (.int x25_1), some (.ref 8), some (.int x25_3), some (.int x25_4), some (.int x25_5), some (.int x25_6), z7, z8, z9] [] w (RI Q)) (hE : ∀ (e25_4 : Int32)  (v0 : Option Value) (v1 : Option Value) (v2 : Option Value) (v3 : Option Value) (v5 : Option Value) (v6 : Option Value) (v7 : Option Value) (v8 : Option Value) (v9 : Option Value) (w : MW), E e25_4 w → Tm (d + 0) 269 163 [v0, v1, v2, v3, some (.int e25_4), v5, v6, v7, v8, v9] [] w (RI Q)) : Tm (d + 0) 269 132 [some (.ref 26), some (.int x25_1), some (.ref 8), some (.int x25_3), some (.int y132_4), some (.int y132_5), some (.int y132_6), some (.int y132_7), some (.int y132_8), z9] [.int ys132_0] w (RI Q) := by
  unfold q_Wa_onward_132 at hs
  refine tm_go 2 (pc' := 136) (L' := [some (.ref 26), some (.int x25_1), some (.ref 8), some (.int x25_3), some (.int y132_4), some (.int y132_5), some (.int y132_6), some (.int y132_7), some (.int y132_8), some (.int ys132_0)]) (S' := [.int y132_8]) (w' := w) rfl ?_
  refine tm_i (p1 := 157) (p2 := 139) rfl (fun h14 => ?_) (fun h14 => ?_)
  · replace hs := hs.1 h14
    refine tm_go 2 (pc' := 25) (L' := [some (.ref 26), some (.int x25_1), some (.ref 8), some (.int x25_3), some (.int y132_4), some (.int y132_5), some (.int (y132_6 + (1 : Int32))), some (.int y132_7), some (.int y132_8), some (.int ys132_0)]) (S' := []) (w' := w) rfl ?_
    exact hA _ _ _ _ _ _ _ hs
  · replace hs := hs.2 h14
    refine tm_go 1 (pc' := 141) (L' := [some (.ref 26), some (.int x25_1), some (.ref 8), some (.int x25_3), some (.int y132_4), some (.int y132_5), some (.int y132_6), some (.int y132_7), some (.int y132_8), some (.int ys132_0)]) (S' := [.int ys132_0]) (w' := w) rfl ?_
    refine tm_i (p1 := 157) (p2 := 144) rfl (fun h15 => ?_) (fun h15 => ?_)
    · replace hs := hs.1 h15
      refine tm_go 2 (pc' := 25) (L' := [some (.ref 26), some (.int x25_1), some (.ref 8), some (.int x25_3), some (.int y132_4), some (.int y132_5), some (.int (y132_6 + (1 : Int32))), some (.int y132_7), some (.int y132_8), some (.int ys132_0)]) (S' := []) (w' := w) rfl ?_
      exact hA _ _ _ _ _ _ _ hs
    · replace hs := hs.2 h15
      refine tm_go 5 (pc' := 154) (L' := [some (.ref 26), some (.int x25_1), some (.ref 8), some (.int x25_3), some (.int y132_7), some (.int y132_5), some (.int y132_6), some (.int y132_7), some (.int y132_8), some (.int ys132_0)]) (S' := [.int y132_7, .ref 38]) (w' := w) rfl ?_
      obtain ⟨b16, hs⟩ := hs
      refine tm_k (pc' := 155) (L' := [some (.ref 26), some (.int x25_1), some (.ref 8), some (.int x25_3), some (.int y132_7), some (.int y132_5), some (.int y132_6), some (.int y132_7), some (.int y132_8), some (.int ys132_0)]) (S' := [.int (w.1 38 y132_7.toInt.toNat)]) (w' := w) rfl b16 ?_
      refine tm_go 3 (pc' := 25) (L' := [some (.ref 26), some (.int x25_1), some (.ref 8), some (.int x25_3), some (.int y132_7), some (.int (w.1 38 y132_7.toInt.toNat)), some (.int (y132_6 + (1 : Int32))), some (.int y132_7), some (.int y132_8), some (.int ys132_0)]) (S' := []) (w' := w) rfl ?_
      exact hA _ _ _ _ _ _ _ hs
set_option maxHeartbeats 4000000 in
set_option maxRecDepth 100000 in
theorem tx_Wa_onward_25 {d : Nat} {x25_1 : Int32} {x25_3 : Int32} {E : Int32 → MW → Prop} {Q : Int32 → MW → Prop} (n : Nat) : ∀ (x25_4 : Int32) (x25_5 : Int32) (x25_6 : Int32)  (z7 : Option Value) (z8 : Option Value) (z9 : Option Value) (w : MW), q_Wa_onward_25 x25_1 x25_3 E Q n x25_4 x25_5 x25_6 w → (∀ (e25_4 : Int32)  (v0 : Option Value) (v1 : Option Value) (v2 : Option Value) (v3 : Option Value) (v5 : Option Value) (v6 : Option Value) (v7 : Option Value) (v8 : Option Value) (v9 : Option Value) (w : MW), E e25_4 w → Tm (d + 0) 269 163 [v0, v1, v2, v3, some (.int e25_4), v5, v6, v7, v8, v9] [] w (RI Q)) → Tm (d + 0) 269 25 [some (.ref 26), some (.int x25_1), some (.ref 8), some (.int x25_3), some (.int x25_4), some (.int x25_5), some (.int x25_6), z7, z8, z9] [] w (RI Q) := by
  induction n with
  | zero => intro x25_4 x25_5 x25_6 z7 z8 z9 w hs; rw [q_Wa_onward_25.eq_1] at hs; exact hs.elim
  | succ n ih =>
    intro x25_4 x25_5 x25_6 z7 z8 z9 w hs hE
    rw [q_Wa_onward_25.eq_2] at hs
    refine tm_go 2 (pc' := 28) (L' := [some (.ref 26), some (.int x25_1), some (.ref 8), some (.int x25_3), some (.int x25_4), some (.int x25_5), some (.int x25_6), z7, z8, z9]) (S' := [.int 4, .int x25_6]) (w' := w) rfl ?_
    refine tm_i (p1 := 163) (p2 := 31) rfl (fun h3 => ?_) (fun h3 => ?_)
    · replace hs := hs.1 h3
      exact hE _ _ _ _ _ _ _ _ _ _ _ hs
    · replace hs := hs.2 h3
      refine tm_go 1 (pc' := 32) (L' := [some (.ref 26), some (.int x25_1), some (.ref 8), some (.int x25_3), some (.int x25_4), some (.int x25_5), some (.int x25_6), z7, z8, z9]) (S' := [.int x25_3]) (w' := w) rfl ?_
      refine tm_i (p1 := 163) (p2 := 35) rfl (fun h4 => ?_) (fun h4 => ?_)
      · replace hs := hs.1 h4
        exact hE _ _ _ _ _ _ _ _ _ _ _ hs
      · replace hs := hs.2 h4
        refine tm_go 7 (pc' := 45) (L' := [some (.ref 26), some (.int x25_1), some (.ref 8), some (.int x25_3), some (.int x25_4), some (.int x25_5), some (.int x25_6), z7, z8, z9]) (S' := [.int ((x25_3 * (4 : Int32)) + x25_6), .ref 15]) (w' := w) rfl ?_
        obtain ⟨b5, hs⟩ := hs
        refine tm_k (pc' := 46) (L' := [some (.ref 26), some (.int x25_1), some (.ref 8), some (.int x25_3), some (.int x25_4), some (.int x25_5), some (.int x25_6), z7, z8, z9]) (S' := [.int (w.1 15 (((x25_3 * (4 : Int32)) + x25_6).toInt.toNat))]) (w' := w) rfl b5 ?_
        refine tm_go 2 (pc' := 50) (L' := [some (.ref 26), some (.int x25_1), some (.ref 8), some (.int x25_3), some (.int x25_4), some (.int x25_5), some (.int x25_6), some (.int (w.1 15 (((x25_3 * (4 : Int32)) + x25_6).toInt.toNat))), z8, z9]) (S' := [.int (w.1 15 (((x25_3 * (4 : Int32)) + x25_6).toInt.toNat))]) (w' := w) rfl ?_
        refine tm_i (p1 := 157) (p2 := 53) rfl (fun h6 => ?_) (fun h6 => ?_)
        · replace hs := hs.1 h6
          refine tm_go 2 (pc' := 25) (L' := [some (.ref 26), some (.int x25_1), some (.ref 8), some (.int x25_3), some (.int x25_4), some (.int x25_5), some (.int (x25_6 + (1 : Int32))), some (.int (w.1 15 (((x25_3 * (4 : Int32)) + x25_6).toInt.toNat))), z8, z9]) (S' := []) (w' := w) rfl ?_
          exact ih _ _ _ _ _ _ _ hs hE
        · replace hs := hs.2 h6
          refine tm_go 3 (pc' := 59) (L' := [some (.ref 26), some (.int x25_1), some (.ref 8), some (.int x25_3), some (.int x25_4), some (.int x25_5), some (.int x25_6), some (.int (w.1 15 (((x25_3 * (4 : Int32)) + x25_6).toInt.toNat))), z8, z9]) (S' := [.int (w.1 15 (((x25_3 * (4 : Int32)) + x25_6).toInt.toNat)), .ref 38]) (w' := w) rfl ?_
          obtain ⟨b7, hs⟩ := hs
          refine tm_k (pc' := 60) (L' := [some (.ref 26), some (.int x25_1), some (.ref 8), some (.int x25_3), some (.int x25_4), some (.int x25_5), some (.int x25_6), some (.int (w.1 15 (((x25_3 * (4 : Int32)) + x25_6).toInt.toNat))), z8, z9]) (S' := [.int (w.1 38 ((w.1 15 (((x25_3 * (4 : Int32)) + x25_6).toInt.toNat)).toInt.toNat))]) (w' := w) rfl b7 ?_
          refine tm_go 1 (pc' := 62) (L' := [some (.ref 26), some (.int x25_1), some (.ref 8), some (.int x25_3), some (.int x25_4), some (.int x25_5), some (.int x25_6), some (.int (w.1 15 (((x25_3 * (4 : Int32)) + x25_6).toInt.toNat))), z8, z9]) (S' := [.int x25_5, .int (w.1 38 ((w.1 15 (((x25_3 * (4 : Int32)) + x25_6).toInt.toNat)).toInt.toNat))]) (w' := w) rfl ?_
          refine tm_i (p1 := 157) (p2 := 65) rfl (fun h8 => ?_) (fun h8 => ?_)
          · replace hs := hs.1 h8
            refine tm_go 2 (pc' := 25) (L' := [some (.ref 26), some (.int x25_1), some (.ref 8), some (.int x25_3), some (.int x25_4), some (.int x25_5), some (.int (x25_6 + (1 : Int32))), some (.int (w.1 15 (((x25_3 * (4 : Int32)) + x25_6).toInt.toNat))), z8, z9]) (S' := []) (w' := w) rfl ?_
            exact ih _ _ _ _ _ _ _ hs hE
          · replace hs := hs.2 h8
            refine tm_go 5 (pc' := 74) (L' := [some (.ref 26), some (.int x25_1), some (.ref 8), some (.int x25_3), some (.int x25_4), some (.int x25_5), some (.int x25_6), some (.int (w.1 15 (((x25_3 * (4 : Int32)) + x25_6).toInt.toNat))), z8, z9]) (S' := [.int x25_3, .ref 9, .ref 41]) (w' := w) rfl ?_
            obtain ⟨b9, hs⟩ := hs
            refine tm_k (pc' := 75) (L' := [some (.ref 26), some (.int x25_1), some (.ref 8), some (.int x25_3), some (.int x25_4), some (.int x25_5), some (.int x25_6), some (.int (w.1 15 (((x25_3 * (4 : Int32)) + x25_6).toInt.toNat))), z8, z9]) (S' := [.int (w.1 9 x25_3.toInt.toNat), .ref 41]) (w' := w) rfl b9 ?_
            refine tm_go 5 (pc' := 83) (L' := [some (.ref 26), some (.int x25_1), some (.ref 8), some (.int x25_3), some (.int x25_4), some (.int x25_5), some (.int x25_6), some (.int (w.1 15 (((x25_3 * (4 : Int32)) + x25_6).toInt.toNat))), z8, z9]) (S' := [.int x25_1, .ref 14, .int ((w.1 9 x25_3.toInt.toNat) * (16 : Int32)), .ref 41]) (w' := w) rfl ?_
            obtain ⟨b10, hs⟩ := hs
            refine tm_k (pc' := 84) (L' := [some (.ref 26), some (.int x25_1), some (.ref 8), some (.int x25_3), some (.int x25_4), some (.int x25_5), some (.int x25_6), some (.int (w.1 15 (((x25_3 * (4 : Int32)) + x25_6).toInt.toNat))), z8, z9]) (S' := [.int (w.1 14 x25_1.toInt.toNat), .int ((w.1 9 x25_3.toInt.toNat) * (16 : Int32)), .ref 41]) (w' := w) rfl b10 ?_
            refine tm_go 5 (pc' := 90) (L' := [some (.ref 26), some (.int x25_1), some (.ref 8), some (.int x25_3), some (.int x25_4), some (.int x25_5), some (.int x25_6), some (.int (w.1 15 (((x25_3 * (4 : Int32)) + x25_6).toInt.toNat))), z8, z9]) (S' := [.int ((((w.1 9 x25_3.toInt.toNat) * (16 : Int32)) + ((w.1 14 x25_1.toInt.toNat) * (4 : Int32))) + x25_6), .ref 41]) (w' := w) rfl ?_
            obtain ⟨b11, hs⟩ := hs
            refine tm_k (pc' := 91) (L' := [some (.ref 26), some (.int x25_1), some (.ref 8), some (.int x25_3), some (.int x25_4), some (.int x25_5), some (.int x25_6), some (.int (w.1 15 (((x25_3 * (4 : Int32)) + x25_6).toInt.toNat))), z8, z9]) (S' := [.int (w.1 41 (((((w.1 9 x25_3.toInt.toNat) * (16 : Int32)) + ((w.1 14 x25_1.toInt.toNat) * (4 : Int32))) + x25_6).toInt.toNat))]) (w' := w) rfl b11 ?_
            refine tm_go 4 (pc' := 98) (L' := [some (.ref 26), some (.int x25_1), some (.ref 8), some (.int x25_3), some (.int x25_4), some (.int x25_5), some (.int x25_6), some (.int (w.1 15 (((x25_3 * (4 : Int32)) + x25_6).toInt.toNat))), some (.int (w.1 41 (((((w.1 9 x25_3.toInt.toNat) * (16 : Int32)) + ((w.1 14 x25_1.toInt.toNat) * (4 : Int32))) + x25_6).toInt.toNat))), z9]) (S' := [.int x25_3, .ref 37]) (w' := w) rfl ?_
            obtain ⟨b12, hs⟩ := hs
            refine tm_k (pc' := 99) (L' := [some (.ref 26), some (.int x25_1), some (.ref 8), some (.int x25_3), some (.int x25_4), some (.int x25_5), some (.int x25_6), some (.int (w.1 15 (((x25_3 * (4 : Int32)) + x25_6).toInt.toNat))), some (.int (w.1 41 (((((w.1 9 x25_3.toInt.toNat) * (16 : Int32)) + ((w.1 14 x25_1.toInt.toNat) * (4 : Int32))) + x25_6).toInt.toNat))), z9]) (S' := [.int (w.1 37 x25_3.toInt.toNat)]) (w' := w) rfl b12 ?_
            refine tm_i (p1 := 127) (p2 := 102) rfl (fun h13 => ?_) (fun h13 => ?_)
            · replace hs := hs.1 h13
              refine tm_go 2 (pc' := 132) (L' := [some (.ref 26), some (.int x25_1), some (.ref 8), some (.int x25_3), some (.int x25_4), some (.int x25_5), some (.int x25_6), some (.int (w.1 15 (((x25_3 * (4 : Int32)) + x25_6).toInt.toNat))), some (.int (w.1 41 (((((w.1 9 x25_3.toInt.toNat) * (16 : Int32)) + ((w.1 14 x25_1.toInt.toNat) * (4 : Int32))) + x25_6).toInt.toNat))), z9]) (S' := [.int 1]) (w' := w) rfl ?_
              exact tx_Wa_onward_132 hs (fun q0 q1 q2 q3 q4 q5 q6 hs => ih q0 q1 q2 q3 q4 q5 q6 hs hE) hE
            · replace hs := hs.2 h13
              refine tm_go 3 (pc' := 107) (L' := [some (.ref 26), some (.int x25_1), some (.ref 8), some (.int x25_3), some (.int x25_4), some (.int x25_5), some (.int x25_6), some (.int (w.1 15 (((x25_3 * (4 : Int32)) + x25_6).toInt.toNat))), some (.int (w.1 41 (((((w.1 9 x25_3.toInt.toNat) * (16 : Int32)) + ((w.1 14 x25_1.toInt.toNat) * (4 : Int32))) + x25_6).toInt.toNat))), z9]) (S' := [.int x25_3, .ref 9]) (w' := w) rfl ?_
              obtain ⟨b17, hs⟩ := hs
              refine tm_k (pc' := 108) (L' := [some (.ref 26), some (.int x25_1), some (.ref 8), some (.int x25_3), some (.int x25_4), some (.int x25_5), some (.int x25_6), some (.int (w.1 15 (((x25_3 * (4 : Int32)) + x25_6).toInt.toNat))), some (.int (w.1 41 (((((w.1 9 x25_3.toInt.toNat) * (16 : Int32)) + ((w.1 14 x25_1.toInt.toNat) * (4 : Int32))) + x25_6).toInt.toNat))), z9]) (S' := [.int (w.1 9 x25_3.toInt.toNat)]) (w' := w) rfl b17 ?_
              refine tm_go 1 (pc' := 110) (L' := [some (.ref 26), some (.int x25_1), some (.ref 8), some (.int x25_3), some (.int x25_4), some (.int x25_5), some (.int x25_6), some (.int (w.1 15 (((x25_3 * (4 : Int32)) + x25_6).toInt.toNat))), some (.int (w.1 41 (((((w.1 9 x25_3.toInt.toNat) * (16 : Int32)) + ((w.1 14 x25_1.toInt.toNat) * (4 : Int32))) + x25_6).toInt.toNat))), z9]) (S' := [.int 8, .int (w.1 9 x25_3.toInt.toNat)]) (w' := w) rfl ?_
              refine tm_i (p1 := 131) (p2 := 113) rfl (fun h18 => ?_) (fun h18 => ?_)
              · replace hs := hs.1 h18
                refine tm_go 1 (pc' := 132) (L' := [some (.ref 26), some (.int x25_1), some (.ref 8), some (.int x25_3), some (.int x25_4), some (.int x25_5), some (.int x25_6), some (.int (w.1 15 (((x25_3 * (4 : Int32)) + x25_6).toInt.toNat))), some (.int (w.1 41 (((((w.1 9 x25_3.toInt.toNat) * (16 : Int32)) + ((w.1 14 x25_1.toInt.toNat) * (4 : Int32))) + x25_6).toInt.toNat))), z9]) (S' := [.int 0]) (w' := w) rfl ?_
                exact tx_Wa_onward_132 hs (fun q0 q1 q2 q3 q4 q5 q6 hs => ih q0 q1 q2 q3 q4 q5 q6 hs hE) hE
              · replace hs := hs.2 h18
                refine tm_go 4 (pc' := 121) (L' := [some (.ref 26), some (.int x25_1), some (.ref 8), some (.int x25_3), some (.int x25_4), some (.int x25_5), some (.int x25_6), some (.int (w.1 15 (((x25_3 * (4 : Int32)) + x25_6).toInt.toNat))), some (.int (w.1 41 (((((w.1 9 x25_3.toInt.toNat) * (16 : Int32)) + ((w.1 14 x25_1.toInt.toNat) * (4 : Int32))) + x25_6).toInt.toNat))), z9]) (S' := [.int x25_3, .ref 16]) (w' := w) rfl ?_
                obtain ⟨b19, hs⟩ := hs
                refine tm_k (pc' := 122) (L' := [some (.ref 26), some (.int x25_1), some (.ref 8), some (.int x25_3), some (.int x25_4), some (.int x25_5), some (.int x25_6), some (.int (w.1 15 (((x25_3 * (4 : Int32)) + x25_6).toInt.toNat))), some (.int (w.1 41 (((((w.1 9 x25_3.toInt.toNat) * (16 : Int32)) + ((w.1 14 x25_1.toInt.toNat) * (4 : Int32))) + x25_6).toInt.toNat))), z9]) (S' := [.int (w.1 16 x25_3.toInt.toNat)]) (w' := w) rfl b19 ?_
                refine tm_go 1 (pc' := 124) (L' := [some (.ref 26), some (.int x25_1), some (.ref 8), some (.int x25_3), some (.int x25_4), some (.int x25_5), some (.int x25_6), some (.int (w.1 15 (((x25_3 * (4 : Int32)) + x25_6).toInt.toNat))), some (.int (w.1 41 (((((w.1 9 x25_3.toInt.toNat) * (16 : Int32)) + ((w.1 14 x25_1.toInt.toNat) * (4 : Int32))) + x25_6).toInt.toNat))), z9]) (S' := [.int (w.1 41 (((((w.1 9 x25_3.toInt.toNat) * (16 : Int32)) + ((w.1 14 x25_1.toInt.toNat) * (4 : Int32))) + x25_6).toInt.toNat)), .int (w.1 16 x25_3.toInt.toNat)]) (w' := w) rfl ?_
                refine tm_i (p1 := 131) (p2 := 127) rfl (fun h20 => ?_) (fun h20 => ?_)
                · replace hs := hs.1 h20
                  refine tm_go 1 (pc' := 132) (L' := [some (.ref 26), some (.int x25_1), some (.ref 8), some (.int x25_3), some (.int x25_4), some (.int x25_5), some (.int x25_6), some (.int (w.1 15 (((x25_3 * (4 : Int32)) + x25_6).toInt.toNat))), some (.int (w.1 41 (((((w.1 9 x25_3.toInt.toNat) * (16 : Int32)) + ((w.1 14 x25_1.toInt.toNat) * (4 : Int32))) + x25_6).toInt.toNat))), z9]) (S' := [.int 0]) (w' := w) rfl ?_
                  exact tx_Wa_onward_132 hs (fun q0 q1 q2 q3 q4 q5 q6 hs => ih q0 q1 q2 q3 q4 q5 q6 hs hE) hE
                · replace hs := hs.2 h20
                  refine tm_go 2 (pc' := 132) (L' := [some (.ref 26), some (.int x25_1), some (.ref 8), some (.int x25_3), some (.int x25_4), some (.int x25_5), some (.int x25_6), some (.int (w.1 15 (((x25_3 * (4 : Int32)) + x25_6).toInt.toNat))), some (.int (w.1 41 (((((w.1 9 x25_3.toInt.toNat) * (16 : Int32)) + ((w.1 14 x25_1.toInt.toNat) * (4 : Int32))) + x25_6).toInt.toNat))), z9]) (S' := [.int 1]) (w' := w) rfl ?_
                  exact tx_Wa_onward_132 hs (fun q0 q1 q2 q3 q4 q5 q6 hs => ih q0 q1 q2 q3 q4 q5 q6 hs hE) hE
set_option maxHeartbeats 4000000 in
set_option maxRecDepth 100000 in
theorem dm_Wa_onward {d : Nat} {w : MW} {a0 : Int32} {Q : Int32 → MW → Prop} (hs : p_Wa_onward w a0 Q) : Tc (d + 0) 269 [.ref 26, .int a0] w (RI Q) := by
  unfold p_Wa_onward at hs
  refine tm_go 2 (pc' := 4) (L' := [some (.ref 26), some (.int a0), none, none, none, none, none, none, none, none]) (S' := [.ref 7]) (w' := w) rfl ?_
  obtain ⟨b1, hs⟩ := hs
  refine tm_g (pc' := 7) (k := 7) (j := 0) rfl b1 ?_
  refine tm_go 4 (pc' := 13) (L' := [some (.ref 26), some (.int a0), some (.ref 8), none, none, none, none, none, none, none]) (S' := [.int a0, .ref 13]) (w' := w) rfl ?_
  obtain ⟨b2, hs⟩ := hs
  refine tm_k (pc' := 14) (L' := [some (.ref 26), some (.int a0), some (.ref 8), none, none, none, none, none, none, none]) (S' := [.int (w.1 13 a0.toInt.toNat)]) (w' := w) rfl b2 ?_
  refine tm_go 7 (pc' := 25) (L' := [some (.ref 26), some (.int a0), some (.ref 8), some (.int (w.1 13 a0.toInt.toNat)), some (.int (-1)), some (.int 536870912), some (.int 0), none, none, none]) (S' := []) (w' := w) rfl ?_
  refine tx_Wa_onward_25 FU _ _ _ _ _ _ _ hs (fun e25_4_21 z21_0 z21_1 z21_2 z21_3 z21_5 z21_6 z21_7 z21_8 z21_9 w21 hs => ?_)
  refine tm_go 1 (pc' := 165) (L' := [z21_0, z21_1, z21_2, z21_3, some (.int e25_4_21), z21_5, z21_6, z21_7, z21_8, z21_9]) (S' := [.int e25_4_21]) (w' := w21) rfl ?_
  exact tm_r rfl ⟨_, rfl, hs⟩
