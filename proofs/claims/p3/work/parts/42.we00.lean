set_option maxHeartbeats 4000000 in
set_option maxRecDepth 100000 in
theorem dm_Tp_hasRoom {d : Nat} {w : MW} {Q : Int32 → MW → Prop} (hs : p_Tp_hasRoom w Q) : Tc (d + 0) 255 [.ref 1] w (RZ Q) := by
  unfold p_Tp_hasRoom at hs
  refine tm_go 9 (pc' := 14) (L' := [some (.ref 1)]) (S' := [.int ((4 : Int32) * (1005 : Int32)), .int ((w.1 1 1) + (20 : Int32))]) (w' := w) rfl ?_
  refine tm_i (p1 := 21) (p2 := 17) rfl (fun h1 => ?_) (fun h1 => ?_)
  · replace hs := hs.1 h1
    refine tm_go 1 (pc' := 22) (L' := [some (.ref 1)]) (S' := [.int 0]) (w' := w) rfl ?_
    exact tm_r rfl ⟨_, rfl, by decide, hs⟩
  · replace hs := hs.2 h1
    refine tm_go 2 (pc' := 22) (L' := [some (.ref 1)]) (S' := [.int 1]) (w' := w) rfl ?_
    exact tm_r rfl ⟨_, rfl, by decide, hs⟩
set_option maxHeartbeats 4000000 in
set_option maxRecDepth 100000 in
theorem dm_Tp_put {d : Nat} {w : MW} {a0 : Int32} {Q : MW → Prop} (hs : p_Tp_put w a0 Q) : Tc (d + 0) 256 [.ref 1, .int a0] w (RV Q) := by
  unfold p_Tp_put at hs
  refine tm_go 9 (pc' := 13) (L' := [some (.ref 1), some (.int a0), some (.int ((w.1 1 1) >>> ((2 : Int32) &&& 31)))]) (S' := [.int 1005, .int ((w.1 1 1) >>> ((2 : Int32) &&& 31))]) (w' := w) rfl ?_
  refine tm_i (p1 := 33) (p2 := 16) rfl (fun h1 => ?_) (fun h1 => ?_)
  · replace hs := hs.1 h1
    exact tm_r rfl ⟨rfl, hs⟩
  · replace hs := hs.2 h1
    refine tm_go 4 (pc' := 22) (L' := [some (.ref 1), some (.int a0), some (.int ((w.1 1 1) >>> ((2 : Int32) &&& 31)))]) (S' := [.int a0, .int ((w.1 1 1) >>> ((2 : Int32) &&& 31)), .ref 2]) (w' := w) rfl ?_
    obtain ⟨b2, hs⟩ := hs
    refine tm_k (pc' := 23) (L' := [some (.ref 1), some (.int a0), some (.int ((w.1 1 1) >>> ((2 : Int32) &&& 31)))]) (S' := []) (w' := (sI w 2 (((w.1 1 1) >>> ((2 : Int32) &&& 31)).toInt.toNat) a0)) rfl b2 ?_
    refine tm_go 6 (pc' := 33) (L' := [some (.ref 1), some (.int a0), some (.int ((w.1 1 1) >>> ((2 : Int32) &&& 31)))]) (S' := []) (w' := (sI (sI w 2 (((w.1 1 1) >>> ((2 : Int32) &&& 31)).toInt.toNat) a0) 1 1 ((w.1 1 1) + (4 : Int32)))) rfl ?_
    exact tm_r rfl ⟨rfl, hs⟩
set_option maxHeartbeats 4000000 in
set_option maxRecDepth 100000 in
theorem dm_Bh_feed {d : Nat} {w : MW} {a0 : Int32} {b0 : Int32} {c0 : Int32} {e0 : Int32} {f0 : Int32} {Q : Int32 → MW → Prop} (hs : p_Bh_feed w a0 b0 c0 e0 f0 Q) : Tc (d + 1) 0 [.ref 0, .int a0, .int b0, .int c0, .int e0, .int f0] w (RI Q) := by
  unfold p_Bh_feed at hs
  refine tm_go 2 (pc' := 4) (L' := [some (.ref 0), some (.int a0), some (.int b0), some (.int c0), some (.int e0), some (.int f0)]) (S' := [.ref 1]) (w' := w) rfl ?_
  refine tm_c rfl (Nat.le_of_ble_eq_true rfl) (dm_Tp_hasRoom (d := d + 0) hs) (fun v w1 hq => ?_)
  obtain ⟨r1, rfl, hz1, hs⟩ := hq
  refine tm_i (p1 := 13) (p2 := 10) rfl (fun h2 => ?_) (fun h2 => ?_)
  · replace hs := hs.1 h2
    refine tm_go 3 (pc' := 18) (L' := [some (.ref 0), some (.int a0), some (.int b0), some (.int c0), some (.int e0), some (.int f0)]) (S' := [.int a0, .ref 1]) (w' := w1) rfl ?_
    refine tm_c rfl (Nat.le_of_ble_eq_true rfl) (dm_Tp_put (d := d + 0) hs) (fun v w3 hq => ?_)
    obtain ⟨rfl, hs⟩ := hq
    refine tm_go 3 (pc' := 26) (L' := [some (.ref 0), some (.int a0), some (.int b0), some (.int c0), some (.int e0), some (.int f0)]) (S' := [.int b0, .ref 1]) (w' := w3) rfl ?_
    refine tm_c rfl (Nat.le_of_ble_eq_true rfl) (dm_Tp_put (d := d + 0) hs) (fun v w4 hq => ?_)
    obtain ⟨rfl, hs⟩ := hq
    refine tm_go 3 (pc' := 34) (L' := [some (.ref 0), some (.int a0), some (.int b0), some (.int c0), some (.int e0), some (.int f0)]) (S' := [.int c0, .ref 1]) (w' := w4) rfl ?_
    refine tm_c rfl (Nat.le_of_ble_eq_true rfl) (dm_Tp_put (d := d + 0) hs) (fun v w5 hq => ?_)
    obtain ⟨rfl, hs⟩ := hq
    refine tm_go 3 (pc' := 43) (L' := [some (.ref 0), some (.int a0), some (.int b0), some (.int c0), some (.int e0), some (.int f0)]) (S' := [.int e0, .ref 1]) (w' := w5) rfl ?_
    refine tm_c rfl (Nat.le_of_ble_eq_true rfl) (dm_Tp_put (d := d + 0) hs) (fun v w6 hq => ?_)
    obtain ⟨rfl, hs⟩ := hq
    refine tm_go 3 (pc' := 52) (L' := [some (.ref 0), some (.int a0), some (.int b0), some (.int c0), some (.int e0), some (.int f0)]) (S' := [.int f0, .ref 1]) (w' := w6) rfl ?_
    refine tm_c rfl (Nat.le_of_ble_eq_true rfl) (dm_Tp_put (d := d + 0) hs) (fun v w7 hq => ?_)
    obtain ⟨rfl, hs⟩ := hq
    refine tm_go 3 (pc' := 62) (L' := [some (.ref 0), some (.int a0), some (.int b0), some (.int c0), some (.int e0), some (.int f0)]) (S' := [.int (w7.1 1 1)]) (w' := w7) rfl ?_
    exact tm_r rfl ⟨_, rfl, hs⟩
  · replace hs := hs.2 h2
    refine tm_go 1 (pc' := 12) (L' := [some (.ref 0), some (.int a0), some (.int b0), some (.int c0), some (.int e0), some (.int f0)]) (S' := [.int (-2)]) (w' := w1) rfl ?_
    exact tm_r rfl ⟨_, rfl, hs⟩
set_option maxHeartbeats 4000000 in
set_option maxRecDepth 100000 in
theorem tx_Pl_putNumber_123_2 {d : Nat} {x2_1 : Int32} {x2_2 : Int32} {E : Int32 → MW → Prop} {Q : Int32 → MW → Prop} (n : Nat) : ∀ (x2_3 : Int32)  (z4 : Option Value) (w : MW), q_Pl_putNumber_123_2 x2_1 x2_2 E Q n x2_3 w → (∀ (e2_3 : Int32)  (v4 : Option Value) (w : MW), E e2_3 w → Tm (d + 0) 150 24 [some (.ref 123), some (.int x2_1), some (.int x2_2), some (.int e2_3), v4] [] w (RI Q)) → Tm (d + 0) 150 2 [some (.ref 123), some (.int x2_1), some (.int x2_2), some (.int x2_3), z4] [] w (RI Q) := by
  induction n with
  | zero => intro x2_3 z4 w hs; rw [q_Pl_putNumber_123_2.eq_1] at hs; exact hs.elim
  | succ n ih =>
    intro x2_3 z4 w hs hE
    rw [q_Pl_putNumber_123_2.eq_2] at hs
    refine tm_go 2 (pc' := 5) (L' := [some (.ref 123), some (.int x2_1), some (.int x2_2), some (.int x2_3), z4]) (S' := [.int 100000, .int x2_3]) (w' := w) rfl ?_
    refine tm_i (p1 := 24) (p2 := 8) rfl (fun h1 => ?_) (fun h1 => ?_)
    · replace hs := hs.1 h1
      exact hE _ _ _ hs
    · replace hs := hs.2 h1
      refine tm_go 2 (pc' := 10) (L' := [some (.ref 123), some (.int x2_1), some (.int x2_2), some (.int x2_3), z4]) (S' := [.int x2_3, .int x2_2]) (w' := w) rfl ?_
      obtain ⟨b2, hs⟩ := hs
      refine tm_k (pc' := 11) (L' := [some (.ref 123), some (.int x2_1), some (.int x2_2), some (.int x2_3), z4]) (S' := [.int (x2_2 / x2_3)]) (w' := w) rfl b2 ?_
      refine tm_go 1 (pc' := 13) (L' := [some (.ref 123), some (.int x2_1), some (.int x2_2), some (.int x2_3), z4]) (S' := [.int 10, .int (x2_2 / x2_3)]) (w' := w) rfl ?_
      refine tm_i (p1 := 24) (p2 := 16) rfl (fun h3 => ?_) (fun h3 => ?_)
      · replace hs := hs.1 h3
        exact hE _ _ _ hs
      · replace hs := hs.2 h3
        refine tm_go 5 (pc' := 2) (L' := [some (.ref 123), some (.int x2_1), some (.int x2_2), some (.int (x2_3 * (10 : Int32))), z4]) (S' := []) (w' := w) rfl ?_
        exact ih _ _ _ hs hE
set_option maxHeartbeats 4000000 in
set_option maxRecDepth 100000 in
theorem tx_Pl_putNumber_123_27 {d : Nat} {x27_2 : Int32} {E : Int32 → MW → Prop} {Q : Int32 → MW → Prop} (n : Nat) : ∀ (x27_3 : Int32) (x27_4 : Int32)  (z1 : Option Value) (w : MW), q_Pl_putNumber_123_27 x27_2 E Q n x27_3 x27_4 w → (∀ (e27_4 : Int32)  (v0 : Option Value) (v1 : Option Value) (v2 : Option Value) (v3 : Option Value) (w : MW), E e27_4 w → Tm (d + 0) 150 64 [v0, v1, v2, v3, some (.int e27_4)] [] w (RI Q)) → Tm (d + 0) 150 27 [some (.ref 123), z1, some (.int x27_2), some (.int x27_3), some (.int x27_4)] [] w (RI Q) := by
  induction n with
  | zero => intro x27_3 x27_4 z1 w hs; rw [q_Pl_putNumber_123_27.eq_1] at hs; exact hs.elim
  | succ n ih =>
    intro x27_3 x27_4 z1 w hs hE
    rw [q_Pl_putNumber_123_27.eq_2] at hs
    refine tm_go 2 (pc' := 29) (L' := [some (.ref 123), z1, some (.int x27_2), some (.int x27_3), some (.int x27_4)]) (S' := [.int 1, .int x27_3]) (w' := w) rfl ?_
    refine tm_i (p1 := 64) (p2 := 32) rfl (fun h5 => ?_) (fun h5 => ?_)
    · replace hs := hs.1 h5
      exact hE _ _ _ _ _ _ hs
    · replace hs := hs.2 h5
      refine tm_go 3 (pc' := 36) (L' := [some (.ref 123), z1, some (.int x27_2), some (.int x27_3), some (.int x27_4)]) (S' := [.int 640, .int x27_4]) (w' := w) rfl ?_
      refine tm_i (p1 := 64) (p2 := 39) rfl (fun h6 => ?_) (fun h6 => ?_)
      · replace hs := hs.1 h6
        exact hE _ _ _ _ _ _ hs
      · replace hs := hs.2 h6
        refine tm_go 5 (pc' := 46) (L' := [some (.ref 123), z1, some (.int x27_2), some (.int x27_3), some (.int x27_4)]) (S' := [.int x27_3, .int x27_2, .int 48, .int x27_4, .ref 123]) (w' := w) rfl ?_
        obtain ⟨b7, hs⟩ := hs
        refine tm_k (pc' := 47) (L' := [some (.ref 123), z1, some (.int x27_2), some (.int x27_3), some (.int x27_4)]) (S' := [.int (x27_2 / x27_3), .int 48, .int x27_4, .ref 123]) (w' := w) rfl b7 ?_
        refine tm_go 4 (pc' := 52) (L' := [some (.ref 123), z1, some (.int x27_2), some (.int x27_3), some (.int x27_4)]) (S' := [.int ((Int32.toInt8 ((48 : Int32) + ((x27_2 / x27_3) - (x27_2 / x27_3) / (10 : Int32) * (10 : Int32)))).toInt32), .int x27_4, .ref 123]) (w' := w) rfl ?_
        obtain ⟨b8, hs⟩ := hs
        refine tm_k (pc' := 53) (L' := [some (.ref 123), z1, some (.int x27_2), some (.int x27_3), some (.int x27_4)]) (S' := []) (w' := (sI w 123 x27_4.toInt.toNat (vp_nar .byte ((Int32.toInt8 ((48 : Int32) + ((x27_2 / x27_3) - (x27_2 / x27_3) / (10 : Int32) * (10 : Int32)))).toInt32)))) rfl b8 ?_
        refine tm_go 6 (pc' := 27) (L' := [some (.ref 123), z1, some (.int x27_2), some (.int (x27_3 / (10 : Int32))), some (.int (x27_4 + (1 : Int32)))]) (S' := []) (w' := (sI w 123 x27_4.toInt.toNat (vp_nar .byte ((Int32.toInt8 ((48 : Int32) + ((x27_2 / x27_3) - (x27_2 / x27_3) / (10 : Int32) * (10 : Int32)))).toInt32)))) rfl ?_
        exact ih _ _ _ _ hs hE
set_option maxHeartbeats 4000000 in
set_option maxRecDepth 100000 in
theorem dm_Pl_putNumber_123 {d : Nat} {w : MW} {a0 : Int32} {b0 : Int32} {Q : Int32 → MW → Prop} (hs : p_Pl_putNumber_123 w a0 b0 Q) : Tc (d + 0) 150 [.ref 123, .int a0, .int b0] w (RI Q) := by
  unfold p_Pl_putNumber_123 at hs
  refine tm_go 2 (pc' := 2) (L' := [some (.ref 123), some (.int a0), some (.int b0), some (.int 1), none]) (S' := []) (w' := w) rfl ?_
  refine tx_Pl_putNumber_123_2 FU _ _ _ hs (fun e2_3_4 z4_4 w4 hs => ?_)
  refine tm_go 2 (pc' := 27) (L' := [some (.ref 123), some (.int a0), some (.int b0), some (.int e2_3_4), some (.int a0)]) (S' := []) (w' := w4) rfl ?_
  refine tx_Pl_putNumber_123_27 FU _ _ _ _ hs (fun e27_4_9 z9_0 z9_1 z9_2 z9_3 w9 hs => ?_)
  refine tm_go 1 (pc' := 66) (L' := [z9_0, z9_1, z9_2, z9_3, some (.int e27_4_9)]) (S' := [.int e27_4_9]) (w' := w9) rfl ?_
  exact tm_r rfl ⟨_, rfl, hs⟩
set_option maxHeartbeats 4000000 in
set_option maxRecDepth 100000 in
theorem tx_Pl_put_123_2017_5 {d : Nat} {E : Int32 → MW → Prop} {Q : Int32 → MW → Prop} (n : Nat) : ∀ (x5_3 : Int32) (x5_4 : Int32)  (z1 : Option Value) (w : MW), q_Pl_put_123_2017_5  E Q n x5_3 x5_4 w → (∀ (e5_3 : Int32)  (v0 : Option Value) (v1 : Option Value) (v2 : Option Value) (v4 : Option Value) (w : MW), E e5_3 w → Tm (d + 0) 148 39 [v0, v1, v2, some (.int e5_3), v4] [] w (RI Q)) → Tm (d + 0) 148 5 [some (.ref 123), z1, some (.ref 2017), some (.int x5_3), some (.int x5_4)] [] w (RI Q) := by
  induction n with
  | zero => intro x5_3 x5_4 z1 w hs; rw [q_Pl_put_123_2017_5.eq_1] at hs; exact hs.elim
  | succ n ih =>
    intro x5_3 x5_4 z1 w hs hE
    rw [q_Pl_put_123_2017_5.eq_2] at hs
    refine tm_go 3 (pc' := 11) (L' := [some (.ref 123), z1, some (.ref 2017), some (.int x5_3), some (.int x5_4)]) (S' := [.int 1, .int x5_4]) (w' := w) rfl ?_
    refine tm_i (p1 := 39) (p2 := 14) rfl (fun h1 => ?_) (fun h1 => ?_)
    · replace hs := hs.1 h1
      exact hE _ _ _ _ _ _ hs
    · replace hs := hs.2 h1
      refine tm_go 3 (pc' := 17) (L' := [some (.ref 123), z1, some (.ref 2017), some (.int x5_3), some (.int x5_4)]) (S' := [.int 640, .int x5_3]) (w' := w) rfl ?_
      refine tm_i (p1 := 39) (p2 := 20) rfl (fun h2 => ?_) (fun h2 => ?_)
      · replace hs := hs.1 h2
        exact hE _ _ _ _ _ _ hs
      · replace hs := hs.2 h2
        refine tm_go 4 (pc' := 25) (L' := [some (.ref 123), z1, some (.ref 2017), some (.int x5_3), some (.int x5_4)]) (S' := [.int x5_4, .ref 2017, .int x5_3, .ref 123]) (w' := w) rfl ?_
        obtain ⟨b3, hs⟩ := hs
        refine tm_k (pc' := 28) (L' := [some (.ref 123), z1, some (.ref 2017), some (.int x5_3), some (.int x5_4)]) (S' := [.int (chT 17 x5_4), .int x5_3, .ref 123]) (w' := w) rfl ⟨by decide, by decide, Nat.le_of_ble_eq_true rfl, b3⟩ ?_
        refine tm_go 1 (pc' := 29) (L' := [some (.ref 123), z1, some (.ref 2017), some (.int x5_3), some (.int x5_4)]) (S' := [.int ((Int32.toInt8 (chT 17 x5_4)).toInt32), .int x5_3, .ref 123]) (w' := w) rfl ?_
        obtain ⟨b4, hs⟩ := hs
        refine tm_k (pc' := 30) (L' := [some (.ref 123), z1, some (.ref 2017), some (.int x5_3), some (.int x5_4)]) (S' := []) (w' := (sI w 123 x5_3.toInt.toNat (vp_nar .byte ((Int32.toInt8 (chT 17 x5_4)).toInt32)))) rfl b4 ?_
        refine tm_go 3 (pc' := 5) (L' := [some (.ref 123), z1, some (.ref 2017), some (.int (x5_3 + (1 : Int32))), some (.int (x5_4 + (1 : Int32)))]) (S' := []) (w' := (sI w 123 x5_3.toInt.toNat (vp_nar .byte ((Int32.toInt8 (chT 17 x5_4)).toInt32)))) rfl ?_
        exact ih _ _ _ _ hs hE
set_option maxHeartbeats 4000000 in
set_option maxRecDepth 100000 in
theorem dm_Pl_put_123_2017 {d : Nat} {w : MW} {a0 : Int32} {Q : Int32 → MW → Prop} (hs : p_Pl_put_123_2017 w a0 Q) : Tc (d + 0) 148 [.ref 123, .int a0, .ref 2017] w (RI Q) := by
  unfold p_Pl_put_123_2017 at hs
  refine tm_go 4 (pc' := 5) (L' := [some (.ref 123), some (.int a0), some (.ref 2017), some (.int a0), some (.int 0)]) (S' := []) (w' := w) rfl ?_
  refine tx_Pl_put_123_2017_5 FU _ _ _ _ hs (fun e5_3_5 z5_0 z5_1 z5_2 z5_4 w5 hs => ?_)
  refine tm_go 1 (pc' := 40) (L' := [z5_0, z5_1, z5_2, some (.int e5_3_5), z5_4]) (S' := [.int e5_3_5]) (w' := w5) rfl ?_
  exact tm_r rfl ⟨_, rfl, hs⟩
set_option maxHeartbeats 4000000 in
set_option maxRecDepth 100000 in
theorem dm_Pl_putPipeEnd_123 {d : Nat} {w : MW} {a0 : Int32} {b0 : Int32} {Q : Int32 → MW → Prop} (hs : p_Pl_putPipeEnd_123 w a0 b0 Q) : Tc (d + 1) 149 [.ref 123, .int a0, .int b0] w (RI Q) := by
  unfold p_Pl_putPipeEnd_123 at hs
  refine tm_go 2 (pc' := 2) (L' := [some (.ref 123), some (.int a0), some (.int b0)]) (S' := [.int (-1), .int b0]) (w' := w) rfl ?_
  refine tm_i (p1 := 15) (p2 := 5) rfl (fun h1 => ?_) (fun h1 => ?_)
  · replace hs := hs.1 h1
    refine tm_go 3 (pc' := 18) (L' := [some (.ref 123), some (.int a0), some (.int b0)]) (S' := [.int b0, .int a0, .ref 123]) (w' := w) rfl ?_
    refine tm_c rfl (Nat.le_of_ble_eq_true rfl) (dm_Pl_putNumber_123 (d := d + 0) hs) (fun v w2 hq => ?_)
    obtain ⟨r2, rfl, hs⟩ := hq
    exact tm_r rfl ⟨_, rfl, hs⟩
  · replace hs := hs.2 h1
    refine tm_go 3 (pc' := 9) (L' := [some (.ref 123), some (.int a0), some (.int b0)]) (S' := [.ref 2017, .int a0, .ref 123]) (w' := w) rfl ?_
    refine tm_c rfl (Nat.le_of_ble_eq_true rfl) (dm_Pl_put_123_2017 (d := d + 0) hs) (fun v w3 hq => ?_)
    obtain ⟨r3, rfl, hs⟩ := hq
    refine tm_go 1 (pc' := 21) (L' := [some (.ref 123), some (.int a0), some (.int b0)]) (S' := [.int r3]) (w' := w3) rfl ?_
    exact tm_r rfl ⟨_, rfl, hs⟩
set_option maxHeartbeats 4000000 in
set_option maxRecDepth 100000 in
theorem tx_Pl_put_123_2001_5 {d : Nat} {E : Int32 → MW → Prop} {Q : Int32 → MW → Prop} (n : Nat) : ∀ (x5_3 : Int32) (x5_4 : Int32)  (z1 : Option Value) (w : MW), q_Pl_put_123_2001_5  E Q n x5_3 x5_4 w → (∀ (e5_3 : Int32)  (v0 : Option Value) (v1 : Option Value) (v2 : Option Value) (v4 : Option Value) (w : MW), E e5_3 w → Tm (d + 0) 148 39 [v0, v1, v2, some (.int e5_3), v4] [] w (RI Q)) → Tm (d + 0) 148 5 [some (.ref 123), z1, some (.ref 2001), some (.int x5_3), some (.int x5_4)] [] w (RI Q) := by
  induction n with
  | zero => intro x5_3 x5_4 z1 w hs; rw [q_Pl_put_123_2001_5.eq_1] at hs; exact hs.elim
  | succ n ih =>
    intro x5_3 x5_4 z1 w hs hE
    rw [q_Pl_put_123_2001_5.eq_2] at hs
    refine tm_go 3 (pc' := 11) (L' := [some (.ref 123), z1, some (.ref 2001), some (.int x5_3), some (.int x5_4)]) (S' := [.int 5, .int x5_4]) (w' := w) rfl ?_
    refine tm_i (p1 := 39) (p2 := 14) rfl (fun h1 => ?_) (fun h1 => ?_)
    · replace hs := hs.1 h1
      exact hE _ _ _ _ _ _ hs
    · replace hs := hs.2 h1
      refine tm_go 3 (pc' := 17) (L' := [some (.ref 123), z1, some (.ref 2001), some (.int x5_3), some (.int x5_4)]) (S' := [.int 640, .int x5_3]) (w' := w) rfl ?_
      refine tm_i (p1 := 39) (p2 := 20) rfl (fun h2 => ?_) (fun h2 => ?_)
      · replace hs := hs.1 h2
        exact hE _ _ _ _ _ _ hs
      · replace hs := hs.2 h2
        refine tm_go 4 (pc' := 25) (L' := [some (.ref 123), z1, some (.ref 2001), some (.int x5_3), some (.int x5_4)]) (S' := [.int x5_4, .ref 2001, .int x5_3, .ref 123]) (w' := w) rfl ?_
        obtain ⟨b3, hs⟩ := hs
        refine tm_k (pc' := 28) (L' := [some (.ref 123), z1, some (.ref 2001), some (.int x5_3), some (.int x5_4)]) (S' := [.int (chT 1 x5_4), .int x5_3, .ref 123]) (w' := w) rfl ⟨by decide, by decide, Nat.le_of_ble_eq_true rfl, b3⟩ ?_
        refine tm_go 1 (pc' := 29) (L' := [some (.ref 123), z1, some (.ref 2001), some (.int x5_3), some (.int x5_4)]) (S' := [.int ((Int32.toInt8 (chT 1 x5_4)).toInt32), .int x5_3, .ref 123]) (w' := w) rfl ?_
        obtain ⟨b4, hs⟩ := hs
        refine tm_k (pc' := 30) (L' := [some (.ref 123), z1, some (.ref 2001), some (.int x5_3), some (.int x5_4)]) (S' := []) (w' := (sI w 123 x5_3.toInt.toNat (vp_nar .byte ((Int32.toInt8 (chT 1 x5_4)).toInt32)))) rfl b4 ?_
        refine tm_go 3 (pc' := 5) (L' := [some (.ref 123), z1, some (.ref 2001), some (.int (x5_3 + (1 : Int32))), some (.int (x5_4 + (1 : Int32)))]) (S' := []) (w' := (sI w 123 x5_3.toInt.toNat (vp_nar .byte ((Int32.toInt8 (chT 1 x5_4)).toInt32)))) rfl ?_
        exact ih _ _ _ _ hs hE
set_option maxHeartbeats 4000000 in
set_option maxRecDepth 100000 in
theorem dm_Pl_put_123_2001 {d : Nat} {w : MW} {a0 : Int32} {Q : Int32 → MW → Prop} (hs : p_Pl_put_123_2001 w a0 Q) : Tc (d + 0) 148 [.ref 123, .int a0, .ref 2001] w (RI Q) := by
  unfold p_Pl_put_123_2001 at hs
  refine tm_go 4 (pc' := 5) (L' := [some (.ref 123), some (.int a0), some (.ref 2001), some (.int a0), some (.int 0)]) (S' := []) (w' := w) rfl ?_
  refine tx_Pl_put_123_2001_5 FU _ _ _ _ hs (fun e5_3_5 z5_0 z5_1 z5_2 z5_4 w5 hs => ?_)
  refine tm_go 1 (pc' := 40) (L' := [z5_0, z5_1, z5_2, some (.int e5_3_5), z5_4]) (S' := [.int e5_3_5]) (w' := w5) rfl ?_
  exact tm_r rfl ⟨_, rfl, hs⟩
set_option maxHeartbeats 4000000 in
set_option maxRecDepth 100000 in
theorem tx_Pl_put_123_2002_5 {d : Nat} {E : Int32 → MW → Prop} {Q : Int32 → MW → Prop} (n : Nat) : ∀ (x5_3 : Int32) (x5_4 : Int32)  (z1 : Option Value) (w : MW), q_Pl_put_123_2002_5  E Q n x5_3 x5_4 w → (∀ (e5_3 : Int32)  (v0 : Option Value) (v1 : Option Value) (v2 : Option Value) (v4 : Option Value) (w : MW), E e5_3 w → Tm (d + 0) 148 39 [v0, v1, v2, some (.int e5_3), v4] [] w (RI Q)) → Tm (d + 0) 148 5 [some (.ref 123), z1, some (.ref 2002), some (.int x5_3), some (.int x5_4)] [] w (RI Q) := by
  induction n with
  | zero => intro x5_3 x5_4 z1 w hs; rw [q_Pl_put_123_2002_5.eq_1] at hs; exact hs.elim
  | succ n ih =>
    intro x5_3 x5_4 z1 w hs hE
    rw [q_Pl_put_123_2002_5.eq_2] at hs
    refine tm_go 3 (pc' := 11) (L' := [some (.ref 123), z1, some (.ref 2002), some (.int x5_3), some (.int x5_4)]) (S' := [.int 6, .int x5_4]) (w' := w) rfl ?_
    refine tm_i (p1 := 39) (p2 := 14) rfl (fun h1 => ?_) (fun h1 => ?_)
    · replace hs := hs.1 h1
      exact hE _ _ _ _ _ _ hs
    · replace hs := hs.2 h1
      refine tm_go 3 (pc' := 17) (L' := [some (.ref 123), z1, some (.ref 2002), some (.int x5_3), some (.int x5_4)]) (S' := [.int 640, .int x5_3]) (w' := w) rfl ?_
      refine tm_i (p1 := 39) (p2 := 20) rfl (fun h2 => ?_) (fun h2 => ?_)
      · replace hs := hs.1 h2
        exact hE _ _ _ _ _ _ hs
      · replace hs := hs.2 h2
        refine tm_go 4 (pc' := 25) (L' := [some (.ref 123), z1, some (.ref 2002), some (.int x5_3), some (.int x5_4)]) (S' := [.int x5_4, .ref 2002, .int x5_3, .ref 123]) (w' := w) rfl ?_
        obtain ⟨b3, hs⟩ := hs
        refine tm_k (pc' := 28) (L' := [some (.ref 123), z1, some (.ref 2002), some (.int x5_3), some (.int x5_4)]) (S' := [.int (chT 2 x5_4), .int x5_3, .ref 123]) (w' := w) rfl ⟨by decide, by decide, Nat.le_of_ble_eq_true rfl, b3⟩ ?_
        refine tm_go 1 (pc' := 29) (L' := [some (.ref 123), z1, some (.ref 2002), some (.int x5_3), some (.int x5_4)]) (S' := [.int ((Int32.toInt8 (chT 2 x5_4)).toInt32), .int x5_3, .ref 123]) (w' := w) rfl ?_
        obtain ⟨b4, hs⟩ := hs
        refine tm_k (pc' := 30) (L' := [some (.ref 123), z1, some (.ref 2002), some (.int x5_3), some (.int x5_4)]) (S' := []) (w' := (sI w 123 x5_3.toInt.toNat (vp_nar .byte ((Int32.toInt8 (chT 2 x5_4)).toInt32)))) rfl b4 ?_
        refine tm_go 3 (pc' := 5) (L' := [some (.ref 123), z1, some (.ref 2002), some (.int (x5_3 + (1 : Int32))), some (.int (x5_4 + (1 : Int32)))]) (S' := []) (w' := (sI w 123 x5_3.toInt.toNat (vp_nar .byte ((Int32.toInt8 (chT 2 x5_4)).toInt32)))) rfl ?_
        exact ih _ _ _ _ hs hE
set_option maxHeartbeats 4000000 in
set_option maxRecDepth 100000 in
theorem dm_Pl_put_123_2002 {d : Nat} {w : MW} {a0 : Int32} {Q : Int32 → MW → Prop} (hs : p_Pl_put_123_2002 w a0 Q) : Tc (d + 0) 148 [.ref 123, .int a0, .ref 2002] w (RI Q) := by
  unfold p_Pl_put_123_2002 at hs
  refine tm_go 4 (pc' := 5) (L' := [some (.ref 123), some (.int a0), some (.ref 2002), some (.int a0), some (.int 0)]) (S' := []) (w' := w) rfl ?_
  refine tx_Pl_put_123_2002_5 FU _ _ _ _ hs (fun e5_3_5 z5_0 z5_1 z5_2 z5_4 w5 hs => ?_)
  refine tm_go 1 (pc' := 40) (L' := [z5_0, z5_1, z5_2, some (.int e5_3_5), z5_4]) (S' := [.int e5_3_5]) (w' := w5) rfl ?_
  exact tm_r rfl ⟨_, rfl, hs⟩
set_option maxHeartbeats 4000000 in
set_option maxRecDepth 100000 in
theorem tx_Pl_put_123_2003_5 {d : Nat} {E : Int32 → MW → Prop} {Q : Int32 → MW → Prop} (n : Nat) : ∀ (x5_3 : Int32) (x5_4 : Int32)  (z1 : Option Value) (w : MW), q_Pl_put_123_2003_5  E Q n x5_3 x5_4 w → (∀ (e5_3 : Int32)  (v0 : Option Value) (v1 : Option Value) (v2 : Option Value) (v4 : Option Value) (w : MW), E e5_3 w → Tm (d + 0) 148 39 [v0, v1, v2, some (.int e5_3), v4] [] w (RI Q)) → Tm (d + 0) 148 5 [some (.ref 123), z1, some (.ref 2003), some (.int x5_3), some (.int x5_4)] [] w (RI Q) := by
  induction n with
  | zero => intro x5_3 x5_4 z1 w hs; rw [q_Pl_put_123_2003_5.eq_1] at hs; exact hs.elim
  | succ n ih =>
    intro x5_3 x5_4 z1 w hs hE
    rw [q_Pl_put_123_2003_5.eq_2] at hs
    refine tm_go 3 (pc' := 11) (L' := [some (.ref 123), z1, some (.ref 2003), some (.int x5_3), some (.int x5_4)]) (S' := [.int 4, .int x5_4]) (w' := w) rfl ?_
    refine tm_i (p1 := 39) (p2 := 14) rfl (fun h1 => ?_) (fun h1 => ?_)
    · replace hs := hs.1 h1
      exact hE _ _ _ _ _ _ hs
    · replace hs := hs.2 h1
      refine tm_go 3 (pc' := 17) (L' := [some (.ref 123), z1, some (.ref 2003), some (.int x5_3), some (.int x5_4)]) (S' := [.int 640, .int x5_3]) (w' := w) rfl ?_
      refine tm_i (p1 := 39) (p2 := 20) rfl (fun h2 => ?_) (fun h2 => ?_)
      · replace hs := hs.1 h2
        exact hE _ _ _ _ _ _ hs
      · replace hs := hs.2 h2
        refine tm_go 4 (pc' := 25) (L' := [some (.ref 123), z1, some (.ref 2003), some (.int x5_3), some (.int x5_4)]) (S' := [.int x5_4, .ref 2003, .int x5_3, .ref 123]) (w' := w) rfl ?_
        obtain ⟨b3, hs⟩ := hs
        refine tm_k (pc' := 28) (L' := [some (.ref 123), z1, some (.ref 2003), some (.int x5_3), some (.int x5_4)]) (S' := [.int (chT 3 x5_4), .int x5_3, .ref 123]) (w' := w) rfl ⟨by decide, by decide, Nat.le_of_ble_eq_true rfl, b3⟩ ?_
        refine tm_go 1 (pc' := 29) (L' := [some (.ref 123), z1, some (.ref 2003), some (.int x5_3), some (.int x5_4)]) (S' := [.int ((Int32.toInt8 (chT 3 x5_4)).toInt32), .int x5_3, .ref 123]) (w' := w) rfl ?_
        obtain ⟨b4, hs⟩ := hs
        refine tm_k (pc' := 30) (L' := [some (.ref 123), z1, some (.ref 2003), some (.int x5_3), some (.int x5_4)]) (S' := []) (w' := (sI w 123 x5_3.toInt.toNat (vp_nar .byte ((Int32.toInt8 (chT 3 x5_4)).toInt32)))) rfl b4 ?_
        refine tm_go 3 (pc' := 5) (L' := [some (.ref 123), z1, some (.ref 2003), some (.int (x5_3 + (1 : Int32))), some (.int (x5_4 + (1 : Int32)))]) (S' := []) (w' := (sI w 123 x5_3.toInt.toNat (vp_nar .byte ((Int32.toInt8 (chT 3 x5_4)).toInt32)))) rfl ?_
        exact ih _ _ _ _ hs hE
set_option maxHeartbeats 4000000 in
set_option maxRecDepth 100000 in
theorem dm_Pl_put_123_2003 {d : Nat} {w : MW} {a0 : Int32} {Q : Int32 → MW → Prop} (hs : p_Pl_put_123_2003 w a0 Q) : Tc (d + 0) 148 [.ref 123, .int a0, .ref 2003] w (RI Q) := by
  unfold p_Pl_put_123_2003 at hs
  refine tm_go 4 (pc' := 5) (L' := [some (.ref 123), some (.int a0), some (.ref 2003), some (.int a0), some (.int 0)]) (S' := []) (w' := w) rfl ?_
  refine tx_Pl_put_123_2003_5 FU _ _ _ _ hs (fun e5_3_5 z5_0 z5_1 z5_2 z5_4 w5 hs => ?_)
  refine tm_go 1 (pc' := 40) (L' := [z5_0, z5_1, z5_2, some (.int e5_3_5), z5_4]) (S' := [.int e5_3_5]) (w' := w5) rfl ?_
  exact tm_r rfl ⟨_, rfl, hs⟩
set_option maxHeartbeats 4000000 in
set_option maxRecDepth 100000 in
theorem tx_Pl_put_123_2004_5 {d : Nat} {E : Int32 → MW → Prop} {Q : Int32 → MW → Prop} (n : Nat) : ∀ (x5_3 : Int32) (x5_4 : Int32)  (z1 : Option Value) (w : MW), q_Pl_put_123_2004_5  E Q n x5_3 x5_4 w → (∀ (e5_3 : Int32)  (v0 : Option Value) (v1 : Option Value) (v2 : Option Value) (v4 : Option Value) (w : MW), E e5_3 w → Tm (d + 0) 148 39 [v0, v1, v2, some (.int e5_3), v4] [] w (RI Q)) → Tm (d + 0) 148 5 [some (.ref 123), z1, some (.ref 2004), some (.int x5_3), some (.int x5_4)] [] w (RI Q) := by
  induction n with
  | zero => intro x5_3 x5_4 z1 w hs; rw [q_Pl_put_123_2004_5.eq_1] at hs; exact hs.elim
  | succ n ih =>
    intro x5_3 x5_4 z1 w hs hE
    rw [q_Pl_put_123_2004_5.eq_2] at hs
    refine tm_go 3 (pc' := 11) (L' := [some (.ref 123), z1, some (.ref 2004), some (.int x5_3), some (.int x5_4)]) (S' := [.int 5, .int x5_4]) (w' := w) rfl ?_
    refine tm_i (p1 := 39) (p2 := 14) rfl (fun h1 => ?_) (fun h1 => ?_)
    · replace hs := hs.1 h1
      exact hE _ _ _ _ _ _ hs
    · replace hs := hs.2 h1
      refine tm_go 3 (pc' := 17) (L' := [some (.ref 123), z1, some (.ref 2004), some (.int x5_3), some (.int x5_4)]) (S' := [.int 640, .int x5_3]) (w' := w) rfl ?_
      refine tm_i (p1 := 39) (p2 := 20) rfl (fun h2 => ?_) (fun h2 => ?_)
      · replace hs := hs.1 h2
        exact hE _ _ _ _ _ _ hs
      · replace hs := hs.2 h2
        refine tm_go 4 (pc' := 25) (L' := [some (.ref 123), z1, some (.ref 2004), some (.int x5_3), some (.int x5_4)]) (S' := [.int x5_4, .ref 2004, .int x5_3, .ref 123]) (w' := w) rfl ?_
        obtain ⟨b3, hs⟩ := hs
        refine tm_k (pc' := 28) (L' := [some (.ref 123), z1, some (.ref 2004), some (.int x5_3), some (.int x5_4)]) (S' := [.int (chT 4 x5_4), .int x5_3, .ref 123]) (w' := w) rfl ⟨by decide, by decide, Nat.le_of_ble_eq_true rfl, b3⟩ ?_
        refine tm_go 1 (pc' := 29) (L' := [some (.ref 123), z1, some (.ref 2004), some (.int x5_3), some (.int x5_4)]) (S' := [.int ((Int32.toInt8 (chT 4 x5_4)).toInt32), .int x5_3, .ref 123]) (w' := w) rfl ?_
        obtain ⟨b4, hs⟩ := hs
        refine tm_k (pc' := 30) (L' := [some (.ref 123), z1, some (.ref 2004), some (.int x5_3), some (.int x5_4)]) (S' := []) (w' := (sI w 123 x5_3.toInt.toNat (vp_nar .byte ((Int32.toInt8 (chT 4 x5_4)).toInt32)))) rfl b4 ?_
        refine tm_go 3 (pc' := 5) (L' := [some (.ref 123), z1, some (.ref 2004), some (.int (x5_3 + (1 : Int32))), some (.int (x5_4 + (1 : Int32)))]) (S' := []) (w' := (sI w 123 x5_3.toInt.toNat (vp_nar .byte ((Int32.toInt8 (chT 4 x5_4)).toInt32)))) rfl ?_
        exact ih _ _ _ _ hs hE
set_option maxHeartbeats 4000000 in
set_option maxRecDepth 100000 in
theorem dm_Pl_put_123_2004 {d : Nat} {w : MW} {a0 : Int32} {Q : Int32 → MW → Prop} (hs : p_Pl_put_123_2004 w a0 Q) : Tc (d + 0) 148 [.ref 123, .int a0, .ref 2004] w (RI Q) := by
  unfold p_Pl_put_123_2004 at hs
  refine tm_go 4 (pc' := 5) (L' := [some (.ref 123), some (.int a0), some (.ref 2004), some (.int a0), some (.int 0)]) (S' := []) (w' := w) rfl ?_
  refine tx_Pl_put_123_2004_5 FU _ _ _ _ hs (fun e5_3_5 z5_0 z5_1 z5_2 z5_4 w5 hs => ?_)
  refine tm_go 1 (pc' := 40) (L' := [z5_0, z5_1, z5_2, some (.int e5_3_5), z5_4]) (S' := [.int e5_3_5]) (w' := w5) rfl ?_
  exact tm_r rfl ⟨_, rfl, hs⟩
set_option maxHeartbeats 4000000 in
set_option maxRecDepth 100000 in
theorem tx_Pl_put_123_2005_5 {d : Nat} {E : Int32 → MW → Prop} {Q : Int32 → MW → Prop} (n : Nat) : ∀ (x5_3 : Int32) (x5_4 : Int32)  (z1 : Option Value) (w : MW), q_Pl_put_123_2005_5  E Q n x5_3 x5_4 w → (∀ (e5_3 : Int32)  (v0 : Option Value) (v1 : Option Value) (v2 : Option Value) (v4 : Option Value) (w : MW), E e5_3 w → Tm (d + 0) 148 39 [v0, v1, v2, some (.int e5_3), v4] [] w (RI Q)) → Tm (d + 0) 148 5 [some (.ref 123), z1, some (.ref 2005), some (.int x5_3), some (.int x5_4)] [] w (RI Q) := by
  induction n with
  | zero => intro x5_3 x5_4 z1 w hs; rw [q_Pl_put_123_2005_5.eq_1] at hs; exact hs.elim
  | succ n ih =>
    intro x5_3 x5_4 z1 w hs hE
    rw [q_Pl_put_123_2005_5.eq_2] at hs
    refine tm_go 3 (pc' := 11) (L' := [some (.ref 123), z1, some (.ref 2005), some (.int x5_3), some (.int x5_4)]) (S' := [.int 1, .int x5_4]) (w' := w) rfl ?_
    refine tm_i (p1 := 39) (p2 := 14) rfl (fun h1 => ?_) (fun h1 => ?_)
    · replace hs := hs.1 h1
      exact hE _ _ _ _ _ _ hs
    · replace hs := hs.2 h1
      refine tm_go 3 (pc' := 17) (L' := [some (.ref 123), z1, some (.ref 2005), some (.int x5_3), some (.int x5_4)]) (S' := [.int 640, .int x5_3]) (w' := w) rfl ?_
      refine tm_i (p1 := 39) (p2 := 20) rfl (fun h2 => ?_) (fun h2 => ?_)
      · replace hs := hs.1 h2
        exact hE _ _ _ _ _ _ hs
      · replace hs := hs.2 h2
        refine tm_go 4 (pc' := 25) (L' := [some (.ref 123), z1, some (.ref 2005), some (.int x5_3), some (.int x5_4)]) (S' := [.int x5_4, .ref 2005, .int x5_3, .ref 123]) (w' := w) rfl ?_
        obtain ⟨b3, hs⟩ := hs
        refine tm_k (pc' := 28) (L' := [some (.ref 123), z1, some (.ref 2005), some (.int x5_3), some (.int x5_4)]) (S' := [.int (chT 5 x5_4), .int x5_3, .ref 123]) (w' := w) rfl ⟨by decide, by decide, Nat.le_of_ble_eq_true rfl, b3⟩ ?_
        refine tm_go 1 (pc' := 29) (L' := [some (.ref 123), z1, some (.ref 2005), some (.int x5_3), some (.int x5_4)]) (S' := [.int ((Int32.toInt8 (chT 5 x5_4)).toInt32), .int x5_3, .ref 123]) (w' := w) rfl ?_
        obtain ⟨b4, hs⟩ := hs
        refine tm_k (pc' := 30) (L' := [some (.ref 123), z1, some (.ref 2005), some (.int x5_3), some (.int x5_4)]) (S' := []) (w' := (sI w 123 x5_3.toInt.toNat (vp_nar .byte ((Int32.toInt8 (chT 5 x5_4)).toInt32)))) rfl b4 ?_
        refine tm_go 3 (pc' := 5) (L' := [some (.ref 123), z1, some (.ref 2005), some (.int (x5_3 + (1 : Int32))), some (.int (x5_4 + (1 : Int32)))]) (S' := []) (w' := (sI w 123 x5_3.toInt.toNat (vp_nar .byte ((Int32.toInt8 (chT 5 x5_4)).toInt32)))) rfl ?_
        exact ih _ _ _ _ hs hE
set_option maxHeartbeats 4000000 in
set_option maxRecDepth 100000 in
theorem dm_Pl_put_123_2005 {d : Nat} {w : MW} {a0 : Int32} {Q : Int32 → MW → Prop} (hs : p_Pl_put_123_2005 w a0 Q) : Tc (d + 0) 148 [.ref 123, .int a0, .ref 2005] w (RI Q) := by
  unfold p_Pl_put_123_2005 at hs
  refine tm_go 4 (pc' := 5) (L' := [some (.ref 123), some (.int a0), some (.ref 2005), some (.int a0), some (.int 0)]) (S' := []) (w' := w) rfl ?_
  refine tx_Pl_put_123_2005_5 FU _ _ _ _ hs (fun e5_3_5 z5_0 z5_1 z5_2 z5_4 w5 hs => ?_)
  refine tm_go 1 (pc' := 40) (L' := [z5_0, z5_1, z5_2, some (.int e5_3_5), z5_4]) (S' := [.int e5_3_5]) (w' := w5) rfl ?_
  exact tm_r rfl ⟨_, rfl, hs⟩
set_option maxHeartbeats 4000000 in
set_option maxRecDepth 100000 in
theorem tx_Pl_put_123_2016_5 {d : Nat} {E : Int32 → MW → Prop} {Q : Int32 → MW → Prop} (n : Nat) : ∀ (x5_3 : Int32) (x5_4 : Int32)  (z1 : Option Value) (w : MW), q_Pl_put_123_2016_5  E Q n x5_3 x5_4 w → (∀ (e5_3 : Int32)  (v0 : Option Value) (v1 : Option Value) (v2 : Option Value) (v4 : Option Value) (w : MW), E e5_3 w → Tm (d + 0) 148 39 [v0, v1, v2, some (.int e5_3), v4] [] w (RI Q)) → Tm (d + 0) 148 5 [some (.ref 123), z1, some (.ref 2016), some (.int x5_3), some (.int x5_4)] [] w (RI Q) := by
  induction n with
  | zero => intro x5_3 x5_4 z1 w hs; rw [q_Pl_put_123_2016_5.eq_1] at hs; exact hs.elim
  | succ n ih =>
    intro x5_3 x5_4 z1 w hs hE
    rw [q_Pl_put_123_2016_5.eq_2] at hs
    refine tm_go 3 (pc' := 11) (L' := [some (.ref 123), z1, some (.ref 2016), some (.int x5_3), some (.int x5_4)]) (S' := [.int 1, .int x5_4]) (w' := w) rfl ?_
    refine tm_i (p1 := 39) (p2 := 14) rfl (fun h1 => ?_) (fun h1 => ?_)
    · replace hs := hs.1 h1
      exact hE _ _ _ _ _ _ hs
    · replace hs := hs.2 h1
      refine tm_go 3 (pc' := 17) (L' := [some (.ref 123), z1, some (.ref 2016), some (.int x5_3), some (.int x5_4)]) (S' := [.int 640, .int x5_3]) (w' := w) rfl ?_
      refine tm_i (p1 := 39) (p2 := 20) rfl (fun h2 => ?_) (fun h2 => ?_)
      · replace hs := hs.1 h2
        exact hE _ _ _ _ _ _ hs
      · replace hs := hs.2 h2
        refine tm_go 4 (pc' := 25) (L' := [some (.ref 123), z1, some (.ref 2016), some (.int x5_3), some (.int x5_4)]) (S' := [.int x5_4, .ref 2016, .int x5_3, .ref 123]) (w' := w) rfl ?_
        obtain ⟨b3, hs⟩ := hs
        refine tm_k (pc' := 28) (L' := [some (.ref 123), z1, some (.ref 2016), some (.int x5_3), some (.int x5_4)]) (S' := [.int (chT 16 x5_4), .int x5_3, .ref 123]) (w' := w) rfl ⟨by decide, by decide, Nat.le_of_ble_eq_true rfl, b3⟩ ?_
        refine tm_go 1 (pc' := 29) (L' := [some (.ref 123), z1, some (.ref 2016), some (.int x5_3), some (.int x5_4)]) (S' := [.int ((Int32.toInt8 (chT 16 x5_4)).toInt32), .int x5_3, .ref 123]) (w' := w) rfl ?_
        obtain ⟨b4, hs⟩ := hs
        refine tm_k (pc' := 30) (L' := [some (.ref 123), z1, some (.ref 2016), some (.int x5_3), some (.int x5_4)]) (S' := []) (w' := (sI w 123 x5_3.toInt.toNat (vp_nar .byte ((Int32.toInt8 (chT 16 x5_4)).toInt32)))) rfl b4 ?_
        refine tm_go 3 (pc' := 5) (L' := [some (.ref 123), z1, some (.ref 2016), some (.int (x5_3 + (1 : Int32))), some (.int (x5_4 + (1 : Int32)))]) (S' := []) (w' := (sI w 123 x5_3.toInt.toNat (vp_nar .byte ((Int32.toInt8 (chT 16 x5_4)).toInt32)))) rfl ?_
        exact ih _ _ _ _ hs hE
set_option maxHeartbeats 4000000 in
set_option maxRecDepth 100000 in
theorem dm_Pl_put_123_2016 {d : Nat} {w : MW} {a0 : Int32} {Q : Int32 → MW → Prop} (hs : p_Pl_put_123_2016 w a0 Q) : Tc (d + 0) 148 [.ref 123, .int a0, .ref 2016] w (RI Q) := by
  unfold p_Pl_put_123_2016 at hs
  refine tm_go 4 (pc' := 5) (L' := [some (.ref 123), some (.int a0), some (.ref 2016), some (.int a0), some (.int 0)]) (S' := []) (w' := w) rfl ?_
  refine tx_Pl_put_123_2016_5 FU _ _ _ _ hs (fun e5_3_5 z5_0 z5_1 z5_2 z5_4 w5 hs => ?_)
  refine tm_go 1 (pc' := 40) (L' := [z5_0, z5_1, z5_2, some (.int e5_3_5), z5_4]) (S' := [.int e5_3_5]) (w' := w5) rfl ?_
  exact tm_r rfl ⟨_, rfl, hs⟩
set_option maxHeartbeats 4000000 in
set_option maxRecDepth 100000 in
theorem tx_Pl_writeTos91_123_4 {d : Nat} {E : Int32 → MW → Prop} {Q : Int32 → MW → Prop} (n : Nat) : ∀ (x4_2 : Int32) (x4_3 : Int32)   (w : MW), q_Pl_writeTos91_123_4  E Q n x4_2 x4_3 w → (∀ (e4_2 : Int32)  (v3 : Option Value) (w : MW), E e4_2 w → Tm (d + 2) 147 98 [some (.ref 91), some (.ref 123), some (.int e4_2), v3] [] w (RI Q)) → Tm (d + 2) 147 4 [some (.ref 91), some (.ref 123), some (.int x4_2), some (.int x4_3)] [] w (RI Q) := by
  induction n with
  | zero => intro x4_2 x4_3  w hs; rw [q_Pl_writeTos91_123_4.eq_1] at hs; exact hs.elim
  | succ n ih =>
    intro x4_2 x4_3  w hs hE
    rw [q_Pl_writeTos91_123_4.eq_2] at hs
    refine tm_go 3 (pc' := 9) (L' := [some (.ref 91), some (.ref 123), some (.int x4_2), some (.int x4_3)]) (S' := [.int (w.1 91 0), .int x4_3]) (w' := w) rfl ?_
    refine tm_i (p1 := 98) (p2 := 12) rfl (fun h1 => ?_) (fun h1 => ?_)
    · replace hs := hs.1 h1
      exact hE _ _ _ hs
    · replace hs := hs.2 h1
      refine tm_go 3 (pc' := 17) (L' := [some (.ref 91), some (.ref 123), some (.int x4_2), some (.int x4_3)]) (S' := [.int x4_3, .ref 92]) (w' := w) rfl ?_
      obtain ⟨b2, hs⟩ := hs
      refine tm_k (pc' := 18) (L' := [some (.ref 91), some (.ref 123), some (.int x4_2), some (.int x4_3)]) (S' := [.int (w.1 92 x4_3.toInt.toNat)]) (w' := w) rfl b2 ?_
      refine tm_go 1 (pc' := 20) (L' := [some (.ref 91), some (.ref 123), some (.int x4_2), some (.int x4_3)]) (S' := [.int 8, .int (w.1 92 x4_3.toInt.toNat)]) (w' := w) rfl ?_
      refine tm_i (p1 := 34) (p2 := 23) rfl (fun h3 => ?_) (fun h3 => ?_)
      · replace hs := hs.1 h3
        refine tm_go 3 (pc' := 39) (L' := [some (.ref 91), some (.ref 123), some (.int x4_2), some (.int x4_3)]) (S' := [.int x4_3, .ref 92]) (w' := w) rfl ?_
        obtain ⟨b4, hs⟩ := hs
        refine tm_k (pc' := 40) (L' := [some (.ref 91), some (.ref 123), some (.int x4_2), some (.int x4_3)]) (S' := [.int (w.1 92 x4_3.toInt.toNat)]) (w' := w) rfl b4 ?_
        refine tm_go 1 (pc' := 42) (L' := [some (.ref 91), some (.ref 123), some (.int x4_2), some (.int x4_3)]) (S' := [.int 9, .int (w.1 92 x4_3.toInt.toNat)]) (w' := w) rfl ?_
        refine tm_i (p1 := 66) (p2 := 45) rfl (fun h5 => ?_) (fun h5 => ?_)
        · replace hs := hs.1 h5
          refine tm_go 4 (pc' := 71) (L' := [some (.ref 91), some (.ref 123), some (.int x4_2), some (.int x4_3)]) (S' := [.ref 2002, .int x4_2, .ref 123, .ref 123]) (w' := w) rfl ?_
          refine tm_c rfl (Nat.le_of_ble_eq_true rfl) (dm_Pl_put_123_2002 (d := d + 1) hs) (fun v w6 hq => ?_)
          obtain ⟨r6, rfl, hs⟩ := hq
          refine tm_go 3 (pc' := 79) (L' := [some (.ref 91), some (.ref 123), some (.int x4_2), some (.int x4_3)]) (S' := [.int x4_3, .ref 92, .int r6, .ref 123]) (w' := w6) rfl ?_
          obtain ⟨b7, hs⟩ := hs
          refine tm_k (pc' := 80) (L' := [some (.ref 91), some (.ref 123), some (.int x4_2), some (.int x4_3)]) (S' := [.int (w6.1 92 x4_3.toInt.toNat), .int r6, .ref 123]) (w' := w6) rfl b7 ?_
          refine tm_c rfl (Nat.le_of_ble_eq_true rfl) (dm_Pl_putNumber_123 (d := d + 1) hs) (fun v w8 hq => ?_)
          obtain ⟨r8, rfl, hs⟩ := hq
          refine tm_go 4 (pc' := 88) (L' := [some (.ref 91), some (.ref 123), some (.int r8), some (.int x4_3)]) (S' := [.ref 2016, .int r8, .ref 123]) (w' := w8) rfl ?_
          refine tm_c rfl (Nat.le_of_ble_eq_true rfl) (dm_Pl_put_123_2016 (d := d + 1) hs) (fun v w9 hq => ?_)
          obtain ⟨r9, rfl, hs⟩ := hq
          refine tm_go 3 (pc' := 4) (L' := [some (.ref 91), some (.ref 123), some (.int r9), some (.int (x4_3 + (1 : Int32)))]) (S' := []) (w' := w9) rfl ?_
          exact ih _ _ _ hs hE
        · replace hs := hs.2 h5
          refine tm_go 4 (pc' := 50) (L' := [some (.ref 91), some (.ref 123), some (.int x4_2), some (.int x4_3)]) (S' := [.ref 2001, .int x4_2, .ref 123, .ref 123]) (w' := w) rfl ?_
          refine tm_c rfl (Nat.le_of_ble_eq_true rfl) (dm_Pl_put_123_2001 (d := d + 1) hs) (fun v w10 hq => ?_)
          obtain ⟨r10, rfl, hs⟩ := hq
          refine tm_go 3 (pc' := 58) (L' := [some (.ref 91), some (.ref 123), some (.int x4_2), some (.int x4_3)]) (S' := [.int x4_3, .ref 93, .int r10, .ref 123]) (w' := w10) rfl ?_
          obtain ⟨b11, hs⟩ := hs
          refine tm_k (pc' := 59) (L' := [some (.ref 91), some (.ref 123), some (.int x4_2), some (.int x4_3)]) (S' := [.int (w10.1 93 x4_3.toInt.toNat), .int r10, .ref 123]) (w' := w10) rfl b11 ?_
          refine tm_c rfl (Nat.le_of_ble_eq_true rfl) (dm_Pl_putNumber_123 (d := d + 1) hs) (fun v w12 hq => ?_)
          obtain ⟨r12, rfl, hs⟩ := hq
          refine tm_go 5 (pc' := 88) (L' := [some (.ref 91), some (.ref 123), some (.int r12), some (.int x4_3)]) (S' := [.ref 2016, .int r12, .ref 123]) (w' := w12) rfl ?_
          refine tm_c rfl (Nat.le_of_ble_eq_true rfl) (dm_Pl_put_123_2016 (d := d + 1) hs) (fun v w13 hq => ?_)
          obtain ⟨r13, rfl, hs⟩ := hq
          refine tm_go 3 (pc' := 4) (L' := [some (.ref 91), some (.ref 123), some (.int r13), some (.int (x4_3 + (1 : Int32)))]) (S' := []) (w' := w13) rfl ?_
          exact ih _ _ _ hs hE
      · replace hs := hs.2 h3
        refine tm_go 3 (pc' := 27) (L' := [some (.ref 91), some (.ref 123), some (.int x4_2), some (.int x4_3)]) (S' := [.ref 2003, .int x4_2, .ref 123]) (w' := w) rfl ?_
        refine tm_c rfl (Nat.le_of_ble_eq_true rfl) (dm_Pl_put_123_2003 (d := d + 1) hs) (fun v w14 hq => ?_)
        obtain ⟨r14, rfl, hs⟩ := hq
        refine tm_go 5 (pc' := 88) (L' := [some (.ref 91), some (.ref 123), some (.int r14), some (.int x4_3)]) (S' := [.ref 2016, .int r14, .ref 123]) (w' := w14) rfl ?_
        refine tm_c rfl (Nat.le_of_ble_eq_true rfl) (dm_Pl_put_123_2016 (d := d + 1) hs) (fun v w15 hq => ?_)
        obtain ⟨r15, rfl, hs⟩ := hq
        refine tm_go 3 (pc' := 4) (L' := [some (.ref 91), some (.ref 123), some (.int r15), some (.int (x4_3 + (1 : Int32)))]) (S' := []) (w' := w15) rfl ?_
        exact ih _ _ _ hs hE
set_option maxHeartbeats 4000000 in
set_option maxRecDepth 100000 in
theorem tx_Pl_writeTos91_123_100 {d : Nat} {E : Int32 → MW → Prop} {Q : Int32 → MW → Prop} (n : Nat) : ∀ (x100_2 : Int32) (x100_3 : Int32)   (w : MW), q_Pl_writeTos91_123_100  E Q n x100_2 x100_3 w → (∀ (e100_2 : Int32)  (v0 : Option Value) (v1 : Option Value) (v3 : Option Value) (w : MW), E e100_2 w → Tm (d + 2) 147 182 [v0, v1, some (.int e100_2), v3] [] w (RI Q)) → Tm (d + 2) 147 100 [some (.ref 91), some (.ref 123), some (.int x100_2), some (.int x100_3)] [] w (RI Q) := by
  induction n with
  | zero => intro x100_2 x100_3  w hs; rw [q_Pl_writeTos91_123_100.eq_1] at hs; exact hs.elim
  | succ n ih =>
    intro x100_2 x100_3  w hs hE
    rw [q_Pl_writeTos91_123_100.eq_2] at hs
    refine tm_go 3 (pc' := 105) (L' := [some (.ref 91), some (.ref 123), some (.int x100_2), some (.int x100_3)]) (S' := [.int (w.1 91 1), .int x100_3]) (w' := w) rfl ?_
    refine tm_i (p1 := 182) (p2 := 108) rfl (fun h17 => ?_) (fun h17 => ?_)
    · replace hs := hs.1 h17
      exact hE _ _ _ _ _ hs
    · replace hs := hs.2 h17
      refine tm_go 4 (pc' := 113) (L' := [some (.ref 91), some (.ref 123), some (.int x100_2), some (.int x100_3)]) (S' := [.ref 2004, .int x100_2, .ref 123, .ref 123]) (w' := w) rfl ?_
      refine tm_c rfl (Nat.le_of_ble_eq_true rfl) (dm_Pl_put_123_2004 (d := d + 1) hs) (fun v w18 hq => ?_)
      obtain ⟨r18, rfl, hs⟩ := hq
      refine tm_go 5 (pc' := 123) (L' := [some (.ref 91), some (.ref 123), some (.int x100_2), some (.int x100_3)]) (S' := [.int ((2 : Int32) * x100_3), .ref 96, .int r18, .ref 123]) (w' := w18) rfl ?_
      obtain ⟨b19, hs⟩ := hs
      refine tm_k (pc' := 124) (L' := [some (.ref 91), some (.ref 123), some (.int x100_2), some (.int x100_3)]) (S' := [.int (w18.1 96 (((2 : Int32) * x100_3).toInt.toNat)), .int r18, .ref 123]) (w' := w18) rfl b19 ?_
      refine tm_c rfl (Nat.le_of_ble_eq_true rfl) (dm_Pl_putPipeEnd_123 (d := d + 0) hs) (fun v w20 hq => ?_)
      obtain ⟨r20, rfl, hs⟩ := hq
      refine tm_go 5 (pc' := 133) (L' := [some (.ref 91), some (.ref 123), some (.int r20), some (.int x100_3)]) (S' := [.ref 2005, .int r20, .ref 123, .ref 123]) (w' := w20) rfl ?_
      refine tm_c rfl (Nat.le_of_ble_eq_true rfl) (dm_Pl_put_123_2005 (d := d + 1) hs) (fun v w21 hq => ?_)
      obtain ⟨r21, rfl, hs⟩ := hq
      refine tm_go 7 (pc' := 145) (L' := [some (.ref 91), some (.ref 123), some (.int r20), some (.int x100_3)]) (S' := [.int (((2 : Int32) * x100_3) + (1 : Int32)), .ref 96, .int r21, .ref 123]) (w' := w21) rfl ?_
      obtain ⟨b22, hs⟩ := hs
      refine tm_k (pc' := 146) (L' := [some (.ref 91), some (.ref 123), some (.int r20), some (.int x100_3)]) (S' := [.int (w21.1 96 ((((2 : Int32) * x100_3) + (1 : Int32)).toInt.toNat)), .int r21, .ref 123]) (w' := w21) rfl b22 ?_
      refine tm_c rfl (Nat.le_of_ble_eq_true rfl) (dm_Pl_putPipeEnd_123 (d := d + 0) hs) (fun v w23 hq => ?_)
      obtain ⟨r23, rfl, hs⟩ := hq
      refine tm_go 5 (pc' := 155) (L' := [some (.ref 91), some (.ref 123), some (.int r23), some (.int x100_3)]) (S' := [.ref 2005, .int r23, .ref 123, .ref 123]) (w' := w23) rfl ?_
      refine tm_c rfl (Nat.le_of_ble_eq_true rfl) (dm_Pl_put_123_2005 (d := d + 1) hs) (fun v w24 hq => ?_)
      obtain ⟨r24, rfl, hs⟩ := hq
      refine tm_go 3 (pc' := 163) (L' := [some (.ref 91), some (.ref 123), some (.int r23), some (.int x100_3)]) (S' := [.int x100_3, .ref 95, .int r24, .ref 123]) (w' := w24) rfl ?_
      obtain ⟨b25, hs⟩ := hs
      refine tm_k (pc' := 164) (L' := [some (.ref 91), some (.ref 123), some (.int r23), some (.int x100_3)]) (S' := [.int (w24.1 95 x100_3.toInt.toNat), .int r24, .ref 123]) (w' := w24) rfl b25 ?_
      refine tm_c rfl (Nat.le_of_ble_eq_true rfl) (dm_Pl_putNumber_123 (d := d + 1) hs) (fun v w26 hq => ?_)
      obtain ⟨r26, rfl, hs⟩ := hq
      refine tm_go 4 (pc' := 172) (L' := [some (.ref 91), some (.ref 123), some (.int r26), some (.int x100_3)]) (S' := [.ref 2016, .int r26, .ref 123]) (w' := w26) rfl ?_
      refine tm_c rfl (Nat.le_of_ble_eq_true rfl) (dm_Pl_put_123_2016 (d := d + 1) hs) (fun v w27 hq => ?_)
      obtain ⟨r27, rfl, hs⟩ := hq
      refine tm_go 3 (pc' := 100) (L' := [some (.ref 91), some (.ref 123), some (.int r27), some (.int (x100_3 + (1 : Int32)))]) (S' := []) (w' := w27) rfl ?_
      exact ih _ _ _ hs hE
set_option maxHeartbeats 4000000 in
set_option maxRecDepth 100000 in
theorem dm_Pl_writeTos91_123 {d : Nat} {w : MW} {Q : Int32 → MW → Prop} (hs : p_Pl_writeTos91_123 w Q) : Tc (d + 2) 147 [.ref 91, .ref 123] w (RI Q) := by
  unfold p_Pl_writeTos91_123 at hs
  refine tm_go 4 (pc' := 4) (L' := [some (.ref 91), some (.ref 123), some (.int 0), some (.int 0)]) (S' := []) (w' := w) rfl ?_
  refine tx_Pl_writeTos91_123_4 FU _ _ _ hs (fun e4_2_16 z16_3 w16 hs => ?_)
  refine tm_go 2 (pc' := 100) (L' := [some (.ref 91), some (.ref 123), some (.int e4_2_16), some (.int 0)]) (S' := []) (w' := w16) rfl ?_
  refine tx_Pl_writeTos91_123_100 FU _ _ _ hs (fun e100_2_28 z28_0 z28_1 z28_3 w28 hs => ?_)
  refine tm_go 1 (pc' := 183) (L' := [z28_0, z28_1, some (.int e100_2_28), z28_3]) (S' := [.int e100_2_28]) (w' := w28) rfl ?_
  exact tm_r rfl ⟨_, rfl, hs⟩
set_option maxHeartbeats 4000000 in
set_option maxRecDepth 100000 in
theorem tx_Ar_fill0_16_5 {d : Nat} {x5_1 : Int32} {x5_3 : Int32} {E : MW → Prop} {Q : MW → Prop} (n : Nat) : ∀ (x5_2 : Int32)   (w : MW), q_Ar_fill0_16_5 x5_1 x5_3 E Q n x5_2 w → (∀  (v0 : Option Value) (v1 : Option Value) (v2 : Option Value) (v3 : Option Value) (w : MW), E  w → Tm (d + 0) 343 20 [v0, v1, v2, v3] [] w (RV Q)) → Tm (d + 0) 343 5 [some (.ref 16), some (.int x5_1), some (.int x5_2), some (.int x5_3)] [] w (RV Q) := by
  induction n with
  | zero => intro x5_2  w hs; rw [q_Ar_fill0_16_5.eq_1] at hs; exact hs.elim
  | succ n ih =>
    intro x5_2  w hs hE
    rw [q_Ar_fill0_16_5.eq_2] at hs
    refine tm_go 2 (pc' := 7) (L' := [some (.ref 16), some (.int x5_1), some (.int x5_2), some (.int x5_3)]) (S' := [.int x5_3, .int x5_2]) (w' := w) rfl ?_
    refine tm_i (p1 := 20) (p2 := 10) rfl (fun h1 => ?_) (fun h1 => ?_)
    · replace hs := hs.1 h1
      exact hE _ _ _ _ _ hs
    · replace hs := hs.2 h1
      refine tm_go 3 (pc' := 13) (L' := [some (.ref 16), some (.int x5_1), some (.int x5_2), some (.int x5_3)]) (S' := [.int x5_1, .int x5_2, .ref 16]) (w' := w) rfl ?_
      obtain ⟨b2, hs⟩ := hs
      refine tm_k (pc' := 14) (L' := [some (.ref 16), some (.int x5_1), some (.int x5_2), some (.int x5_3)]) (S' := []) (w' := (sI w 16 x5_2.toInt.toNat x5_1)) rfl b2 ?_
      refine tm_go 2 (pc' := 5) (L' := [some (.ref 16), some (.int x5_1), some (.int (x5_2 + (1 : Int32))), some (.int x5_3)]) (S' := []) (w' := (sI w 16 x5_2.toInt.toNat x5_1)) rfl ?_
      exact ih _ _ hs hE
set_option maxHeartbeats 4000000 in
set_option maxRecDepth 100000 in
theorem dm_Ar_fill0_16 {d : Nat} {w : MW} {a0 : Int32} {Q : MW → Prop} (hs : p_Ar_fill0_16 w a0 Q) : Tc (d + 0) 343 [.ref 16, .int a0] w (RV Q) := by
  unfold p_Ar_fill0_16 at hs
  refine tm_go 5 (pc' := 5) (L' := [some (.ref 16), some (.int a0), some (.int 0), some (.int 20)]) (S' := []) (w' := w) rfl ?_
  refine tx_Ar_fill0_16_5 FU _ _ hs (fun  z3_0 z3_1 z3_2 z3_3 w3 hs => ?_)
  exact tm_r rfl ⟨rfl, hs⟩
set_option maxHeartbeats 4000000 in
set_option maxRecDepth 100000 in
theorem tx_Ar_fill0_17_5 {d : Nat} {x5_1 : Int32} {x5_3 : Int32} {E : MW → Prop} {Q : MW → Prop} (n : Nat) : ∀ (x5_2 : Int32)   (w : MW), q_Ar_fill0_17_5 x5_1 x5_3 E Q n x5_2 w → (∀  (v0 : Option Value) (v1 : Option Value) (v2 : Option Value) (v3 : Option Value) (w : MW), E  w → Tm (d + 0) 343 20 [v0, v1, v2, v3] [] w (RV Q)) → Tm (d + 0) 343 5 [some (.ref 17), some (.int x5_1), some (.int x5_2), some (.int x5_3)] [] w (RV Q) := by
  induction n with
  | zero => intro x5_2  w hs; rw [q_Ar_fill0_17_5.eq_1] at hs; exact hs.elim
  | succ n ih =>
    intro x5_2  w hs hE
    rw [q_Ar_fill0_17_5.eq_2] at hs
    refine tm_go 2 (pc' := 7) (L' := [some (.ref 17), some (.int x5_1), some (.int x5_2), some (.int x5_3)]) (S' := [.int x5_3, .int x5_2]) (w' := w) rfl ?_
    refine tm_i (p1 := 20) (p2 := 10) rfl (fun h1 => ?_) (fun h1 => ?_)
    · replace hs := hs.1 h1
      exact hE _ _ _ _ _ hs
    · replace hs := hs.2 h1
      refine tm_go 3 (pc' := 13) (L' := [some (.ref 17), some (.int x5_1), some (.int x5_2), some (.int x5_3)]) (S' := [.int x5_1, .int x5_2, .ref 17]) (w' := w) rfl ?_
      obtain ⟨b2, hs⟩ := hs
      refine tm_k (pc' := 14) (L' := [some (.ref 17), some (.int x5_1), some (.int x5_2), some (.int x5_3)]) (S' := []) (w' := (sI w 17 x5_2.toInt.toNat x5_1)) rfl b2 ?_
      refine tm_go 2 (pc' := 5) (L' := [some (.ref 17), some (.int x5_1), some (.int (x5_2 + (1 : Int32))), some (.int x5_3)]) (S' := []) (w' := (sI w 17 x5_2.toInt.toNat x5_1)) rfl ?_
      exact ih _ _ hs hE
set_option maxHeartbeats 4000000 in
set_option maxRecDepth 100000 in
theorem dm_Ar_fill0_17 {d : Nat} {w : MW} {a0 : Int32} {Q : MW → Prop} (hs : p_Ar_fill0_17 w a0 Q) : Tc (d + 0) 343 [.ref 17, .int a0] w (RV Q) := by
  unfold p_Ar_fill0_17 at hs
  refine tm_go 5 (pc' := 5) (L' := [some (.ref 17), some (.int a0), some (.int 0), some (.int 44)]) (S' := []) (w' := w) rfl ?_
  refine tx_Ar_fill0_17_5 FU _ _ hs (fun  z3_0 z3_1 z3_2 z3_3 w3 hs => ?_)
  exact tm_r rfl ⟨rfl, hs⟩
set_option maxHeartbeats 4000000 in
set_option maxRecDepth 100000 in
theorem tx_Ar_fill0_18_5 {d : Nat} {x5_1 : Int32} {x5_3 : Int32} {E : MW → Prop} {Q : MW → Prop} (n : Nat) : ∀ (x5_2 : Int32)   (w : MW), q_Ar_fill0_18_5 x5_1 x5_3 E Q n x5_2 w → (∀  (v0 : Option Value) (v1 : Option Value) (v2 : Option Value) (v3 : Option Value) (w : MW), E  w → Tm (d + 0) 343 20 [v0, v1, v2, v3] [] w (RV Q)) → Tm (d + 0) 343 5 [some (.ref 18), some (.int x5_1), some (.int x5_2), some (.int x5_3)] [] w (RV Q) := by
  induction n with
  | zero => intro x5_2  w hs; rw [q_Ar_fill0_18_5.eq_1] at hs; exact hs.elim
  | succ n ih =>
    intro x5_2  w hs hE
    rw [q_Ar_fill0_18_5.eq_2] at hs
    refine tm_go 2 (pc' := 7) (L' := [some (.ref 18), some (.int x5_1), some (.int x5_2), some (.int x5_3)]) (S' := [.int x5_3, .int x5_2]) (w' := w) rfl ?_
    refine tm_i (p1 := 20) (p2 := 10) rfl (fun h1 => ?_) (fun h1 => ?_)
    · replace hs := hs.1 h1
      exact hE _ _ _ _ _ hs
    · replace hs := hs.2 h1
      refine tm_go 3 (pc' := 13) (L' := [some (.ref 18), some (.int x5_1), some (.int x5_2), some (.int x5_3)]) (S' := [.int x5_1, .int x5_2, .ref 18]) (w' := w) rfl ?_
      obtain ⟨b2, hs⟩ := hs
      refine tm_k (pc' := 14) (L' := [some (.ref 18), some (.int x5_1), some (.int x5_2), some (.int x5_3)]) (S' := []) (w' := (sI w 18 x5_2.toInt.toNat x5_1)) rfl b2 ?_
      refine tm_go 2 (pc' := 5) (L' := [some (.ref 18), some (.int x5_1), some (.int (x5_2 + (1 : Int32))), some (.int x5_3)]) (S' := []) (w' := (sI w 18 x5_2.toInt.toNat x5_1)) rfl ?_
      exact ih _ _ hs hE
set_option maxHeartbeats 4000000 in
set_option maxRecDepth 100000 in
theorem dm_Ar_fill0_18 {d : Nat} {w : MW} {a0 : Int32} {Q : MW → Prop} (hs : p_Ar_fill0_18 w a0 Q) : Tc (d + 0) 343 [.ref 18, .int a0] w (RV Q) := by
  unfold p_Ar_fill0_18 at hs
  refine tm_go 5 (pc' := 5) (L' := [some (.ref 18), some (.int a0), some (.int 0), some (.int 44)]) (S' := []) (w' := w) rfl ?_
  refine tx_Ar_fill0_18_5 FU _ _ hs (fun  z3_0 z3_1 z3_2 z3_3 w3 hs => ?_)
  exact tm_r rfl ⟨rfl, hs⟩
set_option maxHeartbeats 4000000 in
set_option maxRecDepth 100000 in
theorem tx_Ar_fill0_19_5 {d : Nat} {x5_1 : Int32} {x5_3 : Int32} {E : MW → Prop} {Q : MW → Prop} (n : Nat) : ∀ (x5_2 : Int32)   (w : MW), q_Ar_fill0_19_5 x5_1 x5_3 E Q n x5_2 w → (∀  (v0 : Option Value) (v1 : Option Value) (v2 : Option Value) (v3 : Option Value) (w : MW), E  w → Tm (d + 0) 343 20 [v0, v1, v2, v3] [] w (RV Q)) → Tm (d + 0) 343 5 [some (.ref 19), some (.int x5_1), some (.int x5_2), some (.int x5_3)] [] w (RV Q) := by
  induction n with
  | zero => intro x5_2  w hs; rw [q_Ar_fill0_19_5.eq_1] at hs; exact hs.elim
  | succ n ih =>
    intro x5_2  w hs hE
    rw [q_Ar_fill0_19_5.eq_2] at hs
    refine tm_go 2 (pc' := 7) (L' := [some (.ref 19), some (.int x5_1), some (.int x5_2), some (.int x5_3)]) (S' := [.int x5_3, .int x5_2]) (w' := w) rfl ?_
    refine tm_i (p1 := 20) (p2 := 10) rfl (fun h1 => ?_) (fun h1 => ?_)
    · replace hs := hs.1 h1
      exact hE _ _ _ _ _ hs
    · replace hs := hs.2 h1
      refine tm_go 3 (pc' := 13) (L' := [some (.ref 19), some (.int x5_1), some (.int x5_2), some (.int x5_3)]) (S' := [.int x5_1, .int x5_2, .ref 19]) (w' := w) rfl ?_
      obtain ⟨b2, hs⟩ := hs
      refine tm_k (pc' := 14) (L' := [some (.ref 19), some (.int x5_1), some (.int x5_2), some (.int x5_3)]) (S' := []) (w' := (sI w 19 x5_2.toInt.toNat x5_1)) rfl b2 ?_
      refine tm_go 2 (pc' := 5) (L' := [some (.ref 19), some (.int x5_1), some (.int (x5_2 + (1 : Int32))), some (.int x5_3)]) (S' := []) (w' := (sI w 19 x5_2.toInt.toNat x5_1)) rfl ?_
      exact ih _ _ hs hE
set_option maxHeartbeats 4000000 in
set_option maxRecDepth 100000 in
theorem dm_Ar_fill0_19 {d : Nat} {w : MW} {a0 : Int32} {Q : MW → Prop} (hs : p_Ar_fill0_19 w a0 Q) : Tc (d + 0) 343 [.ref 19, .int a0] w (RV Q) := by
  unfold p_Ar_fill0_19 at hs
  refine tm_go 5 (pc' := 5) (L' := [some (.ref 19), some (.int a0), some (.int 0), some (.int 44)]) (S' := []) (w' := w) rfl ?_
  refine tx_Ar_fill0_19_5 FU _ _ hs (fun  z3_0 z3_1 z3_2 z3_3 w3 hs => ?_)
  exact tm_r rfl ⟨rfl, hs⟩
set_option maxHeartbeats 4000000 in
set_option maxRecDepth 100000 in
theorem tx_Ar_fill0_21_5 {d : Nat} {x5_1 : Int32} {x5_3 : Int32} {E : MW → Prop} {Q : MW → Prop} (n : Nat) : ∀ (x5_2 : Int32)   (w : MW), q_Ar_fill0_21_5 x5_1 x5_3 E Q n x5_2 w → (∀  (v0 : Option Value) (v1 : Option Value) (v2 : Option Value) (v3 : Option Value) (w : MW), E  w → Tm (d + 0) 343 20 [v0, v1, v2, v3] [] w (RV Q)) → Tm (d + 0) 343 5 [some (.ref 21), some (.int x5_1), some (.int x5_2), some (.int x5_3)] [] w (RV Q) := by
  induction n with
  | zero => intro x5_2  w hs; rw [q_Ar_fill0_21_5.eq_1] at hs; exact hs.elim
  | succ n ih =>
    intro x5_2  w hs hE
    rw [q_Ar_fill0_21_5.eq_2] at hs
    refine tm_go 2 (pc' := 7) (L' := [some (.ref 21), some (.int x5_1), some (.int x5_2), some (.int x5_3)]) (S' := [.int x5_3, .int x5_2]) (w' := w) rfl ?_
    refine tm_i (p1 := 20) (p2 := 10) rfl (fun h1 => ?_) (fun h1 => ?_)
    · replace hs := hs.1 h1
      exact hE _ _ _ _ _ hs
    · replace hs := hs.2 h1
      refine tm_go 3 (pc' := 13) (L' := [some (.ref 21), some (.int x5_1), some (.int x5_2), some (.int x5_3)]) (S' := [.int x5_1, .int x5_2, .ref 21]) (w' := w) rfl ?_
      obtain ⟨b2, hs⟩ := hs
      refine tm_k (pc' := 14) (L' := [some (.ref 21), some (.int x5_1), some (.int x5_2), some (.int x5_3)]) (S' := []) (w' := (sI w 21 x5_2.toInt.toNat x5_1)) rfl b2 ?_
      refine tm_go 2 (pc' := 5) (L' := [some (.ref 21), some (.int x5_1), some (.int (x5_2 + (1 : Int32))), some (.int x5_3)]) (S' := []) (w' := (sI w 21 x5_2.toInt.toNat x5_1)) rfl ?_
      exact ih _ _ hs hE
set_option maxHeartbeats 4000000 in
set_option maxRecDepth 100000 in
theorem dm_Ar_fill0_21 {d : Nat} {w : MW} {a0 : Int32} {Q : MW → Prop} (hs : p_Ar_fill0_21 w a0 Q) : Tc (d + 0) 343 [.ref 21, .int a0] w (RV Q) := by
  unfold p_Ar_fill0_21 at hs
  refine tm_go 5 (pc' := 5) (L' := [some (.ref 21), some (.int a0), some (.int 0), some (.int 24)]) (S' := []) (w' := w) rfl ?_
  refine tx_Ar_fill0_21_5 FU _ _ hs (fun  z3_0 z3_1 z3_2 z3_3 w3 hs => ?_)
  exact tm_r rfl ⟨rfl, hs⟩
set_option maxHeartbeats 4000000 in
set_option maxRecDepth 100000 in
theorem tx_Ar_fill0_23_5 {d : Nat} {x5_1 : Int32} {x5_3 : Int32} {E : MW → Prop} {Q : MW → Prop} (n : Nat) : ∀ (x5_2 : Int32)   (w : MW), q_Ar_fill0_23_5 x5_1 x5_3 E Q n x5_2 w → (∀  (v0 : Option Value) (v1 : Option Value) (v2 : Option Value) (v3 : Option Value) (w : MW), E  w → Tm (d + 0) 343 20 [v0, v1, v2, v3] [] w (RV Q)) → Tm (d + 0) 343 5 [some (.ref 23), some (.int x5_1), some (.int x5_2), some (.int x5_3)] [] w (RV Q) := by
  induction n with
  | zero => intro x5_2  w hs; rw [q_Ar_fill0_23_5.eq_1] at hs; exact hs.elim
  | succ n ih =>
    intro x5_2  w hs hE
    rw [q_Ar_fill0_23_5.eq_2] at hs
    refine tm_go 2 (pc' := 7) (L' := [some (.ref 23), some (.int x5_1), some (.int x5_2), some (.int x5_3)]) (S' := [.int x5_3, .int x5_2]) (w' := w) rfl ?_
    refine tm_i (p1 := 20) (p2 := 10) rfl (fun h1 => ?_) (fun h1 => ?_)
    · replace hs := hs.1 h1
      exact hE _ _ _ _ _ hs
    · replace hs := hs.2 h1
      refine tm_go 3 (pc' := 13) (L' := [some (.ref 23), some (.int x5_1), some (.int x5_2), some (.int x5_3)]) (S' := [.int x5_1, .int x5_2, .ref 23]) (w' := w) rfl ?_
      obtain ⟨b2, hs⟩ := hs
      refine tm_k (pc' := 14) (L' := [some (.ref 23), some (.int x5_1), some (.int x5_2), some (.int x5_3)]) (S' := []) (w' := (sI w 23 x5_2.toInt.toNat x5_1)) rfl b2 ?_
      refine tm_go 2 (pc' := 5) (L' := [some (.ref 23), some (.int x5_1), some (.int (x5_2 + (1 : Int32))), some (.int x5_3)]) (S' := []) (w' := (sI w 23 x5_2.toInt.toNat x5_1)) rfl ?_
      exact ih _ _ hs hE
set_option maxHeartbeats 4000000 in
set_option maxRecDepth 100000 in
theorem dm_Ar_fill0_23 {d : Nat} {w : MW} {a0 : Int32} {Q : MW → Prop} (hs : p_Ar_fill0_23 w a0 Q) : Tc (d + 0) 343 [.ref 23, .int a0] w (RV Q) := by
  unfold p_Ar_fill0_23 at hs
  refine tm_go 5 (pc' := 5) (L' := [some (.ref 23), some (.int a0), some (.int 0), some (.int 264)]) (S' := []) (w' := w) rfl ?_
  refine tx_Ar_fill0_23_5 FU _ _ hs (fun  z3_0 z3_1 z3_2 z3_3 w3 hs => ?_)
  exact tm_r rfl ⟨rfl, hs⟩
set_option maxHeartbeats 4000000 in
set_option maxRecDepth 100000 in
theorem tx_Ar_fill1_20_6 {d : Nat} {x6_1 : Int64} {x6_4 : Int32} {E : MW → Prop} {Q : MW → Prop} (n : Nat) : ∀ (x6_3 : Int32)   (w : MW), q_Ar_fill1_20_6 x6_1 x6_4 E Q n x6_3 w → (∀  (v0 : Option Value) (v1 : Option Value) (v2 : Option Value) (v3 : Option Value) (v4 : Option Value) (w : MW), E  w → Tm (d + 0) 344 22 [v0, v1, v2, v3, v4] [] w (RV Q)) → Tm (d + 0) 344 6 [some (.ref 20), some (.long x6_1), none, some (.int x6_3), some (.int x6_4)] [] w (RV Q) := by
  induction n with
  | zero => intro x6_3  w hs; rw [q_Ar_fill1_20_6.eq_1] at hs; exact hs.elim
  | succ n ih =>
    intro x6_3  w hs hE
    rw [q_Ar_fill1_20_6.eq_2] at hs
    refine tm_go 2 (pc' := 9) (L' := [some (.ref 20), some (.long x6_1), none, some (.int x6_3), some (.int x6_4)]) (S' := [.int x6_4, .int x6_3]) (w' := w) rfl ?_
    refine tm_i (p1 := 22) (p2 := 12) rfl (fun h1 => ?_) (fun h1 => ?_)
    · replace hs := hs.1 h1
      exact hE _ _ _ _ _ _ hs
    · replace hs := hs.2 h1
      refine tm_go 3 (pc' := 15) (L' := [some (.ref 20), some (.long x6_1), none, some (.int x6_3), some (.int x6_4)]) (S' := [.long x6_1, .int x6_3, .ref 20]) (w' := w) rfl ?_
      obtain ⟨b2, hs⟩ := hs
      refine tm_k (pc' := 16) (L' := [some (.ref 20), some (.long x6_1), none, some (.int x6_3), some (.int x6_4)]) (S' := []) (w' := (sJ w 20 x6_3.toInt.toNat x6_1)) rfl b2 ?_
      refine tm_go 2 (pc' := 6) (L' := [some (.ref 20), some (.long x6_1), none, some (.int (x6_3 + (1 : Int32))), some (.int x6_4)]) (S' := []) (w' := (sJ w 20 x6_3.toInt.toNat x6_1)) rfl ?_
      exact ih _ _ hs hE
set_option maxHeartbeats 4000000 in
set_option maxRecDepth 100000 in
theorem dm_Ar_fill1_20 {d : Nat} {w : MW} {a0 : Int64} {Q : MW → Prop} (hs : p_Ar_fill1_20 w a0 Q) : Tc (d + 0) 344 [.ref 20, .long a0] w (RV Q) := by
  unfold p_Ar_fill1_20 at hs
  refine tm_go 5 (pc' := 6) (L' := [some (.ref 20), some (.long a0), none, some (.int 0), some (.int 96)]) (S' := []) (w' := w) rfl ?_
  refine tx_Ar_fill1_20_6 FU _ _ hs (fun  z3_0 z3_1 z3_2 z3_3 z3_4 w3 hs => ?_)
  exact tm_r rfl ⟨rfl, hs⟩
set_option maxHeartbeats 4000000 in
set_option maxRecDepth 100000 in
theorem dm_St_renew_91 {d : Nat} {w : MW} {Q : MW → Prop} (hs : p_St_renew_91 w Q) : Tc (d + 1) 237 [.ref 7, .ref 91] w (RV Q) := by
  unfold p_St_renew_91 at hs
  refine tm_go 6 (pc' := 10) (L' := [some (.ref 7), some (.ref 91)]) (S' := [.int 0, .ref 16]) (w' := (sR w 7 0 (some 91))) rfl ?_
  refine tm_c rfl (Nat.le_of_ble_eq_true rfl) (dm_Ar_fill0_16 (d := d + 0) hs) (fun v w1 hq => ?_)
  obtain ⟨rfl, hs⟩ := hq
  refine tm_go 3 (pc' := 18) (L' := [some (.ref 7), some (.ref 91)]) (S' := [.int 0, .ref 17]) (w' := w1) rfl ?_
  refine tm_c rfl (Nat.le_of_ble_eq_true rfl) (dm_Ar_fill0_17 (d := d + 0) hs) (fun v w2 hq => ?_)
  obtain ⟨rfl, hs⟩ := hq
  refine tm_go 3 (pc' := 26) (L' := [some (.ref 7), some (.ref 91)]) (S' := [.int 0, .ref 18]) (w' := w2) rfl ?_
  refine tm_c rfl (Nat.le_of_ble_eq_true rfl) (dm_Ar_fill0_18 (d := d + 0) hs) (fun v w3 hq => ?_)
  obtain ⟨rfl, hs⟩ := hq
  refine tm_go 3 (pc' := 34) (L' := [some (.ref 7), some (.ref 91)]) (S' := [.int 0, .ref 19]) (w' := w3) rfl ?_
  refine tm_c rfl (Nat.le_of_ble_eq_true rfl) (dm_Ar_fill0_19 (d := d + 0) hs) (fun v w4 hq => ?_)
  obtain ⟨rfl, hs⟩ := hq
  refine tm_go 3 (pc' := 42) (L' := [some (.ref 7), some (.ref 91)]) (S' := [.int (-1), .ref 23]) (w' := w4) rfl ?_
  refine tm_c rfl (Nat.le_of_ble_eq_true rfl) (dm_Ar_fill0_23 (d := d + 0) hs) (fun v w5 hq => ?_)
  obtain ⟨rfl, hs⟩ := hq
  refine tm_go 3 (pc' := 50) (L' := [some (.ref 7), some (.ref 91)]) (S' := [.long 0, .ref 20]) (w' := w5) rfl ?_
  refine tm_c rfl (Nat.le_of_ble_eq_true rfl) (dm_Ar_fill1_20 (d := d + 0) hs) (fun v w6 hq => ?_)
  obtain ⟨rfl, hs⟩ := hq
  refine tm_go 3 (pc' := 58) (L' := [some (.ref 7), some (.ref 91)]) (S' := [.int 0, .ref 21]) (w' := w6) rfl ?_
  refine tm_c rfl (Nat.le_of_ble_eq_true rfl) (dm_Ar_fill0_21 (d := d + 0) hs) (fun v w7 hq => ?_)
  obtain ⟨rfl, hs⟩ := hq
  exact tm_r rfl ⟨rfl, hs⟩
set_option maxHeartbeats 4000000 in
set_option maxRecDepth 100000 in
theorem tx_Ar_fill0_37_5 {d : Nat} {x5_1 : Int32} {x5_3 : Int32} {E : MW → Prop} {Q : MW → Prop} (n : Nat) : ∀ (x5_2 : Int32)   (w : MW), q_Ar_fill0_37_5 x5_1 x5_3 E Q n x5_2 w → (∀  (v0 : Option Value) (v1 : Option Value) (v2 : Option Value) (v3 : Option Value) (w : MW), E  w → Tm (d + 0) 343 20 [v0, v1, v2, v3] [] w (RV Q)) → Tm (d + 0) 343 5 [some (.ref 37), some (.int x5_1), some (.int x5_2), some (.int x5_3)] [] w (RV Q) := by
  induction n with
  | zero => intro x5_2  w hs; rw [q_Ar_fill0_37_5.eq_1] at hs; exact hs.elim
  | succ n ih =>
    intro x5_2  w hs hE
    rw [q_Ar_fill0_37_5.eq_2] at hs
    refine tm_go 2 (pc' := 7) (L' := [some (.ref 37), some (.int x5_1), some (.int x5_2), some (.int x5_3)]) (S' := [.int x5_3, .int x5_2]) (w' := w) rfl ?_
    refine tm_i (p1 := 20) (p2 := 10) rfl (fun h1 => ?_) (fun h1 => ?_)
    · replace hs := hs.1 h1
      exact hE _ _ _ _ _ hs
    · replace hs := hs.2 h1
      refine tm_go 3 (pc' := 13) (L' := [some (.ref 37), some (.int x5_1), some (.int x5_2), some (.int x5_3)]) (S' := [.int x5_1, .int x5_2, .ref 37]) (w' := w) rfl ?_
      obtain ⟨b2, hs⟩ := hs
      refine tm_k (pc' := 14) (L' := [some (.ref 37), some (.int x5_1), some (.int x5_2), some (.int x5_3)]) (S' := []) (w' := (sI w 37 x5_2.toInt.toNat x5_1)) rfl b2 ?_
      refine tm_go 2 (pc' := 5) (L' := [some (.ref 37), some (.int x5_1), some (.int (x5_2 + (1 : Int32))), some (.int x5_3)]) (S' := []) (w' := (sI w 37 x5_2.toInt.toNat x5_1)) rfl ?_
      exact ih _ _ hs hE
set_option maxHeartbeats 4000000 in
set_option maxRecDepth 100000 in
theorem dm_Ar_fill0_37 {d : Nat} {w : MW} {a0 : Int32} {Q : MW → Prop} (hs : p_Ar_fill0_37 w a0 Q) : Tc (d + 0) 343 [.ref 37, .int a0] w (RV Q) := by
  unfold p_Ar_fill0_37 at hs
  refine tm_go 5 (pc' := 5) (L' := [some (.ref 37), some (.int a0), some (.int 0), some (.int 20)]) (S' := []) (w' := w) rfl ?_
  refine tx_Ar_fill0_37_5 FU _ _ hs (fun  z3_0 z3_1 z3_2 z3_3 w3 hs => ?_)
  exact tm_r rfl ⟨rfl, hs⟩
set_option maxHeartbeats 4000000 in
set_option maxRecDepth 100000 in
theorem tx_Wa_forget_7 {d : Nat} {E : MW → Prop} {Q : MW → Prop} (n : Nat) : ∀ (x7_1 : Int32)   (w : MW), q_Wa_forget_7  E Q n x7_1 w → (∀  (v1 : Option Value) (w : MW), E  w → Tm (d + 1) 262 26 [some (.ref 26), v1] [] w (RV Q)) → Tm (d + 1) 262 7 [some (.ref 26), some (.int x7_1)] [] w (RV Q) := by
  induction n with
  | zero => intro x7_1  w hs; rw [q_Wa_forget_7.eq_1] at hs; exact hs.elim
  | succ n ih =>
    intro x7_1  w hs hE
    rw [q_Wa_forget_7.eq_2] at hs
    refine tm_go 2 (pc' := 10) (L' := [some (.ref 26), some (.int x7_1)]) (S' := [.int 24, .int x7_1]) (w' := w) rfl ?_
    refine tm_i (p1 := 26) (p2 := 13) rfl (fun h1 => ?_) (fun h1 => ?_)
    · replace hs := hs.1 h1
      exact hE _ _ hs
    · replace hs := hs.2 h1
      refine tm_go 4 (pc' := 19) (L' := [some (.ref 26), some (.int x7_1)]) (S' := [.int 0, .int x7_1, .ref 36]) (w' := w) rfl ?_
      obtain ⟨b2, hs⟩ := hs
      refine tm_k (pc' := 20) (L' := [some (.ref 26), some (.int x7_1)]) (S' := []) (w' := (sI w 36 x7_1.toInt.toNat (vp_nar .boolean (0 : Int32)))) rfl b2 ?_
      refine tm_go 2 (pc' := 7) (L' := [some (.ref 26), some (.int (x7_1 + (1 : Int32)))]) (S' := []) (w' := (sI w 36 x7_1.toInt.toNat (vp_nar .boolean (0 : Int32)))) rfl ?_
      exact ih _ _ hs hE
set_option maxHeartbeats 4000000 in
set_option maxRecDepth 100000 in
theorem dm_Wa_forget {d : Nat} {w : MW} {Q : MW → Prop} (hs : p_Wa_forget w Q) : Tc (d + 1) 262 [.ref 26] w (RV Q) := by
  unfold p_Wa_forget at hs
  refine tm_go 5 (pc' := 7) (L' := [some (.ref 26), some (.int 0)]) (S' := []) (w' := (sI w 26 1 0)) rfl ?_
  refine tx_Wa_forget_7 FU _ _ hs (fun  z3_1 w3 hs => ?_)
  refine tm_go 3 (pc' := 31) (L' := [some (.ref 26), z3_1]) (S' := [.int 0, .ref 37]) (w' := w3) rfl ?_
  refine tm_c rfl (Nat.le_of_ble_eq_true rfl) (dm_Ar_fill0_37 (d := d + 0) hs) (fun v w4 hq => ?_)
  obtain ⟨rfl, hs⟩ := hq
  exact tm_r rfl ⟨rfl, hs⟩
set_option maxHeartbeats 4000000 in
set_option maxRecDepth 100000 in
theorem dm_Bh_takePlant {d : Nat} {w : MW} {Q : Int32 → MW → Prop} (hs : p_Bh_takePlant w Q) : Tc (d + 3) 2 [.ref 0] w (RI Q) := by
  unfold p_Bh_takePlant at hs
  refine tm_go 2 (pc' := 4) (L' := [some (.ref 0), none]) (S' := [.ref 7]) (w' := w) rfl ?_
  obtain ⟨b1, hs⟩ := hs
  refine tm_g (pc' := 7) (k := 7) (j := 0) rfl b1 ?_
  refine tm_go 4 (pc' := 13) (L' := [some (.ref 0), some (.ref 8)]) (S' := [.ref 0, .ref 7]) (w' := w) rfl ?_
  obtain ⟨b2, hs⟩ := hs
  refine tm_g (pc' := 16) (k := 0) (j := 8) rfl b2 ?_
  refine tm_c rfl (Nat.le_of_ble_eq_true rfl) (dm_St_renew_91 (d := d + 1) hs) (fun v w3 hq => ?_)
  obtain ⟨rfl, hs⟩ := hq
  refine tm_go 5 (pc' := 28) (L' := [some (.ref 0), some (.ref 8)]) (S' := [.ref 26]) (w' := (sR w3 0 8 (some 8))) rfl ?_
  refine tm_c rfl (Nat.le_of_ble_eq_true rfl) (dm_Wa_forget (d := d + 1) hs) (fun v w4 hq => ?_)
  obtain ⟨rfl, hs⟩ := hq
  refine tm_go 7 (pc' := 44) (L' := [some (.ref 0), some (.ref 8)]) (S' := [.ref 7, .ref 0]) (w' := (sI w4 61 4 4)) rfl ?_
  obtain ⟨b5, hs⟩ := hs
  refine tm_g (pc' := 47) (k := 7) (j := 0) rfl b5 ?_
  refine tm_go 2 (pc' := 51) (L' := [some (.ref 0), some (.ref 8)]) (S' := [.ref 123, .ref 91, .ref 0]) (w' := (sI w4 61 4 4)) rfl ?_
  refine tm_c rfl (Nat.le_of_ble_eq_true rfl) (dm_Pl_writeTos91_123 (d := d + 0) hs) (fun v w6 hq => ?_)
  obtain ⟨r6, rfl, hs⟩ := hq
  refine tm_go 3 (pc' := 61) (L' := [some (.ref 0), some (.ref 8)]) (S' := [.ref 7]) (w' := (sI w6 0 12 r6)) rfl ?_
  obtain ⟨b7, hs⟩ := hs
  refine tm_g (pc' := 64) (k := 7) (j := 0) rfl b7 ?_
  refine tm_go 1 (pc' := 67) (L' := [some (.ref 0), some (.ref 8)]) (S' := [.int (w6.1 91 0)]) (w' := (sI w6 0 12 r6)) rfl ?_
  exact tm_r rfl ⟨_, rfl, hs⟩
set_option maxHeartbeats 4000000 in
set_option maxRecDepth 100000 in
theorem dm_Pr_firstBlocks108 {d : Nat} {w : MW} {a0 : Int32} {Q : Int32 → MW → Prop} (hs : p_Pr_firstBlocks108 w a0 Q) : Tc (d + 0) 158 [.ref 108, .int a0] w (RI Q) := by
  unfold p_Pr_firstBlocks108 at hs
  refine tm_go 3 (pc' := 5) (L' := [some (.ref 108), some (.int a0)]) (S' := [.int a0, .ref 109]) (w' := w) rfl ?_
  obtain ⟨b1, hs⟩ := hs
  refine tm_k (pc' := 6) (L' := [some (.ref 108), some (.int a0)]) (S' := [.int (w.1 109 a0.toInt.toNat)]) (w' := w) rfl b1 ?_
  refine tm_go 1 (pc' := 8) (L' := [some (.ref 108), some (.int a0)]) (S' := [.int 23, .int (w.1 109 a0.toInt.toNat)]) (w' := w) rfl ?_
  refine tm_i (p1 := 25) (p2 := 11) rfl (fun h2 => ?_) (fun h2 => ?_)
  · replace hs := hs.1 h2
    refine tm_go 3 (pc' := 30) (L' := [some (.ref 108), some (.int a0)]) (S' := [.int a0, .ref 113]) (w' := w) rfl ?_
    obtain ⟨b3, hs⟩ := hs
    refine tm_k (pc' := 31) (L' := [some (.ref 108), some (.int a0)]) (S' := [.int (w.1 113 a0.toInt.toNat)]) (w' := w) rfl b3 ?_
    exact tm_r rfl ⟨_, rfl, hs⟩
  · replace hs := hs.2 h2
    refine tm_go 5 (pc' := 20) (L' := [some (.ref 108), some (.int a0)]) (S' := [.int a0, .ref 110, .ref 119]) (w' := w) rfl ?_
    obtain ⟨b4, hs⟩ := hs
    refine tm_k (pc' := 21) (L' := [some (.ref 108), some (.int a0)]) (S' := [.int (w.1 110 a0.toInt.toNat), .ref 119]) (w' := w) rfl b4 ?_
    obtain ⟨b5, hs⟩ := hs
    refine tm_k (pc' := 22) (L' := [some (.ref 108), some (.int a0)]) (S' := [.int (w.1 119 ((w.1 110 a0.toInt.toNat).toInt.toNat))]) (w' := w) rfl b5 ?_
    refine tm_go 1 (pc' := 31) (L' := [some (.ref 108), some (.int a0)]) (S' := [.int (w.1 119 ((w.1 110 a0.toInt.toNat).toInt.toNat))]) (w' := w) rfl ?_
    exact tm_r rfl ⟨_, rfl, hs⟩
set_option maxHeartbeats 4000000 in
set_option maxRecDepth 100000 in
theorem tx_Ru_expandAllm108_93 {d : Nat} {r_Ru_expandAllm108 : MW → Int32 → Int32 → (Int32 → MW → Prop) → Prop} (hr_Ru_expandAllm108 : ∀ (w : MW) (a0 : Int32) (b0 : Int32) (Q : Int32 → MW → Prop), r_Ru_expandAllm108 w a0 b0 Q → Tc (d + 0) 204 [.ref 61, .int a0, .int b0] w (RI Q)) {x11_2 : Int32} {y93_3 : Int32} {y93_5 : Int32} {y93_6 : Int32} {y93_7 : Int32} {z1 : Option Value} {z4 : Option Value} {w : MW} {A : Int32 → Int32 → Int32 → Int32 → MW → Prop} {E : Int32 → MW → Prop} {Q : Int32 → MW → Prop} (hs : q_Ru_expandAllm108_93 r_Ru_expandAllm108 x11_2 y93_3 y93_5 y93_6 y93_7 w A E Q) (hA : ∀ (x11_3 : Int32) (x11_4 : Int32) (x11_5 : Int32) (x11_6 : Int32)  (z1 : Option Value) (z7 : Option Value) (w : MW), A x11_3 x11_4 x11_5 x11_6 w → Tm (d + 1) 204 11 [some (.ref 61), z1, some (.int x11_2), some (.int x11_3), some (.int x11_4), some (.int x11_5), some (.int x11_6), z7] [] w (RI Q)) (hE : ∀ (e11_3 : Int32)  (v0 : Option Value) (v1 : Option Value) (v2 : Option Value) (v4 : Option Value) (v5 : Option Value) (v6 : Option Value) (v7 : Option Value) (w : MW), E e11_3 w → Tm (d + 1) 204 138 [v0, v1, v2, some (.int e11_3), v4, v5, v6, v7] [] w (RI Q)) : Tm (d + 1) 204 93 [some (.ref 61), z1, some (.int x11_2), some (.int y93_3), z4, some (.int y93_5), some (.int y93_6), some (.int y93_7)] [] w (RI Q) := by
  unfold q_Ru_expandAllm108_93 at hs
  refine tm_go 7 (pc' := 105) (L' := [some (.ref 61), z1, some (.int x11_2), some (.int y93_3), some (.int y93_7), some (.int y93_5), some (.int y93_6), some (.int y93_7)]) (S' := [.ref 61, .ref 61, .int y93_7, .ref 78]) (w' := w) rfl ?_
  obtain ⟨b9, hs⟩ := hs
  refine tm_g (pc' := 108) (k := 61) (j := 3) rfl b9 ?_
  refine tm_go 1 (pc' := 110) (L' := [some (.ref 61), z1, some (.int x11_2), some (.int y93_3), some (.int y93_7), some (.int y93_5), some (.int y93_6), some (.int y93_7)]) (S' := [.int y93_5, .ref 108, .ref 61, .int y93_7, .ref 78]) (w' := w) rfl ?_
  refine tm_c rfl (Nat.le_of_ble_eq_true rfl) (dm_Pr_firstBlocks108 (d := d + 0) hs) (fun v w10 hq => ?_)
  obtain ⟨r10, rfl, hs⟩ := hq
  refine tm_go 3 (pc' := 116) (L' := [some (.ref 61), z1, some (.int x11_2), some (.int y93_3), some (.int y93_7), some (.int y93_5), some (.int y93_6), some (.int y93_7)]) (S' := [.int (x11_2 + (1 : Int32)), .int r10, .ref 61, .int y93_7, .ref 78]) (w' := w10) rfl ?_
  refine tm_c rfl (Nat.le_of_ble_eq_true rfl) (hr_Ru_expandAllm108 _ _ _ _ hs) (fun v w11 hq => ?_)
  obtain ⟨r11, rfl, hs⟩ := hq
  obtain ⟨b12, hs⟩ := hs
  refine tm_k (pc' := 120) (L' := [some (.ref 61), z1, some (.int x11_2), some (.int y93_3), some (.int y93_7), some (.int y93_5), some (.int y93_6), some (.int y93_7)]) (S' := []) (w' := (sI w11 78 y93_7.toInt.toNat r11)) rfl b12 ?_
  refine tm_go 1 (pc' := 121) (L' := [some (.ref 61), z1, some (.int x11_2), some (.int y93_3), some (.int y93_7), some (.int y93_5), some (.int y93_6), some (.int y93_7)]) (S' := [.ref 61]) (w' := (sI w11 78 y93_7.toInt.toNat r11)) rfl ?_
  obtain ⟨b13, hs⟩ := hs
  refine tm_g (pc' := 124) (k := 61) (j := 3) rfl b13 ?_
  refine tm_go 2 (pc' := 129) (L' := [some (.ref 61), z1, some (.int x11_2), some (.int y93_3), some (.int y93_7), some (.int y93_5), some (.int y93_6), some (.int y93_7)]) (S' := [.int y93_5, .ref 114]) (w' := (sI w11 78 y93_7.toInt.toNat r11)) rfl ?_
  obtain ⟨b14, hs⟩ := hs
  refine tm_k (pc' := 130) (L' := [some (.ref 61), z1, some (.int x11_2), some (.int y93_3), some (.int y93_7), some (.int y93_5), some (.int y93_6), some (.int y93_7)]) (S' := [.int (w11.1 114 y93_5.toInt.toNat)]) (w' := (sI w11 78 y93_7.toInt.toNat r11)) rfl b14 ?_
  refine tm_go 3 (pc' := 11) (L' := [some (.ref 61), z1, some (.int x11_2), some (.int y93_3), some (.int y93_7), some (.int (w11.1 114 y93_5.toInt.toNat)), some (.int (y93_6 + (1 : Int32))), some (.int y93_7)]) (S' := []) (w' := (sI w11 78 y93_7.toInt.toNat r11)) rfl ?_
  exact hA _ _ _ _ _ _ _ hs
set_option maxHeartbeats 4000000 in
set_option maxRecDepth 100000 in
theorem tx_Ru_expandAllm108_11 {d : Nat} {r_Ru_expandAllm108 : MW → Int32 → Int32 → (Int32 → MW → Prop) → Prop} (hr_Ru_expandAllm108 : ∀ (w : MW) (a0 : Int32) (b0 : Int32) (Q : Int32 → MW → Prop), r_Ru_expandAllm108 w a0 b0 Q → Tc (d + 0) 204 [.ref 61, .int a0, .int b0] w (RI Q)) {x11_2 : Int32} {E : Int32 → MW → Prop} {Q : Int32 → MW → Prop} (n : Nat) : ∀ (x11_3 : Int32) (x11_4 : Int32) (x11_5 : Int32) (x11_6 : Int32)  (z1 : Option Value) (z7 : Option Value) (w : MW), q_Ru_expandAllm108_11 r_Ru_expandAllm108 x11_2 E Q n x11_3 x11_4 x11_5 x11_6 w → (∀ (e11_3 : Int32)  (v0 : Option Value) (v1 : Option Value) (v2 : Option Value) (v4 : Option Value) (v5 : Option Value) (v6 : Option Value) (v7 : Option Value) (w : MW), E e11_3 w → Tm (d + 1) 204 138 [v0, v1, v2, some (.int e11_3), v4, v5, v6, v7] [] w (RI Q)) → Tm (d + 1) 204 11 [some (.ref 61), z1, some (.int x11_2), some (.int x11_3), some (.int x11_4), some (.int x11_5), some (.int x11_6), z7] [] w (RI Q) := by
  induction n with
  | zero => intro x11_3 x11_4 x11_5 x11_6 z1 z7 w hs; rw [q_Ru_expandAllm108_11.eq_1] at hs; exact hs.elim
  | succ n ih =>
    intro x11_3 x11_4 x11_5 x11_6 z1 z7 w hs hE
    rw [q_Ru_expandAllm108_11.eq_2] at hs
    refine tm_go 2 (pc' := 16) (L' := [some (.ref 61), z1, some (.int x11_2), some (.int x11_3), some (.int x11_4), some (.int x11_5), some (.int x11_6), z7]) (S' := [.int 500, .int x11_6]) (w' := w) rfl ?_
    refine tm_i (p1 := 138) (p2 := 19) rfl (fun h1 => ?_) (fun h1 => ?_)
    · replace hs := hs.1 h1
      exact hE _ _ _ _ _ _ _ _ _ hs
    · replace hs := hs.2 h1
      refine tm_go 1 (pc' := 21) (L' := [some (.ref 61), z1, some (.int x11_2), some (.int x11_3), some (.int x11_4), some (.int x11_5), some (.int x11_6), z7]) (S' := [.int x11_5]) (w' := w) rfl ?_
      refine tm_i (p1 := 138) (p2 := 24) rfl (fun h2 => ?_) (fun h2 => ?_)
      · replace hs := hs.1 h2
        exact hE _ _ _ _ _ _ _ _ _ hs
      · replace hs := hs.2 h2
        refine tm_go 3 (pc' := 31) (L' := [some (.ref 61), z1, some (.int x11_2), some (.int x11_3), some (.int x11_4), some (.int x11_5), some (.int x11_6), z7]) (S' := [.int 500, .int (w.1 61 5)]) (w' := w) rfl ?_
        refine tm_i (p1 := 138) (p2 := 34) rfl (fun h3 => ?_) (fun h3 => ?_)
        · replace hs := hs.1 h3
          exact hE _ _ _ _ _ _ _ _ _ hs
        · replace hs := hs.2 h3
          refine tm_go 2 (pc' := 37) (L' := [some (.ref 61), z1, some (.int x11_2), some (.int x11_3), some (.int x11_4), some (.int x11_5), some (.int x11_6), z7]) (S' := [.int 100, .int x11_2]) (w' := w) rfl ?_
          refine tm_i (p1 := 138) (p2 := 40) rfl (fun h4 => ?_) (fun h4 => ?_)
          · replace hs := hs.1 h4
            exact hE _ _ _ _ _ _ _ _ _ hs
          · replace hs := hs.2 h4
            refine tm_go 13 (pc' := 64) (L' := [some (.ref 61), z1, some (.int x11_2), some (.int x11_3), some (.int x11_4), some (.int x11_5), some (.int x11_6), some (.int (w.1 61 5))]) (S' := [.int x11_5, .int (w.1 61 5), .ref 77]) (w' := (sI w 61 5 ((w.1 61 5) + (1 : Int32)))) rfl ?_
            obtain ⟨b5, hs⟩ := hs
            refine tm_k (pc' := 65) (L' := [some (.ref 61), z1, some (.int x11_2), some (.int x11_3), some (.int x11_4), some (.int x11_5), some (.int x11_6), some (.int (w.1 61 5))]) (S' := []) (w' := (sI (sI w 61 5 ((w.1 61 5) + (1 : Int32))) 77 ((w.1 61 5).toInt.toNat) x11_5)) rfl b5 ?_
            refine tm_go 4 (pc' := 72) (L' := [some (.ref 61), z1, some (.int x11_2), some (.int x11_3), some (.int x11_4), some (.int x11_5), some (.int x11_6), some (.int (w.1 61 5))]) (S' := [.int (-1), .int (w.1 61 5), .ref 79]) (w' := (sI (sI w 61 5 ((w.1 61 5) + (1 : Int32))) 77 ((w.1 61 5).toInt.toNat) x11_5)) rfl ?_
            obtain ⟨b6, hs⟩ := hs
            refine tm_k (pc' := 73) (L' := [some (.ref 61), z1, some (.int x11_2), some (.int x11_3), some (.int x11_4), some (.int x11_5), some (.int x11_6), some (.int (w.1 61 5))]) (S' := []) (w' := (sI (sI (sI w 61 5 ((w.1 61 5) + (1 : Int32))) 77 ((w.1 61 5).toInt.toNat) x11_5) 79 ((w.1 61 5).toInt.toNat) (-1))) rfl b6 ?_
            refine tm_go 1 (pc' := 75) (L' := [some (.ref 61), z1, some (.int x11_2), some (.int x11_3), some (.int x11_4), some (.int x11_5), some (.int x11_6), some (.int (w.1 61 5))]) (S' := [.int x11_4]) (w' := (sI (sI (sI w 61 5 ((w.1 61 5) + (1 : Int32))) 77 ((w.1 61 5).toInt.toNat) x11_5) 79 ((w.1 61 5).toInt.toNat) (-1))) rfl ?_
            refine tm_i (p1 := 84) (p2 := 78) rfl (fun h7 => ?_) (fun h7 => ?_)
            · replace hs := hs.1 h7
              refine tm_go 4 (pc' := 92) (L' := [some (.ref 61), z1, some (.int x11_2), some (.int x11_3), some (.int x11_4), some (.int x11_5), some (.int x11_6), some (.int (w.1 61 5))]) (S' := [.int (w.1 61 5), .int x11_4, .ref 79]) (w' := (sI (sI (sI w 61 5 ((w.1 61 5) + (1 : Int32))) 77 ((w.1 61 5).toInt.toNat) x11_5) 79 ((w.1 61 5).toInt.toNat) (-1))) rfl ?_
              obtain ⟨b8, hs⟩ := hs
              refine tm_k (pc' := 93) (L' := [some (.ref 61), z1, some (.int x11_2), some (.int x11_3), some (.int x11_4), some (.int x11_5), some (.int x11_6), some (.int (w.1 61 5))]) (S' := []) (w' := (sI (sI (sI (sI w 61 5 ((w.1 61 5) + (1 : Int32))) 77 ((w.1 61 5).toInt.toNat) x11_5) 79 ((w.1 61 5).toInt.toNat) (-1)) 79 x11_4.toInt.toNat (w.1 61 5))) rfl b8 ?_
              exact tx_Ru_expandAllm108_93 hr_Ru_expandAllm108 hs (fun q0 q1 q2 q3 q4 q5 q6 hs => ih q0 q1 q2 q3 q4 q5 q6 hs hE) hE
            · replace hs := hs.2 h7
              refine tm_go 3 (pc' := 93) (L' := [some (.ref 61), z1, some (.int x11_2), some (.int (w.1 61 5)), some (.int x11_4), some (.int x11_5), some (.int x11_6), some (.int (w.1 61 5))]) (S' := []) (w' := (sI (sI (sI w 61 5 ((w.1 61 5) + (1 : Int32))) 77 ((w.1 61 5).toInt.toNat) x11_5) 79 ((w.1 61 5).toInt.toNat) (-1))) rfl ?_
              exact tx_Ru_expandAllm108_93 hr_Ru_expandAllm108 hs (fun q0 q1 q2 q3 q4 q5 q6 hs => ih q0 q1 q2 q3 q4 q5 q6 hs hE) hE
set_option maxHeartbeats 4000000 in
set_option maxRecDepth 100000 in
theorem dmb_Ru_expandAllm108 {d : Nat} {r_Ru_expandAllm108 : MW → Int32 → Int32 → (Int32 → MW → Prop) → Prop} (hr_Ru_expandAllm108 : ∀ (w : MW) (a0 : Int32) (b0 : Int32) (Q : Int32 → MW → Prop), r_Ru_expandAllm108 w a0 b0 Q → Tc (d + 0) 204 [.ref 61, .int a0, .int b0] w (RI Q)) {w : MW} {a0 : Int32} {b0 : Int32} {Q : Int32 → MW → Prop} (hs : pb_Ru_expandAllm108 r_Ru_expandAllm108 w a0 b0 Q) : Tc (d + 1) 204 [.ref 61, .int a0, .int b0] w (RI Q) := by
  unfold pb_Ru_expandAllm108 at hs
  refine tm_go 8 (pc' := 11) (L' := [some (.ref 61), some (.int a0), some (.int b0), some (.int (-1)), some (.int (-1)), some (.int a0), some (.int 0), none]) (S' := []) (w' := w) rfl ?_
  refine tx_Ru_expandAllm108_11 hr_Ru_expandAllm108 FU _ _ _ _ _ _ _ hs (fun e11_3_15 z15_0 z15_1 z15_2 z15_4 z15_5 z15_6 z15_7 w15 hs => ?_)
  refine tm_go 1 (pc' := 139) (L' := [z15_0, z15_1, z15_2, some (.int e11_3_15), z15_4, z15_5, z15_6, z15_7]) (S' := [.int e11_3_15]) (w' := w15) rfl ?_
  exact tm_r rfl ⟨_, rfl, hs⟩
theorem da_Ru_expandAllm108 (n : Nat) : (∀ (w : MW) (a0 : Int32) (b0 : Int32) (Q : Int32 → MW → Prop), pn_Ru_expandAllm108 n w a0 b0 Q → Tc (n + 0) 204 [.ref 61, .int a0, .int b0] w (RI Q)) := by
  induction n with
  | zero => exact fun _ _ _ _ h => h.elim
  | succ n h0 =>
    skip
    exact fun _ _ _ _ h => (dmb_Ru_expandAllm108 (d := n) h0 h).le (by omega)
theorem dm_Ru_expandAllm108 {d : Nat} {w : MW} {a0 : Int32} {b0 : Int32} {Q : Int32 → MW → Prop} (hs : p_Ru_expandAllm108 w a0 b0 Q) : Tc (d + 400) 204 [.ref 61, .int a0, .int b0] w (RI Q) := ((da_Ru_expandAllm108 400) _ _ _ _ hs).le (by omega)
set_option maxHeartbeats 4000000 in
set_option maxRecDepth 100000 in
theorem dm_Ru_take_108 {d : Nat} {w : MW} {Q : MW → Prop} (hs : p_Ru_take_108 w Q) : Tc (d + 401) 203 [.ref 61, .ref 108] w (RV Q) := by
  unfold p_Ru_take_108 at hs
  refine tm_go 22 (pc' := 36) (L' := [some (.ref 61), some (.ref 108)]) (S' := [.int 0, .int (w.1 108 2), .ref 61, .int 0, .ref 78]) (w' := (sI (sI (sI (sR w 61 3 (some 108)) 61 4 4) 61 5 1) 77 0 (-1))) rfl ?_
  refine tm_c rfl (Nat.le_of_ble_eq_true rfl) (dm_Ru_expandAllm108 (d := d + 0) hs) (fun v w1 hq => ?_)
  obtain ⟨r1, rfl, hs⟩ := hq
  refine tm_go 6 (pc' := 47) (L' := [some (.ref 61), some (.ref 108)]) (S' := []) (w' := (sI (sI w1 78 0 r1) 79 0 (-1))) rfl ?_
  exact tm_r rfl ⟨rfl, hs⟩
set_option maxHeartbeats 4000000 in
set_option maxRecDepth 100000 in
theorem tx_Wa_remove_19 {d : Nat} {x19_1 : Int32} {x19_2 : Int32} {E : MW → Prop} {Q : MW → Prop} (n : Nat) : ∀ (x19_4 : Int32) (x19_5 : Int32)  (z6 : Option Value) (w : MW), q_Wa_remove_19 x19_1 x19_2 E Q n x19_4 x19_5 w → (∀  (v2 : Option Value) (v3 : Option Value) (v4 : Option Value) (v5 : Option Value) (v6 : Option Value) (w : MW), E  w → Tm (d + 0) 274 155 [some (.ref 26), some (.int x19_1), v2, v3, v4, v5, v6] [] w (RV Q)) → Tm (d + 0) 274 19 [some (.ref 26), some (.int x19_1), some (.int x19_2), some (.ref 8), some (.int x19_4), some (.int x19_5), z6] [] w (RV Q) := by
  induction n with
  | zero => intro x19_4 x19_5 z6 w hs; rw [q_Wa_remove_19.eq_1] at hs; exact hs.elim
  | succ n ih =>
    intro x19_4 x19_5 z6 w hs hE
    rw [q_Wa_remove_19.eq_2] at hs
    refine tm_go 4 (pc' := 26) (L' := [some (.ref 26), some (.int x19_1), some (.int x19_2), some (.ref 8), some (.int x19_4), some (.int x19_5), z6]) (S' := [.int x19_1, .ref 31, .int x19_5]) (w' := w) rfl ?_
    obtain ⟨b3, hs⟩ := hs
    refine tm_k (pc' := 27) (L' := [some (.ref 26), some (.int x19_1), some (.int x19_2), some (.ref 8), some (.int x19_4), some (.int x19_5), z6]) (S' := [.int (w.1 31 x19_1.toInt.toNat), .int x19_5]) (w' := w) rfl b3 ?_
    refine tm_i (p1 := 155) (p2 := 30) rfl (fun h4 => ?_) (fun h4 => ?_)
    · replace hs := hs.1 h4
      exact hE _ _ _ _ _ _ hs
    · replace hs := hs.2 h4
      refine tm_go 1 (pc' := 32) (L' := [some (.ref 26), some (.int x19_1), some (.int x19_2), some (.ref 8), some (.int x19_4), some (.int x19_5), z6]) (S' := [.int x19_4]) (w' := w) rfl ?_
      refine tm_i (p1 := 155) (p2 := 35) rfl (fun h5 => ?_) (fun h5 => ?_)
      · replace hs := hs.1 h5
        exact hE _ _ _ _ _ _ hs
      · replace hs := hs.2 h5
        refine tm_go 4 (pc' := 42) (L' := [some (.ref 26), some (.int x19_1), some (.int x19_2), some (.ref 8), some (.int x19_4), some (.int x19_5), z6]) (S' := [.int 0, .int x19_4, .ref 36]) (w' := w) rfl ?_
        obtain ⟨b6, hs⟩ := hs
        refine tm_k (pc' := 43) (L' := [some (.ref 26), some (.int x19_1), some (.int x19_2), some (.ref 8), some (.int x19_4), some (.int x19_5), z6]) (S' := []) (w' := (sI w 36 x19_4.toInt.toNat (vp_nar .boolean (0 : Int32)))) rfl b6 ?_
        refine tm_go 3 (pc' := 49) (L' := [some (.ref 26), some (.int x19_1), some (.int x19_2), some (.ref 8), some (.int x19_4), some (.int x19_5), z6]) (S' := [.int x19_4, .ref 35]) (w' := (sI w 36 x19_4.toInt.toNat (vp_nar .boolean (0 : Int32)))) rfl ?_
        obtain ⟨b7, hs⟩ := hs
        refine tm_k (pc' := 50) (L' := [some (.ref 26), some (.int x19_1), some (.int x19_2), some (.ref 8), some (.int x19_4), some (.int x19_5), z6]) (S' := [.int (w.1 35 x19_4.toInt.toNat)]) (w' := (sI w 36 x19_4.toInt.toNat (vp_nar .boolean (0 : Int32)))) rfl b7 ?_
        refine tm_i (p1 := 140) (p2 := 53) rfl (fun h8 => ?_) (fun h8 => ?_)
        · replace hs := hs.1 h8
          refine tm_go 3 (pc' := 146) (L' := [some (.ref 26), some (.int x19_1), some (.int x19_2), some (.ref 8), some (.int x19_4), some (.int x19_5), z6]) (S' := [.int x19_4, .ref 35]) (w' := (sI w 36 x19_4.toInt.toNat (vp_nar .boolean (0 : Int32)))) rfl ?_
          obtain ⟨b9, hs⟩ := hs
          refine tm_k (pc' := 147) (L' := [some (.ref 26), some (.int x19_1), some (.int x19_2), some (.ref 8), some (.int x19_4), some (.int x19_5), z6]) (S' := [.int (w.1 35 x19_4.toInt.toNat)]) (w' := (sI w 36 x19_4.toInt.toNat (vp_nar .boolean (0 : Int32)))) rfl b9 ?_
          refine tm_go 3 (pc' := 19) (L' := [some (.ref 26), some (.int x19_1), some (.int x19_2), some (.ref 8), some (.int (w.1 35 x19_4.toInt.toNat)), some (.int (x19_5 + (1 : Int32))), z6]) (S' := []) (w' := (sI w 36 x19_4.toInt.toNat (vp_nar .boolean (0 : Int32)))) rfl ?_
          exact ih _ _ _ _ hs hE
        · replace hs := hs.2 h8
          refine tm_go 5 (pc' := 63) (L' := [some (.ref 26), some (.int x19_1), some (.int x19_2), some (.ref 8), some (.int x19_4), some (.int x19_5), z6]) (S' := [.int x19_4, .ref 34, .ref 13]) (w' := (sI w 36 x19_4.toInt.toNat (vp_nar .boolean (0 : Int32)))) rfl ?_
          obtain ⟨b10, hs⟩ := hs
          refine tm_k (pc' := 64) (L' := [some (.ref 26), some (.int x19_1), some (.int x19_2), some (.ref 8), some (.int x19_4), some (.int x19_5), z6]) (S' := [.int (w.1 34 x19_4.toInt.toNat), .ref 13]) (w' := (sI w 36 x19_4.toInt.toNat (vp_nar .boolean (0 : Int32)))) rfl b10 ?_
          obtain ⟨b11, hs⟩ := hs
          refine tm_k (pc' := 65) (L' := [some (.ref 26), some (.int x19_1), some (.int x19_2), some (.ref 8), some (.int x19_4), some (.int x19_5), z6]) (S' := [.int (w.1 13 ((w.1 34 x19_4.toInt.toNat).toInt.toNat))]) (w' := (sI w 36 x19_4.toInt.toNat (vp_nar .boolean (0 : Int32)))) rfl b11 ?_
          refine tm_go 5 (pc' := 74) (L' := [some (.ref 26), some (.int x19_1), some (.int x19_2), some (.ref 8), some (.int x19_4), some (.int x19_5), some (.int (w.1 13 ((w.1 34 x19_4.toInt.toNat).toInt.toNat)))]) (S' := [.int (w.1 13 ((w.1 34 x19_4.toInt.toNat).toInt.toNat)), .ref 37, .int (w.1 13 ((w.1 34 x19_4.toInt.toNat).toInt.toNat)), .ref 37]) (w' := (sI w 36 x19_4.toInt.toNat (vp_nar .boolean (0 : Int32)))) rfl ?_
          obtain ⟨b12, hs⟩ := hs
          refine tm_k (pc' := 75) (L' := [some (.ref 26), some (.int x19_1), some (.int x19_2), some (.ref 8), some (.int x19_4), some (.int x19_5), some (.int (w.1 13 ((w.1 34 x19_4.toInt.toNat).toInt.toNat)))]) (S' := [.int (w.1 37 ((w.1 13 ((w.1 34 x19_4.toInt.toNat).toInt.toNat)).toInt.toNat)), .int (w.1 13 ((w.1 34 x19_4.toInt.toNat).toInt.toNat)), .ref 37]) (w' := (sI w 36 x19_4.toInt.toNat (vp_nar .boolean (0 : Int32)))) rfl b12 ?_
          refine tm_go 2 (pc' := 77) (L' := [some (.ref 26), some (.int x19_1), some (.int x19_2), some (.ref 8), some (.int x19_4), some (.int x19_5), some (.int (w.1 13 ((w.1 34 x19_4.toInt.toNat).toInt.toNat)))]) (S' := [.int ((w.1 37 ((w.1 13 ((w.1 34 x19_4.toInt.toNat).toInt.toNat)).toInt.toNat)) - (1 : Int32)), .int (w.1 13 ((w.1 34 x19_4.toInt.toNat).toInt.toNat)), .ref 37]) (w' := (sI w 36 x19_4.toInt.toNat (vp_nar .boolean (0 : Int32)))) rfl ?_
          obtain ⟨b13, hs⟩ := hs
          refine tm_k (pc' := 78) (L' := [some (.ref 26), some (.int x19_1), some (.int x19_2), some (.ref 8), some (.int x19_4), some (.int x19_5), some (.int (w.1 13 ((w.1 34 x19_4.toInt.toNat).toInt.toNat)))]) (S' := []) (w' := (sI (sI w 36 x19_4.toInt.toNat (vp_nar .boolean (0 : Int32))) 37 ((w.1 13 ((w.1 34 x19_4.toInt.toNat).toInt.toNat)).toInt.toNat) ((w.1 37 ((w.1 13 ((w.1 34 x19_4.toInt.toNat).toInt.toNat)).toInt.toNat)) - (1 : Int32)))) rfl b13 ?_
          refine tm_go 3 (pc' := 84) (L' := [some (.ref 26), some (.int x19_1), some (.int x19_2), some (.ref 8), some (.int x19_4), some (.int x19_5), some (.int (w.1 13 ((w.1 34 x19_4.toInt.toNat).toInt.toNat)))]) (S' := [.int (w.1 13 ((w.1 34 x19_4.toInt.toNat).toInt.toNat)), .ref 37]) (w' := (sI (sI w 36 x19_4.toInt.toNat (vp_nar .boolean (0 : Int32))) 37 ((w.1 13 ((w.1 34 x19_4.toInt.toNat).toInt.toNat)).toInt.toNat) ((w.1 37 ((w.1 13 ((w.1 34 x19_4.toInt.toNat).toInt.toNat)).toInt.toNat)) - (1 : Int32)))) rfl ?_
          obtain ⟨b14, hs⟩ := hs
          refine tm_k (pc' := 85) (L' := [some (.ref 26), some (.int x19_1), some (.int x19_2), some (.ref 8), some (.int x19_4), some (.int x19_5), some (.int (w.1 13 ((w.1 34 x19_4.toInt.toNat).toInt.toNat)))]) (S' := [.int ((sI (sI w 36 x19_4.toInt.toNat (vp_nar .boolean (0 : Int32))) 37 ((w.1 13 ((w.1 34 x19_4.toInt.toNat).toInt.toNat)).toInt.toNat) ((w.1 37 ((w.1 13 ((w.1 34 x19_4.toInt.toNat).toInt.toNat)).toInt.toNat)) - (1 : Int32))).1 37 ((w.1 13 ((w.1 34 x19_4.toInt.toNat).toInt.toNat)).toInt.toNat))]) (w' := (sI (sI w 36 x19_4.toInt.toNat (vp_nar .boolean (0 : Int32))) 37 ((w.1 13 ((w.1 34 x19_4.toInt.toNat).toInt.toNat)).toInt.toNat) ((w.1 37 ((w.1 13 ((w.1 34 x19_4.toInt.toNat).toInt.toNat)).toInt.toNat)) - (1 : Int32)))) rfl b14 ?_
          refine tm_i (p1 := 140) (p2 := 88) rfl (fun h15 => ?_) (fun h15 => ?_)
          · replace hs := hs.1 h15
            refine tm_go 3 (pc' := 146) (L' := [some (.ref 26), some (.int x19_1), some (.int x19_2), some (.ref 8), some (.int x19_4), some (.int x19_5), some (.int (w.1 13 ((w.1 34 x19_4.toInt.toNat).toInt.toNat)))]) (S' := [.int x19_4, .ref 35]) (w' := (sI (sI w 36 x19_4.toInt.toNat (vp_nar .boolean (0 : Int32))) 37 ((w.1 13 ((w.1 34 x19_4.toInt.toNat).toInt.toNat)).toInt.toNat) ((w.1 37 ((w.1 13 ((w.1 34 x19_4.toInt.toNat).toInt.toNat)).toInt.toNat)) - (1 : Int32)))) rfl ?_
            obtain ⟨b16, hs⟩ := hs
            refine tm_k (pc' := 147) (L' := [some (.ref 26), some (.int x19_1), some (.int x19_2), some (.ref 8), some (.int x19_4), some (.int x19_5), some (.int (w.1 13 ((w.1 34 x19_4.toInt.toNat).toInt.toNat)))]) (S' := [.int (w.1 35 x19_4.toInt.toNat)]) (w' := (sI (sI w 36 x19_4.toInt.toNat (vp_nar .boolean (0 : Int32))) 37 ((w.1 13 ((w.1 34 x19_4.toInt.toNat).toInt.toNat)).toInt.toNat) ((w.1 37 ((w.1 13 ((w.1 34 x19_4.toInt.toNat).toInt.toNat)).toInt.toNat)) - (1 : Int32)))) rfl b16 ?_
            refine tm_go 3 (pc' := 19) (L' := [some (.ref 26), some (.int x19_1), some (.int x19_2), some (.ref 8), some (.int (w.1 35 x19_4.toInt.toNat)), some (.int (x19_5 + (1 : Int32))), some (.int (w.1 13 ((w.1 34 x19_4.toInt.toNat).toInt.toNat)))]) (S' := []) (w' := (sI (sI w 36 x19_4.toInt.toNat (vp_nar .boolean (0 : Int32))) 37 ((w.1 13 ((w.1 34 x19_4.toInt.toNat).toInt.toNat)).toInt.toNat) ((w.1 37 ((w.1 13 ((w.1 34 x19_4.toInt.toNat).toInt.toNat)).toInt.toNat)) - (1 : Int32)))) rfl ?_
            exact ih _ _ _ _ hs hE
          · replace hs := hs.2 h15
            refine tm_go 3 (pc' := 94) (L' := [some (.ref 26), some (.int x19_1), some (.int x19_2), some (.ref 8), some (.int x19_4), some (.int x19_5), some (.int (w.1 13 ((w.1 34 x19_4.toInt.toNat).toInt.toNat)))]) (S' := [.int (w.1 13 ((w.1 34 x19_4.toInt.toNat).toInt.toNat)), .ref 9]) (w' := (sI (sI w 36 x19_4.toInt.toNat (vp_nar .boolean (0 : Int32))) 37 ((w.1 13 ((w.1 34 x19_4.toInt.toNat).toInt.toNat)).toInt.toNat) ((w.1 37 ((w.1 13 ((w.1 34 x19_4.toInt.toNat).toInt.toNat)).toInt.toNat)) - (1 : Int32)))) rfl ?_
            obtain ⟨b17, hs⟩ := hs
            refine tm_k (pc' := 95) (L' := [some (.ref 26), some (.int x19_1), some (.int x19_2), some (.ref 8), some (.int x19_4), some (.int x19_5), some (.int (w.1 13 ((w.1 34 x19_4.toInt.toNat).toInt.toNat)))]) (S' := [.int (w.1 9 ((w.1 13 ((w.1 34 x19_4.toInt.toNat).toInt.toNat)).toInt.toNat))]) (w' := (sI (sI w 36 x19_4.toInt.toNat (vp_nar .boolean (0 : Int32))) 37 ((w.1 13 ((w.1 34 x19_4.toInt.toNat).toInt.toNat)).toInt.toNat) ((w.1 37 ((w.1 13 ((w.1 34 x19_4.toInt.toNat).toInt.toNat)).toInt.toNat)) - (1 : Int32)))) rfl b17 ?_
            refine tm_go 1 (pc' := 97) (L' := [some (.ref 26), some (.int x19_1), some (.int x19_2), some (.ref 8), some (.int x19_4), some (.int x19_5), some (.int (w.1 13 ((w.1 34 x19_4.toInt.toNat).toInt.toNat)))]) (S' := [.int 8, .int (w.1 9 ((w.1 13 ((w.1 34 x19_4.toInt.toNat).toInt.toNat)).toInt.toNat))]) (w' := (sI (sI w 36 x19_4.toInt.toNat (vp_nar .boolean (0 : Int32))) 37 ((w.1 13 ((w.1 34 x19_4.toInt.toNat).toInt.toNat)).toInt.toNat) ((w.1 37 ((w.1 13 ((w.1 34 x19_4.toInt.toNat).toInt.toNat)).toInt.toNat)) - (1 : Int32)))) rfl ?_
            refine tm_i (p1 := 140) (p2 := 100) rfl (fun h18 => ?_) (fun h18 => ?_)
            · replace hs := hs.1 h18
              refine tm_go 3 (pc' := 146) (L' := [some (.ref 26), some (.int x19_1), some (.int x19_2), some (.ref 8), some (.int x19_4), some (.int x19_5), some (.int (w.1 13 ((w.1 34 x19_4.toInt.toNat).toInt.toNat)))]) (S' := [.int x19_4, .ref 35]) (w' := (sI (sI w 36 x19_4.toInt.toNat (vp_nar .boolean (0 : Int32))) 37 ((w.1 13 ((w.1 34 x19_4.toInt.toNat).toInt.toNat)).toInt.toNat) ((w.1 37 ((w.1 13 ((w.1 34 x19_4.toInt.toNat).toInt.toNat)).toInt.toNat)) - (1 : Int32)))) rfl ?_
              obtain ⟨b19, hs⟩ := hs
              refine tm_k (pc' := 147) (L' := [some (.ref 26), some (.int x19_1), some (.int x19_2), some (.ref 8), some (.int x19_4), some (.int x19_5), some (.int (w.1 13 ((w.1 34 x19_4.toInt.toNat).toInt.toNat)))]) (S' := [.int (w.1 35 x19_4.toInt.toNat)]) (w' := (sI (sI w 36 x19_4.toInt.toNat (vp_nar .boolean (0 : Int32))) 37 ((w.1 13 ((w.1 34 x19_4.toInt.toNat).toInt.toNat)).toInt.toNat) ((w.1 37 ((w.1 13 ((w.1 34 x19_4.toInt.toNat).toInt.toNat)).toInt.toNat)) - (1 : Int32)))) rfl b19 ?_
              refine tm_go 3 (pc' := 19) (L' := [some (.ref 26), some (.int x19_1), some (.int x19_2), some (.ref 8), some (.int (w.1 35 x19_4.toInt.toNat)), some (.int (x19_5 + (1 : Int32))), some (.int (w.1 13 ((w.1 34 x19_4.toInt.toNat).toInt.toNat)))]) (S' := []) (w' := (sI (sI w 36 x19_4.toInt.toNat (vp_nar .boolean (0 : Int32))) 37 ((w.1 13 ((w.1 34 x19_4.toInt.toNat).toInt.toNat)).toInt.toNat) ((w.1 37 ((w.1 13 ((w.1 34 x19_4.toInt.toNat).toInt.toNat)).toInt.toNat)) - (1 : Int32)))) rfl ?_
              exact ih _ _ _ _ hs hE
            · replace hs := hs.2 h18
              refine tm_go 5 (pc' := 110) (L' := [some (.ref 26), some (.int x19_1), some (.int x19_2), some (.ref 8), some (.int x19_4), some (.int x19_5), some (.int (w.1 13 ((w.1 34 x19_4.toInt.toNat).toInt.toNat)))]) (S' := [.int x19_2, .int (w.1 13 ((w.1 34 x19_4.toInt.toNat).toInt.toNat)), .ref 16]) (w' := (sI (sI w 36 x19_4.toInt.toNat (vp_nar .boolean (0 : Int32))) 37 ((w.1 13 ((w.1 34 x19_4.toInt.toNat).toInt.toNat)).toInt.toNat) ((w.1 37 ((w.1 13 ((w.1 34 x19_4.toInt.toNat).toInt.toNat)).toInt.toNat)) - (1 : Int32)))) rfl ?_
              refine tm_i (p1 := 123) (p2 := 113) rfl (fun h20 => ?_) (fun h20 => ?_)
              · replace hs := hs.1 h20
                refine tm_go 3 (pc' := 129) (L' := [some (.ref 26), some (.int x19_1), some (.int x19_2), some (.ref 8), some (.int x19_4), some (.int x19_5), some (.int (w.1 13 ((w.1 34 x19_4.toInt.toNat).toInt.toNat)))]) (S' := [.int (w.1 13 ((w.1 34 x19_4.toInt.toNat).toInt.toNat)), .ref 9, .int (w.1 13 ((w.1 34 x19_4.toInt.toNat).toInt.toNat)), .ref 16]) (w' := (sI (sI w 36 x19_4.toInt.toNat (vp_nar .boolean (0 : Int32))) 37 ((w.1 13 ((w.1 34 x19_4.toInt.toNat).toInt.toNat)).toInt.toNat) ((w.1 37 ((w.1 13 ((w.1 34 x19_4.toInt.toNat).toInt.toNat)).toInt.toNat)) - (1 : Int32)))) rfl ?_
                obtain ⟨b21, hs⟩ := hs
                refine tm_k (pc' := 130) (L' := [some (.ref 26), some (.int x19_1), some (.int x19_2), some (.ref 8), some (.int x19_4), some (.int x19_5), some (.int (w.1 13 ((w.1 34 x19_4.toInt.toNat).toInt.toNat)))]) (S' := [.int (w.1 9 ((w.1 13 ((w.1 34 x19_4.toInt.toNat).toInt.toNat)).toInt.toNat)), .int (w.1 13 ((w.1 34 x19_4.toInt.toNat).toInt.toNat)), .ref 16]) (w' := (sI (sI w 36 x19_4.toInt.toNat (vp_nar .boolean (0 : Int32))) 37 ((w.1 13 ((w.1 34 x19_4.toInt.toNat).toInt.toNat)).toInt.toNat) ((w.1 37 ((w.1 13 ((w.1 34 x19_4.toInt.toNat).toInt.toNat)).toInt.toNat)) - (1 : Int32)))) rfl b21 ?_
                refine tm_go 1 (pc' := 131) (L' := [some (.ref 26), some (.int x19_1), some (.int x19_2), some (.ref 8), some (.int x19_4), some (.int x19_5), some (.int (w.1 13 ((w.1 34 x19_4.toInt.toNat).toInt.toNat)))]) (S' := [.int 1, .int (w.1 9 ((w.1 13 ((w.1 34 x19_4.toInt.toNat).toInt.toNat)).toInt.toNat)), .int (w.1 13 ((w.1 34 x19_4.toInt.toNat).toInt.toNat)), .ref 16]) (w' := (sI (sI w 36 x19_4.toInt.toNat (vp_nar .boolean (0 : Int32))) 37 ((w.1 13 ((w.1 34 x19_4.toInt.toNat).toInt.toNat)).toInt.toNat) ((w.1 37 ((w.1 13 ((w.1 34 x19_4.toInt.toNat).toInt.toNat)).toInt.toNat)) - (1 : Int32)))) rfl ?_
                refine tm_i (p1 := 138) (p2 := 134) rfl (fun h22 => ?_) (fun h22 => ?_)
                · replace hs := hs.1 h22
                  refine tm_go 1 (pc' := 139) (L' := [some (.ref 26), some (.int x19_1), some (.int x19_2), some (.ref 8), some (.int x19_4), some (.int x19_5), some (.int (w.1 13 ((w.1 34 x19_4.toInt.toNat).toInt.toNat)))]) (S' := [.int 0, .int (w.1 13 ((w.1 34 x19_4.toInt.toNat).toInt.toNat)), .ref 16]) (w' := (sI (sI w 36 x19_4.toInt.toNat (vp_nar .boolean (0 : Int32))) 37 ((w.1 13 ((w.1 34 x19_4.toInt.toNat).toInt.toNat)).toInt.toNat) ((w.1 37 ((w.1 13 ((w.1 34 x19_4.toInt.toNat).toInt.toNat)).toInt.toNat)) - (1 : Int32)))) rfl ?_
                  obtain ⟨b23, hs⟩ := hs
                  refine tm_k (pc' := 140) (L' := [some (.ref 26), some (.int x19_1), some (.int x19_2), some (.ref 8), some (.int x19_4), some (.int x19_5), some (.int (w.1 13 ((w.1 34 x19_4.toInt.toNat).toInt.toNat)))]) (S' := []) (w' := (sI (sI (sI w 36 x19_4.toInt.toNat (vp_nar .boolean (0 : Int32))) 37 ((w.1 13 ((w.1 34 x19_4.toInt.toNat).toInt.toNat)).toInt.toNat) ((w.1 37 ((w.1 13 ((w.1 34 x19_4.toInt.toNat).toInt.toNat)).toInt.toNat)) - (1 : Int32))) 16 ((w.1 13 ((w.1 34 x19_4.toInt.toNat).toInt.toNat)).toInt.toNat) 0)) rfl b23 ?_
                  refine tm_go 3 (pc' := 146) (L' := [some (.ref 26), some (.int x19_1), some (.int x19_2), some (.ref 8), some (.int x19_4), some (.int x19_5), some (.int (w.1 13 ((w.1 34 x19_4.toInt.toNat).toInt.toNat)))]) (S' := [.int x19_4, .ref 35]) (w' := (sI (sI (sI w 36 x19_4.toInt.toNat (vp_nar .boolean (0 : Int32))) 37 ((w.1 13 ((w.1 34 x19_4.toInt.toNat).toInt.toNat)).toInt.toNat) ((w.1 37 ((w.1 13 ((w.1 34 x19_4.toInt.toNat).toInt.toNat)).toInt.toNat)) - (1 : Int32))) 16 ((w.1 13 ((w.1 34 x19_4.toInt.toNat).toInt.toNat)).toInt.toNat) 0)) rfl ?_
                  obtain ⟨b24, hs⟩ := hs
                  refine tm_k (pc' := 147) (L' := [some (.ref 26), some (.int x19_1), some (.int x19_2), some (.ref 8), some (.int x19_4), some (.int x19_5), some (.int (w.1 13 ((w.1 34 x19_4.toInt.toNat).toInt.toNat)))]) (S' := [.int (w.1 35 x19_4.toInt.toNat)]) (w' := (sI (sI (sI w 36 x19_4.toInt.toNat (vp_nar .boolean (0 : Int32))) 37 ((w.1 13 ((w.1 34 x19_4.toInt.toNat).toInt.toNat)).toInt.toNat) ((w.1 37 ((w.1 13 ((w.1 34 x19_4.toInt.toNat).toInt.toNat)).toInt.toNat)) - (1 : Int32))) 16 ((w.1 13 ((w.1 34 x19_4.toInt.toNat).toInt.toNat)).toInt.toNat) 0)) rfl b24 ?_
                  refine tm_go 3 (pc' := 19) (L' := [some (.ref 26), some (.int x19_1), some (.int x19_2), some (.ref 8), some (.int (w.1 35 x19_4.toInt.toNat)), some (.int (x19_5 + (1 : Int32))), some (.int (w.1 13 ((w.1 34 x19_4.toInt.toNat).toInt.toNat)))]) (S' := []) (w' := (sI (sI (sI w 36 x19_4.toInt.toNat (vp_nar .boolean (0 : Int32))) 37 ((w.1 13 ((w.1 34 x19_4.toInt.toNat).toInt.toNat)).toInt.toNat) ((w.1 37 ((w.1 13 ((w.1 34 x19_4.toInt.toNat).toInt.toNat)).toInt.toNat)) - (1 : Int32))) 16 ((w.1 13 ((w.1 34 x19_4.toInt.toNat).toInt.toNat)).toInt.toNat) 0)) rfl ?_
                  exact ih _ _ _ _ hs hE
                · replace hs := hs.2 h22
                  refine tm_go 2 (pc' := 139) (L' := [some (.ref 26), some (.int x19_1), some (.int x19_2), some (.ref 8), some (.int x19_4), some (.int x19_5), some (.int (w.1 13 ((w.1 34 x19_4.toInt.toNat).toInt.toNat)))]) (S' := [.int 2, .int (w.1 13 ((w.1 34 x19_4.toInt.toNat).toInt.toNat)), .ref 16]) (w' := (sI (sI w 36 x19_4.toInt.toNat (vp_nar .boolean (0 : Int32))) 37 ((w.1 13 ((w.1 34 x19_4.toInt.toNat).toInt.toNat)).toInt.toNat) ((w.1 37 ((w.1 13 ((w.1 34 x19_4.toInt.toNat).toInt.toNat)).toInt.toNat)) - (1 : Int32)))) rfl ?_
                  obtain ⟨b25, hs⟩ := hs
                  refine tm_k (pc' := 140) (L' := [some (.ref 26), some (.int x19_1), some (.int x19_2), some (.ref 8), some (.int x19_4), some (.int x19_5), some (.int (w.1 13 ((w.1 34 x19_4.toInt.toNat).toInt.toNat)))]) (S' := []) (w' := (sI (sI (sI w 36 x19_4.toInt.toNat (vp_nar .boolean (0 : Int32))) 37 ((w.1 13 ((w.1 34 x19_4.toInt.toNat).toInt.toNat)).toInt.toNat) ((w.1 37 ((w.1 13 ((w.1 34 x19_4.toInt.toNat).toInt.toNat)).toInt.toNat)) - (1 : Int32))) 16 ((w.1 13 ((w.1 34 x19_4.toInt.toNat).toInt.toNat)).toInt.toNat) 2)) rfl b25 ?_
                  refine tm_go 3 (pc' := 146) (L' := [some (.ref 26), some (.int x19_1), some (.int x19_2), some (.ref 8), some (.int x19_4), some (.int x19_5), some (.int (w.1 13 ((w.1 34 x19_4.toInt.toNat).toInt.toNat)))]) (S' := [.int x19_4, .ref 35]) (w' := (sI (sI (sI w 36 x19_4.toInt.toNat (vp_nar .boolean (0 : Int32))) 37 ((w.1 13 ((w.1 34 x19_4.toInt.toNat).toInt.toNat)).toInt.toNat) ((w.1 37 ((w.1 13 ((w.1 34 x19_4.toInt.toNat).toInt.toNat)).toInt.toNat)) - (1 : Int32))) 16 ((w.1 13 ((w.1 34 x19_4.toInt.toNat).toInt.toNat)).toInt.toNat) 2)) rfl ?_
                  obtain ⟨b26, hs⟩ := hs
                  refine tm_k (pc' := 147) (L' := [some (.ref 26), some (.int x19_1), some (.int x19_2), some (.ref 8), some (.int x19_4), some (.int x19_5), some (.int (w.1 13 ((w.1 34 x19_4.toInt.toNat).toInt.toNat)))]) (S' := [.int (w.1 35 x19_4.toInt.toNat)]) (w' := (sI (sI (sI w 36 x19_4.toInt.toNat (vp_nar .boolean (0 : Int32))) 37 ((w.1 13 ((w.1 34 x19_4.toInt.toNat).toInt.toNat)).toInt.toNat) ((w.1 37 ((w.1 13 ((w.1 34 x19_4.toInt.toNat).toInt.toNat)).toInt.toNat)) - (1 : Int32))) 16 ((w.1 13 ((w.1 34 x19_4.toInt.toNat).toInt.toNat)).toInt.toNat) 2)) rfl b26 ?_
                  refine tm_go 3 (pc' := 19) (L' := [some (.ref 26), some (.int x19_1), some (.int x19_2), some (.ref 8), some (.int (w.1 35 x19_4.toInt.toNat)), some (.int (x19_5 + (1 : Int32))), some (.int (w.1 13 ((w.1 34 x19_4.toInt.toNat).toInt.toNat)))]) (S' := []) (w' := (sI (sI (sI w 36 x19_4.toInt.toNat (vp_nar .boolean (0 : Int32))) 37 ((w.1 13 ((w.1 34 x19_4.toInt.toNat).toInt.toNat)).toInt.toNat) ((w.1 37 ((w.1 13 ((w.1 34 x19_4.toInt.toNat).toInt.toNat)).toInt.toNat)) - (1 : Int32))) 16 ((w.1 13 ((w.1 34 x19_4.toInt.toNat).toInt.toNat)).toInt.toNat) 2)) rfl ?_
                  exact ih _ _ _ _ hs hE
              · replace hs := hs.2 h20
                refine tm_go 3 (pc' := 119) (L' := [some (.ref 26), some (.int x19_1), some (.int x19_2), some (.ref 8), some (.int x19_4), some (.int x19_5), some (.int (w.1 13 ((w.1 34 x19_4.toInt.toNat).toInt.toNat)))]) (S' := [.int (w.1 13 ((w.1 34 x19_4.toInt.toNat).toInt.toNat)), .ref 40, .int (w.1 13 ((w.1 34 x19_4.toInt.toNat).toInt.toNat)), .ref 16]) (w' := (sI (sI w 36 x19_4.toInt.toNat (vp_nar .boolean (0 : Int32))) 37 ((w.1 13 ((w.1 34 x19_4.toInt.toNat).toInt.toNat)).toInt.toNat) ((w.1 37 ((w.1 13 ((w.1 34 x19_4.toInt.toNat).toInt.toNat)).toInt.toNat)) - (1 : Int32)))) rfl ?_
                obtain ⟨b27, hs⟩ := hs
                refine tm_k (pc' := 120) (L' := [some (.ref 26), some (.int x19_1), some (.int x19_2), some (.ref 8), some (.int x19_4), some (.int x19_5), some (.int (w.1 13 ((w.1 34 x19_4.toInt.toNat).toInt.toNat)))]) (S' := [.int (w.1 40 ((w.1 13 ((w.1 34 x19_4.toInt.toNat).toInt.toNat)).toInt.toNat)), .int (w.1 13 ((w.1 34 x19_4.toInt.toNat).toInt.toNat)), .ref 16]) (w' := (sI (sI w 36 x19_4.toInt.toNat (vp_nar .boolean (0 : Int32))) 37 ((w.1 13 ((w.1 34 x19_4.toInt.toNat).toInt.toNat)).toInt.toNat) ((w.1 37 ((w.1 13 ((w.1 34 x19_4.toInt.toNat).toInt.toNat)).toInt.toNat)) - (1 : Int32)))) rfl b27 ?_
                refine tm_go 1 (pc' := 139) (L' := [some (.ref 26), some (.int x19_1), some (.int x19_2), some (.ref 8), some (.int x19_4), some (.int x19_5), some (.int (w.1 13 ((w.1 34 x19_4.toInt.toNat).toInt.toNat)))]) (S' := [.int (w.1 40 ((w.1 13 ((w.1 34 x19_4.toInt.toNat).toInt.toNat)).toInt.toNat)), .int (w.1 13 ((w.1 34 x19_4.toInt.toNat).toInt.toNat)), .ref 16]) (w' := (sI (sI w 36 x19_4.toInt.toNat (vp_nar .boolean (0 : Int32))) 37 ((w.1 13 ((w.1 34 x19_4.toInt.toNat).toInt.toNat)).toInt.toNat) ((w.1 37 ((w.1 13 ((w.1 34 x19_4.toInt.toNat).toInt.toNat)).toInt.toNat)) - (1 : Int32)))) rfl ?_
                obtain ⟨b28, hs⟩ := hs
                refine tm_k (pc' := 140) (L' := [some (.ref 26), some (.int x19_1), some (.int x19_2), some (.ref 8), some (.int x19_4), some (.int x19_5), some (.int (w.1 13 ((w.1 34 x19_4.toInt.toNat).toInt.toNat)))]) (S' := []) (w' := (sI (sI (sI w 36 x19_4.toInt.toNat (vp_nar .boolean (0 : Int32))) 37 ((w.1 13 ((w.1 34 x19_4.toInt.toNat).toInt.toNat)).toInt.toNat) ((w.1 37 ((w.1 13 ((w.1 34 x19_4.toInt.toNat).toInt.toNat)).toInt.toNat)) - (1 : Int32))) 16 ((w.1 13 ((w.1 34 x19_4.toInt.toNat).toInt.toNat)).toInt.toNat) (w.1 40 ((w.1 13 ((w.1 34 x19_4.toInt.toNat).toInt.toNat)).toInt.toNat)))) rfl b28 ?_
                refine tm_go 3 (pc' := 146) (L' := [some (.ref 26), some (.int x19_1), some (.int x19_2), some (.ref 8), some (.int x19_4), some (.int x19_5), some (.int (w.1 13 ((w.1 34 x19_4.toInt.toNat).toInt.toNat)))]) (S' := [.int x19_4, .ref 35]) (w' := (sI (sI (sI w 36 x19_4.toInt.toNat (vp_nar .boolean (0 : Int32))) 37 ((w.1 13 ((w.1 34 x19_4.toInt.toNat).toInt.toNat)).toInt.toNat) ((w.1 37 ((w.1 13 ((w.1 34 x19_4.toInt.toNat).toInt.toNat)).toInt.toNat)) - (1 : Int32))) 16 ((w.1 13 ((w.1 34 x19_4.toInt.toNat).toInt.toNat)).toInt.toNat) (w.1 40 ((w.1 13 ((w.1 34 x19_4.toInt.toNat).toInt.toNat)).toInt.toNat)))) rfl ?_
                obtain ⟨b29, hs⟩ := hs
                refine tm_k (pc' := 147) (L' := [some (.ref 26), some (.int x19_1), some (.int x19_2), some (.ref 8), some (.int x19_4), some (.int x19_5), some (.int (w.1 13 ((w.1 34 x19_4.toInt.toNat).toInt.toNat)))]) (S' := [.int (w.1 35 x19_4.toInt.toNat)]) (w' := (sI (sI (sI w 36 x19_4.toInt.toNat (vp_nar .boolean (0 : Int32))) 37 ((w.1 13 ((w.1 34 x19_4.toInt.toNat).toInt.toNat)).toInt.toNat) ((w.1 37 ((w.1 13 ((w.1 34 x19_4.toInt.toNat).toInt.toNat)).toInt.toNat)) - (1 : Int32))) 16 ((w.1 13 ((w.1 34 x19_4.toInt.toNat).toInt.toNat)).toInt.toNat) (w.1 40 ((w.1 13 ((w.1 34 x19_4.toInt.toNat).toInt.toNat)).toInt.toNat)))) rfl b29 ?_
                refine tm_go 3 (pc' := 19) (L' := [some (.ref 26), some (.int x19_1), some (.int x19_2), some (.ref 8), some (.int (w.1 35 x19_4.toInt.toNat)), some (.int (x19_5 + (1 : Int32))), some (.int (w.1 13 ((w.1 34 x19_4.toInt.toNat).toInt.toNat)))]) (S' := []) (w' := (sI (sI (sI w 36 x19_4.toInt.toNat (vp_nar .boolean (0 : Int32))) 37 ((w.1 13 ((w.1 34 x19_4.toInt.toNat).toInt.toNat)).toInt.toNat) ((w.1 37 ((w.1 13 ((w.1 34 x19_4.toInt.toNat).toInt.toNat)).toInt.toNat)) - (1 : Int32))) 16 ((w.1 13 ((w.1 34 x19_4.toInt.toNat).toInt.toNat)).toInt.toNat) (w.1 40 ((w.1 13 ((w.1 34 x19_4.toInt.toNat).toInt.toNat)).toInt.toNat)))) rfl ?_
                exact ih _ _ _ _ hs hE
set_option maxHeartbeats 4000000 in
set_option maxRecDepth 100000 in
theorem tx_Wa_remove_168 {d : Nat} {E : MW → Prop} {Q : MW → Prop} (n : Nat) : ∀ (x168_5 : Int32)  (z1 : Option Value) (z2 : Option Value) (z3 : Option Value) (z4 : Option Value) (z6 : Option Value) (w : MW), q_Wa_remove_168  E Q n x168_5 w → (∀  (v0 : Option Value) (v1 : Option Value) (v2 : Option Value) (v3 : Option Value) (v4 : Option Value) (v5 : Option Value) (v6 : Option Value) (w : MW), E  w → Tm (d + 0) 274 295 [v0, v1, v2, v3, v4, v5, v6] [] w (RV Q)) → Tm (d + 0) 274 168 [some (.ref 26), z1, z2, z3, z4, some (.int x168_5), z6] [] w (RV Q) := by
  induction n with
  | zero => intro x168_5 z1 z2 z3 z4 z6 w hs; rw [q_Wa_remove_168.eq_1] at hs; exact hs.elim
  | succ n ih =>
    intro x168_5 z1 z2 z3 z4 z6 w hs hE
    rw [q_Wa_remove_168.eq_2] at hs
    refine tm_go 3 (pc' := 174) (L' := [some (.ref 26), z1, z2, z3, z4, some (.int x168_5), z6]) (S' := [.int (w.1 26 1), .int x168_5]) (w' := w) rfl ?_
    refine tm_i (p1 := 295) (p2 := 177) rfl (fun h31 => ?_) (fun h31 => ?_)
    · replace hs := hs.1 h31
      exact hE _ _ _ _ _ _ _ _ hs
    · replace hs := hs.2 h31
      refine tm_go 8 (pc' := 191) (L' := [some (.ref 26), z1, z2, z3, z4, some (.int x168_5), z6]) (S' := [.int (x168_5 + (1 : Int32)), .ref 27, .int x168_5, .ref 27]) (w' := w) rfl ?_
      obtain ⟨b32, hs⟩ := hs
      refine tm_k (pc' := 192) (L' := [some (.ref 26), z1, z2, z3, z4, some (.int x168_5), z6]) (S' := [.int (w.1 27 ((x168_5 + (1 : Int32)).toInt.toNat)), .int x168_5, .ref 27]) (w' := w) rfl b32 ?_
      obtain ⟨b33, hs⟩ := hs
      refine tm_k (pc' := 193) (L' := [some (.ref 26), z1, z2, z3, z4, some (.int x168_5), z6]) (S' := []) (w' := (sI w 27 x168_5.toInt.toNat (w.1 27 ((x168_5 + (1 : Int32)).toInt.toNat)))) rfl b33 ?_
      refine tm_go 8 (pc' := 207) (L' := [some (.ref 26), z1, z2, z3, z4, some (.int x168_5), z6]) (S' := [.int (x168_5 + (1 : Int32)), .ref 28, .int x168_5, .ref 28]) (w' := (sI w 27 x168_5.toInt.toNat (w.1 27 ((x168_5 + (1 : Int32)).toInt.toNat)))) rfl ?_
      obtain ⟨b34, hs⟩ := hs
      refine tm_k (pc' := 208) (L' := [some (.ref 26), z1, z2, z3, z4, some (.int x168_5), z6]) (S' := [.int (w.1 28 ((x168_5 + (1 : Int32)).toInt.toNat)), .int x168_5, .ref 28]) (w' := (sI w 27 x168_5.toInt.toNat (w.1 27 ((x168_5 + (1 : Int32)).toInt.toNat)))) rfl b34 ?_
      obtain ⟨b35, hs⟩ := hs
      refine tm_k (pc' := 209) (L' := [some (.ref 26), z1, z2, z3, z4, some (.int x168_5), z6]) (S' := []) (w' := (sI (sI w 27 x168_5.toInt.toNat (w.1 27 ((x168_5 + (1 : Int32)).toInt.toNat))) 28 x168_5.toInt.toNat (w.1 28 ((x168_5 + (1 : Int32)).toInt.toNat)))) rfl b35 ?_
      refine tm_go 8 (pc' := 223) (L' := [some (.ref 26), z1, z2, z3, z4, some (.int x168_5), z6]) (S' := [.int (x168_5 + (1 : Int32)), .ref 29, .int x168_5, .ref 29]) (w' := (sI (sI w 27 x168_5.toInt.toNat (w.1 27 ((x168_5 + (1 : Int32)).toInt.toNat))) 28 x168_5.toInt.toNat (w.1 28 ((x168_5 + (1 : Int32)).toInt.toNat)))) rfl ?_
      obtain ⟨b36, hs⟩ := hs
      refine tm_k (pc' := 224) (L' := [some (.ref 26), z1, z2, z3, z4, some (.int x168_5), z6]) (S' := [.int (w.1 29 ((x168_5 + (1 : Int32)).toInt.toNat)), .int x168_5, .ref 29]) (w' := (sI (sI w 27 x168_5.toInt.toNat (w.1 27 ((x168_5 + (1 : Int32)).toInt.toNat))) 28 x168_5.toInt.toNat (w.1 28 ((x168_5 + (1 : Int32)).toInt.toNat)))) rfl b36 ?_
      obtain ⟨b37, hs⟩ := hs
      refine tm_k (pc' := 225) (L' := [some (.ref 26), z1, z2, z3, z4, some (.int x168_5), z6]) (S' := []) (w' := (sI (sI (sI w 27 x168_5.toInt.toNat (w.1 27 ((x168_5 + (1 : Int32)).toInt.toNat))) 28 x168_5.toInt.toNat (w.1 28 ((x168_5 + (1 : Int32)).toInt.toNat))) 29 x168_5.toInt.toNat (w.1 29 ((x168_5 + (1 : Int32)).toInt.toNat)))) rfl b37 ?_
      refine tm_go 8 (pc' := 239) (L' := [some (.ref 26), z1, z2, z3, z4, some (.int x168_5), z6]) (S' := [.int (x168_5 + (1 : Int32)), .ref 30, .int x168_5, .ref 30]) (w' := (sI (sI (sI w 27 x168_5.toInt.toNat (w.1 27 ((x168_5 + (1 : Int32)).toInt.toNat))) 28 x168_5.toInt.toNat (w.1 28 ((x168_5 + (1 : Int32)).toInt.toNat))) 29 x168_5.toInt.toNat (w.1 29 ((x168_5 + (1 : Int32)).toInt.toNat)))) rfl ?_
      obtain ⟨b38, hs⟩ := hs
      refine tm_k (pc' := 240) (L' := [some (.ref 26), z1, z2, z3, z4, some (.int x168_5), z6]) (S' := [.int (w.1 30 ((x168_5 + (1 : Int32)).toInt.toNat)), .int x168_5, .ref 30]) (w' := (sI (sI (sI w 27 x168_5.toInt.toNat (w.1 27 ((x168_5 + (1 : Int32)).toInt.toNat))) 28 x168_5.toInt.toNat (w.1 28 ((x168_5 + (1 : Int32)).toInt.toNat))) 29 x168_5.toInt.toNat (w.1 29 ((x168_5 + (1 : Int32)).toInt.toNat)))) rfl b38 ?_
      obtain ⟨b39, hs⟩ := hs
      refine tm_k (pc' := 241) (L' := [some (.ref 26), z1, z2, z3, z4, some (.int x168_5), z6]) (S' := []) (w' := (sI (sI (sI (sI w 27 x168_5.toInt.toNat (w.1 27 ((x168_5 + (1 : Int32)).toInt.toNat))) 28 x168_5.toInt.toNat (w.1 28 ((x168_5 + (1 : Int32)).toInt.toNat))) 29 x168_5.toInt.toNat (w.1 29 ((x168_5 + (1 : Int32)).toInt.toNat))) 30 x168_5.toInt.toNat (w.1 30 ((x168_5 + (1 : Int32)).toInt.toNat)))) rfl b39 ?_
      refine tm_go 8 (pc' := 255) (L' := [some (.ref 26), z1, z2, z3, z4, some (.int x168_5), z6]) (S' := [.int (x168_5 + (1 : Int32)), .ref 31, .int x168_5, .ref 31]) (w' := (sI (sI (sI (sI w 27 x168_5.toInt.toNat (w.1 27 ((x168_5 + (1 : Int32)).toInt.toNat))) 28 x168_5.toInt.toNat (w.1 28 ((x168_5 + (1 : Int32)).toInt.toNat))) 29 x168_5.toInt.toNat (w.1 29 ((x168_5 + (1 : Int32)).toInt.toNat))) 30 x168_5.toInt.toNat (w.1 30 ((x168_5 + (1 : Int32)).toInt.toNat)))) rfl ?_
      obtain ⟨b40, hs⟩ := hs
      refine tm_k (pc' := 256) (L' := [some (.ref 26), z1, z2, z3, z4, some (.int x168_5), z6]) (S' := [.int (w.1 31 ((x168_5 + (1 : Int32)).toInt.toNat)), .int x168_5, .ref 31]) (w' := (sI (sI (sI (sI w 27 x168_5.toInt.toNat (w.1 27 ((x168_5 + (1 : Int32)).toInt.toNat))) 28 x168_5.toInt.toNat (w.1 28 ((x168_5 + (1 : Int32)).toInt.toNat))) 29 x168_5.toInt.toNat (w.1 29 ((x168_5 + (1 : Int32)).toInt.toNat))) 30 x168_5.toInt.toNat (w.1 30 ((x168_5 + (1 : Int32)).toInt.toNat)))) rfl b40 ?_
      obtain ⟨b41, hs⟩ := hs
      refine tm_k (pc' := 257) (L' := [some (.ref 26), z1, z2, z3, z4, some (.int x168_5), z6]) (S' := []) (w' := (sI (sI (sI (sI (sI w 27 x168_5.toInt.toNat (w.1 27 ((x168_5 + (1 : Int32)).toInt.toNat))) 28 x168_5.toInt.toNat (w.1 28 ((x168_5 + (1 : Int32)).toInt.toNat))) 29 x168_5.toInt.toNat (w.1 29 ((x168_5 + (1 : Int32)).toInt.toNat))) 30 x168_5.toInt.toNat (w.1 30 ((x168_5 + (1 : Int32)).toInt.toNat))) 31 x168_5.toInt.toNat (w.1 31 ((x168_5 + (1 : Int32)).toInt.toNat)))) rfl b41 ?_
      refine tm_go 8 (pc' := 271) (L' := [some (.ref 26), z1, z2, z3, z4, some (.int x168_5), z6]) (S' := [.int (x168_5 + (1 : Int32)), .ref 32, .int x168_5, .ref 32]) (w' := (sI (sI (sI (sI (sI w 27 x168_5.toInt.toNat (w.1 27 ((x168_5 + (1 : Int32)).toInt.toNat))) 28 x168_5.toInt.toNat (w.1 28 ((x168_5 + (1 : Int32)).toInt.toNat))) 29 x168_5.toInt.toNat (w.1 29 ((x168_5 + (1 : Int32)).toInt.toNat))) 30 x168_5.toInt.toNat (w.1 30 ((x168_5 + (1 : Int32)).toInt.toNat))) 31 x168_5.toInt.toNat (w.1 31 ((x168_5 + (1 : Int32)).toInt.toNat)))) rfl ?_
      obtain ⟨b42, hs⟩ := hs
      refine tm_k (pc' := 272) (L' := [some (.ref 26), z1, z2, z3, z4, some (.int x168_5), z6]) (S' := [.int (w.1 32 ((x168_5 + (1 : Int32)).toInt.toNat)), .int x168_5, .ref 32]) (w' := (sI (sI (sI (sI (sI w 27 x168_5.toInt.toNat (w.1 27 ((x168_5 + (1 : Int32)).toInt.toNat))) 28 x168_5.toInt.toNat (w.1 28 ((x168_5 + (1 : Int32)).toInt.toNat))) 29 x168_5.toInt.toNat (w.1 29 ((x168_5 + (1 : Int32)).toInt.toNat))) 30 x168_5.toInt.toNat (w.1 30 ((x168_5 + (1 : Int32)).toInt.toNat))) 31 x168_5.toInt.toNat (w.1 31 ((x168_5 + (1 : Int32)).toInt.toNat)))) rfl b42 ?_
      obtain ⟨b43, hs⟩ := hs
      refine tm_k (pc' := 273) (L' := [some (.ref 26), z1, z2, z3, z4, some (.int x168_5), z6]) (S' := []) (w' := (sI (sI (sI (sI (sI (sI w 27 x168_5.toInt.toNat (w.1 27 ((x168_5 + (1 : Int32)).toInt.toNat))) 28 x168_5.toInt.toNat (w.1 28 ((x168_5 + (1 : Int32)).toInt.toNat))) 29 x168_5.toInt.toNat (w.1 29 ((x168_5 + (1 : Int32)).toInt.toNat))) 30 x168_5.toInt.toNat (w.1 30 ((x168_5 + (1 : Int32)).toInt.toNat))) 31 x168_5.toInt.toNat (w.1 31 ((x168_5 + (1 : Int32)).toInt.toNat))) 32 x168_5.toInt.toNat (w.1 32 ((x168_5 + (1 : Int32)).toInt.toNat)))) rfl b43 ?_
      refine tm_go 8 (pc' := 287) (L' := [some (.ref 26), z1, z2, z3, z4, some (.int x168_5), z6]) (S' := [.int (x168_5 + (1 : Int32)), .ref 33, .int x168_5, .ref 33]) (w' := (sI (sI (sI (sI (sI (sI w 27 x168_5.toInt.toNat (w.1 27 ((x168_5 + (1 : Int32)).toInt.toNat))) 28 x168_5.toInt.toNat (w.1 28 ((x168_5 + (1 : Int32)).toInt.toNat))) 29 x168_5.toInt.toNat (w.1 29 ((x168_5 + (1 : Int32)).toInt.toNat))) 30 x168_5.toInt.toNat (w.1 30 ((x168_5 + (1 : Int32)).toInt.toNat))) 31 x168_5.toInt.toNat (w.1 31 ((x168_5 + (1 : Int32)).toInt.toNat))) 32 x168_5.toInt.toNat (w.1 32 ((x168_5 + (1 : Int32)).toInt.toNat)))) rfl ?_
      obtain ⟨b44, hs⟩ := hs
      refine tm_k (pc' := 288) (L' := [some (.ref 26), z1, z2, z3, z4, some (.int x168_5), z6]) (S' := [.int (w.1 33 ((x168_5 + (1 : Int32)).toInt.toNat)), .int x168_5, .ref 33]) (w' := (sI (sI (sI (sI (sI (sI w 27 x168_5.toInt.toNat (w.1 27 ((x168_5 + (1 : Int32)).toInt.toNat))) 28 x168_5.toInt.toNat (w.1 28 ((x168_5 + (1 : Int32)).toInt.toNat))) 29 x168_5.toInt.toNat (w.1 29 ((x168_5 + (1 : Int32)).toInt.toNat))) 30 x168_5.toInt.toNat (w.1 30 ((x168_5 + (1 : Int32)).toInt.toNat))) 31 x168_5.toInt.toNat (w.1 31 ((x168_5 + (1 : Int32)).toInt.toNat))) 32 x168_5.toInt.toNat (w.1 32 ((x168_5 + (1 : Int32)).toInt.toNat)))) rfl b44 ?_
      obtain ⟨b45, hs⟩ := hs
      refine tm_k (pc' := 289) (L' := [some (.ref 26), z1, z2, z3, z4, some (.int x168_5), z6]) (S' := []) (w' := (sI (sI (sI (sI (sI (sI (sI w 27 x168_5.toInt.toNat (w.1 27 ((x168_5 + (1 : Int32)).toInt.toNat))) 28 x168_5.toInt.toNat (w.1 28 ((x168_5 + (1 : Int32)).toInt.toNat))) 29 x168_5.toInt.toNat (w.1 29 ((x168_5 + (1 : Int32)).toInt.toNat))) 30 x168_5.toInt.toNat (w.1 30 ((x168_5 + (1 : Int32)).toInt.toNat))) 31 x168_5.toInt.toNat (w.1 31 ((x168_5 + (1 : Int32)).toInt.toNat))) 32 x168_5.toInt.toNat (w.1 32 ((x168_5 + (1 : Int32)).toInt.toNat))) 33 x168_5.toInt.toNat (w.1 33 ((x168_5 + (1 : Int32)).toInt.toNat)))) rfl b45 ?_
      refine tm_go 2 (pc' := 168) (L' := [some (.ref 26), z1, z2, z3, (ksl z4), some (.int (x168_5 + (1 : Int32))), z6]) (S' := []) (w' := (sI (sI (sI (sI (sI (sI (sI w 27 x168_5.toInt.toNat (w.1 27 ((x168_5 + (1 : Int32)).toInt.toNat))) 28 x168_5.toInt.toNat (w.1 28 ((x168_5 + (1 : Int32)).toInt.toNat))) 29 x168_5.toInt.toNat (w.1 29 ((x168_5 + (1 : Int32)).toInt.toNat))) 30 x168_5.toInt.toNat (w.1 30 ((x168_5 + (1 : Int32)).toInt.toNat))) 31 x168_5.toInt.toNat (w.1 31 ((x168_5 + (1 : Int32)).toInt.toNat))) 32 x168_5.toInt.toNat (w.1 32 ((x168_5 + (1 : Int32)).toInt.toNat))) 33 x168_5.toInt.toNat (w.1 33 ((x168_5 + (1 : Int32)).toInt.toNat)))) rfl ?_
      exact ih _ _ _ _ _ _ _ hs hE
set_option maxHeartbeats 4000000 in
set_option maxRecDepth 100000 in
theorem dm_Wa_remove {d : Nat} {w : MW} {a0 : Int32} {b0 : Int32} {Q : MW → Prop} (hs : p_Wa_remove w a0 b0 Q) : Tc (d + 0) 274 [.ref 26, .int a0, .int b0] w (RV Q) := by
  unfold p_Wa_remove at hs
  refine tm_go 2 (pc' := 4) (L' := [some (.ref 26), some (.int a0), some (.int b0), none, none, none, none]) (S' := [.ref 7]) (w' := w) rfl ?_
  obtain ⟨b1, hs⟩ := hs
  refine tm_g (pc' := 7) (k := 7) (j := 0) rfl b1 ?_
  refine tm_go 4 (pc' := 13) (L' := [some (.ref 26), some (.int a0), some (.int b0), some (.ref 8), none, none, none]) (S' := [.int a0, .ref 32]) (w' := w) rfl ?_
  obtain ⟨b2, hs⟩ := hs
  refine tm_k (pc' := 14) (L' := [some (.ref 26), some (.int a0), some (.int b0), some (.ref 8), none, none, none]) (S' := [.int (w.1 32 a0.toInt.toNat)]) (w' := w) rfl b2 ?_
  refine tm_go 3 (pc' := 19) (L' := [some (.ref 26), some (.int a0), some (.int b0), some (.ref 8), some (.int (w.1 32 a0.toInt.toNat)), some (.int 0), none]) (S' := []) (w' := w) rfl ?_
  refine tx_Wa_remove_19 FU _ _ _ _ hs (fun  z30_2 z30_3 z30_4 z30_5 z30_6 w30 hs => ?_)
  refine tm_go 8 (pc' := 168) (L' := [some (.ref 26), some (.int a0), z30_2, z30_3, (ksl z30_4), some (.int a0), z30_6]) (S' := []) (w' := (sI w30 26 1 ((w30.1 26 1) - (1 : Int32)))) rfl ?_
  refine tx_Wa_remove_168 FU _ _ _ _ _ _ _ hs (fun  z46_0 z46_1 z46_2 z46_3 z46_4 z46_5 z46_6 w46 hs => ?_)
  exact tm_r rfl ⟨rfl, hs⟩
