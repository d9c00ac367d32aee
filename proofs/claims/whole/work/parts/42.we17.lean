set_option maxHeartbeats 4000000 in
set_option maxRecDepth 100000 in
theorem dm_Mo_act {d : Nat} {w : MW} {a0 : Int32} {Q : Int32 → MW → Prop} (hs : p_Mo_act w a0 Q) : Tc (d + 404) 91 [.ref 127, .int a0] w (RI Q) := by
  unfold p_Mo_act at hs
  refine tm_go 1 (pc' := 1) (L' := [some (.ref 127), some (.int a0), none]) (S' := [.int a0]) (w' := w) rfl ?_
  refine tm_i (p1 := 10) (p2 := 4) rfl (fun h1 => ?_) (fun h1 => ?_)
  · replace hs := hs.1 h1
    refine tm_go 1 (pc' := 11) (L' := [some (.ref 127), some (.int a0), none]) (S' := [.int (-1)]) (w' := w) rfl ?_
    exact tm_r rfl ⟨_, rfl, hs⟩
  · replace hs := hs.2 h1
    refine tm_go 2 (pc' := 7) (L' := [some (.ref 127), some (.int a0), none]) (S' := [.int 31, .int a0]) (w' := w) rfl ?_
    refine tm_i (p1 := 12) (p2 := 10) rfl (fun h2 => ?_) (fun h2 => ?_)
    · replace hs := hs.1 h2
      refine tm_go 2 (pc' := 14) (L' := [some (.ref 127), some (.int a0), none]) (S' := [.int a0, .ref 127]) (w' := w) rfl ?_
      refine tm_c rfl (Nat.le_of_ble_eq_true rfl) (dm_Mo_perform (d := d + 0) hs) (fun v w3 hq => ?_)
      obtain ⟨r3, rfl, hs⟩ := hq
      refine tm_go 2 (pc' := 19) (L' := [some (.ref 127), some (.int a0), some (.int r3)]) (S' := [.int r3]) (w' := w3) rfl ?_
      refine tm_i (p1 := 31) (p2 := 22) rfl (fun h4 => ?_) (fun h4 => ?_)
      · replace hs := hs.1 h4
        refine tm_go 1 (pc' := 32) (L' := [some (.ref 127), some (.int a0), some (.int r3)]) (S' := [.int r3]) (w' := w3) rfl ?_
        exact tm_r rfl ⟨_, rfl, hs⟩
      · replace hs := hs.2 h4
        refine tm_go 5 (pc' := 28) (L' := [some (.ref 127), some (.int a0), some (.int r3)]) (S' := [.int ((10 : Int32) + r3), .int (-1), .ref 127]) (w' := w3) rfl ?_
        refine tm_c rfl (Nat.le_of_ble_eq_true rfl) (dm_Mo_raise (d := d + 403) hs) (fun v w5 hq => ?_)
        obtain ⟨rfl, hs⟩ := hq
        refine tm_go 1 (pc' := 32) (L' := [some (.ref 127), some (.int a0), some (.int r3)]) (S' := [.int r3]) (w' := w5) rfl ?_
        exact tm_r rfl ⟨_, rfl, hs⟩
    · replace hs := hs.2 h2
      refine tm_go 1 (pc' := 11) (L' := [some (.ref 127), some (.int a0), none]) (S' := [.int (-1)]) (w' := w) rfl ?_
      exact tm_r rfl ⟨_, rfl, hs⟩
set_option maxHeartbeats 4000000 in
set_option maxRecDepth 100000 in
theorem dm_Mo_isRole {d : Nat} {w : MW} {a0 : Int32} {b0 : Int32} {Q : Int32 → MW → Prop} (hs : p_Mo_isRole w a0 b0 Q) : Tc (d + 0) 92 [.ref 127, .int a0, .int b0] w (RZ Q) := by
  unfold p_Mo_isRole at hs
  refine tm_go 1 (pc' := 1) (L' := [some (.ref 127), some (.int a0), some (.int b0)]) (S' := [.int a0]) (w' := w) rfl ?_
  refine tm_i (p1 := 43) (p2 := 4) rfl (fun h1 => ?_) (fun h1 => ?_)
  · replace hs := hs.1 h1
    refine tm_go 1 (pc' := 44) (L' := [some (.ref 127), some (.int a0), some (.int b0)]) (S' := [.int 0]) (w' := w) rfl ?_
    exact tm_r rfl ⟨_, rfl, by decide, hs⟩
  · replace hs := hs.2 h1
    refine tm_go 4 (pc' := 12) (L' := [some (.ref 127), some (.int a0), some (.int b0)]) (S' := [.int (w.1 129 32), .int a0]) (w' := w) rfl ?_
    refine tm_i (p1 := 43) (p2 := 15) rfl (fun h2 => ?_) (fun h2 => ?_)
    · replace hs := hs.1 h2
      refine tm_go 1 (pc' := 44) (L' := [some (.ref 127), some (.int a0), some (.int b0)]) (S' := [.int 0]) (w' := w) rfl ?_
      exact tm_r rfl ⟨_, rfl, by decide, hs⟩
    · replace hs := hs.2 h2
      refine tm_go 10 (pc' := 34) (L' := [some (.ref 127), some (.int a0), some (.int b0)]) (S' := [.int (((40 : Int32) * (w.1 129 12)) + a0), .ref 141]) (w' := w) rfl ?_
      obtain ⟨b3, hs⟩ := hs
      refine tm_k (pc' := 35) (L' := [some (.ref 127), some (.int a0), some (.int b0)]) (S' := [.int (w.1 141 ((((40 : Int32) * (w.1 129 12)) + a0).toInt.toNat))]) (w' := w) rfl b3 ?_
      refine tm_go 1 (pc' := 36) (L' := [some (.ref 127), some (.int a0), some (.int b0)]) (S' := [.int b0, .int (w.1 141 ((((40 : Int32) * (w.1 129 12)) + a0).toInt.toNat))]) (w' := w) rfl ?_
      refine tm_i (p1 := 43) (p2 := 39) rfl (fun h4 => ?_) (fun h4 => ?_)
      · replace hs := hs.1 h4
        refine tm_go 1 (pc' := 44) (L' := [some (.ref 127), some (.int a0), some (.int b0)]) (S' := [.int 0]) (w' := w) rfl ?_
        exact tm_r rfl ⟨_, rfl, by decide, hs⟩
      · replace hs := hs.2 h4
        refine tm_go 2 (pc' := 44) (L' := [some (.ref 127), some (.int a0), some (.int b0)]) (S' := [.int 1]) (w' := w) rfl ?_
        exact tm_r rfl ⟨_, rfl, by decide, hs⟩
set_option maxHeartbeats 4000000 in
set_option maxRecDepth 100000 in
theorem dm_Mo_sense {d : Nat} {w : MW} {a0 : Int32} {b0 : Int32} {c0 : Int32} {Q : Int32 → MW → Prop} (hs : p_Mo_sense w a0 b0 c0 Q) : Tc (d + 1) 93 [.ref 127, .int a0, .int b0, .int c0] w (RZ Q) := by
  unfold p_Mo_sense at hs
  refine tm_go 3 (pc' := 4) (L' := [some (.ref 127), some (.int a0), some (.int b0), some (.int c0)]) (S' := [.int 30, .int a0, .ref 127]) (w' := w) rfl ?_
  refine tm_c rfl (Nat.le_of_ble_eq_true rfl) (dm_Mo_isRole (d := d + 0) hs) (fun v w1 hq => ?_)
  obtain ⟨r1, rfl, hz1, hs⟩ := hq
  refine tm_i (p1 := 19) (p2 := 10) rfl (fun h2 => ?_) (fun h2 => ?_)
  · replace hs := hs.1 h2
    refine tm_go 1 (pc' := 20) (L' := [some (.ref 127), some (.int a0), some (.int b0), some (.int c0)]) (S' := [.int 0]) (w' := w1) rfl ?_
    exact tm_r rfl ⟨_, rfl, by decide, hs⟩
  · replace hs := hs.2 h2
    refine tm_go 1 (pc' := 11) (L' := [some (.ref 127), some (.int a0), some (.int b0), some (.int c0)]) (S' := [.int b0]) (w' := w1) rfl ?_
    refine tm_i (p1 := 19) (p2 := 14) rfl (fun h3 => ?_) (fun h3 => ?_)
    · replace hs := hs.1 h3
      refine tm_go 1 (pc' := 20) (L' := [some (.ref 127), some (.int a0), some (.int b0), some (.int c0)]) (S' := [.int 0]) (w' := w1) rfl ?_
      exact tm_r rfl ⟨_, rfl, by decide, hs⟩
    · replace hs := hs.2 h3
      refine tm_go 2 (pc' := 16) (L' := [some (.ref 127), some (.int a0), some (.int b0), some (.int c0)]) (S' := [.int 5, .int b0]) (w' := w1) rfl ?_
      refine tm_i (p1 := 21) (p2 := 19) rfl (fun h4 => ?_) (fun h4 => ?_)
      · replace hs := hs.1 h4
        refine tm_go 4 (pc' := 27) (L' := [some (.ref 127), some (.int a0), some (.int b0), some (.int c0)]) (S' := [.int b0, .int a0, .ref 201]) (w' := w1) rfl ?_
        obtain ⟨b5, hs⟩ := hs
        refine tm_k (pc' := 28) (L' := [some (.ref 127), some (.int a0), some (.int b0), some (.int c0)]) (S' := []) (w' := (sI w1 201 a0.toInt.toNat b0)) rfl b5 ?_
        refine tm_go 4 (pc' := 34) (L' := [some (.ref 127), some (.int a0), some (.int b0), some (.int c0)]) (S' := [.int c0, .int a0, .ref 202]) (w' := (sI w1 201 a0.toInt.toNat b0)) rfl ?_
        obtain ⟨b6, hs⟩ := hs
        refine tm_k (pc' := 35) (L' := [some (.ref 127), some (.int a0), some (.int b0), some (.int c0)]) (S' := []) (w' := (sI (sI w1 201 a0.toInt.toNat b0) 202 a0.toInt.toNat c0)) rfl b6 ?_
        refine tm_go 1 (pc' := 36) (L' := [some (.ref 127), some (.int a0), some (.int b0), some (.int c0)]) (S' := [.int 1]) (w' := (sI (sI w1 201 a0.toInt.toNat b0) 202 a0.toInt.toNat c0)) rfl ?_
        exact tm_r rfl ⟨_, rfl, by decide, hs⟩
      · replace hs := hs.2 h4
        refine tm_go 1 (pc' := 20) (L' := [some (.ref 127), some (.int a0), some (.int b0), some (.int c0)]) (S' := [.int 0]) (w' := w1) rfl ?_
        exact tm_r rfl ⟨_, rfl, by decide, hs⟩
set_option maxHeartbeats 4000000 in
set_option maxRecDepth 100000 in
theorem dm_Mo_watch {d : Nat} {w : MW} {a0 : Int32} {b0 : Int32} {c0 : Int32} {e0 : Int64} {Q : Int32 → MW → Prop} (hs : p_Mo_watch w a0 b0 c0 e0 Q) : Tc (d + 0) 94 [.ref 127, .int a0, .int b0, .int c0, .long e0] w (RZ Q) := by
  unfold p_Mo_watch at hs
  refine tm_go 1 (pc' := 1) (L' := [some (.ref 127), some (.int a0), some (.int b0), some (.int c0), some (.long e0), none]) (S' := [.int a0]) (w' := w) rfl ?_
  refine tm_i (p1 := 19) (p2 := 4) rfl (fun h1 => ?_) (fun h1 => ?_)
  · replace hs := hs.1 h1
    refine tm_go 1 (pc' := 20) (L' := [some (.ref 127), some (.int a0), some (.int b0), some (.int c0), some (.long e0), none]) (S' := [.int 0]) (w' := w) rfl ?_
    exact tm_r rfl ⟨_, rfl, by decide, hs⟩
  · replace hs := hs.2 h1
    refine tm_go 2 (pc' := 7) (L' := [some (.ref 127), some (.int a0), some (.int b0), some (.int c0), some (.long e0), none]) (S' := [.int 15, .int a0]) (w' := w) rfl ?_
    refine tm_i (p1 := 19) (p2 := 10) rfl (fun h2 => ?_) (fun h2 => ?_)
    · replace hs := hs.1 h2
      refine tm_go 1 (pc' := 20) (L' := [some (.ref 127), some (.int a0), some (.int b0), some (.int c0), some (.long e0), none]) (S' := [.int 0]) (w' := w) rfl ?_
      exact tm_r rfl ⟨_, rfl, by decide, hs⟩
    · replace hs := hs.2 h2
      refine tm_go 1 (pc' := 11) (L' := [some (.ref 127), some (.int a0), some (.int b0), some (.int c0), some (.long e0), none]) (S' := [.int b0]) (w' := w) rfl ?_
      refine tm_i (p1 := 19) (p2 := 14) rfl (fun h3 => ?_) (fun h3 => ?_)
      · replace hs := hs.1 h3
        refine tm_go 1 (pc' := 20) (L' := [some (.ref 127), some (.int a0), some (.int b0), some (.int c0), some (.long e0), none]) (S' := [.int 0]) (w' := w) rfl ?_
        exact tm_r rfl ⟨_, rfl, by decide, hs⟩
      · replace hs := hs.2 h3
        refine tm_go 2 (pc' := 16) (L' := [some (.ref 127), some (.int a0), some (.int b0), some (.int c0), some (.long e0), none]) (S' := [.int 5, .int b0]) (w' := w) rfl ?_
        refine tm_i (p1 := 21) (p2 := 19) rfl (fun h4 => ?_) (fun h4 => ?_)
        · replace hs := hs.1 h4
          refine tm_go 4 (pc' := 27) (L' := [some (.ref 127), some (.int a0), some (.int b0), some (.int c0), some (.long e0), none]) (S' := [.int b0, .int a0, .ref 203]) (w' := w) rfl ?_
          obtain ⟨b5, hs⟩ := hs
          refine tm_k (pc' := 28) (L' := [some (.ref 127), some (.int a0), some (.int b0), some (.int c0), some (.long e0), none]) (S' := []) (w' := (sI w 203 a0.toInt.toNat b0)) rfl b5 ?_
          refine tm_go 4 (pc' := 34) (L' := [some (.ref 127), some (.int a0), some (.int b0), some (.int c0), some (.long e0), none]) (S' := [.int c0, .int a0, .ref 204]) (w' := (sI w 203 a0.toInt.toNat b0)) rfl ?_
          obtain ⟨b6, hs⟩ := hs
          refine tm_k (pc' := 35) (L' := [some (.ref 127), some (.int a0), some (.int b0), some (.int c0), some (.long e0), none]) (S' := []) (w' := (sI (sI w 203 a0.toInt.toNat b0) 204 a0.toInt.toNat c0)) rfl b6 ?_
          refine tm_go 4 (pc' := 42) (L' := [some (.ref 127), some (.int a0), some (.int b0), some (.int c0), some (.long e0), none]) (S' := [.long e0, .int a0, .ref 205]) (w' := (sI (sI w 203 a0.toInt.toNat b0) 204 a0.toInt.toNat c0)) rfl ?_
          obtain ⟨b7, hs⟩ := hs
          refine tm_k (pc' := 43) (L' := [some (.ref 127), some (.int a0), some (.int b0), some (.int c0), some (.long e0), none]) (S' := []) (w' := (sJ (sI (sI w 203 a0.toInt.toNat b0) 204 a0.toInt.toNat c0) 205 a0.toInt.toNat e0)) rfl b7 ?_
          refine tm_go 1 (pc' := 44) (L' := [some (.ref 127), some (.int a0), some (.int b0), some (.int c0), some (.long e0), none]) (S' := [.int 1]) (w' := (sJ (sI (sI w 203 a0.toInt.toNat b0) 204 a0.toInt.toNat c0) 205 a0.toInt.toNat e0)) rfl ?_
          exact tm_r rfl ⟨_, rfl, by decide, hs⟩
        · replace hs := hs.2 h4
          refine tm_go 1 (pc' := 20) (L' := [some (.ref 127), some (.int a0), some (.int b0), some (.int c0), some (.long e0), none]) (S' := [.int 0]) (w' := w) rfl ?_
          exact tm_r rfl ⟨_, rfl, by decide, hs⟩
set_option maxHeartbeats 4000000 in
set_option maxRecDepth 100000 in
theorem dm_Mo_signal {d : Nat} {w : MW} {a0 : Int32} {b0 : Int64} {Q : Int32 → MW → Prop} (hs : p_Mo_signal w a0 b0 Q) : Tc (d + 1) 95 [.ref 127, .int a0, .long b0] w (RZ Q) := by
  unfold p_Mo_signal at hs
  refine tm_go 3 (pc' := 4) (L' := [some (.ref 127), some (.int a0), some (.long b0), none]) (S' := [.int 30, .int a0, .ref 127]) (w' := w) rfl ?_
  refine tm_c rfl (Nat.le_of_ble_eq_true rfl) (dm_Mo_isRole (d := d + 0) hs) (fun v w1 hq => ?_)
  obtain ⟨r1, rfl, hz1, hs⟩ := hq
  refine tm_i (p1 := 12) (p2 := 10) rfl (fun h2 => ?_) (fun h2 => ?_)
  · replace hs := hs.1 h2
    refine tm_go 4 (pc' := 18) (L' := [some (.ref 127), some (.int a0), some (.long b0), none]) (S' := [.long b0, .int a0, .ref 206]) (w' := w1) rfl ?_
    obtain ⟨b3, hs⟩ := hs
    refine tm_k (pc' := 19) (L' := [some (.ref 127), some (.int a0), some (.long b0), none]) (S' := []) (w' := (sJ w1 206 a0.toInt.toNat b0)) rfl b3 ?_
    refine tm_go 1 (pc' := 20) (L' := [some (.ref 127), some (.int a0), some (.long b0), none]) (S' := [.int 1]) (w' := (sJ w1 206 a0.toInt.toNat b0)) rfl ?_
    exact tm_r rfl ⟨_, rfl, by decide, hs⟩
  · replace hs := hs.2 h2
    refine tm_go 1 (pc' := 11) (L' := [some (.ref 127), some (.int a0), some (.long b0), none]) (S' := [.int 0]) (w' := w1) rfl ?_
    exact tm_r rfl ⟨_, rfl, by decide, hs⟩
set_option maxHeartbeats 4000000 in
set_option maxRecDepth 100000 in
theorem dm_Mo_value {d : Nat} {w : MW} {a0 : Int32} {Q : Int64 → MW → Prop} (hs : p_Mo_value w a0 Q) : Tc (d + 1) 96 [.ref 127, .int a0] w (RJ Q) := by
  unfold p_Mo_value at hs
  refine tm_go 3 (pc' := 4) (L' := [some (.ref 127), some (.int a0)]) (S' := [.int 30, .int a0, .ref 127]) (w' := w) rfl ?_
  refine tm_c rfl (Nat.le_of_ble_eq_true rfl) (dm_Mo_isRole (d := d + 0) hs) (fun v w1 hq => ?_)
  obtain ⟨r1, rfl, hz1, hs⟩ := hq
  refine tm_i (p1 := 20) (p2 := 10) rfl (fun h2 => ?_) (fun h2 => ?_)
  · replace hs := hs.1 h2
    refine tm_go 3 (pc' := 25) (L' := [some (.ref 127), some (.int a0)]) (S' := [.int a0, .ref 206]) (w' := w1) rfl ?_
    obtain ⟨b3, hs⟩ := hs
    refine tm_k (pc' := 26) (L' := [some (.ref 127), some (.int a0)]) (S' := [.long (w1.2.1 206 a0.toInt.toNat)]) (w' := w1) rfl b3 ?_
    refine tm_go 1 (pc' := 30) (L' := [some (.ref 127), some (.int a0)]) (S' := [.long (w1.2.1 206 a0.toInt.toNat)]) (w' := w1) rfl ?_
    exact tm_r rfl ⟨_, rfl, hs⟩
  · replace hs := hs.2 h2
    refine tm_go 3 (pc' := 14) (L' := [some (.ref 127), some (.int a0)]) (S' := [.int 31, .int a0, .ref 127]) (w' := w1) rfl ?_
    refine tm_c rfl (Nat.le_of_ble_eq_true rfl) (dm_Mo_isRole (d := d + 0) hs) (fun v w4 hq => ?_)
    obtain ⟨r4, rfl, hz4, hs⟩ := hq
    refine tm_i (p1 := 29) (p2 := 20) rfl (fun h5 => ?_) (fun h5 => ?_)
    · replace hs := hs.1 h5
      refine tm_go 1 (pc' := 30) (L' := [some (.ref 127), some (.int a0)]) (S' := [.long 0]) (w' := w4) rfl ?_
      exact tm_r rfl ⟨_, rfl, hs⟩
    · replace hs := hs.2 h5
      refine tm_go 3 (pc' := 25) (L' := [some (.ref 127), some (.int a0)]) (S' := [.int a0, .ref 206]) (w' := w4) rfl ?_
      obtain ⟨b6, hs⟩ := hs
      refine tm_k (pc' := 26) (L' := [some (.ref 127), some (.int a0)]) (S' := [.long (w4.2.1 206 a0.toInt.toNat)]) (w' := w4) rfl b6 ?_
      refine tm_go 1 (pc' := 30) (L' := [some (.ref 127), some (.int a0)]) (S' := [.long (w4.2.1 206 a0.toInt.toNat)]) (w' := w4) rfl ?_
      exact tm_r rfl ⟨_, rfl, hs⟩
set_option maxHeartbeats 4000000 in
set_option maxRecDepth 100000 in
theorem dm_Mr_isRow {d : Nat} {w : MW} {a0 : Int32} {Q : Int32 → MW → Prop} (hs : p_Mr_isRow w a0 Q) : Tc (d + 0) 300 [.ref 147, .int a0] w (RZ Q) := by
  unfold p_Mr_isRow at hs
  refine tm_go 2 (pc' := 2) (L' := [some (.ref 147), some (.int a0)]) (S' := [.int 1, .int a0]) (w' := w) rfl ?_
  refine tm_i (p1 := 17) (p2 := 5) rfl (fun h1 => ?_) (fun h1 => ?_)
  · replace hs := hs.1 h1
    refine tm_go 1 (pc' := 18) (L' := [some (.ref 147), some (.int a0)]) (S' := [.int 0]) (w' := w) rfl ?_
    exact tm_r rfl ⟨_, rfl, by decide, hs⟩
  · replace hs := hs.2 h1
    refine tm_go 3 (pc' := 10) (L' := [some (.ref 147), some (.int a0)]) (S' := [.int (w.1 147 20), .int a0]) (w' := w) rfl ?_
    refine tm_i (p1 := 17) (p2 := 13) rfl (fun h2 => ?_) (fun h2 => ?_)
    · replace hs := hs.1 h2
      refine tm_go 1 (pc' := 18) (L' := [some (.ref 147), some (.int a0)]) (S' := [.int 0]) (w' := w) rfl ?_
      exact tm_r rfl ⟨_, rfl, by decide, hs⟩
    · replace hs := hs.2 h2
      refine tm_go 2 (pc' := 18) (L' := [some (.ref 147), some (.int a0)]) (S' := [.int 1]) (w' := w) rfl ?_
      exact tm_r rfl ⟨_, rfl, by decide, hs⟩
set_option maxHeartbeats 4000000 in
set_option maxRecDepth 100000 in
theorem dm_Mr_pass {d : Nat} {w : MW} {a0 : Int32} {b0 : Int32} {c0 : Int32} {e0 : Int32} {Q : Int32 → MW → Prop} (hs : p_Mr_pass w a0 b0 c0 e0 Q) : Tc (d + 1) 301 [.ref 147, .int a0, .int b0, .int c0, .int e0] w (RI Q) := by
  unfold p_Mr_pass at hs
  refine tm_go 2 (pc' := 2) (L' := [some (.ref 147), some (.int a0), some (.int b0), some (.int c0), some (.int e0)]) (S' := [.int a0, .ref 147]) (w' := w) rfl ?_
  refine tm_c rfl (Nat.le_of_ble_eq_true rfl) (dm_Mr_isRow (d := d + 0) hs) (fun v w1 hq => ?_)
  obtain ⟨r1, rfl, hz1, hs⟩ := hq
  refine tm_i (p1 := 10) (p2 := 8) rfl (fun h2 => ?_) (fun h2 => ?_)
  · replace hs := hs.1 h2
    refine tm_go 2 (pc' := 12) (L' := [some (.ref 147), some (.int a0), some (.int b0), some (.int c0), some (.int e0)]) (S' := [.int 1, .int b0]) (w' := w1) rfl ?_
    refine tm_i (p1 := 39) (p2 := 15) rfl (fun h3 => ?_) (fun h3 => ?_)
    · replace hs := hs.1 h3
      refine tm_go 1 (pc' := 41) (L' := [some (.ref 147), some (.int a0), some (.int b0), some (.int c0), some (.int e0)]) (S' := [.int (-2)]) (w' := w1) rfl ?_
      exact tm_r rfl ⟨_, rfl, hs⟩
    · replace hs := hs.2 h3
      refine tm_go 2 (pc' := 19) (L' := [some (.ref 147), some (.int a0), some (.int b0), some (.int c0), some (.int e0)]) (S' := [.int 999, .int b0]) (w' := w1) rfl ?_
      refine tm_i (p1 := 39) (p2 := 22) rfl (fun h4 => ?_) (fun h4 => ?_)
      · replace hs := hs.1 h4
        refine tm_go 1 (pc' := 41) (L' := [some (.ref 147), some (.int a0), some (.int b0), some (.int c0), some (.int e0)]) (S' := [.int (-2)]) (w' := w1) rfl ?_
        exact tm_r rfl ⟨_, rfl, hs⟩
      · replace hs := hs.2 h4
        refine tm_go 2 (pc' := 24) (L' := [some (.ref 147), some (.int a0), some (.int b0), some (.int c0), some (.int e0)]) (S' := [.int 1, .int c0]) (w' := w1) rfl ?_
        refine tm_i (p1 := 39) (p2 := 27) rfl (fun h5 => ?_) (fun h5 => ?_)
        · replace hs := hs.1 h5
          refine tm_go 1 (pc' := 41) (L' := [some (.ref 147), some (.int a0), some (.int b0), some (.int c0), some (.int e0)]) (S' := [.int (-2)]) (w' := w1) rfl ?_
          exact tm_r rfl ⟨_, rfl, hs⟩
        · replace hs := hs.2 h5
          refine tm_go 2 (pc' := 31) (L' := [some (.ref 147), some (.int a0), some (.int b0), some (.int c0), some (.int e0)]) (S' := [.int 999, .int c0]) (w' := w1) rfl ?_
          refine tm_i (p1 := 39) (p2 := 34) rfl (fun h6 => ?_) (fun h6 => ?_)
          · replace hs := hs.1 h6
            refine tm_go 1 (pc' := 41) (L' := [some (.ref 147), some (.int a0), some (.int b0), some (.int c0), some (.int e0)]) (S' := [.int (-2)]) (w' := w1) rfl ?_
            exact tm_r rfl ⟨_, rfl, hs⟩
          · replace hs := hs.2 h6
            refine tm_go 2 (pc' := 36) (L' := [some (.ref 147), some (.int a0), some (.int b0), some (.int c0), some (.int e0)]) (S' := [.int c0, .int b0]) (w' := w1) rfl ?_
            refine tm_i (p1 := 42) (p2 := 39) rfl (fun h7 => ?_) (fun h7 => ?_)
            · replace hs := hs.1 h7
              refine tm_go 2 (pc' := 45) (L' := [some (.ref 147), some (.int a0), some (.int b0), some (.int c0), some (.int e0)]) (S' := [.int 1, .int e0]) (w' := w1) rfl ?_
              refine tm_i (p1 := 56) (p2 := 48) rfl (fun h8 => ?_) (fun h8 => ?_)
              · replace hs := hs.1 h8
                refine tm_go 1 (pc' := 58) (L' := [some (.ref 147), some (.int a0), some (.int b0), some (.int c0), some (.int e0)]) (S' := [.int (-3)]) (w' := w1) rfl ?_
                exact tm_r rfl ⟨_, rfl, hs⟩
              · replace hs := hs.2 h8
                refine tm_go 2 (pc' := 53) (L' := [some (.ref 147), some (.int a0), some (.int b0), some (.int c0), some (.int e0)]) (S' := [.int 3600, .int e0]) (w' := w1) rfl ?_
                refine tm_i (p1 := 59) (p2 := 56) rfl (fun h9 => ?_) (fun h9 => ?_)
                · replace hs := hs.1 h9
                  refine tm_go 5 (pc' := 66) (L' := [some (.ref 147), some (.int a0), some (.int b0), some (.int c0), some (.int e0)]) (S' := [.int (a0 - (1 : Int32)), .ref 162]) (w' := w1) rfl ?_
                  obtain ⟨b10, hs⟩ := hs
                  refine tm_k (pc' := 67) (L' := [some (.ref 147), some (.int a0), some (.int b0), some (.int c0), some (.int e0)]) (S' := [.int (w1.1 162 ((a0 - (1 : Int32)).toInt.toNat))]) (w' := w1) rfl b10 ?_
                  refine tm_i (p1 := 73) (p2 := 70) rfl (fun h11 => ?_) (fun h11 => ?_)
                  · replace hs := hs.1 h11
                    refine tm_go 6 (pc' := 82) (L' := [some (.ref 147), some (.int a0), some (.int b0), some (.int c0), some (.int e0)]) (S' := [.int e0, .int (a0 - (1 : Int32)), .ref 162]) (w' := w1) rfl ?_
                    obtain ⟨b12, hs⟩ := hs
                    refine tm_k (pc' := 83) (L' := [some (.ref 147), some (.int a0), some (.int b0), some (.int c0), some (.int e0)]) (S' := []) (w' := (sI w1 162 ((a0 - (1 : Int32)).toInt.toNat) e0)) rfl b12 ?_
                    refine tm_go 1 (pc' := 84) (L' := [some (.ref 147), some (.int a0), some (.int b0), some (.int c0), some (.int e0)]) (S' := [.int 0]) (w' := (sI w1 162 ((a0 - (1 : Int32)).toInt.toNat) e0)) rfl ?_
                    exact tm_r rfl ⟨_, rfl, hs⟩
                  · replace hs := hs.2 h11
                    refine tm_go 1 (pc' := 72) (L' := [some (.ref 147), some (.int a0), some (.int b0), some (.int c0), some (.int e0)]) (S' := [.int (-4)]) (w' := w1) rfl ?_
                    exact tm_r rfl ⟨_, rfl, hs⟩
                · replace hs := hs.2 h9
                  refine tm_go 1 (pc' := 58) (L' := [some (.ref 147), some (.int a0), some (.int b0), some (.int c0), some (.int e0)]) (S' := [.int (-3)]) (w' := w1) rfl ?_
                  exact tm_r rfl ⟨_, rfl, hs⟩
            · replace hs := hs.2 h7
              refine tm_go 1 (pc' := 41) (L' := [some (.ref 147), some (.int a0), some (.int b0), some (.int c0), some (.int e0)]) (S' := [.int (-2)]) (w' := w1) rfl ?_
              exact tm_r rfl ⟨_, rfl, hs⟩
  · replace hs := hs.2 h2
    refine tm_go 1 (pc' := 9) (L' := [some (.ref 147), some (.int a0), some (.int b0), some (.int c0), some (.int e0)]) (S' := [.int (-1)]) (w' := w1) rfl ?_
    exact tm_r rfl ⟨_, rfl, hs⟩
set_option maxHeartbeats 4000000 in
set_option maxRecDepth 100000 in
theorem dm_Mo_pass {d : Nat} {w : MW} {a0 : Int32} {b0 : Int32} {c0 : Int32} {e0 : Int32} {Q : Int32 → MW → Prop} (hs : p_Mo_pass w a0 b0 c0 e0 Q) : Tc (d + 2) 99 [.ref 127, .int a0, .int b0, .int c0, .int e0] w (RI Q) := by
  unfold p_Mo_pass at hs
  refine tm_go 6 (pc' := 9) (L' := [some (.ref 127), some (.int a0), some (.int b0), some (.int c0), some (.int e0)]) (S' := [.int e0, .int c0, .int b0, .int a0, .ref 147]) (w' := w) rfl ?_
  refine tm_c rfl (Nat.le_of_ble_eq_true rfl) (dm_Mr_pass (d := d + 0) hs) (fun v w1 hq => ?_)
  obtain ⟨r1, rfl, hs⟩ := hq
  exact tm_r rfl ⟨_, rfl, hs⟩
set_option maxHeartbeats 4000000 in
set_option maxRecDepth 100000 in
theorem dm_Mr_reset {d : Nat} {w : MW} {a0 : Int32} {Q : Int32 → MW → Prop} (hs : p_Mr_reset w a0 Q) : Tc (d + 402) 302 [.ref 147, .int a0] w (RZ Q) := by
  unfold p_Mr_reset at hs
  refine tm_go 2 (pc' := 2) (L' := [some (.ref 147), some (.int a0)]) (S' := [.int a0, .ref 147]) (w' := w) rfl ?_
  refine tm_c rfl (Nat.le_of_ble_eq_true rfl) (dm_Mr_isRow (d := d + 401) hs) (fun v w1 hq => ?_)
  obtain ⟨r1, rfl, hz1, hs⟩ := hq
  refine tm_i (p1 := 29) (p2 := 8) rfl (fun h2 => ?_) (fun h2 => ?_)
  · replace hs := hs.1 h2
    refine tm_go 1 (pc' := 30) (L' := [some (.ref 147), some (.int a0)]) (S' := [.int 0]) (w' := w1) rfl ?_
    exact tm_r rfl ⟨_, rfl, by decide, hs⟩
  · replace hs := hs.2 h2
    refine tm_go 5 (pc' := 15) (L' := [some (.ref 147), some (.int a0)]) (S' := [.int (a0 - (1 : Int32)), .ref 161]) (w' := w1) rfl ?_
    obtain ⟨b3, hs⟩ := hs
    refine tm_k (pc' := 16) (L' := [some (.ref 147), some (.int a0)]) (S' := [.int (w1.1 161 ((a0 - (1 : Int32)).toInt.toNat))]) (w' := w1) rfl b3 ?_
    refine tm_i (p1 := 29) (p2 := 19) rfl (fun h4 => ?_) (fun h4 => ?_)
    · replace hs := hs.1 h4
      refine tm_go 1 (pc' := 30) (L' := [some (.ref 147), some (.int a0)]) (S' := [.int 0]) (w' := w1) rfl ?_
      exact tm_r rfl ⟨_, rfl, by decide, hs⟩
    · replace hs := hs.2 h4
      refine tm_go 4 (pc' := 23) (L' := [some (.ref 147), some (.int a0)]) (S' := [.int (a0 - (1 : Int32)), .ref 147]) (w' := w1) rfl ?_
      refine tm_c rfl (Nat.le_of_ble_eq_true rfl) (dm_Mr_isOn (d := d + 0) hs) (fun v w5 hq => ?_)
      obtain ⟨r5, rfl, hz5, hs⟩ := hq
      refine tm_i (p1 := 31) (p2 := 29) rfl (fun h6 => ?_) (fun h6 => ?_)
      · replace hs := hs.1 h6
        refine tm_go 6 (pc' := 39) (L' := [some (.ref 147), some (.int a0)]) (S' := [.int 0, .int (a0 - (1 : Int32)), .ref 161]) (w' := w5) rfl ?_
        obtain ⟨b7, hs⟩ := hs
        refine tm_k (pc' := 40) (L' := [some (.ref 147), some (.int a0)]) (S' := []) (w' := (sI w5 161 ((a0 - (1 : Int32)).toInt.toNat) (vp_nar .boolean (0 : Int32)))) rfl b7 ?_
        refine tm_go 1 (pc' := 41) (L' := [some (.ref 147), some (.int a0)]) (S' := [.int 1]) (w' := (sI w5 161 ((a0 - (1 : Int32)).toInt.toNat) (vp_nar .boolean (0 : Int32)))) rfl ?_
        exact tm_r rfl ⟨_, rfl, by decide, hs⟩
      · replace hs := hs.2 h6
        refine tm_go 1 (pc' := 30) (L' := [some (.ref 147), some (.int a0)]) (S' := [.int 0]) (w' := w5) rfl ?_
        exact tm_r rfl ⟨_, rfl, by decide, hs⟩
set_option maxHeartbeats 4000000 in
set_option maxRecDepth 100000 in
theorem dm_Mo_reset {d : Nat} {w : MW} {a0 : Int32} {Q : Int32 → MW → Prop} (hs : p_Mo_reset w a0 Q) : Tc (d + 403) 100 [.ref 127, .int a0] w (RZ Q) := by
  unfold p_Mo_reset at hs
  refine tm_go 3 (pc' := 5) (L' := [some (.ref 127), some (.int a0)]) (S' := [.int a0, .ref 147]) (w' := w) rfl ?_
  refine tm_c rfl (Nat.le_of_ble_eq_true rfl) (dm_Mr_reset (d := d + 0) hs) (fun v w1 hq => ?_)
  obtain ⟨r1, rfl, hz1, hs⟩ := hq
  exact tm_rk rfl hz1 ⟨_, rfl, hz1, hs⟩
set_option maxHeartbeats 4000000 in
set_option maxRecDepth 100000 in
theorem dm_Mo_bars {d : Nat} {w : MW} {a0 : Int32} {Q : Int32 → MW → Prop} (hs : p_Mo_bars w a0 Q) : Tc (d + 403) 101 [.ref 127, .int a0] w (RI Q) := by
  unfold p_Mo_bars at hs
  refine tm_go 3 (pc' := 5) (L' := [some (.ref 127), some (.int a0)]) (S' := [.int a0, .ref 147]) (w' := w) rfl ?_
  refine tm_c rfl (Nat.le_of_ble_eq_true rfl) (dm_Mr_act1 (d := d + 0) hs) (fun v w1 hq => ?_)
  obtain ⟨r1, rfl, hs⟩ := hq
  exact tm_r rfl ⟨_, rfl, hs⟩
set_option maxHeartbeats 4000000 in
set_option maxRecDepth 100000 in
theorem dm_Mo_row {d : Nat} {w : MW} {a0 : Int32} {b0 : Int32} {Q : Int32 → MW → Prop} (hs : p_Mo_row w a0 b0 Q) : Tc (d + 402) 102 [.ref 127, .int a0, .int b0] w (RI Q) := by
  unfold p_Mo_row at hs
  refine tm_go 2 (pc' := 2) (L' := [some (.ref 127), some (.int a0), some (.int b0)]) (S' := [.int 1, .int a0]) (w' := w) rfl ?_
  refine tm_i (p1 := 25) (p2 := 5) rfl (fun h1 => ?_) (fun h1 => ?_)
  · replace hs := hs.1 h1
    refine tm_go 1 (pc' := 26) (L' := [some (.ref 127), some (.int a0), some (.int b0)]) (S' := [.int (-1)]) (w' := w) rfl ?_
    exact tm_r rfl ⟨_, rfl, hs⟩
  · replace hs := hs.2 h1
    refine tm_go 4 (pc' := 13) (L' := [some (.ref 127), some (.int a0), some (.int b0)]) (S' := [.int (w.1 147 20), .int a0]) (w' := w) rfl ?_
    refine tm_i (p1 := 25) (p2 := 16) rfl (fun h2 => ?_) (fun h2 => ?_)
    · replace hs := hs.1 h2
      refine tm_go 1 (pc' := 26) (L' := [some (.ref 127), some (.int a0), some (.int b0)]) (S' := [.int (-1)]) (w' := w) rfl ?_
      exact tm_r rfl ⟨_, rfl, hs⟩
    · replace hs := hs.2 h2
      refine tm_go 1 (pc' := 17) (L' := [some (.ref 127), some (.int a0), some (.int b0)]) (S' := [.int b0]) (w' := w) rfl ?_
      refine tm_i (p1 := 25) (p2 := 20) rfl (fun h3 => ?_) (fun h3 => ?_)
      · replace hs := hs.1 h3
        refine tm_go 1 (pc' := 26) (L' := [some (.ref 127), some (.int a0), some (.int b0)]) (S' := [.int (-1)]) (w' := w) rfl ?_
        exact tm_r rfl ⟨_, rfl, hs⟩
      · replace hs := hs.2 h3
        refine tm_go 2 (pc' := 22) (L' := [some (.ref 127), some (.int a0), some (.int b0)]) (S' := [.int 3, .int b0]) (w' := w) rfl ?_
        refine tm_i (p1 := 27) (p2 := 25) rfl (fun h4 => ?_) (fun h4 => ?_)
        · replace hs := hs.1 h4
          refine tm_go 1 (pc' := 28) (L' := [some (.ref 127), some (.int a0), some (.int b0)]) (S' := [.int b0]) (w' := w) rfl ?_
          refine tm_i (p1 := 45) (p2 := 31) rfl (fun h5 => ?_) (fun h5 => ?_)
          · replace hs := hs.1 h5
            refine tm_go 2 (pc' := 47) (L' := [some (.ref 127), some (.int a0), some (.int b0)]) (S' := [.int 1, .int b0]) (w' := w) rfl ?_
            refine tm_i (p1 := 72) (p2 := 50) rfl (fun h6 => ?_) (fun h6 => ?_)
            · replace hs := hs.1 h6
              refine tm_go 2 (pc' := 74) (L' := [some (.ref 127), some (.int a0), some (.int b0)]) (S' := [.int 2, .int b0]) (w' := w) rfl ?_
              refine tm_i (p1 := 91) (p2 := 77) rfl (fun h7 => ?_) (fun h7 => ?_)
              · replace hs := hs.1 h7
                refine tm_go 5 (pc' := 98) (L' := [some (.ref 127), some (.int a0), some (.int b0)]) (S' := [.int (a0 - (1 : Int32)), .ref 147]) (w' := w) rfl ?_
                refine tm_c rfl (Nat.le_of_ble_eq_true rfl) (dm_Mr_isOn (d := d + 0) hs) (fun v w8 hq => ?_)
                obtain ⟨r8, rfl, hz8, hs⟩ := hq
                refine tm_i (p1 := 108) (p2 := 104) rfl (fun h9 => ?_) (fun h9 => ?_)
                · replace hs := hs.1 h9
                  refine tm_go 1 (pc' := 109) (L' := [some (.ref 127), some (.int a0), some (.int b0)]) (S' := [.int 0]) (w' := w8) rfl ?_
                  exact tm_r rfl ⟨_, rfl, hs⟩
                · replace hs := hs.2 h9
                  refine tm_go 2 (pc' := 109) (L' := [some (.ref 127), some (.int a0), some (.int b0)]) (S' := [.int 1]) (w' := w8) rfl ?_
                  exact tm_r rfl ⟨_, rfl, hs⟩
              · replace hs := hs.2 h7
                refine tm_go 6 (pc' := 87) (L' := [some (.ref 127), some (.int a0), some (.int b0)]) (S' := [.int (a0 - (1 : Int32)), .ref 162]) (w' := w) rfl ?_
                obtain ⟨b10, hs⟩ := hs
                refine tm_k (pc' := 88) (L' := [some (.ref 127), some (.int a0), some (.int b0)]) (S' := [.int (w.1 162 ((a0 - (1 : Int32)).toInt.toNat))]) (w' := w) rfl b10 ?_
                refine tm_go 1 (pc' := 109) (L' := [some (.ref 127), some (.int a0), some (.int b0)]) (S' := [.int (w.1 162 ((a0 - (1 : Int32)).toInt.toNat))]) (w' := w) rfl ?_
                exact tm_r rfl ⟨_, rfl, hs⟩
            · replace hs := hs.2 h6
              refine tm_go 6 (pc' := 60) (L' := [some (.ref 127), some (.int a0), some (.int b0)]) (S' := [.int (a0 - (1 : Int32)), .ref 161]) (w' := w) rfl ?_
              obtain ⟨b11, hs⟩ := hs
              refine tm_k (pc' := 61) (L' := [some (.ref 127), some (.int a0), some (.int b0)]) (S' := [.int (w.1 161 ((a0 - (1 : Int32)).toInt.toNat))]) (w' := w) rfl b11 ?_
              refine tm_i (p1 := 68) (p2 := 64) rfl (fun h12 => ?_) (fun h12 => ?_)
              · replace hs := hs.1 h12
                refine tm_go 2 (pc' := 109) (L' := [some (.ref 127), some (.int a0), some (.int b0)]) (S' := [.int 0]) (w' := w) rfl ?_
                exact tm_r rfl ⟨_, rfl, hs⟩
              · replace hs := hs.2 h12
                refine tm_go 2 (pc' := 109) (L' := [some (.ref 127), some (.int a0), some (.int b0)]) (S' := [.int 1]) (w' := w) rfl ?_
                exact tm_r rfl ⟨_, rfl, hs⟩
          · replace hs := hs.2 h5
            refine tm_go 6 (pc' := 41) (L' := [some (.ref 127), some (.int a0), some (.int b0)]) (S' := [.int (a0 - (1 : Int32)), .ref 160]) (w' := w) rfl ?_
            obtain ⟨b13, hs⟩ := hs
            refine tm_k (pc' := 42) (L' := [some (.ref 127), some (.int a0), some (.int b0)]) (S' := [.int (w.1 160 ((a0 - (1 : Int32)).toInt.toNat))]) (w' := w) rfl b13 ?_
            refine tm_go 1 (pc' := 109) (L' := [some (.ref 127), some (.int a0), some (.int b0)]) (S' := [.int (w.1 160 ((a0 - (1 : Int32)).toInt.toNat))]) (w' := w) rfl ?_
            exact tm_r rfl ⟨_, rfl, hs⟩
        · replace hs := hs.2 h4
          refine tm_go 1 (pc' := 26) (L' := [some (.ref 127), some (.int a0), some (.int b0)]) (S' := [.int (-1)]) (w' := w) rfl ?_
          exact tm_r rfl ⟨_, rfl, hs⟩
set_option maxHeartbeats 4000000 in
set_option maxRecDepth 100000 in
theorem dm_Mo_hang {d : Nat} {w : MW} {a0 : Int32} {b0 : Int32} {c0 : Int32} {Q : Int32 → MW → Prop} (hs : p_Mo_hang w a0 b0 c0 Q) : Tc (d + 0) 106 [.ref 127, .int a0, .int b0, .int c0] w (RI Q) := by
  unfold p_Mo_hang at hs
  refine tm_go 2 (pc' := 2) (L' := [some (.ref 127), some (.int a0), some (.int b0), some (.int c0)]) (S' := [.int (-1), .int b0]) (w' := w) rfl ?_
  refine tm_i (p1 := 15) (p2 := 5) rfl (fun h1 => ?_) (fun h1 => ?_)
  · replace hs := hs.1 h1
    refine tm_go 4 (pc' := 21) (L' := [some (.ref 127), some (.int a0), some (.int b0), some (.int c0)]) (S' := [.int c0, .int b0, .ref 209]) (w' := w) rfl ?_
    obtain ⟨b2, hs⟩ := hs
    refine tm_k (pc' := 22) (L' := [some (.ref 127), some (.int a0), some (.int b0), some (.int c0)]) (S' := []) (w' := (sI w 209 b0.toInt.toNat c0)) rfl b2 ?_
    refine tm_go 1 (pc' := 23) (L' := [some (.ref 127), some (.int a0), some (.int b0), some (.int c0)]) (S' := [.int c0]) (w' := (sI w 209 b0.toInt.toNat c0)) rfl ?_
    exact tm_r rfl ⟨_, rfl, hs⟩
  · replace hs := hs.2 h1
    refine tm_go 4 (pc' := 11) (L' := [some (.ref 127), some (.int a0), some (.int b0), some (.int c0)]) (S' := [.int c0, .int a0, .ref 208]) (w' := w) rfl ?_
    obtain ⟨b3, hs⟩ := hs
    refine tm_k (pc' := 12) (L' := [some (.ref 127), some (.int a0), some (.int b0), some (.int c0)]) (S' := []) (w' := (sI w 208 a0.toInt.toNat c0)) rfl b3 ?_
    refine tm_go 2 (pc' := 23) (L' := [some (.ref 127), some (.int a0), some (.int b0), some (.int c0)]) (S' := [.int c0]) (w' := (sI w 208 a0.toInt.toNat c0)) rfl ?_
    exact tm_r rfl ⟨_, rfl, hs⟩
set_option maxHeartbeats 4000000 in
set_option maxRecDepth 100000 in
theorem dm_Tx_node1 {d : Nat} {w : MW} {a0 : Int32} {Q : Int32 → MW → Prop} (hs : p_Tx_node1 w a0 Q) : Tc (d + 0) 336 [.ref 129, .int a0] w (RI Q) := by
  unfold p_Tx_node1 at hs
  refine tm_go 6 (pc' := 10) (L' := [some (.ref 129), some (.int a0)]) (S' := [.int (((300 : Int32) * (w.1 129 12)) + a0)]) (w' := w) rfl ?_
  exact tm_r rfl ⟨_, rfl, hs⟩
set_option maxHeartbeats 4000000 in
set_option maxRecDepth 100000 in
theorem dm_Mo_kids {d : Nat} {w : MW} {a0 : Int32} {Q : Int32 → MW → Prop} (hs : p_Mo_kids w a0 Q) : Tc (d + 1) 104 [.ref 127, .int a0] w (RI Q) := by
  unfold p_Mo_kids at hs
  refine tm_go 6 (pc' := 12) (L' := [some (.ref 127), some (.int a0)]) (S' := [.int a0, .ref 129, .ref 136]) (w' := w) rfl ?_
  refine tm_c rfl (Nat.le_of_ble_eq_true rfl) (dm_Tx_node1 (d := d + 0) hs) (fun v w1 hq => ?_)
  obtain ⟨r1, rfl, hs⟩ := hq
  obtain ⟨b2, hs⟩ := hs
  refine tm_k (pc' := 16) (L' := [some (.ref 127), some (.int a0)]) (S' := [.int (w1.1 136 r1.toInt.toNat)]) (w' := w1) rfl b2 ?_
  exact tm_r rfl ⟨_, rfl, hs⟩
set_option maxHeartbeats 4000000 in
set_option maxRecDepth 100000 in
theorem dm_Tx_kid {d : Nat} {w : MW} {a0 : Int32} {b0 : Int32} {Q : Int32 → MW → Prop} (hs : p_Tx_kid w a0 b0 Q) : Tc (d + 1) 337 [.ref 129, .int a0, .int b0] w (RI Q) := by
  unfold p_Tx_kid at hs
  refine tm_go 10 (pc' := 18) (L' := [some (.ref 129), some (.int a0), some (.int b0)]) (S' := [.int a0, .ref 129, .ref 135, .int ((300 : Int32) * (w.1 129 12)), .ref 137]) (w' := w) rfl ?_
  refine tm_c rfl (Nat.le_of_ble_eq_true rfl) (dm_Tx_node1 (d := d + 0) hs) (fun v w1 hq => ?_)
  obtain ⟨r1, rfl, hs⟩ := hq
  obtain ⟨b2, hs⟩ := hs
  refine tm_k (pc' := 22) (L' := [some (.ref 129), some (.int a0), some (.int b0)]) (S' := [.int (w1.1 135 r1.toInt.toNat), .int ((300 : Int32) * (w.1 129 12)), .ref 137]) (w' := w1) rfl b2 ?_
  refine tm_go 3 (pc' := 25) (L' := [some (.ref 129), some (.int a0), some (.int b0)]) (S' := [.int ((((300 : Int32) * (w.1 129 12)) + (w1.1 135 r1.toInt.toNat)) + b0), .ref 137]) (w' := w1) rfl ?_
  obtain ⟨b3, hs⟩ := hs
  refine tm_k (pc' := 26) (L' := [some (.ref 129), some (.int a0), some (.int b0)]) (S' := [.int (w1.1 137 (((((300 : Int32) * (w.1 129 12)) + (w1.1 135 r1.toInt.toNat)) + b0).toInt.toNat))]) (w' := w1) rfl b3 ?_
  exact tm_r rfl ⟨_, rfl, hs⟩
set_option maxHeartbeats 4000000 in
set_option maxRecDepth 100000 in
theorem tx_Mo_lay_131 {d : Nat} {r_Mo_lay : MW → Int32 → (Int32 → MW → Prop) → Prop} (hr_Mo_lay : ∀ (w : MW) (a0 : Int32) (Q : Int32 → MW → Prop), r_Mo_lay w a0 Q → Tc (d + 1) 105 [.ref 127, .int a0] w (RI Q)) {x131_1 : Int32} {x131_2 : Int32} {E : MW → Prop} {Q : Int32 → MW → Prop} (n : Nat) : ∀ (x131_3 : Int32) (x131_4 : Int32)  (z5 : Option Value) (w : MW), q_Mo_lay_131 r_Mo_lay x131_1 x131_2 E Q n x131_3 x131_4 w → (∀  (v0 : Option Value) (v1 : Option Value) (v3 : Option Value) (v4 : Option Value) (v5 : Option Value) (w : MW), E  w → Tm (d + 2) 105 194 [v0, v1, some (.int x131_2), v3, v4, v5] [] w (RI Q)) → Tm (d + 2) 105 131 [some (.ref 127), some (.int x131_1), some (.int x131_2), some (.int x131_3), some (.int x131_4), z5] [] w (RI Q) := by
  induction n with
  | zero => intro x131_3 x131_4 z5 w hs; rw [q_Mo_lay_131.eq_1] at hs; exact hs.elim
  | succ n ih =>
    intro x131_3 x131_4 z5 w hs hE
    rw [q_Mo_lay_131.eq_2] at hs
    refine tm_go 3 (pc' := 135) (L' := [some (.ref 127), some (.int x131_1), some (.int x131_2), some (.int x131_3), some (.int x131_4), z5]) (S' := [.int x131_1, .ref 127, .int x131_4]) (w' := w) rfl ?_
    refine tm_c rfl (Nat.le_of_ble_eq_true rfl) (dm_Mo_kids (d := d + 0) hs) (fun v w8 hq => ?_)
    obtain ⟨r8, rfl, hs⟩ := hq
    refine tm_i (p1 := 194) (p2 := 141) rfl (fun h9 => ?_) (fun h9 => ?_)
    · replace hs := hs.1 h9
      exact hE _ _ _ _ _ _ hs
    · replace hs := hs.2 h9
      refine tm_go 4 (pc' := 148) (L' := [some (.ref 127), some (.int x131_1), some (.int x131_2), some (.int x131_3), some (.int x131_4), z5]) (S' := [.int x131_4, .int x131_1, .ref 129]) (w' := w8) rfl ?_
      refine tm_c rfl (Nat.le_of_ble_eq_true rfl) (dm_Tx_kid (d := d + 0) hs) (fun v w10 hq => ?_)
      obtain ⟨r10, rfl, hs⟩ := hq
      refine tm_go 7 (pc' := 166) (L' := [some (.ref 127), some (.int x131_1), some (.int x131_2), some (.int x131_3), some (.int x131_4), some (.int r10)]) (S' := [.int r10, .ref 129, .ref 131]) (w' := w10) rfl ?_
      refine tm_c rfl (Nat.le_of_ble_eq_true rfl) (dm_Tx_node1 (d := d + 1) hs) (fun v w11 hq => ?_)
      obtain ⟨r11, rfl, hs⟩ := hq
      obtain ⟨b12, hs⟩ := hs
      refine tm_k (pc' := 170) (L' := [some (.ref 127), some (.int x131_1), some (.int x131_2), some (.int x131_3), some (.int x131_4), some (.int r10)]) (S' := [.int (w11.1 131 r11.toInt.toNat)]) (w' := w11) rfl b12 ?_
      refine tm_go 1 (pc' := 172) (L' := [some (.ref 127), some (.int x131_1), some (.int x131_2), some (.int x131_3), some (.int x131_4), some (.int r10)]) (S' := [.int 10, .int (w11.1 131 r11.toInt.toNat)]) (w' := w11) rfl ?_
      refine tm_i (p1 := 188) (p2 := 175) rfl (fun h13 => ?_) (fun h13 => ?_)
      · replace hs := hs.1 h13
        refine tm_go 2 (pc' := 131) (L' := [some (.ref 127), some (.int x131_1), some (.int x131_2), some (.int x131_3), some (.int (x131_4 + (1 : Int32))), some (.int r10)]) (S' := []) (w' := w11) rfl ?_
        exact ih _ _ _ _ hs hE
      · replace hs := hs.2 h13
        refine tm_go 5 (pc' := 181) (L' := [some (.ref 127), some (.int x131_1), some (.int x131_2), some (.int x131_3), some (.int x131_4), some (.int r10)]) (S' := [.int r10, .ref 127, .int x131_3, .int x131_2, .ref 127]) (w' := w11) rfl ?_
        refine tm_c rfl (Nat.le_of_ble_eq_true rfl) (hr_Mo_lay _ _ _ hs) (fun v w14 hq => ?_)
        obtain ⟨r14, rfl, hs⟩ := hq
        refine tm_c rfl (Nat.le_of_ble_eq_true rfl) (dm_Mo_hang (d := d + 1) hs) (fun v w15 hq => ?_)
        obtain ⟨r15, rfl, hs⟩ := hq
        refine tm_go 3 (pc' := 131) (L' := [some (.ref 127), some (.int x131_1), some (.int x131_2), some (.int r15), some (.int (x131_4 + (1 : Int32))), some (.int r10)]) (S' := []) (w' := w15) rfl ?_
        exact ih _ _ _ _ hs hE
set_option maxHeartbeats 4000000 in
set_option maxRecDepth 100000 in
theorem dmb_Mo_lay {d : Nat} {r_Mo_lay : MW → Int32 → (Int32 → MW → Prop) → Prop} (hr_Mo_lay : ∀ (w : MW) (a0 : Int32) (Q : Int32 → MW → Prop), r_Mo_lay w a0 Q → Tc (d + 1) 105 [.ref 127, .int a0] w (RI Q)) {w : MW} {a0 : Int32} {Q : Int32 → MW → Prop} (hs : pb_Mo_lay r_Mo_lay w a0 Q) : Tc (d + 2) 105 [.ref 127, .int a0] w (RI Q) := by
  unfold pb_Mo_lay at hs
  refine tm_go 13 (pc' := 21) (L' := [some (.ref 127), some (.int a0), some (.int (w.1 127 60)), none, none, none]) (S' := [.int a0, .int (w.1 127 60), .ref 207]) (w' := (sI w 127 60 ((w.1 127 60) + (1 : Int32)))) rfl ?_
  obtain ⟨b1, hs⟩ := hs
  refine tm_k (pc' := 22) (L' := [some (.ref 127), some (.int a0), some (.int (w.1 127 60)), none, none, none]) (S' := []) (w' := (sI (sI w 127 60 ((w.1 127 60) + (1 : Int32))) 207 ((w.1 127 60).toInt.toNat) a0)) rfl b1 ?_
  refine tm_go 4 (pc' := 28) (L' := [some (.ref 127), some (.int a0), some (.int (w.1 127 60)), none, none, none]) (S' := [.int 0, .int (w.1 127 60), .ref 210]) (w' := (sI (sI w 127 60 ((w.1 127 60) + (1 : Int32))) 207 ((w.1 127 60).toInt.toNat) a0)) rfl ?_
  obtain ⟨b2, hs⟩ := hs
  refine tm_k (pc' := 29) (L' := [some (.ref 127), some (.int a0), some (.int (w.1 127 60)), none, none, none]) (S' := []) (w' := (sI (sI (sI w 127 60 ((w.1 127 60) + (1 : Int32))) 207 ((w.1 127 60).toInt.toNat) a0) 210 ((w.1 127 60).toInt.toNat) (vp_nar .boolean (0 : Int32)))) rfl b2 ?_
  refine tm_go 4 (pc' := 35) (L' := [some (.ref 127), some (.int a0), some (.int (w.1 127 60)), none, none, none]) (S' := [.int (-1), .int (w.1 127 60), .ref 208]) (w' := (sI (sI (sI w 127 60 ((w.1 127 60) + (1 : Int32))) 207 ((w.1 127 60).toInt.toNat) a0) 210 ((w.1 127 60).toInt.toNat) (vp_nar .boolean (0 : Int32)))) rfl ?_
  obtain ⟨b3, hs⟩ := hs
  refine tm_k (pc' := 36) (L' := [some (.ref 127), some (.int a0), some (.int (w.1 127 60)), none, none, none]) (S' := []) (w' := (sI (sI (sI (sI w 127 60 ((w.1 127 60) + (1 : Int32))) 207 ((w.1 127 60).toInt.toNat) a0) 210 ((w.1 127 60).toInt.toNat) (vp_nar .boolean (0 : Int32))) 208 ((w.1 127 60).toInt.toNat) (-1))) rfl b3 ?_
  refine tm_go 4 (pc' := 42) (L' := [some (.ref 127), some (.int a0), some (.int (w.1 127 60)), none, none, none]) (S' := [.int (-1), .int (w.1 127 60), .ref 209]) (w' := (sI (sI (sI (sI w 127 60 ((w.1 127 60) + (1 : Int32))) 207 ((w.1 127 60).toInt.toNat) a0) 210 ((w.1 127 60).toInt.toNat) (vp_nar .boolean (0 : Int32))) 208 ((w.1 127 60).toInt.toNat) (-1))) rfl ?_
  obtain ⟨b4, hs⟩ := hs
  refine tm_k (pc' := 43) (L' := [some (.ref 127), some (.int a0), some (.int (w.1 127 60)), none, none, none]) (S' := []) (w' := (sI (sI (sI (sI (sI w 127 60 ((w.1 127 60) + (1 : Int32))) 207 ((w.1 127 60).toInt.toNat) a0) 210 ((w.1 127 60).toInt.toNat) (vp_nar .boolean (0 : Int32))) 208 ((w.1 127 60).toInt.toNat) (-1)) 209 ((w.1 127 60).toInt.toNat) (-1))) rfl b4 ?_
  refine tm_go 6 (pc' := 55) (L' := [some (.ref 127), some (.int a0), some (.int (w.1 127 60)), none, none, none]) (S' := [.int a0, .ref 129, .ref 131]) (w' := (sI (sI (sI (sI (sI w 127 60 ((w.1 127 60) + (1 : Int32))) 207 ((w.1 127 60).toInt.toNat) a0) 210 ((w.1 127 60).toInt.toNat) (vp_nar .boolean (0 : Int32))) 208 ((w.1 127 60).toInt.toNat) (-1)) 209 ((w.1 127 60).toInt.toNat) (-1))) rfl ?_
  refine tm_c rfl (Nat.le_of_ble_eq_true rfl) (dm_Tx_node1 (d := d + 1) hs) (fun v w5 hq => ?_)
  obtain ⟨r5, rfl, hs⟩ := hq
  obtain ⟨b6, hs⟩ := hs
  refine tm_k (pc' := 59) (L' := [some (.ref 127), some (.int a0), some (.int (w.1 127 60)), none, none, none]) (S' := [.int (w5.1 131 r5.toInt.toNat)]) (w' := w5) rfl b6 ?_
  refine tm_go 1 (pc' := 61) (L' := [some (.ref 127), some (.int a0), some (.int (w.1 127 60)), none, none, none]) (S' := [.int 19, .int (w5.1 131 r5.toInt.toNat)]) (w' := w5) rfl ?_
  refine tm_i (p1 := 126) (p2 := 64) rfl (fun h7 => ?_) (fun h7 => ?_)
  · replace hs := hs.1 h7
    refine tm_go 4 (pc' := 131) (L' := [some (.ref 127), some (.int a0), some (.int (w.1 127 60)), some (.int (-1)), some (.int 0), none]) (S' := []) (w' := w5) rfl ?_
    refine tx_Mo_lay_131 hr_Mo_lay FU _ _ _ _ hs (fun  z16_0 z16_1 z16_3 z16_4 z16_5 w16 hs => ?_)
    refine tm_go 1 (pc' := 195) (L' := [z16_0, z16_1, some (.int (w.1 127 60)), z16_3, z16_4, z16_5]) (S' := [.int (w.1 127 60)]) (w' := w16) rfl ?_
    exact tm_r rfl ⟨_, rfl, hs⟩
  · replace hs := hs.2 h7
    refine tm_go 14 (pc' := 93) (L' := [some (.ref 127), some (.int a0), some (.int (w.1 127 60)), none, none, none]) (S' := [.int a0, .ref 129, .ref 132, .int ((40 : Int32) * (w5.1 129 12)), .ref 143]) (w' := w5) rfl ?_
    refine tm_c rfl (Nat.le_of_ble_eq_true rfl) (dm_Tx_node1 (d := d + 1) hs) (fun v w17 hq => ?_)
    obtain ⟨r17, rfl, hs⟩ := hq
    obtain ⟨b18, hs⟩ := hs
    refine tm_k (pc' := 97) (L' := [some (.ref 127), some (.int a0), some (.int (w.1 127 60)), none, none, none]) (S' := [.long (w17.2.1 132 r17.toInt.toNat), .int ((40 : Int32) * (w5.1 129 12)), .ref 143]) (w' := w17) rfl b18 ?_
    refine tm_go 2 (pc' := 99) (L' := [some (.ref 127), some (.int a0), some (.int (w.1 127 60)), none, none, none]) (S' := [.int (((40 : Int32) * (w5.1 129 12)) + (Int64.toInt32 (w17.2.1 132 r17.toInt.toNat))), .ref 143]) (w' := w17) rfl ?_
    obtain ⟨b19, hs⟩ := hs
    refine tm_k (pc' := 100) (L' := [some (.ref 127), some (.int a0), some (.int (w.1 127 60)), none, none, none]) (S' := [.int (w17.1 143 ((((40 : Int32) * (w5.1 129 12)) + (Int64.toInt32 (w17.2.1 132 r17.toInt.toNat))).toInt.toNat))]) (w' := w17) rfl b19 ?_
    refine tm_go 6 (pc' := 108) (L' := [some (.ref 127), some (.int a0), some (.int (w.1 127 60)), some (.int (w17.1 143 ((((40 : Int32) * (w5.1 129 12)) + (Int64.toInt32 (w17.2.1 132 r17.toInt.toNat))).toInt.toNat))), none, none]) (S' := [.int 0, .int (w17.1 143 ((((40 : Int32) * (w5.1 129 12)) + (Int64.toInt32 (w17.2.1 132 r17.toInt.toNat))).toInt.toNat)), .ref 129, .ref 127]) (w' := w17) rfl ?_
    refine tm_c rfl (Nat.le_of_ble_eq_true rfl) (dm_Tx_kid (d := d + 0) hs) (fun v w20 hq => ?_)
    obtain ⟨r20, rfl, hs⟩ := hq
    refine tm_c rfl (Nat.le_of_ble_eq_true rfl) (hr_Mo_lay _ _ _ hs) (fun v w21 hq => ?_)
    obtain ⟨r21, rfl, hs⟩ := hq
    refine tm_go 5 (pc' := 123) (L' := [some (.ref 127), some (.int a0), some (.int (w.1 127 60)), some (.int (w17.1 143 ((((40 : Int32) * (w5.1 129 12)) + (Int64.toInt32 (w17.2.1 132 r17.toInt.toNat))).toInt.toNat))), some (.int r21), none]) (S' := [.int r21, .int (w.1 127 60), .ref 208]) (w' := w21) rfl ?_
    obtain ⟨b22, hs⟩ := hs
    refine tm_k (pc' := 124) (L' := [some (.ref 127), some (.int a0), some (.int (w.1 127 60)), some (.int (w17.1 143 ((((40 : Int32) * (w5.1 129 12)) + (Int64.toInt32 (w17.2.1 132 r17.toInt.toNat))).toInt.toNat))), some (.int r21), none]) (S' := []) (w' := (sI w21 208 ((w.1 127 60).toInt.toNat) r21)) rfl b22 ?_
    refine tm_go 1 (pc' := 125) (L' := [some (.ref 127), some (.int a0), some (.int (w.1 127 60)), some (.int (w17.1 143 ((((40 : Int32) * (w5.1 129 12)) + (Int64.toInt32 (w17.2.1 132 r17.toInt.toNat))).toInt.toNat))), some (.int r21), none]) (S' := [.int (w.1 127 60)]) (w' := (sI w21 208 ((w.1 127 60).toInt.toNat) r21)) rfl ?_
    exact tm_r rfl ⟨_, rfl, hs⟩
theorem da_Mo_lay (n : Nat) : (∀ (w : MW) (a0 : Int32) (Q : Int32 → MW → Prop), pn_Mo_lay n w a0 Q → Tc (n + 1) 105 [.ref 127, .int a0] w (RI Q)) := by
  induction n with
  | zero => exact fun _ _ _ h => h.elim
  | succ n h0 =>
    skip
    exact fun _ _ _ h => (dmb_Mo_lay (d := n) h0 h).le (by omega)
theorem dm_Mo_lay {d : Nat} {w : MW} {a0 : Int32} {Q : Int32 → MW → Prop} (hs : p_Mo_lay w a0 Q) : Tc (d + 511) 105 [.ref 127, .int a0] w (RI Q) := ((da_Mo_lay 510) _ _ _ hs).le (by omega)
set_option maxHeartbeats 4000000 in
set_option maxRecDepth 100000 in
theorem tx_Mo_start_4 {d : Nat} {E : Int32 → MW → Prop} {Q : Int32 → MW → Prop} (n : Nat) : ∀ (x4_1 : Int32) (x4_2 : Int32)  (z3 : Option Value) (z4 : Option Value) (w : MW), q_Mo_start_4  E Q n x4_1 x4_2 w → (∀ (e4_1 : Int32)  (v2 : Option Value) (v3 : Option Value) (v4 : Option Value) (w : MW), E e4_1 w → Tm (d + 512) 107 72 [some (.ref 127), some (.int e4_1), v2, v3, v4] [] w (RZ Q)) → Tm (d + 512) 107 4 [some (.ref 127), some (.int x4_1), some (.int x4_2), z3, z4] [] w (RZ Q) := by
  induction n with
  | zero => intro x4_1 x4_2 z3 z4 w hs; rw [q_Mo_start_4.eq_1] at hs; exact hs.elim
  | succ n ih =>
    intro x4_1 x4_2 z3 z4 w hs hE
    rw [q_Mo_start_4.eq_2] at hs
    refine tm_go 4 (pc' := 12) (L' := [some (.ref 127), some (.int x4_1), some (.int x4_2), z3, z4]) (S' := [.int (w.1 129 31), .int x4_2]) (w' := w) rfl ?_
    refine tm_i (p1 := 72) (p2 := 15) rfl (fun h1 => ?_) (fun h1 => ?_)
    · replace hs := hs.1 h1
      exact hE _ _ _ _ _ hs
    · replace hs := hs.2 h1
      refine tm_go 1 (pc' := 16) (L' := [some (.ref 127), some (.int x4_1), some (.int x4_2), z3, z4]) (S' := [.int x4_1]) (w' := w) rfl ?_
      refine tm_i (p1 := 60) (p2 := 19) rfl (fun h2 => ?_) (fun h2 => ?_)
      · replace hs := hs.1 h2
        refine tm_go 5 (pc' := 4) (L' := [some (.ref 127), some (.int 1), some (.int (x4_2 + (1 : Int32))), z3, z4]) (S' := []) (w' := w) rfl ?_
        exact ih _ _ _ _ _ hs hE
      · replace hs := hs.2 h2
        refine tm_go 15 (pc' := 50) (L' := [some (.ref 127), some (.int x4_1), some (.int x4_2), z3, z4]) (S' := [.int (((300 : Int32) * (w.1 129 12)) + x4_2), .ref 138, .ref 129, .ref 131]) (w' := w) rfl ?_
        obtain ⟨b3, hs⟩ := hs
        refine tm_k (pc' := 51) (L' := [some (.ref 127), some (.int x4_1), some (.int x4_2), z3, z4]) (S' := [.int (w.1 138 ((((300 : Int32) * (w.1 129 12)) + x4_2).toInt.toNat)), .ref 129, .ref 131]) (w' := w) rfl b3 ?_
        refine tm_c rfl (Nat.le_of_ble_eq_true rfl) (dm_Tx_node1 (d := d + 511) hs) (fun v w4 hq => ?_)
        obtain ⟨r4, rfl, hs⟩ := hq
        obtain ⟨b5, hs⟩ := hs
        refine tm_k (pc' := 55) (L' := [some (.ref 127), some (.int x4_1), some (.int x4_2), z3, z4]) (S' := [.int (w4.1 131 r4.toInt.toNat)]) (w' := w4) rfl b5 ?_
        refine tm_go 1 (pc' := 57) (L' := [some (.ref 127), some (.int x4_1), some (.int x4_2), z3, z4]) (S' := [.int 24, .int (w4.1 131 r4.toInt.toNat)]) (w' := w4) rfl ?_
        refine tm_i (p1 := 64) (p2 := 60) rfl (fun h6 => ?_) (fun h6 => ?_)
        · replace hs := hs.1 h6
          refine tm_go 4 (pc' := 4) (L' := [some (.ref 127), some (.int 0), some (.int (x4_2 + (1 : Int32))), z3, z4]) (S' := []) (w' := w4) rfl ?_
          exact ih _ _ _ _ _ hs hE
        · replace hs := hs.2 h6
          refine tm_go 5 (pc' := 4) (L' := [some (.ref 127), some (.int 1), some (.int (x4_2 + (1 : Int32))), z3, z4]) (S' := []) (w' := w4) rfl ?_
          exact ih _ _ _ _ _ hs hE
set_option maxHeartbeats 4000000 in
set_option maxRecDepth 100000 in
theorem tx_Mo_start_134 {d : Nat} {E : MW → Prop} {Q : Int32 → MW → Prop} (n : Nat) : ∀ (x134_2 : Int32) (x134_3 : Int32)  (z1 : Option Value) (z4 : Option Value) (w : MW), q_Mo_start_134  E Q n x134_2 x134_3 w → (∀  (v1 : Option Value) (v2 : Option Value) (v3 : Option Value) (v4 : Option Value) (w : MW), E  w → Tm (d + 512) 107 209 [some (.ref 127), v1, v2, v3, v4] [] w (RZ Q)) → Tm (d + 512) 107 134 [some (.ref 127), z1, some (.int x134_2), some (.int x134_3), z4] [] w (RZ Q) := by
  induction n with
  | zero => intro x134_2 x134_3 z1 z4 w hs; rw [q_Mo_start_134.eq_1] at hs; exact hs.elim
  | succ n ih =>
    intro x134_2 x134_3 z1 z4 w hs hE
    rw [q_Mo_start_134.eq_2] at hs
    refine tm_go 4 (pc' := 142) (L' := [some (.ref 127), z1, some (.int x134_2), some (.int x134_3), z4]) (S' := [.int (w.1 129 31), .int x134_3]) (w' := w) rfl ?_
    refine tm_i (p1 := 209) (p2 := 145) rfl (fun h11 => ?_) (fun h11 => ?_)
    · replace hs := hs.1 h11
      exact hE _ _ _ _ _ hs
    · replace hs := hs.2 h11
      refine tm_go 10 (pc' := 165) (L' := [some (.ref 127), z1, some (.int x134_2), some (.int x134_3), z4]) (S' := [.int (((300 : Int32) * (w.1 129 12)) + x134_3), .ref 138]) (w' := w) rfl ?_
      obtain ⟨b12, hs⟩ := hs
      refine tm_k (pc' := 166) (L' := [some (.ref 127), z1, some (.int x134_2), some (.int x134_3), z4]) (S' := [.int (w.1 138 ((((300 : Int32) * (w.1 129 12)) + x134_3).toInt.toNat))]) (w' := w) rfl b12 ?_
      refine tm_go 7 (pc' := 181) (L' := [some (.ref 127), z1, some (.int x134_2), some (.int x134_3), some (.int (w.1 138 ((((300 : Int32) * (w.1 129 12)) + x134_3).toInt.toNat)))]) (S' := [.int (w.1 138 ((((300 : Int32) * (w.1 129 12)) + x134_3).toInt.toNat)), .ref 129, .ref 131]) (w' := w) rfl ?_
      refine tm_c rfl (Nat.le_of_ble_eq_true rfl) (dm_Tx_node1 (d := d + 511) hs) (fun v w13 hq => ?_)
      obtain ⟨r13, rfl, hs⟩ := hq
      obtain ⟨b14, hs⟩ := hs
      refine tm_k (pc' := 185) (L' := [some (.ref 127), z1, some (.int x134_2), some (.int x134_3), some (.int (w.1 138 ((((300 : Int32) * (w.1 129 12)) + x134_3).toInt.toNat)))]) (S' := [.int (w13.1 131 r13.toInt.toNat)]) (w' := w13) rfl b14 ?_
      refine tm_go 1 (pc' := 187) (L' := [some (.ref 127), z1, some (.int x134_2), some (.int x134_3), some (.int (w.1 138 ((((300 : Int32) * (w.1 129 12)) + x134_3).toInt.toNat)))]) (S' := [.int 24, .int (w13.1 131 r13.toInt.toNat)]) (w' := w13) rfl ?_
      refine tm_i (p1 := 203) (p2 := 190) rfl (fun h15 => ?_) (fun h15 => ?_)
      · replace hs := hs.1 h15
        refine tm_go 2 (pc' := 134) (L' := [some (.ref 127), z1, some (.int x134_2), some (.int (x134_3 + (1 : Int32))), some (.int (w.1 138 ((((300 : Int32) * (w.1 129 12)) + x134_3).toInt.toNat)))]) (S' := []) (w' := w13) rfl ?_
        exact ih _ _ _ _ _ hs hE
      · replace hs := hs.2 h15
        refine tm_go 5 (pc' := 196) (L' := [some (.ref 127), z1, some (.int x134_2), some (.int x134_3), some (.int (w.1 138 ((((300 : Int32) * (w.1 129 12)) + x134_3).toInt.toNat)))]) (S' := [.int (w.1 138 ((((300 : Int32) * (w.1 129 12)) + x134_3).toInt.toNat)), .ref 127, .int x134_2, .int 0, .ref 127]) (w' := w13) rfl ?_
        refine tm_c rfl (Nat.le_of_ble_eq_true rfl) (dm_Mo_lay (d := d + 0) hs) (fun v w16 hq => ?_)
        obtain ⟨r16, rfl, hs⟩ := hq
        refine tm_c rfl (Nat.le_of_ble_eq_true rfl) (dm_Mo_hang (d := d + 511) hs) (fun v w17 hq => ?_)
        obtain ⟨r17, rfl, hs⟩ := hq
        refine tm_go 3 (pc' := 134) (L' := [some (.ref 127), (ksl z1), some (.int r17), some (.int (x134_3 + (1 : Int32))), some (.int (w.1 138 ((((300 : Int32) * (w.1 129 12)) + x134_3).toInt.toNat)))]) (S' := []) (w' := w17) rfl ?_
        exact ih _ _ _ _ _ hs hE
set_option maxHeartbeats 4000000 in
set_option maxRecDepth 100000 in
theorem tx_Mo_start_264 {d : Nat} {y264_3 : Int32} {ys264_0 : Int32} {z1 : Option Value} {z2 : Option Value} {z4 : Option Value} {w : MW} {A : Int32 → MW → Prop} {E : MW → Prop} {Q : Int32 → MW → Prop} (hs : q_Mo_start_264 y264_3 ys264_0 w A E Q) (hA : ∀ (x223_3 : Int32)  (z1 : Option Value) (z2 : Option Value) (z4 : Option Value) (w : MW), A x223_3 w → Tm (d + 512) 107 223 [some (.ref 127), z1, z2, some (.int x223_3), z4] [] w (RZ Q)) (hE : ∀  (v1 : Option Value) (v2 : Option Value) (v3 : Option Value) (v4 : Option Value) (w : MW), E  w → Tm (d + 512) 107 293 [some (.ref 127), v1, v2, v3, v4] [] w (RZ Q)) : Tm (d + 512) 107 264 [some (.ref 127), z1, z2, some (.int y264_3), z4] [.int ys264_0] w (RZ Q) := by
  unfold q_Mo_start_264 at hs
  refine tm_go 5 (pc' := 273) (L' := [some (.ref 127), z1, z2, some (.int y264_3), some (.int ys264_0)]) (S' := [.int ys264_0, .int y264_3, .ref 206]) (w' := w) rfl ?_
  refine tm_i (p1 := 285) (p2 := 276) rfl (fun h22 => ?_) (fun h22 => ?_)
  · replace hs := hs.1 h22
    refine tm_go 1 (pc' := 286) (L' := [some (.ref 127), z1, z2, some (.int y264_3), some (.int ys264_0)]) (S' := [.long 0, .int y264_3, .ref 206]) (w' := w) rfl ?_
    obtain ⟨b23, hs⟩ := hs
    refine tm_k (pc' := 287) (L' := [some (.ref 127), z1, z2, some (.int y264_3), some (.int ys264_0)]) (S' := []) (w' := (sJ w 206 y264_3.toInt.toNat 0)) rfl b23 ?_
    refine tm_go 2 (pc' := 223) (L' := [some (.ref 127), z1, (ksl z2), some (.int (y264_3 + (1 : Int32))), some (.int ys264_0)]) (S' := []) (w' := (sJ w 206 y264_3.toInt.toNat 0)) rfl ?_
    exact hA _ _ _ _ _ hs
  · replace hs := hs.2 h22
    refine tm_go 3 (pc' := 281) (L' := [some (.ref 127), z1, z2, some (.int y264_3), some (.int ys264_0)]) (S' := [.int y264_3, .ref 206, .int y264_3, .ref 206]) (w' := w) rfl ?_
    obtain ⟨b24, hs⟩ := hs
    refine tm_k (pc' := 282) (L' := [some (.ref 127), z1, z2, some (.int y264_3), some (.int ys264_0)]) (S' := [.long (w.2.1 206 y264_3.toInt.toNat), .int y264_3, .ref 206]) (w' := w) rfl b24 ?_
    refine tm_go 1 (pc' := 286) (L' := [some (.ref 127), z1, z2, some (.int y264_3), some (.int ys264_0)]) (S' := [.long (w.2.1 206 y264_3.toInt.toNat), .int y264_3, .ref 206]) (w' := w) rfl ?_
    obtain ⟨b25, hs⟩ := hs
    refine tm_k (pc' := 287) (L' := [some (.ref 127), z1, z2, some (.int y264_3), some (.int ys264_0)]) (S' := []) (w' := (sJ w 206 y264_3.toInt.toNat (w.2.1 206 y264_3.toInt.toNat))) rfl b25 ?_
    refine tm_go 2 (pc' := 223) (L' := [some (.ref 127), z1, (ksl z2), some (.int (y264_3 + (1 : Int32))), some (.int ys264_0)]) (S' := []) (w' := (sJ w 206 y264_3.toInt.toNat (w.2.1 206 y264_3.toInt.toNat))) rfl ?_
    exact hA _ _ _ _ _ hs
set_option maxHeartbeats 4000000 in
set_option maxRecDepth 100000 in
theorem tx_Mo_start_223 {d : Nat} {E : MW → Prop} {Q : Int32 → MW → Prop} (n : Nat) : ∀ (x223_3 : Int32)  (z1 : Option Value) (z2 : Option Value) (z4 : Option Value) (w : MW), q_Mo_start_223  E Q n x223_3 w → (∀  (v1 : Option Value) (v2 : Option Value) (v3 : Option Value) (v4 : Option Value) (w : MW), E  w → Tm (d + 512) 107 293 [some (.ref 127), v1, v2, v3, v4] [] w (RZ Q)) → Tm (d + 512) 107 223 [some (.ref 127), z1, z2, some (.int x223_3), z4] [] w (RZ Q) := by
  induction n with
  | zero => intro x223_3 z1 z2 z4 w hs; rw [q_Mo_start_223.eq_1] at hs; exact hs.elim
  | succ n ih =>
    intro x223_3 z1 z2 z4 w hs hE
    rw [q_Mo_start_223.eq_2] at hs
    refine tm_go 2 (pc' := 226) (L' := [some (.ref 127), z1, z2, some (.int x223_3), z4]) (S' := [.int 40, .int x223_3]) (w' := w) rfl ?_
    refine tm_i (p1 := 293) (p2 := 229) rfl (fun h19 => ?_) (fun h19 => ?_)
    · replace hs := hs.1 h19
      exact hE _ _ _ _ _ hs
    · replace hs := hs.2 h19
      refine tm_go 3 (pc' := 233) (L' := [some (.ref 127), z1, z2, some (.int x223_3), z4]) (S' := [.int 30, .int x223_3, .ref 127]) (w' := w) rfl ?_
      refine tm_c rfl (Nat.le_of_ble_eq_true rfl) (dm_Mo_isRole (d := d + 511) hs) (fun v w20 hq => ?_)
      obtain ⟨r20, rfl, hz20, hs⟩ := hq
      refine tm_i (p1 := 263) (p2 := 239) rfl (fun h21 => ?_) (fun h21 => ?_)
      · replace hs := hs.1 h21
        refine tm_go 1 (pc' := 264) (L' := [some (.ref 127), z1, z2, some (.int x223_3), z4]) (S' := [.int 0]) (w' := w20) rfl ?_
        exact tx_Mo_start_264 hs (fun q0 q1 q2 q3 q4 hs => ih q0 q1 q2 q3 q4 hs hE) hE
      · replace hs := hs.2 h21
        refine tm_go 3 (pc' := 244) (L' := [some (.ref 127), z1, z2, some (.int x223_3), z4]) (S' := [.int x223_3, .ref 201]) (w' := w20) rfl ?_
        obtain ⟨b26, hs⟩ := hs
        refine tm_k (pc' := 245) (L' := [some (.ref 127), z1, z2, some (.int x223_3), z4]) (S' := [.int (w20.1 201 x223_3.toInt.toNat)]) (w' := w20) rfl b26 ?_
        refine tm_go 1 (pc' := 246) (L' := [some (.ref 127), z1, z2, some (.int x223_3), z4]) (S' := [.int (-1), .int (w20.1 201 x223_3.toInt.toNat)]) (w' := w20) rfl ?_
        refine tm_i (p1 := 263) (p2 := 249) rfl (fun h27 => ?_) (fun h27 => ?_)
        · replace hs := hs.1 h27
          refine tm_go 1 (pc' := 264) (L' := [some (.ref 127), z1, z2, some (.int x223_3), z4]) (S' := [.int 0]) (w' := w20) rfl ?_
          exact tx_Mo_start_264 hs (fun q0 q1 q2 q3 q4 hs => ih q0 q1 q2 q3 q4 hs hE) hE
        · replace hs := hs.2 h27
          refine tm_go 3 (pc' := 254) (L' := [some (.ref 127), z1, z2, some (.int x223_3), z4]) (S' := [.int x223_3, .ref 201]) (w' := w20) rfl ?_
          obtain ⟨b28, hs⟩ := hs
          refine tm_k (pc' := 255) (L' := [some (.ref 127), z1, z2, some (.int x223_3), z4]) (S' := [.int (w20.1 201 x223_3.toInt.toNat)]) (w' := w20) rfl b28 ?_
          refine tm_go 1 (pc' := 256) (L' := [some (.ref 127), z1, z2, some (.int x223_3), z4]) (S' := [.int 5, .int (w20.1 201 x223_3.toInt.toNat)]) (w' := w20) rfl ?_
          refine tm_i (p1 := 263) (p2 := 259) rfl (fun h29 => ?_) (fun h29 => ?_)
          · replace hs := hs.1 h29
            refine tm_go 1 (pc' := 264) (L' := [some (.ref 127), z1, z2, some (.int x223_3), z4]) (S' := [.int 0]) (w' := w20) rfl ?_
            exact tx_Mo_start_264 hs (fun q0 q1 q2 q3 q4 hs => ih q0 q1 q2 q3 q4 hs hE) hE
          · replace hs := hs.2 h29
            refine tm_go 2 (pc' := 264) (L' := [some (.ref 127), z1, z2, some (.int x223_3), z4]) (S' := [.int 1]) (w' := w20) rfl ?_
            exact tx_Mo_start_264 hs (fun q0 q1 q2 q3 q4 hs => ih q0 q1 q2 q3 q4 hs hE) hE
set_option maxHeartbeats 4000000 in
set_option maxRecDepth 100000 in
theorem tx_Mo_start_97 {d : Nat} {z1 : Option Value} {z2 : Option Value} {z3 : Option Value} {z4 : Option Value} {w : MW} {Q : Int32 → MW → Prop} (hs : q_Mo_start_97  w Q) : Tm (d + 512) 107 97 [some (.ref 127), z1, z2, z3, z4] [] w (RZ Q) := by
  unfold q_Mo_start_97 at hs
  refine tm_go 27 (pc' := 134) (L' := [some (.ref 127), (ksl z1), some (.int (-1)), some (.int 0), z4]) (S' := []) (w' := (sI (sI (sI (sI (sI w 127 60 1) 207 0 (-1)) 210 0 (vp_nar .boolean (1 : Int32))) 208 0 (-1)) 209 0 (-1))) rfl ?_
  refine tx_Mo_start_134 FU _ _ _ _ _ hs (fun  z18_1 z18_2 z18_3 z18_4 w18 hs => ?_)
  refine tm_go 10 (pc' := 223) (L' := [some (.ref 127), z18_1, (ksl z18_2), some (.int 0), z18_4]) (S' := []) (w' := (sI w18 213 0 (w18.1 208 0))) rfl ?_
  refine tx_Mo_start_223 FU _ _ _ _ _ hs (fun  z30_1 z30_2 z30_3 z30_4 w30 hs => ?_)
  refine tm_go 10 (pc' := 309) (L' := [some (.ref 127), z30_1, z30_2, z30_3, z30_4]) (S' := [.int 1]) (w' := (sI (sI (sI w30 127 59 0) 127 74 0) 127 79 0)) rfl ?_
  exact tm_r rfl ⟨_, rfl, by decide, hs⟩
set_option maxHeartbeats 4000000 in
set_option maxRecDepth 100000 in
theorem dm_Mo_start {d : Nat} {w : MW} {Q : Int32 → MW → Prop} (hs : p_Mo_start w Q) : Tc (d + 512) 107 [.ref 127] w (RZ Q) := by
  unfold p_Mo_start at hs
  refine tm_go 4 (pc' := 4) (L' := [some (.ref 127), some (.int 0), some (.int 0), none, none]) (S' := []) (w' := w) rfl ?_
  refine tx_Mo_start_4 FU _ _ _ _ _ hs (fun e4_1_7 z7_2 z7_3 z7_4 w7 hs => ?_)
  refine tm_go 1 (pc' := 73) (L' := [some (.ref 127), some (.int e4_1_7), z7_2, z7_3, z7_4]) (S' := [.int e4_1_7]) (w' := w7) rfl ?_
  refine tm_i (p1 := 78) (p2 := 76) rfl (fun h8 => ?_) (fun h8 => ?_)
  · replace hs := hs.1 h8
    refine tm_go 2 (pc' := 82) (L' := [some (.ref 127), some (.int e4_1_7), z7_2, z7_3, z7_4]) (S' := [.int (w7.1 127 59)]) (w' := w7) rfl ?_
    refine tm_i (p1 := 93) (p2 := 85) rfl (fun h9 => ?_) (fun h9 => ?_)
    · replace hs := hs.1 h9
      refine tm_go 1 (pc' := 94) (L' := [some (.ref 127), some (.int e4_1_7), z7_2, z7_3, z7_4]) (S' := [.ref 127]) (w' := w7) rfl ?_
      refine tm_c rfl (Nat.le_of_ble_eq_true rfl) (dm_Mo_closeAll (d := d + 509) hs) (fun v w10 hq => ?_)
      obtain ⟨rfl, hs⟩ := hq
      exact tx_Mo_start_97 hs 
    · replace hs := hs.2 h9
      refine tm_go 3 (pc' := 90) (L' := [some (.ref 127), some (.int e4_1_7), z7_2, z7_3, z7_4]) (S' := [.int 2, .int (w7.1 127 59)]) (w' := w7) rfl ?_
      refine tm_i (p1 := 97) (p2 := 93) rfl (fun h31 => ?_) (fun h31 => ?_)
      · replace hs := hs.1 h31
        exact tx_Mo_start_97 hs 
      · replace hs := hs.2 h31
        refine tm_go 1 (pc' := 94) (L' := [some (.ref 127), some (.int e4_1_7), z7_2, z7_3, z7_4]) (S' := [.ref 127]) (w' := w7) rfl ?_
        refine tm_c rfl (Nat.le_of_ble_eq_true rfl) (dm_Mo_closeAll (d := d + 509) hs) (fun v w32 hq => ?_)
        obtain ⟨rfl, hs⟩ := hq
        exact tx_Mo_start_97 hs 
  · replace hs := hs.2 h8
    refine tm_go 1 (pc' := 77) (L' := [some (.ref 127), some (.int e4_1_7), z7_2, z7_3, z7_4]) (S' := [.int 0]) (w' := w7) rfl ?_
    exact tm_r rfl ⟨_, rfl, by decide, hs⟩
set_option maxHeartbeats 4000000 in
set_option maxRecDepth 100000 in
theorem dm_Mo_come {d : Nat} {w : MW} {a0 : Int32} {b0 : Int32} {Q : MW → Prop} (hs : p_Mo_come w a0 b0 Q) : Tc (d + 0) 80 [.ref 127, .int a0, .int b0] w (RV Q) := by
  unfold p_Mo_come at hs
  refine tm_go 6 (pc' := 10) (L' := [some (.ref 127), some (.int a0), some (.int b0)]) (S' := [.int a0, .ref 165, .int a0, .ref 166]) (w' := w) rfl ?_
  obtain ⟨b1, hs⟩ := hs
  refine tm_k (pc' := 11) (L' := [some (.ref 127), some (.int a0), some (.int b0)]) (S' := [.int (w.1 165 a0.toInt.toNat), .int a0, .ref 166]) (w' := w) rfl b1 ?_
  refine tm_i (p1 := 24) (p2 := 14) rfl (fun h2 => ?_) (fun h2 => ?_)
  · replace hs := hs.1 h2
    refine tm_go 2 (pc' := 30) (L' := [some (.ref 127), some (.int a0), some (.int b0)]) (S' := [.int b0, .int a0, .ref 166]) (w' := w) rfl ?_
    obtain ⟨b3, hs⟩ := hs
    refine tm_k (pc' := 31) (L' := [some (.ref 127), some (.int a0), some (.int b0)]) (S' := []) (w' := (sI w 166 a0.toInt.toNat b0)) rfl b3 ?_
    refine tm_go 4 (pc' := 37) (L' := [some (.ref 127), some (.int a0), some (.int b0)]) (S' := [.int a0, .ref 165, .int a0, .ref 165]) (w' := (sI w 166 a0.toInt.toNat b0)) rfl ?_
    obtain ⟨b4, hs⟩ := hs
    refine tm_k (pc' := 38) (L' := [some (.ref 127), some (.int a0), some (.int b0)]) (S' := [.int (w.1 165 a0.toInt.toNat), .int a0, .ref 165]) (w' := (sI w 166 a0.toInt.toNat b0)) rfl b4 ?_
    refine tm_go 2 (pc' := 40) (L' := [some (.ref 127), some (.int a0), some (.int b0)]) (S' := [.int ((w.1 165 a0.toInt.toNat) + (1 : Int32)), .int a0, .ref 165]) (w' := (sI w 166 a0.toInt.toNat b0)) rfl ?_
    obtain ⟨b5, hs⟩ := hs
    refine tm_k (pc' := 41) (L' := [some (.ref 127), some (.int a0), some (.int b0)]) (S' := []) (w' := (sI (sI w 166 a0.toInt.toNat b0) 165 a0.toInt.toNat ((w.1 165 a0.toInt.toNat) + (1 : Int32)))) rfl b5 ?_
    exact tm_r rfl ⟨rfl, hs⟩
  · replace hs := hs.2 h2
    refine tm_go 3 (pc' := 19) (L' := [some (.ref 127), some (.int a0), some (.int b0)]) (S' := [.int a0, .ref 166, .int a0, .ref 166]) (w' := w) rfl ?_
    obtain ⟨b6, hs⟩ := hs
    refine tm_k (pc' := 20) (L' := [some (.ref 127), some (.int a0), some (.int b0)]) (S' := [.int (w.1 166 a0.toInt.toNat), .int a0, .ref 166]) (w' := w) rfl b6 ?_
    refine tm_go 1 (pc' := 21) (L' := [some (.ref 127), some (.int a0), some (.int b0)]) (S' := [.int b0, .int (w.1 166 a0.toInt.toNat), .int a0, .ref 166]) (w' := w) rfl ?_
    refine tm_i (p1 := 28) (p2 := 24) rfl (fun h7 => ?_) (fun h7 => ?_)
    · replace hs := hs.1 h7
      refine tm_go 1 (pc' := 30) (L' := [some (.ref 127), some (.int a0), some (.int b0)]) (S' := [.int 15, .int a0, .ref 166]) (w' := w) rfl ?_
      obtain ⟨b8, hs⟩ := hs
      refine tm_k (pc' := 31) (L' := [some (.ref 127), some (.int a0), some (.int b0)]) (S' := []) (w' := (sI w 166 a0.toInt.toNat 15)) rfl b8 ?_
      refine tm_go 4 (pc' := 37) (L' := [some (.ref 127), some (.int a0), some (.int b0)]) (S' := [.int a0, .ref 165, .int a0, .ref 165]) (w' := (sI w 166 a0.toInt.toNat 15)) rfl ?_
      obtain ⟨b9, hs⟩ := hs
      refine tm_k (pc' := 38) (L' := [some (.ref 127), some (.int a0), some (.int b0)]) (S' := [.int (w.1 165 a0.toInt.toNat), .int a0, .ref 165]) (w' := (sI w 166 a0.toInt.toNat 15)) rfl b9 ?_
      refine tm_go 2 (pc' := 40) (L' := [some (.ref 127), some (.int a0), some (.int b0)]) (S' := [.int ((w.1 165 a0.toInt.toNat) + (1 : Int32)), .int a0, .ref 165]) (w' := (sI w 166 a0.toInt.toNat 15)) rfl ?_
      obtain ⟨b10, hs⟩ := hs
      refine tm_k (pc' := 41) (L' := [some (.ref 127), some (.int a0), some (.int b0)]) (S' := []) (w' := (sI (sI w 166 a0.toInt.toNat 15) 165 a0.toInt.toNat ((w.1 165 a0.toInt.toNat) + (1 : Int32)))) rfl b10 ?_
      exact tm_r rfl ⟨rfl, hs⟩
    · replace hs := hs.2 h7
      refine tm_go 2 (pc' := 30) (L' := [some (.ref 127), some (.int a0), some (.int b0)]) (S' := [.int b0, .int a0, .ref 166]) (w' := w) rfl ?_
      obtain ⟨b11, hs⟩ := hs
      refine tm_k (pc' := 31) (L' := [some (.ref 127), some (.int a0), some (.int b0)]) (S' := []) (w' := (sI w 166 a0.toInt.toNat b0)) rfl b11 ?_
      refine tm_go 4 (pc' := 37) (L' := [some (.ref 127), some (.int a0), some (.int b0)]) (S' := [.int a0, .ref 165, .int a0, .ref 165]) (w' := (sI w 166 a0.toInt.toNat b0)) rfl ?_
      obtain ⟨b12, hs⟩ := hs
      refine tm_k (pc' := 38) (L' := [some (.ref 127), some (.int a0), some (.int b0)]) (S' := [.int (w.1 165 a0.toInt.toNat), .int a0, .ref 165]) (w' := (sI w 166 a0.toInt.toNat b0)) rfl b12 ?_
      refine tm_go 2 (pc' := 40) (L' := [some (.ref 127), some (.int a0), some (.int b0)]) (S' := [.int ((w.1 165 a0.toInt.toNat) + (1 : Int32)), .int a0, .ref 165]) (w' := (sI w 166 a0.toInt.toNat b0)) rfl ?_
      obtain ⟨b13, hs⟩ := hs
      refine tm_k (pc' := 41) (L' := [some (.ref 127), some (.int a0), some (.int b0)]) (S' := []) (w' := (sI (sI w 166 a0.toInt.toNat b0) 165 a0.toInt.toNat ((w.1 165 a0.toInt.toNat) + (1 : Int32)))) rfl b13 ?_
      exact tm_r rfl ⟨rfl, hs⟩
set_option maxHeartbeats 4000000 in
set_option maxRecDepth 100000 in
theorem tx_Mo_flow_54 {d : Nat} {x54_1 : Int32} {x54_2 : Int32} {x54_3 : Int32} {x54_5 : Int32} {x54_6 : Int32} {x54_7 : Int32} {E : Int32 → MW → Prop} {Q : MW → Prop} (n : Nat) : ∀ (x54_4 : Int32) (x54_8 : Int32)  (z9 : Option Value) (z10 : Option Value) (z11 : Option Value) (z12 : Option Value) (z13 : Option Value) (w : MW), q_Mo_flow_54 x54_1 x54_2 x54_3 x54_5 x54_6 x54_7 E Q n x54_4 x54_8 w → (∀ (e54_4 : Int32)  (v6 : Option Value) (v7 : Option Value) (v8 : Option Value) (v9 : Option Value) (v10 : Option Value) (v11 : Option Value) (v12 : Option Value) (v13 : Option Value) (w : MW), E e54_4 w → Tm (d + 3) 81 118 [some (.ref 127), some (.int x54_1), some (.int x54_2), some (.int x54_3), some (.int e54_4), some (.int x54_5), v6, v7, v8, v9, v10, v11, v12, v13] [] w (RV Q)) → Tm (d + 3) 81 54 [some (.ref 127), some (.int x54_1), some (.int x54_2), some (.int x54_3), some (.int x54_4), some (.int x54_5), some (.int x54_6), some (.int x54_7), some (.int x54_8), z9, z10, z11, z12, z13] [] w (RV Q) := by
  induction n with
  | zero => intro x54_4 x54_8 z9 z10 z11 z12 z13 w hs; rw [q_Mo_flow_54.eq_1] at hs; exact hs.elim
  | succ n ih =>
    intro x54_4 x54_8 z9 z10 z11 z12 z13 w hs hE
    rw [q_Mo_flow_54.eq_2] at hs
    refine tm_go 4 (pc' := 62) (L' := [some (.ref 127), some (.int x54_1), some (.int x54_2), some (.int x54_3), some (.int x54_4), some (.int x54_5), some (.int x54_6), some (.int x54_7), some (.int x54_8), z9, z10, z11, z12, z13]) (S' := [.int x54_7, .ref 169, .int x54_8]) (w' := w) rfl ?_
    obtain ⟨b6, hs⟩ := hs
    refine tm_k (pc' := 63) (L' := [some (.ref 127), some (.int x54_1), some (.int x54_2), some (.int x54_3), some (.int x54_4), some (.int x54_5), some (.int x54_6), some (.int x54_7), some (.int x54_8), z9, z10, z11, z12, z13]) (S' := [.int (w.1 169 x54_7.toInt.toNat), .int x54_8]) (w' := w) rfl b6 ?_
    refine tm_i (p1 := 118) (p2 := 66) rfl (fun h7 => ?_) (fun h7 => ?_)
    · replace hs := hs.1 h7
      exact hE _ _ _ _ _ _ _ _ _ _ hs
    · replace hs := hs.2 h7
      refine tm_go 11 (pc' := 86) (L' := [some (.ref 127), some (.int x54_1), some (.int x54_2), some (.int x54_3), some (.int x54_4), some (.int x54_5), some (.int x54_6), some (.int x54_7), some (.int x54_8), z9, z10, z11, z12, z13]) (S' := [.int (x54_6 - x54_6 / (2 : Int32) * (2 : Int32)), .int ((200 : Int32) * x54_7), .ref 172, .int x54_4, .ref 193]) (w' := w) rfl ?_
      refine tm_i (p1 := 94) (p2 := 89) rfl (fun h8 => ?_) (fun h8 => ?_)
      · replace hs := hs.1 h8
        refine tm_go 3 (pc' := 100) (L' := [some (.ref 127), some (.int x54_1), some (.int x54_2), some (.int x54_3), some (.int x54_4), some (.int x54_5), some (.int x54_6), some (.int x54_7), some (.int x54_8), z9, z10, z11, z12, z13]) (S' := [.int x54_7, .ref 169, .int ((200 : Int32) * x54_7), .ref 172, .int x54_4, .ref 193]) (w' := w) rfl ?_
        obtain ⟨b9, hs⟩ := hs
        refine tm_k (pc' := 101) (L' := [some (.ref 127), some (.int x54_1), some (.int x54_2), some (.int x54_3), some (.int x54_4), some (.int x54_5), some (.int x54_6), some (.int x54_7), some (.int x54_8), z9, z10, z11, z12, z13]) (S' := [.int (w.1 169 x54_7.toInt.toNat), .int ((200 : Int32) * x54_7), .ref 172, .int x54_4, .ref 193]) (w' := w) rfl b9 ?_
        refine tm_go 5 (pc' := 107) (L' := [some (.ref 127), some (.int x54_1), some (.int x54_2), some (.int x54_3), some (.int x54_4), some (.int x54_5), some (.int x54_6), some (.int x54_7), some (.int x54_8), z9, z10, z11, z12, z13]) (S' := [.int (((200 : Int32) * x54_7) + (((w.1 169 x54_7.toInt.toNat) - (1 : Int32)) - x54_8)), .ref 172, .int x54_4, .ref 193]) (w' := w) rfl ?_
        obtain ⟨b10, hs⟩ := hs
        refine tm_k (pc' := 108) (L' := [some (.ref 127), some (.int x54_1), some (.int x54_2), some (.int x54_3), some (.int x54_4), some (.int x54_5), some (.int x54_6), some (.int x54_7), some (.int x54_8), z9, z10, z11, z12, z13]) (S' := [.int (w.1 172 ((((200 : Int32) * x54_7) + (((w.1 169 x54_7.toInt.toNat) - (1 : Int32)) - x54_8)).toInt.toNat)), .int x54_4, .ref 193]) (w' := w) rfl b10 ?_
        obtain ⟨b11, hs⟩ := hs
        refine tm_k (pc' := 109) (L' := [some (.ref 127), some (.int x54_1), some (.int x54_2), some (.int x54_3), some (.int x54_4), some (.int x54_5), some (.int x54_6), some (.int x54_7), some (.int x54_8), z9, z10, z11, z12, z13]) (S' := []) (w' := (sI w 193 x54_4.toInt.toNat (vp_nar .byte (w.1 172 ((((200 : Int32) * x54_7) + (((w.1 169 x54_7.toInt.toNat) - (1 : Int32)) - x54_8)).toInt.toNat))))) rfl b11 ?_
        refine tm_go 3 (pc' := 54) (L' := [some (.ref 127), some (.int x54_1), some (.int x54_2), some (.int x54_3), some (.int (x54_4 + (1 : Int32))), some (.int x54_5), some (.int x54_6), some (.int x54_7), some (.int (x54_8 + (1 : Int32))), z9, z10, z11, z12, z13]) (S' := []) (w' := (sI w 193 x54_4.toInt.toNat (vp_nar .byte (w.1 172 ((((200 : Int32) * x54_7) + (((w.1 169 x54_7.toInt.toNat) - (1 : Int32)) - x54_8)).toInt.toNat))))) rfl ?_
        exact ih _ _ _ _ _ _ _ _ hs hE
      · replace hs := hs.2 h8
        refine tm_go 3 (pc' := 107) (L' := [some (.ref 127), some (.int x54_1), some (.int x54_2), some (.int x54_3), some (.int x54_4), some (.int x54_5), some (.int x54_6), some (.int x54_7), some (.int x54_8), z9, z10, z11, z12, z13]) (S' := [.int (((200 : Int32) * x54_7) + x54_8), .ref 172, .int x54_4, .ref 193]) (w' := w) rfl ?_
        obtain ⟨b12, hs⟩ := hs
        refine tm_k (pc' := 108) (L' := [some (.ref 127), some (.int x54_1), some (.int x54_2), some (.int x54_3), some (.int x54_4), some (.int x54_5), some (.int x54_6), some (.int x54_7), some (.int x54_8), z9, z10, z11, z12, z13]) (S' := [.int (w.1 172 ((((200 : Int32) * x54_7) + x54_8).toInt.toNat)), .int x54_4, .ref 193]) (w' := w) rfl b12 ?_
        obtain ⟨b13, hs⟩ := hs
        refine tm_k (pc' := 109) (L' := [some (.ref 127), some (.int x54_1), some (.int x54_2), some (.int x54_3), some (.int x54_4), some (.int x54_5), some (.int x54_6), some (.int x54_7), some (.int x54_8), z9, z10, z11, z12, z13]) (S' := []) (w' := (sI w 193 x54_4.toInt.toNat (vp_nar .byte (w.1 172 ((((200 : Int32) * x54_7) + x54_8).toInt.toNat))))) rfl b13 ?_
        refine tm_go 3 (pc' := 54) (L' := [some (.ref 127), some (.int x54_1), some (.int x54_2), some (.int x54_3), some (.int (x54_4 + (1 : Int32))), some (.int x54_5), some (.int x54_6), some (.int x54_7), some (.int (x54_8 + (1 : Int32))), z9, z10, z11, z12, z13]) (S' := []) (w' := (sI w 193 x54_4.toInt.toNat (vp_nar .byte (w.1 172 ((((200 : Int32) * x54_7) + x54_8).toInt.toNat))))) rfl ?_
        exact ih _ _ _ _ _ _ _ _ hs hE
set_option maxHeartbeats 4000000 in
set_option maxRecDepth 100000 in
theorem tx_Mo_flow_20 {d : Nat} {x20_1 : Int32} {x20_2 : Int32} {x20_3 : Int32} {E : Int32 → MW → Prop} {Q : MW → Prop} (n : Nat) : ∀ (x20_4 : Int32) (x20_5 : Int32)  (z6 : Option Value) (z7 : Option Value) (z8 : Option Value) (z9 : Option Value) (z10 : Option Value) (z11 : Option Value) (z12 : Option Value) (z13 : Option Value) (w : MW), q_Mo_flow_20 x20_1 x20_2 x20_3 E Q n x20_4 x20_5 w → (∀ (e20_4 : Int32)  (v5 : Option Value) (v6 : Option Value) (v7 : Option Value) (v8 : Option Value) (v9 : Option Value) (v10 : Option Value) (v11 : Option Value) (v12 : Option Value) (v13 : Option Value) (w : MW), E e20_4 w → Tm (d + 3) 81 124 [some (.ref 127), some (.int x20_1), some (.int x20_2), some (.int x20_3), some (.int e20_4), v5, v6, v7, v8, v9, v10, v11, v12, v13] [] w (RV Q)) → Tm (d + 3) 81 20 [some (.ref 127), some (.int x20_1), some (.int x20_2), some (.int x20_3), some (.int x20_4), some (.int x20_5), z6, z7, z8, z9, z10, z11, z12, z13] [] w (RV Q) := by
  induction n with
  | zero => intro x20_4 x20_5 z6 z7 z8 z9 z10 z11 z12 z13 w hs; rw [q_Mo_flow_20.eq_1] at hs; exact hs.elim
  | succ n ih =>
    intro x20_4 x20_5 z6 z7 z8 z9 z10 z11 z12 z13 w hs hE
    rw [q_Mo_flow_20.eq_2] at hs
    refine tm_go 4 (pc' := 27) (L' := [some (.ref 127), some (.int x20_1), some (.int x20_2), some (.int x20_3), some (.int x20_4), some (.int x20_5), z6, z7, z8, z9, z10, z11, z12, z13]) (S' := [.int x20_1, .ref 185, .int x20_5]) (w' := w) rfl ?_
    obtain ⟨b3, hs⟩ := hs
    refine tm_k (pc' := 28) (L' := [some (.ref 127), some (.int x20_1), some (.int x20_2), some (.int x20_3), some (.int x20_4), some (.int x20_5), z6, z7, z8, z9, z10, z11, z12, z13]) (S' := [.int (w.1 185 x20_1.toInt.toNat), .int x20_5]) (w' := w) rfl b3 ?_
    refine tm_i (p1 := 124) (p2 := 31) rfl (fun h4 => ?_) (fun h4 => ?_)
    · replace hs := hs.1 h4
      exact hE _ _ _ _ _ _ _ _ _ _ _ hs
    · replace hs := hs.2 h4
      refine tm_go 7 (pc' := 42) (L' := [some (.ref 127), some (.int x20_1), some (.int x20_2), some (.int x20_3), some (.int x20_4), some (.int x20_5), z6, z7, z8, z9, z10, z11, z12, z13]) (S' := [.int (((24 : Int32) * x20_1) + x20_5), .ref 186]) (w' := w) rfl ?_
      obtain ⟨b5, hs⟩ := hs
      refine tm_k (pc' := 43) (L' := [some (.ref 127), some (.int x20_1), some (.int x20_2), some (.int x20_3), some (.int x20_4), some (.int x20_5), z6, z7, z8, z9, z10, z11, z12, z13]) (S' := [.int (w.1 186 ((((24 : Int32) * x20_1) + x20_5).toInt.toNat))]) (w' := w) rfl b5 ?_
      refine tm_go 7 (pc' := 54) (L' := [some (.ref 127), some (.int x20_1), some (.int x20_2), some (.int x20_3), some (.int x20_4), some (.int x20_5), some (.int (w.1 186 ((((24 : Int32) * x20_1) + x20_5).toInt.toNat))), some (.int ((w.1 186 ((((24 : Int32) * x20_1) + x20_5).toInt.toNat)) / (2 : Int32))), some (.int 0), z9, z10, z11, z12, z13]) (S' := []) (w' := w) rfl ?_
      refine tx_Mo_flow_54 FU _ _ _ _ _ _ _ _ hs (fun e54_4_14 z14_6 z14_7 z14_8 z14_9 z14_10 z14_11 z14_12 z14_13 w14 hs => ?_)
      refine tm_go 2 (pc' := 20) (L' := [some (.ref 127), some (.int x20_1), some (.int x20_2), some (.int x20_3), some (.int e54_4_14), some (.int (x20_5 + (1 : Int32))), z14_6, z14_7, z14_8, z14_9, z14_10, z14_11, z14_12, z14_13]) (S' := []) (w' := w14) rfl ?_
      exact ih _ _ _ _ _ _ _ _ _ _ _ hs hE
set_option maxHeartbeats 4000000 in
set_option maxRecDepth 100000 in
theorem tx_Mo_flow_235 {d : Nat} {x130_1 : Int32} {x130_2 : Int32} {x130_3 : Int32} {x130_4 : Int32} {y235_5 : Int32} {y235_7 : Int32} {ys235_0 : Int32} {z6 : Option Value} {z8 : Option Value} {z9 : Option Value} {z10 : Option Value} {z11 : Option Value} {z12 : Option Value} {z13 : Option Value} {w : MW} {A : Int32 → Int32 → MW → Prop} {E : Int32 → MW → Prop} {Q : MW → Prop} (hs : q_Mo_flow_235 x130_1 x130_2 x130_3 x130_4 y235_5 y235_7 ys235_0 w A E Q) (hA : ∀ (x130_5 : Int32) (x130_6 : Int32)  (z7 : Option Value) (z8 : Option Value) (z9 : Option Value) (z10 : Option Value) (z11 : Option Value) (z12 : Option Value) (z13 : Option Value) (w : MW), A x130_5 x130_6 w → Tm (d + 3) 81 130 [some (.ref 127), some (.int x130_1), some (.int x130_2), some (.int x130_3), some (.int x130_4), some (.int x130_5), some (.int x130_6), z7, z8, z9, z10, z11, z12, z13] [] w (RV Q)) (hE : ∀ (e130_5 : Int32)  (v2 : Option Value) (v3 : Option Value) (v4 : Option Value) (v6 : Option Value) (v7 : Option Value) (v8 : Option Value) (v9 : Option Value) (v10 : Option Value) (v11 : Option Value) (v12 : Option Value) (v13 : Option Value) (w : MW), E e130_5 w → Tm (d + 3) 81 275 [some (.ref 127), some (.int x130_1), v2, v3, v4, some (.int e130_5), v6, v7, v8, v9, v10, v11, v12, v13] [] w (RV Q)) : Tm (d + 3) 81 235 [some (.ref 127), some (.int x130_1), some (.int x130_2), some (.int x130_3), some (.int x130_4), some (.int y235_5), z6, some (.int y235_7), z8, z9, z10, z11, z12, z13] [.int ys235_0] w (RV Q) := by
  unfold q_Mo_flow_235 at hs
  refine tm_go 2 (pc' := 239) (L' := [some (.ref 127), some (.int x130_1), some (.int x130_2), some (.int x130_3), some (.int x130_4), some (.int y235_5), some (.int ys235_0), some (.int y235_7), z8, z9, z10, z11, z12, z13]) (S' := [.int ys235_0]) (w' := w) rfl ?_
  refine tm_i (p1 := 272) (p2 := 242) rfl (fun h23 => ?_) (fun h23 => ?_)
  · replace hs := hs.1 h23
    refine tm_go 1 (pc' := 130) (L' := [some (.ref 127), some (.int x130_1), some (.int x130_2), some (.int x130_3), some (.int x130_4), some (.int y235_5), some (.int ys235_0), some (.int y235_7), z8, z9, z10, z11, z12, z13]) (S' := []) (w' := w) rfl ?_
    exact hA _ _ _ _ _ _ _ _ _ _ hs
  · replace hs := hs.2 h23
    refine tm_go 4 (pc' := 248) (L' := [some (.ref 127), some (.int x130_1), some (.int x130_2), some (.int x130_3), some (.int x130_4), some (.int y235_5), some (.int ys235_0), some (.int y235_7), z8, z9, z10, z11, z12, z13]) (S' := [.int x130_2, .ref 165, .int x130_2, .ref 165]) (w' := w) rfl ?_
    obtain ⟨b24, hs⟩ := hs
    refine tm_k (pc' := 249) (L' := [some (.ref 127), some (.int x130_1), some (.int x130_2), some (.int x130_3), some (.int x130_4), some (.int y235_5), some (.int ys235_0), some (.int y235_7), z8, z9, z10, z11, z12, z13]) (S' := [.int (w.1 165 x130_2.toInt.toNat), .int x130_2, .ref 165]) (w' := w) rfl b24 ?_
    refine tm_go 2 (pc' := 251) (L' := [some (.ref 127), some (.int x130_1), some (.int x130_2), some (.int x130_3), some (.int x130_4), some (.int y235_5), some (.int ys235_0), some (.int y235_7), z8, z9, z10, z11, z12, z13]) (S' := [.int ((w.1 165 x130_2.toInt.toNat) - (1 : Int32)), .int x130_2, .ref 165]) (w' := w) rfl ?_
    obtain ⟨b25, hs⟩ := hs
    refine tm_k (pc' := 252) (L' := [some (.ref 127), some (.int x130_1), some (.int x130_2), some (.int x130_3), some (.int x130_4), some (.int y235_5), some (.int ys235_0), some (.int y235_7), z8, z9, z10, z11, z12, z13]) (S' := []) (w' := (sI w 165 x130_2.toInt.toNat ((w.1 165 x130_2.toInt.toNat) - (1 : Int32)))) rfl b25 ?_
    refine tm_go 1 (pc' := 254) (L' := [some (.ref 127), some (.int x130_1), some (.int x130_2), some (.int x130_3), some (.int x130_4), some (.int y235_5), some (.int ys235_0), some (.int y235_7), z8, z9, z10, z11, z12, z13]) (S' := [.int y235_7]) (w' := (sI w 165 x130_2.toInt.toNat ((w.1 165 x130_2.toInt.toNat) - (1 : Int32)))) rfl ?_
    refine tm_i (p1 := 269) (p2 := 257) rfl (fun h26 => ?_) (fun h26 => ?_)
    · replace hs := hs.1 h26
      refine tm_go 2 (pc' := 130) (L' := [some (.ref 127), some (.int x130_1), some (.int x130_2), some (.int x130_3), some (.int x130_4), some (.int (y235_5 + (1 : Int32))), some (.int ys235_0), some (.int y235_7), z8, z9, z10, z11, z12, z13]) (S' := []) (w' := (sI w 165 x130_2.toInt.toNat ((w.1 165 x130_2.toInt.toNat) - (1 : Int32)))) rfl ?_
      exact hA _ _ _ _ _ _ _ _ _ _ hs
    · replace hs := hs.2 h26
      refine tm_go 3 (pc' := 261) (L' := [some (.ref 127), some (.int x130_1), some (.int x130_2), some (.int x130_3), some (.int x130_4), some (.int y235_5), some (.int ys235_0), some (.int y235_7), z8, z9, z10, z11, z12, z13]) (S' := [.int y235_7, .int x130_3, .ref 127]) (w' := (sI w 165 x130_2.toInt.toNat ((w.1 165 x130_2.toInt.toNat) - (1 : Int32)))) rfl ?_
      refine tm_c rfl (Nat.le_of_ble_eq_true rfl) (dm_Mo_come (d := d + 2) hs) (fun v w27 hq => ?_)
      obtain ⟨rfl, hs⟩ := hq
      refine tm_go 2 (pc' := 266) (L' := [some (.ref 127), some (.int x130_1), some (.int x130_2), some (.int x130_3), some (.int x130_4), some (.int y235_5), some (.int ys235_0), some (.int y235_7), z8, z9, z10, z11, z12, z13]) (S' := [.int x130_3, .ref 127]) (w' := w27) rfl ?_
      refine tm_c rfl (Nat.le_of_ble_eq_true rfl) (dm_Mo_note (d := d + 1) hs) (fun v w28 hq => ?_)
      obtain ⟨rfl, hs⟩ := hq
      refine tm_go 2 (pc' := 130) (L' := [some (.ref 127), some (.int x130_1), some (.int x130_2), some (.int x130_3), some (.int x130_4), some (.int (y235_5 + (1 : Int32))), some (.int ys235_0), some (.int y235_7), z8, z9, z10, z11, z12, z13]) (S' := []) (w' := w28) rfl ?_
      exact hA _ _ _ _ _ _ _ _ _ _ hs
set_option maxHeartbeats 4000000 in
set_option maxRecDepth 100000 in
theorem tx_Mo_flow_174 {d : Nat} {x130_1 : Int32} {x130_2 : Int32} {x130_3 : Int32} {x130_4 : Int32} {y174_5 : Int32} {ys174_0 : Int32} {z6 : Option Value} {z7 : Option Value} {z8 : Option Value} {z9 : Option Value} {z10 : Option Value} {z11 : Option Value} {z12 : Option Value} {z13 : Option Value} {w : MW} {A : Int32 → Int32 → MW → Prop} {E : Int32 → MW → Prop} {Q : MW → Prop} (hs : q_Mo_flow_174 x130_1 x130_2 x130_3 x130_4 y174_5 ys174_0 w A E Q) (hA : ∀ (x130_5 : Int32) (x130_6 : Int32)  (z7 : Option Value) (z8 : Option Value) (z9 : Option Value) (z10 : Option Value) (z11 : Option Value) (z12 : Option Value) (z13 : Option Value) (w : MW), A x130_5 x130_6 w → Tm (d + 3) 81 130 [some (.ref 127), some (.int x130_1), some (.int x130_2), some (.int x130_3), some (.int x130_4), some (.int x130_5), some (.int x130_6), z7, z8, z9, z10, z11, z12, z13] [] w (RV Q)) (hE : ∀ (e130_5 : Int32)  (v2 : Option Value) (v3 : Option Value) (v4 : Option Value) (v6 : Option Value) (v7 : Option Value) (v8 : Option Value) (v9 : Option Value) (v10 : Option Value) (v11 : Option Value) (v12 : Option Value) (v13 : Option Value) (w : MW), E e130_5 w → Tm (d + 3) 81 275 [some (.ref 127), some (.int x130_1), v2, v3, v4, some (.int e130_5), v6, v7, v8, v9, v10, v11, v12, v13] [] w (RV Q)) : Tm (d + 3) 81 174 [some (.ref 127), some (.int x130_1), some (.int x130_2), some (.int x130_3), some (.int x130_4), some (.int y174_5), z6, z7, z8, z9, z10, z11, z12, z13] [.int ys174_0] w (RV Q) := by
  unfold q_Mo_flow_174 at hs
  refine tm_go 4 (pc' := 181) (L' := [some (.ref 127), some (.int x130_1), some (.int x130_2), some (.int x130_3), some (.int x130_4), some (.int y174_5), (ksl z6), some (.int ys174_0), z8, z9, z10, z11, z12, z13]) (S' := [.int x130_2, .ref 165]) (w' := w) rfl ?_
  obtain ⟨b21, hs⟩ := hs
  refine tm_k (pc' := 182) (L' := [some (.ref 127), some (.int x130_1), some (.int x130_2), some (.int x130_3), some (.int x130_4), some (.int y174_5), (ksl z6), some (.int ys174_0), z8, z9, z10, z11, z12, z13]) (S' := [.int (w.1 165 x130_2.toInt.toNat)]) (w' := w) rfl b21 ?_
  refine tm_i (p1 := 234) (p2 := 185) rfl (fun h22 => ?_) (fun h22 => ?_)
  · replace hs := hs.1 h22
    refine tm_go 1 (pc' := 235) (L' := [some (.ref 127), some (.int x130_1), some (.int x130_2), some (.int x130_3), some (.int x130_4), some (.int y174_5), (ksl z6), some (.int ys174_0), z8, z9, z10, z11, z12, z13]) (S' := [.int 0]) (w' := w) rfl ?_
    exact tx_Mo_flow_235 hs hA hE
  · replace hs := hs.2 h22
    refine tm_go 3 (pc' := 190) (L' := [some (.ref 127), some (.int x130_1), some (.int x130_2), some (.int x130_3), some (.int x130_4), some (.int y174_5), (ksl z6), some (.int ys174_0), z8, z9, z10, z11, z12, z13]) (S' := [.int x130_2, .ref 166]) (w' := w) rfl ?_
    obtain ⟨b29, hs⟩ := hs
    refine tm_k (pc' := 191) (L' := [some (.ref 127), some (.int x130_1), some (.int x130_2), some (.int x130_3), some (.int x130_4), some (.int y174_5), (ksl z6), some (.int ys174_0), z8, z9, z10, z11, z12, z13]) (S' := [.int (w.1 166 x130_2.toInt.toNat)]) (w' := w) rfl b29 ?_
    refine tm_go 3 (pc' := 196) (L' := [some (.ref 127), some (.int x130_1), some (.int x130_2), some (.int x130_3), some (.int x130_4), some (.int y174_5), (ksl z6), some (.int ys174_0), z8, z9, z10, z11, z12, z13]) (S' := [.int x130_1, .ref 183, .int (w.1 166 x130_2.toInt.toNat)]) (w' := w) rfl ?_
    obtain ⟨b30, hs⟩ := hs
    refine tm_k (pc' := 197) (L' := [some (.ref 127), some (.int x130_1), some (.int x130_2), some (.int x130_3), some (.int x130_4), some (.int y174_5), (ksl z6), some (.int ys174_0), z8, z9, z10, z11, z12, z13]) (S' := [.int (w.1 183 x130_1.toInt.toNat), .int (w.1 166 x130_2.toInt.toNat)]) (w' := w) rfl b30 ?_
    refine tm_i (p1 := 234) (p2 := 200) rfl (fun h31 => ?_) (fun h31 => ?_)
    · replace hs := hs.1 h31
      refine tm_go 1 (pc' := 235) (L' := [some (.ref 127), some (.int x130_1), some (.int x130_2), some (.int x130_3), some (.int x130_4), some (.int y174_5), (ksl z6), some (.int ys174_0), z8, z9, z10, z11, z12, z13]) (S' := [.int 0]) (w' := w) rfl ?_
      exact tx_Mo_flow_235 hs hA hE
    · replace hs := hs.2 h31
      refine tm_go 1 (pc' := 202) (L' := [some (.ref 127), some (.int x130_1), some (.int x130_2), some (.int x130_3), some (.int x130_4), some (.int y174_5), (ksl z6), some (.int ys174_0), z8, z9, z10, z11, z12, z13]) (S' := [.int ys174_0]) (w' := w) rfl ?_
      refine tm_i (p1 := 230) (p2 := 205) rfl (fun h32 => ?_) (fun h32 => ?_)
      · replace hs := hs.1 h32
        refine tm_go 2 (pc' := 235) (L' := [some (.ref 127), some (.int x130_1), some (.int x130_2), some (.int x130_3), some (.int x130_4), some (.int y174_5), (ksl z6), some (.int ys174_0), z8, z9, z10, z11, z12, z13]) (S' := [.int 1]) (w' := w) rfl ?_
        exact tx_Mo_flow_235 hs hA hE
      · replace hs := hs.2 h32
        refine tm_go 3 (pc' := 210) (L' := [some (.ref 127), some (.int x130_1), some (.int x130_2), some (.int x130_3), some (.int x130_4), some (.int y174_5), (ksl z6), some (.int ys174_0), z8, z9, z10, z11, z12, z13]) (S' := [.int x130_3, .ref 165]) (w' := w) rfl ?_
        obtain ⟨b33, hs⟩ := hs
        refine tm_k (pc' := 211) (L' := [some (.ref 127), some (.int x130_1), some (.int x130_2), some (.int x130_3), some (.int x130_4), some (.int y174_5), (ksl z6), some (.int ys174_0), z8, z9, z10, z11, z12, z13]) (S' := [.int (w.1 165 x130_3.toInt.toNat)]) (w' := w) rfl b33 ?_
        refine tm_go 3 (pc' := 216) (L' := [some (.ref 127), some (.int x130_1), some (.int x130_2), some (.int x130_3), some (.int x130_4), some (.int y174_5), (ksl z6), some (.int ys174_0), z8, z9, z10, z11, z12, z13]) (S' := [.int x130_3, .ref 164, .int (w.1 165 x130_3.toInt.toNat)]) (w' := w) rfl ?_
        obtain ⟨b34, hs⟩ := hs
        refine tm_k (pc' := 217) (L' := [some (.ref 127), some (.int x130_1), some (.int x130_2), some (.int x130_3), some (.int x130_4), some (.int y174_5), (ksl z6), some (.int ys174_0), z8, z9, z10, z11, z12, z13]) (S' := [.int (w.1 164 x130_3.toInt.toNat), .int (w.1 165 x130_3.toInt.toNat)]) (w' := w) rfl b34 ?_
        refine tm_i (p1 := 234) (p2 := 220) rfl (fun h35 => ?_) (fun h35 => ?_)
        · replace hs := hs.1 h35
          refine tm_go 1 (pc' := 235) (L' := [some (.ref 127), some (.int x130_1), some (.int x130_2), some (.int x130_3), some (.int x130_4), some (.int y174_5), (ksl z6), some (.int ys174_0), z8, z9, z10, z11, z12, z13]) (S' := [.int 0]) (w' := w) rfl ?_
          exact tx_Mo_flow_235 hs hA hE
        · replace hs := hs.2 h35
          refine tm_go 3 (pc' := 224) (L' := [some (.ref 127), some (.int x130_1), some (.int x130_2), some (.int x130_3), some (.int x130_4), some (.int y174_5), (ksl z6), some (.int ys174_0), z8, z9, z10, z11, z12, z13]) (S' := [.int x130_3, .int ys174_0, .ref 127]) (w' := w) rfl ?_
          refine tm_c rfl (Nat.le_of_ble_eq_true rfl) (dm_Mo_mayCome (d := d + 0) hs) (fun v w36 hq => ?_)
          obtain ⟨r36, rfl, hz36, hs⟩ := hq
          refine tm_i (p1 := 234) (p2 := 230) rfl (fun h37 => ?_) (fun h37 => ?_)
          · replace hs := hs.1 h37
            refine tm_go 1 (pc' := 235) (L' := [some (.ref 127), some (.int x130_1), some (.int x130_2), some (.int x130_3), some (.int x130_4), some (.int y174_5), (ksl z6), some (.int ys174_0), z8, z9, z10, z11, z12, z13]) (S' := [.int 0]) (w' := w36) rfl ?_
            exact tx_Mo_flow_235 hs hA hE
          · replace hs := hs.2 h37
            refine tm_go 2 (pc' := 235) (L' := [some (.ref 127), some (.int x130_1), some (.int x130_2), some (.int x130_3), some (.int x130_4), some (.int y174_5), (ksl z6), some (.int ys174_0), z8, z9, z10, z11, z12, z13]) (S' := [.int 1]) (w' := w36) rfl ?_
            exact tx_Mo_flow_235 hs hA hE
set_option maxHeartbeats 4000000 in
set_option maxRecDepth 100000 in
theorem tx_Mo_flow_130 {d : Nat} {x130_1 : Int32} {x130_2 : Int32} {x130_3 : Int32} {x130_4 : Int32} {E : Int32 → MW → Prop} {Q : MW → Prop} (n : Nat) : ∀ (x130_5 : Int32) (x130_6 : Int32)  (z7 : Option Value) (z8 : Option Value) (z9 : Option Value) (z10 : Option Value) (z11 : Option Value) (z12 : Option Value) (z13 : Option Value) (w : MW), q_Mo_flow_130 x130_1 x130_2 x130_3 x130_4 E Q n x130_5 x130_6 w → (∀ (e130_5 : Int32)  (v2 : Option Value) (v3 : Option Value) (v4 : Option Value) (v6 : Option Value) (v7 : Option Value) (v8 : Option Value) (v9 : Option Value) (v10 : Option Value) (v11 : Option Value) (v12 : Option Value) (v13 : Option Value) (w : MW), E e130_5 w → Tm (d + 3) 81 275 [some (.ref 127), some (.int x130_1), v2, v3, v4, some (.int e130_5), v6, v7, v8, v9, v10, v11, v12, v13] [] w (RV Q)) → Tm (d + 3) 81 130 [some (.ref 127), some (.int x130_1), some (.int x130_2), some (.int x130_3), some (.int x130_4), some (.int x130_5), some (.int x130_6), z7, z8, z9, z10, z11, z12, z13] [] w (RV Q) := by
  induction n with
  | zero => intro x130_5 x130_6 z7 z8 z9 z10 z11 z12 z13 w hs; rw [q_Mo_flow_130.eq_1] at hs; exact hs.elim
  | succ n ih =>
    intro x130_5 x130_6 z7 z8 z9 z10 z11 z12 z13 w hs hE
    rw [q_Mo_flow_130.eq_2] at hs
    refine tm_go 1 (pc' := 132) (L' := [some (.ref 127), some (.int x130_1), some (.int x130_2), some (.int x130_3), some (.int x130_4), some (.int x130_5), some (.int x130_6), z7, z8, z9, z10, z11, z12, z13]) (S' := [.int x130_6]) (w' := w) rfl ?_
    refine tm_i (p1 := 275) (p2 := 135) rfl (fun h16 => ?_) (fun h16 => ?_)
    · replace hs := hs.1 h16
      exact hE _ _ _ _ _ _ _ _ _ _ _ _ _ hs
    · replace hs := hs.2 h16
      refine tm_go 4 (pc' := 142) (L' := [some (.ref 127), some (.int x130_1), some (.int x130_2), some (.int x130_3), some (.int x130_4), some (.int x130_5), some (.int x130_6), z7, z8, z9, z10, z11, z12, z13]) (S' := [.int x130_1, .ref 184, .int x130_5]) (w' := w) rfl ?_
      obtain ⟨b17, hs⟩ := hs
      refine tm_k (pc' := 143) (L' := [some (.ref 127), some (.int x130_1), some (.int x130_2), some (.int x130_3), some (.int x130_4), some (.int x130_5), some (.int x130_6), z7, z8, z9, z10, z11, z12, z13]) (S' := [.int (w.1 184 x130_1.toInt.toNat), .int x130_5]) (w' := w) rfl b17 ?_
      refine tm_i (p1 := 275) (p2 := 146) rfl (fun h18 => ?_) (fun h18 => ?_)
      · replace hs := hs.1 h18
        exact hE _ _ _ _ _ _ _ _ _ _ _ _ _ hs
      · replace hs := hs.2 h18
        refine tm_go 2 (pc' := 150) (L' := [some (.ref 127), some (.int x130_1), some (.int x130_2), some (.int x130_3), some (.int x130_4), some (.int x130_5), some (.int x130_6), z7, z8, z9, z10, z11, z12, z13]) (S' := [.int x130_4, .int x130_5]) (w' := w) rfl ?_
        refine tm_i (p1 := 168) (p2 := 153) rfl (fun h19 => ?_) (fun h19 => ?_)
        · replace hs := hs.1 h19
          refine tm_go 3 (pc' := 173) (L' := [some (.ref 127), some (.int x130_1), some (.int x130_2), some (.int x130_3), some (.int x130_4), some (.int x130_5), some (.int x130_6), z7, z8, z9, z10, z11, z12, z13]) (S' := [.int x130_1, .ref 183]) (w' := w) rfl ?_
          obtain ⟨b20, hs⟩ := hs
          refine tm_k (pc' := 174) (L' := [some (.ref 127), some (.int x130_1), some (.int x130_2), some (.int x130_3), some (.int x130_4), some (.int x130_5), some (.int x130_6), z7, z8, z9, z10, z11, z12, z13]) (S' := [.int (w.1 183 x130_1.toInt.toNat)]) (w' := w) rfl b20 ?_
          exact tx_Mo_flow_174 hs (fun q0 q1 q2 q3 q4 q5 q6 q7 q8 q9 hs => ih q0 q1 q2 q3 q4 q5 q6 q7 q8 q9 hs hE) hE
        · replace hs := hs.2 h19
          refine tm_go 7 (pc' := 164) (L' := [some (.ref 127), some (.int x130_1), some (.int x130_2), some (.int x130_3), some (.int x130_4), some (.int x130_5), some (.int x130_6), z7, z8, z9, z10, z11, z12, z13]) (S' := [.int ((x130_4 - (1 : Int32)) - x130_5), .ref 193]) (w' := w) rfl ?_
          obtain ⟨b38, hs⟩ := hs
          refine tm_k (pc' := 165) (L' := [some (.ref 127), some (.int x130_1), some (.int x130_2), some (.int x130_3), some (.int x130_4), some (.int x130_5), some (.int x130_6), z7, z8, z9, z10, z11, z12, z13]) (S' := [.int (w.1 193 (((x130_4 - (1 : Int32)) - x130_5).toInt.toNat))]) (w' := w) rfl b38 ?_
          refine tm_go 1 (pc' := 174) (L' := [some (.ref 127), some (.int x130_1), some (.int x130_2), some (.int x130_3), some (.int x130_4), some (.int x130_5), some (.int x130_6), z7, z8, z9, z10, z11, z12, z13]) (S' := [.int (w.1 193 (((x130_4 - (1 : Int32)) - x130_5).toInt.toNat))]) (w' := w) rfl ?_
          exact tx_Mo_flow_174 hs (fun q0 q1 q2 q3 q4 q5 q6 q7 q8 q9 hs => ih q0 q1 q2 q3 q4 q5 q6 q7 q8 q9 hs hE) hE
set_option maxHeartbeats 4000000 in
set_option maxRecDepth 100000 in
theorem tx_Mo_flow_318 {d : Nat} {x318_1 : Int32} {x318_5 : Int32} {x318_7 : Int32} {x318_8 : Int32} {x318_9 : Int32} {x318_10 : Int32} {E : Int32 → MW → Prop} {Q : MW → Prop} (n : Nat) : ∀ (x318_11 : Int32) (x318_12 : Int32)  (z2 : Option Value) (z3 : Option Value) (z4 : Option Value) (z6 : Option Value) (z13 : Option Value) (w : MW), q_Mo_flow_318 x318_1 x318_5 x318_7 x318_8 x318_9 x318_10 E Q n x318_11 x318_12 w → (∀ (e318_11 : Int32)  (v2 : Option Value) (v3 : Option Value) (v4 : Option Value) (v6 : Option Value) (v12 : Option Value) (v13 : Option Value) (w : MW), E e318_11 w → Tm (d + 3) 81 363 [some (.ref 127), some (.int x318_1), v2, v3, v4, some (.int x318_5), v6, some (.int x318_7), some (.int x318_8), some (.int x318_9), some (.int x318_10), some (.int e318_11), v12, v13] [] w (RV Q)) → Tm (d + 3) 81 318 [some (.ref 127), some (.int x318_1), z2, z3, z4, some (.int x318_5), z6, some (.int x318_7), some (.int x318_8), some (.int x318_9), some (.int x318_10), some (.int x318_11), some (.int x318_12), z13] [] w (RV Q) := by
  induction n with
  | zero => intro x318_11 x318_12 z2 z3 z4 z6 z13 w hs; rw [q_Mo_flow_318.eq_1] at hs; exact hs.elim
  | succ n ih =>
    intro x318_11 x318_12 z2 z3 z4 z6 z13 w hs hE
    rw [q_Mo_flow_318.eq_2] at hs
    refine tm_go 2 (pc' := 322) (L' := [some (.ref 127), some (.int x318_1), z2, z3, z4, some (.int x318_5), z6, some (.int x318_7), some (.int x318_8), some (.int x318_9), some (.int x318_10), some (.int x318_11), some (.int x318_12), z13]) (S' := [.int x318_5, .int x318_12]) (w' := w) rfl ?_
    refine tm_i (p1 := 363) (p2 := 325) rfl (fun h43 => ?_) (fun h43 => ?_)
    · replace hs := hs.1 h43
      exact hE _ _ _ _ _ _ _ _ hs
    · replace hs := hs.2 h43
      refine tm_go 1 (pc' := 327) (L' := [some (.ref 127), some (.int x318_1), z2, z3, z4, some (.int x318_5), z6, some (.int x318_7), some (.int x318_8), some (.int x318_9), some (.int x318_10), some (.int x318_11), some (.int x318_12), z13]) (S' := [.int x318_11]) (w' := w) rfl ?_
      refine tm_i (p1 := 363) (p2 := 330) rfl (fun h44 => ?_) (fun h44 => ?_)
      · replace hs := hs.1 h44
        exact hE _ _ _ _ _ _ _ _ hs
      · replace hs := hs.2 h44
        refine tm_go 2 (pc' := 334) (L' := [some (.ref 127), some (.int x318_1), z2, z3, z4, some (.int x318_5), z6, some (.int x318_7), some (.int x318_8), some (.int x318_9), some (.int x318_10), some (.int x318_11), some (.int x318_12), z13]) (S' := [.int x318_12, .int x318_7]) (w' := w) rfl ?_
        refine tm_i (p1 := 350) (p2 := 337) rfl (fun h45 => ?_) (fun h45 => ?_)
        · replace hs := hs.1 h45
          refine tm_go 5 (pc' := 318) (L' := [some (.ref 127), some (.int x318_1), z2, z3, z4, some (.int x318_5), z6, some (.int x318_7), some (.int x318_8), some (.int x318_9), some (.int x318_10), some (.int 1), some (.int (x318_12 + (1 : Int32))), z13]) (S' := []) (w' := w) rfl ?_
          exact ih _ _ _ _ _ _ _ _ hs hE
        · replace hs := hs.2 h45
          refine tm_go 5 (pc' := 346) (L' := [some (.ref 127), some (.int x318_1), z2, z3, z4, some (.int x318_5), z6, some (.int x318_7), some (.int x318_8), some (.int x318_9), some (.int x318_10), some (.int x318_11), some (.int x318_12), z13]) (S' := [.int (x318_7 - x318_12), .ref 193]) (w' := w) rfl ?_
          obtain ⟨b46, hs⟩ := hs
          refine tm_k (pc' := 347) (L' := [some (.ref 127), some (.int x318_1), z2, z3, z4, some (.int x318_5), z6, some (.int x318_7), some (.int x318_8), some (.int x318_9), some (.int x318_10), some (.int x318_11), some (.int x318_12), z13]) (S' := [.int (w.1 193 ((x318_7 - x318_12).toInt.toNat))]) (w' := w) rfl b46 ?_
          refine tm_i (p1 := 354) (p2 := 350) rfl (fun h47 => ?_) (fun h47 => ?_)
          · replace hs := hs.1 h47
            refine tm_go 4 (pc' := 318) (L' := [some (.ref 127), some (.int x318_1), z2, z3, z4, some (.int x318_5), z6, some (.int x318_7), some (.int x318_8), some (.int x318_9), some (.int x318_10), some (.int 0), some (.int (x318_12 + (1 : Int32))), z13]) (S' := []) (w' := w) rfl ?_
            exact ih _ _ _ _ _ _ _ _ hs hE
          · replace hs := hs.2 h47
            refine tm_go 5 (pc' := 318) (L' := [some (.ref 127), some (.int x318_1), z2, z3, z4, some (.int x318_5), z6, some (.int x318_7), some (.int x318_8), some (.int x318_9), some (.int x318_10), some (.int 1), some (.int (x318_12 + (1 : Int32))), z13]) (S' := []) (w' := w) rfl ?_
            exact ih _ _ _ _ _ _ _ _ hs hE
set_option maxHeartbeats 4000000 in
set_option maxRecDepth 100000 in
theorem tx_Mo_flow_438 {d : Nat} {x400_1 : Int32} {x400_5 : Int32} {y438_7 : Int32} {x400_8 : Int32} {x400_9 : Int32} {x400_10 : Int32} {y438_12 : Int32} {ys438_0 : Int32} {z2 : Option Value} {z3 : Option Value} {z4 : Option Value} {z6 : Option Value} {z11 : Option Value} {z13 : Option Value} {w : MW} {A : Int32 → Int32 → MW → Prop} {E : Int32 → MW → Prop} {Q : MW → Prop} (hs : q_Mo_flow_438 x400_1 x400_5 y438_7 x400_8 x400_9 x400_10 y438_12 ys438_0 w A E Q) (hA : ∀ (x400_7 : Int32) (x400_12 : Int32)  (z2 : Option Value) (z3 : Option Value) (z4 : Option Value) (z6 : Option Value) (z11 : Option Value) (z13 : Option Value) (w : MW), A x400_7 x400_12 w → Tm (d + 3) 81 400 [some (.ref 127), some (.int x400_1), z2, z3, z4, some (.int x400_5), z6, some (.int x400_7), some (.int x400_8), some (.int x400_9), some (.int x400_10), z11, some (.int x400_12), z13] [] w (RV Q)) (hE : ∀ (e400_7 : Int32)  (v2 : Option Value) (v3 : Option Value) (v4 : Option Value) (v6 : Option Value) (v9 : Option Value) (v10 : Option Value) (v11 : Option Value) (v12 : Option Value) (v13 : Option Value) (w : MW), E e400_7 w → Tm (d + 3) 81 488 [some (.ref 127), some (.int x400_1), v2, v3, v4, some (.int x400_5), v6, some (.int e400_7), some (.int x400_8), v9, v10, v11, v12, v13] [] w (RV Q)) : Tm (d + 3) 81 438 [some (.ref 127), some (.int x400_1), z2, z3, z4, some (.int x400_5), z6, some (.int y438_7), some (.int x400_8), some (.int x400_9), some (.int x400_10), z11, some (.int y438_12), z13] [.int ys438_0] w (RV Q) := by
  unfold q_Mo_flow_438 at hs
  refine tm_go 9 (pc' := 454) (L' := [some (.ref 127), some (.int x400_1), z2, z3, z4, some (.int x400_5), z6, some (.int y438_7), some (.int x400_8), some (.int x400_9), some (.int x400_10), z11, some (.int y438_12), some (.int ys438_0)]) (S' := [.int (x400_9 - x400_9 / (2 : Int32) * (2 : Int32)), .int ((200 : Int32) * x400_10), .ref 172]) (w' := w) rfl ?_
  refine tm_i (p1 := 462) (p2 := 457) rfl (fun h54 => ?_) (fun h54 => ?_)
  · replace hs := hs.1 h54
    refine tm_go 3 (pc' := 468) (L' := [some (.ref 127), some (.int x400_1), z2, z3, z4, some (.int x400_5), z6, some (.int y438_7), some (.int x400_8), some (.int x400_9), some (.int x400_10), z11, some (.int y438_12), some (.int ys438_0)]) (S' := [.int x400_10, .ref 169, .int ((200 : Int32) * x400_10), .ref 172]) (w' := w) rfl ?_
    obtain ⟨b55, hs⟩ := hs
    refine tm_k (pc' := 469) (L' := [some (.ref 127), some (.int x400_1), z2, z3, z4, some (.int x400_5), z6, some (.int y438_7), some (.int x400_8), some (.int x400_9), some (.int x400_10), z11, some (.int y438_12), some (.int ys438_0)]) (S' := [.int (w.1 169 x400_10.toInt.toNat), .int ((200 : Int32) * x400_10), .ref 172]) (w' := w) rfl b55 ?_
    refine tm_go 7 (pc' := 478) (L' := [some (.ref 127), some (.int x400_1), z2, z3, z4, some (.int x400_5), z6, some (.int y438_7), some (.int x400_8), some (.int x400_9), some (.int x400_10), z11, some (.int y438_12), some (.int ys438_0)]) (S' := [.int ((Int32.toInt8 ys438_0).toInt32), .int (((200 : Int32) * x400_10) + (((w.1 169 x400_10.toInt.toNat) - (1 : Int32)) - y438_12)), .ref 172]) (w' := w) rfl ?_
    obtain ⟨b56, hs⟩ := hs
    refine tm_k (pc' := 479) (L' := [some (.ref 127), some (.int x400_1), z2, z3, z4, some (.int x400_5), z6, some (.int y438_7), some (.int x400_8), some (.int x400_9), some (.int x400_10), z11, some (.int y438_12), some (.int ys438_0)]) (S' := []) (w' := (sI w 172 ((((200 : Int32) * x400_10) + (((w.1 169 x400_10.toInt.toNat) - (1 : Int32)) - y438_12)).toInt.toNat) (vp_nar .byte ((Int32.toInt8 ys438_0).toInt32)))) rfl b56 ?_
    refine tm_go 3 (pc' := 400) (L' := [some (.ref 127), some (.int x400_1), z2, z3, z4, some (.int x400_5), (ksl z6), some (.int (y438_7 + (1 : Int32))), some (.int x400_8), some (.int x400_9), some (.int x400_10), (ksl z11), some (.int (y438_12 + (1 : Int32))), some (.int ys438_0)]) (S' := []) (w' := (sI w 172 ((((200 : Int32) * x400_10) + (((w.1 169 x400_10.toInt.toNat) - (1 : Int32)) - y438_12)).toInt.toNat) (vp_nar .byte ((Int32.toInt8 ys438_0).toInt32)))) rfl ?_
    exact hA _ _ _ _ _ _ _ _ _ hs
  · replace hs := hs.2 h54
    refine tm_go 5 (pc' := 478) (L' := [some (.ref 127), some (.int x400_1), z2, z3, z4, some (.int x400_5), z6, some (.int y438_7), some (.int x400_8), some (.int x400_9), some (.int x400_10), z11, some (.int y438_12), some (.int ys438_0)]) (S' := [.int ((Int32.toInt8 ys438_0).toInt32), .int (((200 : Int32) * x400_10) + y438_12), .ref 172]) (w' := w) rfl ?_
    obtain ⟨b57, hs⟩ := hs
    refine tm_k (pc' := 479) (L' := [some (.ref 127), some (.int x400_1), z2, z3, z4, some (.int x400_5), z6, some (.int y438_7), some (.int x400_8), some (.int x400_9), some (.int x400_10), z11, some (.int y438_12), some (.int ys438_0)]) (S' := []) (w' := (sI w 172 ((((200 : Int32) * x400_10) + y438_12).toInt.toNat) (vp_nar .byte ((Int32.toInt8 ys438_0).toInt32)))) rfl b57 ?_
    refine tm_go 3 (pc' := 400) (L' := [some (.ref 127), some (.int x400_1), z2, z3, z4, some (.int x400_5), (ksl z6), some (.int (y438_7 + (1 : Int32))), some (.int x400_8), some (.int x400_9), some (.int x400_10), (ksl z11), some (.int (y438_12 + (1 : Int32))), some (.int ys438_0)]) (S' := []) (w' := (sI w 172 ((((200 : Int32) * x400_10) + y438_12).toInt.toNat) (vp_nar .byte ((Int32.toInt8 ys438_0).toInt32)))) rfl ?_
    exact hA _ _ _ _ _ _ _ _ _ hs
set_option maxHeartbeats 4000000 in
set_option maxRecDepth 100000 in
theorem tx_Mo_flow_400 {d : Nat} {x400_1 : Int32} {x400_5 : Int32} {x400_8 : Int32} {x400_9 : Int32} {x400_10 : Int32} {E : Int32 → MW → Prop} {Q : MW → Prop} (n : Nat) : ∀ (x400_7 : Int32) (x400_12 : Int32)  (z2 : Option Value) (z3 : Option Value) (z4 : Option Value) (z6 : Option Value) (z11 : Option Value) (z13 : Option Value) (w : MW), q_Mo_flow_400 x400_1 x400_5 x400_8 x400_9 x400_10 E Q n x400_7 x400_12 w → (∀ (e400_7 : Int32)  (v2 : Option Value) (v3 : Option Value) (v4 : Option Value) (v6 : Option Value) (v9 : Option Value) (v10 : Option Value) (v11 : Option Value) (v12 : Option Value) (v13 : Option Value) (w : MW), E e400_7 w → Tm (d + 3) 81 488 [some (.ref 127), some (.int x400_1), v2, v3, v4, some (.int x400_5), v6, some (.int e400_7), some (.int x400_8), v9, v10, v11, v12, v13] [] w (RV Q)) → Tm (d + 3) 81 400 [some (.ref 127), some (.int x400_1), z2, z3, z4, some (.int x400_5), z6, some (.int x400_7), some (.int x400_8), some (.int x400_9), some (.int x400_10), z11, some (.int x400_12), z13] [] w (RV Q) := by
  induction n with
  | zero => intro x400_7 x400_12 z2 z3 z4 z6 z11 z13 w hs; rw [q_Mo_flow_400.eq_1] at hs; exact hs.elim
  | succ n ih =>
    intro x400_7 x400_12 z2 z3 z4 z6 z11 z13 w hs hE
    rw [q_Mo_flow_400.eq_2] at hs
    refine tm_go 4 (pc' := 408) (L' := [some (.ref 127), some (.int x400_1), z2, z3, z4, some (.int x400_5), z6, some (.int x400_7), some (.int x400_8), some (.int x400_9), some (.int x400_10), z11, some (.int x400_12), z13]) (S' := [.int x400_10, .ref 169, .int x400_12]) (w' := w) rfl ?_
    obtain ⟨b50, hs⟩ := hs
    refine tm_k (pc' := 409) (L' := [some (.ref 127), some (.int x400_1), z2, z3, z4, some (.int x400_5), z6, some (.int x400_7), some (.int x400_8), some (.int x400_9), some (.int x400_10), z11, some (.int x400_12), z13]) (S' := [.int (w.1 169 x400_10.toInt.toNat), .int x400_12]) (w' := w) rfl b50 ?_
    refine tm_i (p1 := 488) (p2 := 412) rfl (fun h51 => ?_) (fun h51 => ?_)
    · replace hs := hs.1 h51
      exact hE _ _ _ _ _ _ _ _ _ _ _ hs
    · replace hs := hs.2 h51
      refine tm_go 2 (pc' := 416) (L' := [some (.ref 127), some (.int x400_1), z2, z3, z4, some (.int x400_5), z6, some (.int x400_7), some (.int x400_8), some (.int x400_9), some (.int x400_10), z11, some (.int x400_12), z13]) (S' := [.int x400_5, .int x400_7]) (w' := w) rfl ?_
      refine tm_i (p1 := 428) (p2 := 419) rfl (fun h52 => ?_) (fun h52 => ?_)
      · replace hs := hs.1 h52
        refine tm_go 5 (pc' := 437) (L' := [some (.ref 127), some (.int x400_1), z2, z3, z4, some (.int x400_5), z6, some (.int x400_7), some (.int x400_8), some (.int x400_9), some (.int x400_10), z11, some (.int x400_12), z13]) (S' := [.int (x400_7 - x400_5), .ref 193]) (w' := w) rfl ?_
        obtain ⟨b53, hs⟩ := hs
        refine tm_k (pc' := 438) (L' := [some (.ref 127), some (.int x400_1), z2, z3, z4, some (.int x400_5), z6, some (.int x400_7), some (.int x400_8), some (.int x400_9), some (.int x400_10), z11, some (.int x400_12), z13]) (S' := [.int (w.1 193 ((x400_7 - x400_5).toInt.toNat))]) (w' := w) rfl b53 ?_
        exact tx_Mo_flow_438 hs (fun q0 q1 q2 q3 q4 q5 q6 q7 q8 hs => ih q0 q1 q2 q3 q4 q5 q6 q7 q8 hs hE) hE
      · replace hs := hs.2 h52
        refine tm_go 3 (pc' := 424) (L' := [some (.ref 127), some (.int x400_1), z2, z3, z4, some (.int x400_5), z6, some (.int x400_7), some (.int x400_8), some (.int x400_9), some (.int x400_10), z11, some (.int x400_12), z13]) (S' := [.int x400_1, .ref 183]) (w' := w) rfl ?_
        obtain ⟨b58, hs⟩ := hs
        refine tm_k (pc' := 425) (L' := [some (.ref 127), some (.int x400_1), z2, z3, z4, some (.int x400_5), z6, some (.int x400_7), some (.int x400_8), some (.int x400_9), some (.int x400_10), z11, some (.int x400_12), z13]) (S' := [.int (w.1 183 x400_1.toInt.toNat)]) (w' := w) rfl b58 ?_
        refine tm_go 1 (pc' := 438) (L' := [some (.ref 127), some (.int x400_1), z2, z3, z4, some (.int x400_5), z6, some (.int x400_7), some (.int x400_8), some (.int x400_9), some (.int x400_10), z11, some (.int x400_12), z13]) (S' := [.int (w.1 183 x400_1.toInt.toNat)]) (w' := w) rfl ?_
        exact tx_Mo_flow_438 hs (fun q0 q1 q2 q3 q4 q5 q6 q7 q8 hs => ih q0 q1 q2 q3 q4 q5 q6 q7 q8 hs hE) hE
set_option maxHeartbeats 4000000 in
set_option maxRecDepth 100000 in
theorem tx_Mo_flow_281 {d : Nat} {x281_1 : Int32} {x281_5 : Int32} {E : MW → Prop} {Q : MW → Prop} (n : Nat) : ∀ (x281_7 : Int32) (x281_8 : Int32)  (z2 : Option Value) (z3 : Option Value) (z4 : Option Value) (z6 : Option Value) (z9 : Option Value) (z10 : Option Value) (z11 : Option Value) (z12 : Option Value) (z13 : Option Value) (w : MW), q_Mo_flow_281 x281_1 x281_5 E Q n x281_7 x281_8 w → (∀  (v0 : Option Value) (v1 : Option Value) (v2 : Option Value) (v3 : Option Value) (v4 : Option Value) (v5 : Option Value) (v6 : Option Value) (v7 : Option Value) (v8 : Option Value) (v9 : Option Value) (v10 : Option Value) (v11 : Option Value) (v12 : Option Value) (v13 : Option Value) (w : MW), E  w → Tm (d + 3) 81 494 [v0, v1, v2, v3, v4, v5, v6, v7, v8, v9, v10, v11, v12, v13] [] w (RV Q)) → Tm (d + 3) 81 281 [some (.ref 127), some (.int x281_1), z2, z3, z4, some (.int x281_5), z6, some (.int x281_7), some (.int x281_8), z9, z10, z11, z12, z13] [] w (RV Q) := by
  induction n with
  | zero => intro x281_7 x281_8 z2 z3 z4 z6 z9 z10 z11 z12 z13 w hs; rw [q_Mo_flow_281.eq_1] at hs; exact hs.elim
  | succ n ih =>
    intro x281_7 x281_8 z2 z3 z4 z6 z9 z10 z11 z12 z13 w hs hE
    rw [q_Mo_flow_281.eq_2] at hs
    refine tm_go 4 (pc' := 288) (L' := [some (.ref 127), some (.int x281_1), z2, z3, z4, some (.int x281_5), z6, some (.int x281_7), some (.int x281_8), z9, z10, z11, z12, z13]) (S' := [.int x281_1, .ref 185, .int x281_8]) (w' := w) rfl ?_
    obtain ⟨b40, hs⟩ := hs
    refine tm_k (pc' := 289) (L' := [some (.ref 127), some (.int x281_1), z2, z3, z4, some (.int x281_5), z6, some (.int x281_7), some (.int x281_8), z9, z10, z11, z12, z13]) (S' := [.int (w.1 185 x281_1.toInt.toNat), .int x281_8]) (w' := w) rfl b40 ?_
    refine tm_i (p1 := 494) (p2 := 292) rfl (fun h41 => ?_) (fun h41 => ?_)
    · replace hs := hs.1 h41
      exact hE _ _ _ _ _ _ _ _ _ _ _ _ _ _ _ hs
    · replace hs := hs.2 h41
      refine tm_go 7 (pc' := 303) (L' := [some (.ref 127), some (.int x281_1), z2, z3, z4, some (.int x281_5), z6, some (.int x281_7), some (.int x281_8), z9, z10, z11, z12, z13]) (S' := [.int (((24 : Int32) * x281_1) + x281_8), .ref 186]) (w' := w) rfl ?_
      obtain ⟨b42, hs⟩ := hs
      refine tm_k (pc' := 304) (L' := [some (.ref 127), some (.int x281_1), z2, z3, z4, some (.int x281_5), z6, some (.int x281_7), some (.int x281_8), z9, z10, z11, z12, z13]) (S' := [.int (w.1 186 ((((24 : Int32) * x281_1) + x281_8).toInt.toNat))]) (w' := w) rfl b42 ?_
      refine tm_go 9 (pc' := 318) (L' := [some (.ref 127), some (.int x281_1), z2, z3, z4, some (.int x281_5), z6, some (.int x281_7), some (.int x281_8), some (.int (w.1 186 ((((24 : Int32) * x281_1) + x281_8).toInt.toNat))), some (.int ((w.1 186 ((((24 : Int32) * x281_1) + x281_8).toInt.toNat)) / (2 : Int32))), some (.int 0), some (.int 1), z13]) (S' := []) (w' := w) rfl ?_
      refine tx_Mo_flow_318 FU _ _ _ _ _ _ _ _ hs (fun e318_11_48 z48_2 z48_3 z48_4 z48_6 z48_12 z48_13 w48 hs => ?_)
      refine tm_go 1 (pc' := 365) (L' := [some (.ref 127), some (.int x281_1), z48_2, z48_3, z48_4, some (.int x281_5), z48_6, some (.int x281_7), some (.int x281_8), some (.int (w.1 186 ((((24 : Int32) * x281_1) + x281_8).toInt.toNat))), some (.int ((w.1 186 ((((24 : Int32) * x281_1) + x281_8).toInt.toNat)) / (2 : Int32))), some (.int e318_11_48), z48_12, z48_13]) (S' := [.int e318_11_48]) (w' := w48) rfl ?_
      refine tm_i (p1 := 397) (p2 := 368) rfl (fun h49 => ?_) (fun h49 => ?_)
      · replace hs := hs.1 h49
        refine tm_go 2 (pc' := 400) (L' := [some (.ref 127), some (.int x281_1), z48_2, z48_3, z48_4, some (.int x281_5), z48_6, some (.int x281_7), some (.int x281_8), some (.int (w.1 186 ((((24 : Int32) * x281_1) + x281_8).toInt.toNat))), some (.int ((w.1 186 ((((24 : Int32) * x281_1) + x281_8).toInt.toNat)) / (2 : Int32))), some (.int e318_11_48), some (.int 0), z48_13]) (S' := []) (w' := w48) rfl ?_
        refine tx_Mo_flow_400 FU _ _ _ _ _ _ _ _ _ hs (fun e400_7_59 z59_2 z59_3 z59_4 z59_6 z59_9 z59_10 z59_11 z59_12 z59_13 w59 hs => ?_)
        refine tm_go 2 (pc' := 281) (L' := [some (.ref 127), some (.int x281_1), z59_2, z59_3, z59_4, some (.int x281_5), z59_6, some (.int e400_7_59), some (.int (x281_8 + (1 : Int32))), z59_9, z59_10, z59_11, z59_12, z59_13]) (S' := []) (w' := w59) rfl ?_
        exact ih _ _ _ _ _ _ _ _ _ _ _ _ hs hE
      · replace hs := hs.2 h49
        refine tm_go 9 (pc' := 384) (L' := [some (.ref 127), some (.int x281_1), z48_2, z48_3, z48_4, some (.int x281_5), z48_6, some (.int x281_7), some (.int x281_8), some (.int (w.1 186 ((((24 : Int32) * x281_1) + x281_8).toInt.toNat))), some (.int ((w.1 186 ((((24 : Int32) * x281_1) + x281_8).toInt.toNat)) / (2 : Int32))), some (.int e318_11_48), z48_12, z48_13]) (S' := [.int x281_1, .ref 183, .int ((w48.1 127 4) + ((w.1 186 ((((24 : Int32) * x281_1) + x281_8).toInt.toNat)) / (2 : Int32))), .ref 173]) (w' := w48) rfl ?_
        obtain ⟨b60, hs⟩ := hs
        refine tm_k (pc' := 385) (L' := [some (.ref 127), some (.int x281_1), z48_2, z48_3, z48_4, some (.int x281_5), z48_6, some (.int x281_7), some (.int x281_8), some (.int (w.1 186 ((((24 : Int32) * x281_1) + x281_8).toInt.toNat))), some (.int ((w.1 186 ((((24 : Int32) * x281_1) + x281_8).toInt.toNat)) / (2 : Int32))), some (.int e318_11_48), z48_12, z48_13]) (S' := [.int (w48.1 183 x281_1.toInt.toNat), .int ((w48.1 127 4) + ((w.1 186 ((((24 : Int32) * x281_1) + x281_8).toInt.toNat)) / (2 : Int32))), .ref 173]) (w' := w48) rfl b60 ?_
        obtain ⟨b61, hs⟩ := hs
        refine tm_k (pc' := 386) (L' := [some (.ref 127), some (.int x281_1), z48_2, z48_3, z48_4, some (.int x281_5), z48_6, some (.int x281_7), some (.int x281_8), some (.int (w.1 186 ((((24 : Int32) * x281_1) + x281_8).toInt.toNat))), some (.int ((w.1 186 ((((24 : Int32) * x281_1) + x281_8).toInt.toNat)) / (2 : Int32))), some (.int e318_11_48), z48_12, z48_13]) (S' := []) (w' := (sI w48 173 (((w48.1 127 4) + ((w.1 186 ((((24 : Int32) * x281_1) + x281_8).toInt.toNat)) / (2 : Int32))).toInt.toNat) (w48.1 183 x281_1.toInt.toNat))) rfl b61 ?_
        refine tm_go 5 (pc' := 394) (L' := [some (.ref 127), some (.int x281_1), z48_2, z48_3, z48_4, some (.int x281_5), z48_6, some (.int x281_7), some (.int x281_8), some (.int (w.1 186 ((((24 : Int32) * x281_1) + x281_8).toInt.toNat))), some (.int ((w.1 186 ((((24 : Int32) * x281_1) + x281_8).toInt.toNat)) / (2 : Int32))), some (.int e318_11_48), z48_12, z48_13]) (S' := [.int ((w48.1 127 4) + ((w.1 186 ((((24 : Int32) * x281_1) + x281_8).toInt.toNat)) / (2 : Int32))), .ref 127]) (w' := (sI w48 173 (((w48.1 127 4) + ((w.1 186 ((((24 : Int32) * x281_1) + x281_8).toInt.toNat)) / (2 : Int32))).toInt.toNat) (w48.1 183 x281_1.toInt.toNat))) rfl ?_
        refine tm_c rfl (Nat.le_of_ble_eq_true rfl) (dm_Mo_forget (d := d + 2) hs) (fun v w62 hq => ?_)
        obtain ⟨rfl, hs⟩ := hq
        refine tm_go 2 (pc' := 400) (L' := [some (.ref 127), some (.int x281_1), z48_2, z48_3, z48_4, some (.int x281_5), z48_6, some (.int x281_7), some (.int x281_8), some (.int (w.1 186 ((((24 : Int32) * x281_1) + x281_8).toInt.toNat))), some (.int ((w.1 186 ((((24 : Int32) * x281_1) + x281_8).toInt.toNat)) / (2 : Int32))), some (.int e318_11_48), some (.int 0), z48_13]) (S' := []) (w' := w62) rfl ?_
        refine tx_Mo_flow_400 FU _ _ _ _ _ _ _ _ _ hs (fun e400_7_63 z63_2 z63_3 z63_4 z63_6 z63_9 z63_10 z63_11 z63_12 z63_13 w63 hs => ?_)
        refine tm_go 2 (pc' := 281) (L' := [some (.ref 127), some (.int x281_1), z63_2, z63_3, z63_4, some (.int x281_5), z63_6, some (.int e400_7_63), some (.int (x281_8 + (1 : Int32))), z63_9, z63_10, z63_11, z63_12, z63_13]) (S' := []) (w' := w63) rfl ?_
        exact ih _ _ _ _ _ _ _ _ _ _ _ _ hs hE
set_option maxHeartbeats 4000000 in
set_option maxRecDepth 100000 in
theorem dm_Mo_flow {d : Nat} {w : MW} {a0 : Int32} {Q : MW → Prop} (hs : p_Mo_flow w a0 Q) : Tc (d + 3) 81 [.ref 127, .int a0] w (RV Q) := by
  unfold p_Mo_flow at hs
  refine tm_go 3 (pc' := 5) (L' := [some (.ref 127), some (.int a0), none, none, none, none, none, none, none, none, none, none, none, none]) (S' := [.int a0, .ref 181]) (w' := w) rfl ?_
  obtain ⟨b1, hs⟩ := hs
  refine tm_k (pc' := 6) (L' := [some (.ref 127), some (.int a0), none, none, none, none, none, none, none, none, none, none, none, none]) (S' := [.int (w.1 181 a0.toInt.toNat)]) (w' := w) rfl b1 ?_
  refine tm_go 4 (pc' := 12) (L' := [some (.ref 127), some (.int a0), some (.int (w.1 181 a0.toInt.toNat)), none, none, none, none, none, none, none, none, none, none, none]) (S' := [.int a0, .ref 182]) (w' := w) rfl ?_
  obtain ⟨b2, hs⟩ := hs
  refine tm_k (pc' := 13) (L' := [some (.ref 127), some (.int a0), some (.int (w.1 181 a0.toInt.toNat)), none, none, none, none, none, none, none, none, none, none, none]) (S' := [.int (w.1 182 a0.toInt.toNat)]) (w' := w) rfl b2 ?_
  refine tm_go 5 (pc' := 20) (L' := [some (.ref 127), some (.int a0), some (.int (w.1 181 a0.toInt.toNat)), some (.int (w.1 182 a0.toInt.toNat)), some (.int 0), some (.int 0), none, none, none, none, none, none, none, none]) (S' := []) (w' := w) rfl ?_
  refine tx_Mo_flow_20 FU _ _ _ _ _ _ _ _ _ _ _ hs (fun e20_4_15 z15_5 z15_6 z15_7 z15_8 z15_9 z15_10 z15_11 z15_12 z15_13 w15 hs => ?_)
  refine tm_go 4 (pc' := 130) (L' := [some (.ref 127), some (.int a0), some (.int (w.1 181 a0.toInt.toNat)), some (.int (w.1 182 a0.toInt.toNat)), some (.int e20_4_15), some (.int 0), some (.int 1), z15_7, z15_8, z15_9, z15_10, z15_11, z15_12, z15_13]) (S' := []) (w' := w15) rfl ?_
  refine tx_Mo_flow_130 FU _ _ _ _ _ _ _ _ _ _ hs (fun e130_5_39 z39_2 z39_3 z39_4 z39_6 z39_7 z39_8 z39_9 z39_10 z39_11 z39_12 z39_13 w39 hs => ?_)
  refine tm_go 4 (pc' := 281) (L' := [some (.ref 127), some (.int a0), z39_2, z39_3, z39_4, some (.int e130_5_39), (ksl z39_6), some (.int 0), some (.int 0), z39_9, z39_10, z39_11, z39_12, z39_13]) (S' := []) (w' := w39) rfl ?_
  refine tx_Mo_flow_281 FU _ _ _ _ _ _ _ _ _ _ _ _ hs (fun  z64_0 z64_1 z64_2 z64_3 z64_4 z64_5 z64_6 z64_7 z64_8 z64_9 z64_10 z64_11 z64_12 z64_13 w64 hs => ?_)
  exact tm_r rfl ⟨rfl, hs⟩
