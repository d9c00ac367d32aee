set_option maxHeartbeats 4000000 in
set_option maxRecDepth 100000 in
theorem dm_Ru_isAlive {d : Nat} {w : MW} {Q : Int32 → MW → Prop} (hs : p_Ru_isAlive w Q) : Tc (d + 0) 202 [.ref 61] w (RZ Q) := by
  unfold p_Ru_isAlive at hs
  refine tm_go 2 (pc' := 4) (L' := [some (.ref 61)]) (S' := [.int (w.1 61 4)]) (w' := w) rfl ?_
  refine tm_i (p1 := 15) (p2 := 7) rfl (fun h1 => ?_) (fun h1 => ?_)
  · replace hs := hs.1 h1
    refine tm_go 2 (pc' := 20) (L' := [some (.ref 61)]) (S' := [.int 1]) (w' := w) rfl ?_
    exact tm_r rfl ⟨_, rfl, by decide, hs⟩
  · replace hs := hs.2 h1
    refine tm_go 3 (pc' := 12) (L' := [some (.ref 61)]) (S' := [.int 2, .int (w.1 61 4)]) (w' := w) rfl ?_
    refine tm_i (p1 := 19) (p2 := 15) rfl (fun h2 => ?_) (fun h2 => ?_)
    · replace hs := hs.1 h2
      refine tm_go 1 (pc' := 20) (L' := [some (.ref 61)]) (S' := [.int 0]) (w' := w) rfl ?_
      exact tm_r rfl ⟨_, rfl, by decide, hs⟩
    · replace hs := hs.2 h2
      refine tm_go 2 (pc' := 20) (L' := [some (.ref 61)]) (S' := [.int 1]) (w' := w) rfl ?_
      exact tm_r rfl ⟨_, rfl, by decide, hs⟩
set_option maxHeartbeats 4000000 in
set_option maxRecDepth 100000 in
theorem dm_Bh_start {d : Nat} {w : MW} {Q : Int32 → MW → Prop} (hs : p_Bh_start w Q) : Tc (d + 3) 15 [.ref 0] w (RZ Q) := by
  unfold p_Bh_start at hs
  refine tm_go 2 (pc' := 4) (L' := [some (.ref 0)]) (S' := [.ref 61]) (w' := w) rfl ?_
  obtain ⟨b1, hs⟩ := hs
  refine tm_g (pc' := 7) (k := 61) (j := 3) rfl b1 ?_
  refine tm_go 1 (pc' := 10) (L' := [some (.ref 0)]) (S' := [.int (w.1 62 2)]) (w' := w) rfl ?_
  refine tm_i (p1 := 15) (p2 := 13) rfl (fun h2 => ?_) (fun h2 => ?_)
  · replace hs := hs.1 h2
    refine tm_go 2 (pc' := 19) (L' := [some (.ref 0)]) (S' := [.ref 61]) (w' := w) rfl ?_
    refine tm_c rfl (Nat.le_of_ble_eq_true rfl) (dm_Ru_isAlive (d := d + 2) hs) (fun v w3 hq => ?_)
    obtain ⟨r3, rfl, hz3, hs⟩ := hq
    refine tm_i (p1 := 32) (p2 := 25) rfl (fun h4 => ?_) (fun h4 => ?_)
    · replace hs := hs.1 h4
      refine tm_go 6 (pc' := 44) (L' := [some (.ref 0)]) (S' := [.ref 61]) (w' := (sI w3 3 0 0)) rfl ?_
      obtain ⟨b5, hs⟩ := hs
      refine tm_g (pc' := 47) (k := 61) (j := 3) rfl b5 ?_
      refine tm_c rfl (Nat.le_of_ble_eq_true rfl) (dm_Pr_clearValues (d := d + 0) hs) (fun v w6 hq => ?_)
      obtain ⟨rfl, hs⟩ := hq
      refine tm_go 2 (pc' := 54) (L' := [some (.ref 0)]) (S' := [.ref 61]) (w' := w6) rfl ?_
      refine tm_c rfl (Nat.le_of_ble_eq_true rfl) (dm_Ru_begin (d := d + 1) hs) (fun v w7 hq => ?_)
      obtain ⟨rfl, hs⟩ := hq
      refine tm_go 1 (pc' := 58) (L' := [some (.ref 0)]) (S' := [.int 1]) (w' := w7) rfl ?_
      exact tm_r rfl ⟨_, rfl, by decide, hs⟩
    · replace hs := hs.2 h4
      refine tm_go 2 (pc' := 29) (L' := [some (.ref 0)]) (S' := [.ref 26]) (w' := w3) rfl ?_
      refine tm_c rfl (Nat.le_of_ble_eq_true rfl) (dm_Wa_closeAll (d := d + 1) hs) (fun v w8 hq => ?_)
      obtain ⟨rfl, hs⟩ := hq
      refine tm_go 6 (pc' := 44) (L' := [some (.ref 0)]) (S' := [.ref 61]) (w' := (sI w8 3 0 0)) rfl ?_
      obtain ⟨b9, hs⟩ := hs
      refine tm_g (pc' := 47) (k := 61) (j := 3) rfl b9 ?_
      refine tm_c rfl (Nat.le_of_ble_eq_true rfl) (dm_Pr_clearValues (d := d + 0) hs) (fun v w10 hq => ?_)
      obtain ⟨rfl, hs⟩ := hq
      refine tm_go 2 (pc' := 54) (L' := [some (.ref 0)]) (S' := [.ref 61]) (w' := w10) rfl ?_
      refine tm_c rfl (Nat.le_of_ble_eq_true rfl) (dm_Ru_begin (d := d + 1) hs) (fun v w11 hq => ?_)
      obtain ⟨rfl, hs⟩ := hq
      refine tm_go 1 (pc' := 58) (L' := [some (.ref 0)]) (S' := [.int 1]) (w' := w11) rfl ?_
      exact tm_r rfl ⟨_, rfl, by decide, hs⟩
  · replace hs := hs.2 h2
    refine tm_go 1 (pc' := 14) (L' := [some (.ref 0)]) (S' := [.int 0]) (w' := w) rfl ?_
    exact tm_r rfl ⟨_, rfl, by decide, hs⟩
set_option maxHeartbeats 4000000 in
set_option maxRecDepth 100000 in
theorem dm_Bh_sensed {d : Nat} {w : MW} {a0 : Int32} {b0 : Int32} {Q : Int64 → MW → Prop} (hs : p_Bh_sensed w a0 b0 Q) : Tc (d + 2) 18 [.ref 0, .int a0, .int b0] w (RJ Q) := by
  unfold p_Bh_sensed at hs
  refine tm_go 1 (pc' := 1) (L' := [some (.ref 0), some (.int a0), some (.int b0)]) (S' := [.int a0]) (w' := w) rfl ?_
  by_cases h1 : a0.toInt = 0
  · replace hs := hs.1 h1
    refine tm_tab (dflt := 125) (lo := 0) (ts := [32, 60, 88, 116]) rfl (by rw [h1]; decide) (t := 32) (by rw [h1]; rfl) ?_
    refine tm_go 3 (pc' := 37) (L' := [some (.ref 0), some (.int a0), some (.int b0)]) (S' := [.int b0, .ref 7]) (w' := w) rfl ?_
    refine tm_c rfl (Nat.le_of_ble_eq_true rfl) (dm_St_isTank (d := d + 1) hs) (fun v w2 hq => ?_)
    obtain ⟨r2, rfl, hz2, hs⟩ := hq
    refine tm_i (p1 := 56) (p2 := 43) rfl (fun h3 => ?_) (fun h3 => ?_)
    · replace hs := hs.1 h3
      refine tm_go 1 (pc' := 59) (L' := [some (.ref 0), some (.int a0), some (.int b0)]) (S' := [.long (-1)]) (w' := w2) rfl ?_
      exact tm_r rfl ⟨_, rfl, hs⟩
    · replace hs := hs.2 h3
      refine tm_go 4 (pc' := 51) (L' := [some (.ref 0), some (.int a0), some (.int b0)]) (S' := [.int b0, .ref 18]) (w' := w2) rfl ?_
      obtain ⟨b4, hs⟩ := hs
      refine tm_k (pc' := 52) (L' := [some (.ref 0), some (.int a0), some (.int b0)]) (S' := [.int (w2.1 18 b0.toInt.toNat)]) (w' := w2) rfl b4 ?_
      refine tm_go 2 (pc' := 59) (L' := [some (.ref 0), some (.int a0), some (.int b0)]) (S' := [.long (Int32.toInt64 (w2.1 18 b0.toInt.toNat))]) (w' := w2) rfl ?_
      exact tm_r rfl ⟨_, rfl, hs⟩
  · replace hs := hs.2 h1
    by_cases h5 : a0.toInt = 1
    · replace hs := hs.1 h5
      refine tm_tab (dflt := 125) (lo := 0) (ts := [32, 60, 88, 116]) rfl (by rw [h5]; decide) (t := 60) (by rw [h5]; rfl) ?_
      refine tm_go 3 (pc' := 65) (L' := [some (.ref 0), some (.int a0), some (.int b0)]) (S' := [.int b0, .ref 7]) (w' := w) rfl ?_
      refine tm_c rfl (Nat.le_of_ble_eq_true rfl) (dm_St_isHolder (d := d + 0) hs) (fun v w6 hq => ?_)
      obtain ⟨r6, rfl, hz6, hs⟩ := hq
      refine tm_i (p1 := 84) (p2 := 71) rfl (fun h7 => ?_) (fun h7 => ?_)
      · replace hs := hs.1 h7
        refine tm_go 1 (pc' := 87) (L' := [some (.ref 0), some (.int a0), some (.int b0)]) (S' := [.long (-1)]) (w' := w6) rfl ?_
        exact tm_r rfl ⟨_, rfl, hs⟩
      · replace hs := hs.2 h7
        refine tm_go 4 (pc' := 79) (L' := [some (.ref 0), some (.int a0), some (.int b0)]) (S' := [.int b0, .ref 17]) (w' := w6) rfl ?_
        obtain ⟨b8, hs⟩ := hs
        refine tm_k (pc' := 80) (L' := [some (.ref 0), some (.int a0), some (.int b0)]) (S' := [.int (w6.1 17 b0.toInt.toNat)]) (w' := w6) rfl b8 ?_
        refine tm_go 2 (pc' := 87) (L' := [some (.ref 0), some (.int a0), some (.int b0)]) (S' := [.long (Int32.toInt64 (w6.1 17 b0.toInt.toNat))]) (w' := w6) rfl ?_
        exact tm_r rfl ⟨_, rfl, hs⟩
    · replace hs := hs.2 h5
      by_cases h9 : a0.toInt = 2
      · replace hs := hs.1 h9
        refine tm_tab (dflt := 125) (lo := 0) (ts := [32, 60, 88, 116]) rfl (by rw [h9]; decide) (t := 88) (by rw [h9]; rfl) ?_
        refine tm_go 3 (pc' := 93) (L' := [some (.ref 0), some (.int a0), some (.int b0)]) (S' := [.int b0, .ref 7]) (w' := w) rfl ?_
        refine tm_c rfl (Nat.le_of_ble_eq_true rfl) (dm_St_isValve (d := d + 1) hs) (fun v w10 hq => ?_)
        obtain ⟨r10, rfl, hz10, hs⟩ := hq
        refine tm_i (p1 := 112) (p2 := 99) rfl (fun h11 => ?_) (fun h11 => ?_)
        · replace hs := hs.1 h11
          refine tm_go 1 (pc' := 115) (L' := [some (.ref 0), some (.int a0), some (.int b0)]) (S' := [.long (-1)]) (w' := w10) rfl ?_
          exact tm_r rfl ⟨_, rfl, hs⟩
        · replace hs := hs.2 h11
          refine tm_go 4 (pc' := 107) (L' := [some (.ref 0), some (.int a0), some (.int b0)]) (S' := [.int b0, .ref 16]) (w' := w10) rfl ?_
          obtain ⟨b12, hs⟩ := hs
          refine tm_k (pc' := 108) (L' := [some (.ref 0), some (.int a0), some (.int b0)]) (S' := [.int (w10.1 16 b0.toInt.toNat)]) (w' := w10) rfl b12 ?_
          refine tm_go 2 (pc' := 115) (L' := [some (.ref 0), some (.int a0), some (.int b0)]) (S' := [.long (Int32.toInt64 (w10.1 16 b0.toInt.toNat))]) (w' := w10) rfl ?_
          exact tm_r rfl ⟨_, rfl, hs⟩
      · replace hs := hs.2 h9
        by_cases h13 : a0.toInt = 3
        · replace hs := hs.1 h13
          refine tm_tab (dflt := 125) (lo := 0) (ts := [32, 60, 88, 116]) rfl (by rw [h13]; decide) (t := 116) (by rw [h13]; rfl) ?_
          refine tm_go 4 (pc' := 124) (L' := [some (.ref 0), some (.int a0), some (.int b0)]) (S' := [.long (Int32.toInt64 (w.1 26 1))]) (w' := w) rfl ?_
          exact tm_r rfl ⟨_, rfl, hs⟩
        · replace hs := hs.2 h13
          refine tm_tad (dflt := 125) (lo := 0) (ts := [32, 60, 88, 116]) rfl (by simp only [List.length_cons, List.length_nil]; omega) ?_
          refine tm_go 4 (pc' := 133) (L' := [some (.ref 0), some (.int a0), some (.int b0)]) (S' := [.long (Int32.toInt64 (w.1 7 1))]) (w' := w) rfl ?_
          exact tm_r rfl ⟨_, rfl, hs⟩
set_option maxHeartbeats 4000000 in
set_option maxRecDepth 100000 in
theorem tx_Bh_senseAll_10 {d : Nat} {E : MW → Prop} {Q : MW → Prop} (n : Nat) : ∀ (x10_2 : Int32)  (z3 : Option Value) (z4 : Option Value) (z5 : Option Value) (w : MW), q_Bh_senseAll_10  E Q n x10_2 w → (∀  (v1 : Option Value) (v2 : Option Value) (v3 : Option Value) (v4 : Option Value) (v5 : Option Value) (w : MW), E  w → Tm (d + 3) 17 72 [some (.ref 0), v1, v2, v3, v4, v5] [] w (RV Q)) → Tm (d + 3) 17 10 [some (.ref 0), some (.ref 62), some (.int x10_2), z3, z4, z5] [] w (RV Q) := by
  induction n with
  | zero => intro x10_2 z3 z4 z5 w hs; rw [q_Bh_senseAll_10.eq_1] at hs; exact hs.elim
  | succ n ih =>
    intro x10_2 z3 z4 z5 w hs hE
    rw [q_Bh_senseAll_10.eq_2] at hs
    refine tm_go 3 (pc' := 15) (L' := [some (.ref 0), some (.ref 62), some (.int x10_2), z3, z4, z5]) (S' := [.int (w.1 62 10), .int x10_2]) (w' := w) rfl ?_
    refine tm_i (p1 := 72) (p2 := 18) rfl (fun h2 => ?_) (fun h2 => ?_)
    · replace hs := hs.1 h2
      exact hE _ _ _ _ _ _ hs
    · replace hs := hs.2 h2
      refine tm_go 2 (pc' := 20) (L' := [some (.ref 0), some (.ref 62), some (.int x10_2), z3, z4, z5]) (S' := [.int x10_2, .ref 62]) (w' := w) rfl ?_
      refine tm_c rfl (Nat.le_of_ble_eq_true rfl) (dm_Pr_isSensed (d := d + 1) hs) (fun v w3 hq => ?_)
      obtain ⟨r3, rfl, hz3, hs⟩ := hq
      refine tm_i (p1 := 66) (p2 := 26) rfl (fun h4 => ?_) (fun h4 => ?_)
      · replace hs := hs.1 h4
        refine tm_go 2 (pc' := 10) (L' := [some (.ref 0), some (.ref 62), some (.int (x10_2 + (1 : Int32))), z3, z4, z5]) (S' := []) (w' := w3) rfl ?_
        exact ih _ _ _ _ _ hs hE
      · replace hs := hs.2 h4
        refine tm_go 4 (pc' := 32) (L' := [some (.ref 0), some (.ref 62), some (.int x10_2), z3, z4, z5]) (S' := [.int x10_2, .ref 75, .ref 0]) (w' := w3) rfl ?_
        obtain ⟨b5, hs⟩ := hs
        refine tm_k (pc' := 33) (L' := [some (.ref 0), some (.ref 62), some (.int x10_2), z3, z4, z5]) (S' := [.int (w3.1 75 x10_2.toInt.toNat), .ref 0]) (w' := w3) rfl b5 ?_
        refine tm_go 3 (pc' := 38) (L' := [some (.ref 0), some (.ref 62), some (.int x10_2), z3, z4, z5]) (S' := [.int x10_2, .ref 76, .int (w3.1 75 x10_2.toInt.toNat), .ref 0]) (w' := w3) rfl ?_
        obtain ⟨b6, hs⟩ := hs
        refine tm_k (pc' := 39) (L' := [some (.ref 0), some (.ref 62), some (.int x10_2), z3, z4, z5]) (S' := [.int (w3.1 76 x10_2.toInt.toNat), .int (w3.1 75 x10_2.toInt.toNat), .ref 0]) (w' := w3) rfl b6 ?_
        refine tm_c rfl (Nat.le_of_ble_eq_true rfl) (dm_Bh_sensed (d := d + 0) hs) (fun v w7 hq => ?_)
        obtain ⟨r7, rfl, hs⟩ := hq
        refine tm_go 7 (pc' := 51) (L' := [some (.ref 0), some (.ref 62), some (.int x10_2), some (.long r7), none, z5]) (S' := [.int (lg_cmp r7 (0 : Int64)), .int x10_2, .ref 74]) (w' := w7) rfl ?_
        refine tm_i (p1 := 60) (p2 := 54) rfl (fun h8 => ?_) (fun h8 => ?_)
        · replace hs := hs.1 h8
          refine tm_go 3 (pc' := 65) (L' := [some (.ref 0), some (.ref 62), some (.int x10_2), some (.long r7), none, z5]) (S' := [.long (r7 * (1000 : Int64)), .int x10_2, .ref 74]) (w' := w7) rfl ?_
          obtain ⟨b9, hs⟩ := hs
          refine tm_k (pc' := 66) (L' := [some (.ref 0), some (.ref 62), some (.int x10_2), some (.long r7), none, z5]) (S' := []) (w' := (sJ w7 74 x10_2.toInt.toNat (r7 * (1000 : Int64)))) rfl b9 ?_
          refine tm_go 2 (pc' := 10) (L' := [some (.ref 0), some (.ref 62), some (.int (x10_2 + (1 : Int32))), some (.long r7), none, z5]) (S' := []) (w' := (sJ w7 74 x10_2.toInt.toNat (r7 * (1000 : Int64)))) rfl ?_
          exact ih _ _ _ _ _ hs hE
        · replace hs := hs.2 h8
          refine tm_go 2 (pc' := 65) (L' := [some (.ref 0), some (.ref 62), some (.int x10_2), some (.long r7), none, z5]) (S' := [.long (-1), .int x10_2, .ref 74]) (w' := w7) rfl ?_
          obtain ⟨b10, hs⟩ := hs
          refine tm_k (pc' := 66) (L' := [some (.ref 0), some (.ref 62), some (.int x10_2), some (.long r7), none, z5]) (S' := []) (w' := (sJ w7 74 x10_2.toInt.toNat (-1))) rfl b10 ?_
          refine tm_go 2 (pc' := 10) (L' := [some (.ref 0), some (.ref 62), some (.int (x10_2 + (1 : Int32))), some (.long r7), none, z5]) (S' := []) (w' := (sJ w7 74 x10_2.toInt.toNat (-1))) rfl ?_
          exact ih _ _ _ _ _ hs hE
set_option maxHeartbeats 4000000 in
set_option maxRecDepth 100000 in
theorem tx_Bh_senseAll_76 {d : Nat} {E : Int32 → MW → Prop} {Q : MW → Prop} (n : Nat) : ∀ (x76_2 : Int32) (x76_3 : Int32)  (z1 : Option Value) (z4 : Option Value) (z5 : Option Value) (w : MW), q_Bh_senseAll_76  E Q n x76_2 x76_3 w → (∀ (e76_2 : Int32)  (v1 : Option Value) (v3 : Option Value) (v4 : Option Value) (v5 : Option Value) (w : MW), E e76_2 w → Tm (d + 3) 17 145 [some (.ref 0), v1, some (.int e76_2), v3, v4, v5] [] w (RV Q)) → Tm (d + 3) 17 76 [some (.ref 0), z1, some (.int x76_2), some (.int x76_3), z4, z5] [] w (RV Q) := by
  induction n with
  | zero => intro x76_2 x76_3 z1 z4 z5 w hs; rw [q_Bh_senseAll_76.eq_1] at hs; exact hs.elim
  | succ n ih =>
    intro x76_2 x76_3 z1 z4 z5 w hs hE
    rw [q_Bh_senseAll_76.eq_2] at hs
    refine tm_go 2 (pc' := 79) (L' := [some (.ref 0), z1, some (.int x76_2), some (.int x76_3), z4, z5]) (S' := [.int 16, .int x76_3]) (w' := w) rfl ?_
    refine tm_i (p1 := 145) (p2 := 82) rfl (fun h12 => ?_) (fun h12 => ?_)
    · replace hs := hs.1 h12
      exact hE _ _ _ _ _ _ hs
    · replace hs := hs.2 h12
      refine tm_go 3 (pc' := 87) (L' := [some (.ref 0), z1, some (.int x76_2), some (.int x76_3), z4, z5]) (S' := [.int x76_3, .ref 126]) (w' := w) rfl ?_
      obtain ⟨b13, hs⟩ := hs
      refine tm_k (pc' := 88) (L' := [some (.ref 0), z1, some (.int x76_2), some (.int x76_3), z4, z5]) (S' := [.int (w.1 126 x76_3.toInt.toNat)]) (w' := w) rfl b13 ?_
      refine tm_go 1 (pc' := 89) (L' := [some (.ref 0), z1, some (.int x76_2), some (.int x76_3), z4, z5]) (S' := [.int 5, .int (w.1 126 x76_3.toInt.toNat)]) (w' := w) rfl ?_
      refine tm_i (p1 := 139) (p2 := 92) rfl (fun h14 => ?_) (fun h14 => ?_)
      · replace hs := hs.1 h14
        refine tm_go 2 (pc' := 76) (L' := [some (.ref 0), z1, some (.int x76_2), some (.int (x76_3 + (1 : Int32))), z4, z5]) (S' := []) (w' := w) rfl ?_
        exact ih _ _ _ _ _ _ hs hE
      · replace hs := hs.2 h14
        refine tm_go 4 (pc' := 98) (L' := [some (.ref 0), z1, some (.int x76_2), some (.int x76_3), z4, z5]) (S' := [.int x76_3, .ref 126, .ref 0]) (w' := w) rfl ?_
        obtain ⟨b15, hs⟩ := hs
        refine tm_k (pc' := 99) (L' := [some (.ref 0), z1, some (.int x76_2), some (.int x76_3), z4, z5]) (S' := [.int (w.1 126 x76_3.toInt.toNat), .ref 0]) (w' := w) rfl b15 ?_
        refine tm_go 3 (pc' := 104) (L' := [some (.ref 0), z1, some (.int x76_2), some (.int x76_3), z4, z5]) (S' := [.int x76_3, .ref 124, .int (w.1 126 x76_3.toInt.toNat), .ref 0]) (w' := w) rfl ?_
        obtain ⟨b16, hs⟩ := hs
        refine tm_k (pc' := 105) (L' := [some (.ref 0), z1, some (.int x76_2), some (.int x76_3), z4, z5]) (S' := [.int (w.1 124 x76_3.toInt.toNat), .int (w.1 126 x76_3.toInt.toNat), .ref 0]) (w' := w) rfl b16 ?_
        refine tm_c rfl (Nat.le_of_ble_eq_true rfl) (dm_Bh_sensed (d := d + 0) hs) (fun v w17 hq => ?_)
        obtain ⟨r17, rfl, hs⟩ := hq
        refine tm_go 5 (pc' := 115) (L' := [some (.ref 0), z1, some (.int x76_2), some (.int x76_3), some (.long r17), none]) (S' := [.int (lg_cmp r17 (0 : Int64)), .int x76_2]) (w' := w17) rfl ?_
        refine tm_i (p1 := 136) (p2 := 118) rfl (fun h18 => ?_) (fun h18 => ?_)
        · replace hs := hs.1 h18
          refine tm_go 5 (pc' := 76) (L' := [some (.ref 0), (ksl z1), some (.int (x76_2 ||| (0 : Int32))), some (.int (x76_3 + (1 : Int32))), some (.long r17), none]) (S' := []) (w' := w17) rfl ?_
          exact ih _ _ _ _ _ _ hs hE
        · replace hs := hs.2 h18
          refine tm_go 4 (pc' := 125) (L' := [some (.ref 0), z1, some (.int x76_2), some (.int x76_3), some (.long r17), none]) (S' := [.int x76_3, .ref 125, .long r17, .int x76_2]) (w' := w17) rfl ?_
          obtain ⟨b19, hs⟩ := hs
          refine tm_k (pc' := 126) (L' := [some (.ref 0), z1, some (.int x76_2), some (.int x76_3), some (.long r17), none]) (S' := [.long (w17.2.1 125 x76_3.toInt.toNat), .long r17, .int x76_2]) (w' := w17) rfl b19 ?_
          refine tm_go 1 (pc' := 127) (L' := [some (.ref 0), z1, some (.int x76_2), some (.int x76_3), some (.long r17), none]) (S' := [.int (lg_cmp r17 (w17.2.1 125 x76_3.toInt.toNat)), .int x76_2]) (w' := w17) rfl ?_
          refine tm_i (p1 := 136) (p2 := 130) rfl (fun h20 => ?_) (fun h20 => ?_)
          · replace hs := hs.1 h20
            refine tm_go 5 (pc' := 76) (L' := [some (.ref 0), (ksl z1), some (.int (x76_2 ||| (0 : Int32))), some (.int (x76_3 + (1 : Int32))), some (.long r17), none]) (S' := []) (w' := w17) rfl ?_
            exact ih _ _ _ _ _ _ hs hE
          · replace hs := hs.2 h20
            refine tm_go 8 (pc' := 76) (L' := [some (.ref 0), (ksl z1), some (.int (x76_2 ||| ((1 : Int32) <<< (x76_3 &&& 31)))), some (.int (x76_3 + (1 : Int32))), some (.long r17), none]) (S' := []) (w' := w17) rfl ?_
            exact ih _ _ _ _ _ _ hs hE
set_option maxHeartbeats 4000000 in
set_option maxRecDepth 100000 in
theorem dm_Bh_senseAll {d : Nat} {w : MW} {Q : MW → Prop} (hs : p_Bh_senseAll w Q) : Tc (d + 3) 17 [.ref 0] w (RV Q) := by
  unfold p_Bh_senseAll at hs
  refine tm_go 2 (pc' := 4) (L' := [some (.ref 0), none, none, none, none, none]) (S' := [.ref 61]) (w' := w) rfl ?_
  obtain ⟨b1, hs⟩ := hs
  refine tm_g (pc' := 7) (k := 61) (j := 3) rfl b1 ?_
  refine tm_go 3 (pc' := 10) (L' := [some (.ref 0), some (.ref 62), some (.int 0), none, none, none]) (S' := []) (w' := w) rfl ?_
  refine tx_Bh_senseAll_10 FU _ _ _ _ _ hs (fun  z11_1 z11_2 z11_3 z11_4 z11_5 w11 hs => ?_)
  refine tm_go 4 (pc' := 76) (L' := [some (.ref 0), (ksl z11_1), some (.int 0), some (.int 0), z11_4, z11_5]) (S' := []) (w' := w11) rfl ?_
  refine tx_Bh_senseAll_76 FU _ _ _ _ _ _ hs (fun e76_2_21 z21_1 z21_3 z21_4 z21_5 w21 hs => ?_)
  refine tm_go 2 (pc' := 149) (L' := [some (.ref 0), z21_1, some (.int e76_2_21), z21_3, z21_4, z21_5]) (S' := [.ref 47]) (w' := w21) rfl ?_
  obtain ⟨b22, hs⟩ := hs
  refine tm_g (pc' := 152) (k := 47) (j := 3) rfl b22 ?_
  refine tm_go 2 (pc' := 156) (L' := [some (.ref 0), z21_1, some (.int e76_2_21), z21_3, z21_4, z21_5]) (S' := []) (w' := (sI w21 48 1 e76_2_21)) rfl ?_
  exact tm_r rfl ⟨rfl, hs⟩
set_option maxHeartbeats 4000000 in
set_option maxRecDepth 100000 in
theorem tx_Ro_countSecond_78 {d : Nat} {y78_1 : Int32} {z2 : Option Value} {w : MW} {A : Int32 → MW → Prop} {E : MW → Prop} {Q : MW → Prop} (hs : q_Ro_countSecond_78 y78_1 w A E Q) (hA : ∀ (x2_1 : Int32)  (z2 : Option Value) (w : MW), A x2_1 w → Tm (d + 1) 187 2 [some (.ref 48), some (.int x2_1), z2] [] w (RV Q)) (hE : ∀  (v0 : Option Value) (v1 : Option Value) (v2 : Option Value) (w : MW), E  w → Tm (d + 1) 187 103 [v0, v1, v2] [] w (RV Q)) : Tm (d + 1) 187 78 [some (.ref 48), some (.int y78_1), z2] [] w (RV Q) := by
  unfold q_Ro_countSecond_78 at hs
  refine tm_go 3 (pc' := 83) (L' := [some (.ref 48), some (.int y78_1), z2]) (S' := [.int y78_1, .ref 51]) (w' := w) rfl ?_
  obtain ⟨b7, hs⟩ := hs
  refine tm_k (pc' := 84) (L' := [some (.ref 48), some (.int y78_1), z2]) (S' := [.int (w.1 51 y78_1.toInt.toNat)]) (w' := w) rfl b7 ?_
  refine tm_i (p1 := 97) (p2 := 87) rfl (fun h8 => ?_) (fun h8 => ?_)
  · replace hs := hs.1 h8
    refine tm_go 2 (pc' := 2) (L' := [some (.ref 48), some (.int (y78_1 + (1 : Int32))), z2]) (S' := []) (w' := w) rfl ?_
    exact hA _ _ _ hs
  · replace hs := hs.2 h8
    refine tm_go 4 (pc' := 93) (L' := [some (.ref 48), some (.int y78_1), z2]) (S' := [.int y78_1, .ref 51, .int y78_1, .ref 51]) (w' := w) rfl ?_
    obtain ⟨b9, hs⟩ := hs
    refine tm_k (pc' := 94) (L' := [some (.ref 48), some (.int y78_1), z2]) (S' := [.int (w.1 51 y78_1.toInt.toNat), .int y78_1, .ref 51]) (w' := w) rfl b9 ?_
    refine tm_go 2 (pc' := 96) (L' := [some (.ref 48), some (.int y78_1), z2]) (S' := [.int ((w.1 51 y78_1.toInt.toNat) - (1 : Int32)), .int y78_1, .ref 51]) (w' := w) rfl ?_
    obtain ⟨b10, hs⟩ := hs
    refine tm_k (pc' := 97) (L' := [some (.ref 48), some (.int y78_1), z2]) (S' := []) (w' := (sI w 51 y78_1.toInt.toNat ((w.1 51 y78_1.toInt.toNat) - (1 : Int32)))) rfl b10 ?_
    refine tm_go 2 (pc' := 2) (L' := [some (.ref 48), some (.int (y78_1 + (1 : Int32))), z2]) (S' := []) (w' := (sI w 51 y78_1.toInt.toNat ((w.1 51 y78_1.toInt.toNat) - (1 : Int32)))) rfl ?_
    exact hA _ _ _ hs
set_option maxHeartbeats 4000000 in
set_option maxRecDepth 100000 in
theorem tx_Ro_countSecond_42 {d : Nat} {y42_1 : Int32} {y42_2 : Int32} {ys42_0 : Int32} {ys42_1 : Int32}  {w : MW} {A : Int32 → MW → Prop} {E : MW → Prop} {Q : MW → Prop} (hs : q_Ro_countSecond_42 y42_1 y42_2 ys42_0 ys42_1 w A E Q) (hA : ∀ (x2_1 : Int32)  (z2 : Option Value) (w : MW), A x2_1 w → Tm (d + 1) 187 2 [some (.ref 48), some (.int x2_1), z2] [] w (RV Q)) (hE : ∀  (v0 : Option Value) (v1 : Option Value) (v2 : Option Value) (w : MW), E  w → Tm (d + 1) 187 103 [v0, v1, v2] [] w (RV Q)) : Tm (d + 1) 187 42 [some (.ref 48), some (.int y42_1), some (.int y42_2)] [.int ys42_0, .int ys42_1, .ref 49] w (RV Q) := by
  unfold q_Ro_countSecond_42 at hs
  obtain ⟨b4, hs⟩ := hs
  refine tm_k (pc' := 43) (L' := [some (.ref 48), some (.int y42_1), some (.int y42_2)]) (S' := []) (w' := (sI w 49 ys42_1.toInt.toNat ys42_0)) rfl b4 ?_
  refine tm_go 3 (pc' := 48) (L' := [some (.ref 48), some (.int y42_1), some (.int y42_2)]) (S' := [.int y42_1, .ref 54]) (w' := (sI w 49 ys42_1.toInt.toNat ys42_0)) rfl ?_
  obtain ⟨b5, hs⟩ := hs
  refine tm_k (pc' := 49) (L' := [some (.ref 48), some (.int y42_1), some (.int y42_2)]) (S' := [.int (w.1 54 y42_1.toInt.toNat)]) (w' := (sI w 49 ys42_1.toInt.toNat ys42_0)) rfl b5 ?_
  refine tm_i (p1 := 78) (p2 := 52) rfl (fun h6 => ?_) (fun h6 => ?_)
  · replace hs := hs.1 h6
    exact tx_Ro_countSecond_78 hs hA hE
  · replace hs := hs.2 h6
    refine tm_go 1 (pc' := 53) (L' := [some (.ref 48), some (.int y42_1), some (.int y42_2)]) (S' := [.int y42_2]) (w' := (sI w 49 ys42_1.toInt.toNat ys42_0)) rfl ?_
    refine tm_i (p1 := 78) (p2 := 56) rfl (fun h11 => ?_) (fun h11 => ?_)
    · replace hs := hs.1 h11
      exact tx_Ro_countSecond_78 hs hA hE
    · replace hs := hs.2 h11
      refine tm_go 3 (pc' := 61) (L' := [some (.ref 48), some (.int y42_1), some (.int y42_2)]) (S' := [.int y42_1, .ref 49]) (w' := (sI w 49 ys42_1.toInt.toNat ys42_0)) rfl ?_
      obtain ⟨b12, hs⟩ := hs
      refine tm_k (pc' := 62) (L' := [some (.ref 48), some (.int y42_1), some (.int y42_2)]) (S' := [.int ((sI w 49 ys42_1.toInt.toNat ys42_0).1 49 y42_1.toInt.toNat)]) (w' := (sI w 49 ys42_1.toInt.toNat ys42_0)) rfl b12 ?_
      refine tm_go 3 (pc' := 67) (L' := [some (.ref 48), some (.int y42_1), some (.int y42_2)]) (S' := [.int y42_1, .ref 53, .int ((sI w 49 ys42_1.toInt.toNat ys42_0).1 49 y42_1.toInt.toNat)]) (w' := (sI w 49 ys42_1.toInt.toNat ys42_0)) rfl ?_
      obtain ⟨b13, hs⟩ := hs
      refine tm_k (pc' := 68) (L' := [some (.ref 48), some (.int y42_1), some (.int y42_2)]) (S' := [.int (w.1 53 y42_1.toInt.toNat), .int ((sI w 49 ys42_1.toInt.toNat ys42_0).1 49 y42_1.toInt.toNat)]) (w' := (sI w 49 ys42_1.toInt.toNat ys42_0)) rfl b13 ?_
      refine tm_i (p1 := 78) (p2 := 71) rfl (fun h14 => ?_) (fun h14 => ?_)
      · replace hs := hs.1 h14
        exact tx_Ro_countSecond_78 hs hA hE
      · replace hs := hs.2 h14
        refine tm_go 4 (pc' := 77) (L' := [some (.ref 48), some (.int y42_1), some (.int y42_2)]) (S' := [.int 1, .int y42_1, .ref 50]) (w' := (sI w 49 ys42_1.toInt.toNat ys42_0)) rfl ?_
        obtain ⟨b15, hs⟩ := hs
        refine tm_k (pc' := 78) (L' := [some (.ref 48), some (.int y42_1), some (.int y42_2)]) (S' := []) (w' := (sI (sI w 49 ys42_1.toInt.toNat ys42_0) 50 y42_1.toInt.toNat (vp_nar .boolean (1 : Int32)))) rfl b15 ?_
        exact tx_Ro_countSecond_78 hs hA hE
set_option maxHeartbeats 4000000 in
set_option maxRecDepth 100000 in
theorem tx_Ro_countSecond_2 {d : Nat} {E : MW → Prop} {Q : MW → Prop} (n : Nat) : ∀ (x2_1 : Int32)  (z2 : Option Value) (w : MW), q_Ro_countSecond_2  E Q n x2_1 w → (∀  (v0 : Option Value) (v1 : Option Value) (v2 : Option Value) (w : MW), E  w → Tm (d + 1) 187 103 [v0, v1, v2] [] w (RV Q)) → Tm (d + 1) 187 2 [some (.ref 48), some (.int x2_1), z2] [] w (RV Q) := by
  induction n with
  | zero => intro x2_1 z2 w hs; rw [q_Ro_countSecond_2.eq_1] at hs; exact hs.elim
  | succ n ih =>
    intro x2_1 z2 w hs hE
    rw [q_Ro_countSecond_2.eq_2] at hs
    refine tm_go 3 (pc' := 7) (L' := [some (.ref 48), some (.int x2_1), z2]) (S' := [.int (w.1 48 0), .int x2_1]) (w' := w) rfl ?_
    refine tm_i (p1 := 103) (p2 := 10) rfl (fun h1 => ?_) (fun h1 => ?_)
    · replace hs := hs.1 h1
      exact hE _ _ _ _ hs
    · replace hs := hs.2 h1
      refine tm_go 2 (pc' := 12) (L' := [some (.ref 48), some (.int x2_1), z2]) (S' := [.int x2_1, .ref 48]) (w' := w) rfl ?_
      refine tm_c rfl (Nat.le_of_ble_eq_true rfl) (dm_Ro_isOn (d := d + 0) hs) (fun v w2 hq => ?_)
      obtain ⟨r2, rfl, hz2, hs⟩ := hq
      refine tm_go 5 (pc' := 22) (L' := [some (.ref 48), some (.int x2_1), some (.int r2)]) (S' := [.int r2, .int x2_1, .ref 49]) (w' := w2) rfl ?_
      refine tm_i (p1 := 41) (p2 := 25) rfl (fun h3 => ?_) (fun h3 => ?_)
      · replace hs := hs.1 h3
        refine tm_go 1 (pc' := 42) (L' := [some (.ref 48), some (.int x2_1), some (.int r2)]) (S' := [.int 0, .int x2_1, .ref 49]) (w' := w2) rfl ?_
        exact tx_Ro_countSecond_42 hs (fun q0 q1 q2 hs => ih q0 q1 q2 hs hE) hE
      · replace hs := hs.2 h3
        refine tm_go 3 (pc' := 30) (L' := [some (.ref 48), some (.int x2_1), some (.int r2)]) (S' := [.int x2_1, .ref 49, .int x2_1, .ref 49]) (w' := w2) rfl ?_
        obtain ⟨b16, hs⟩ := hs
        refine tm_k (pc' := 31) (L' := [some (.ref 48), some (.int x2_1), some (.int r2)]) (S' := [.int (w2.1 49 x2_1.toInt.toNat), .int x2_1, .ref 49]) (w' := w2) rfl b16 ?_
        refine tm_go 3 (pc' := 35) (L' := [some (.ref 48), some (.int x2_1), some (.int r2)]) (S' := [.int 1000000, .int ((w2.1 49 x2_1.toInt.toNat) + (1 : Int32)), .int x2_1, .ref 49]) (w' := w2) rfl ?_
        refine tm_c rfl (Nat.le_of_ble_eq_true rfl) (dm_Ma_min (d := d + 0) hs) (fun v w17 hq => ?_)
        obtain ⟨r17, rfl, hs⟩ := hq
        refine tm_go 1 (pc' := 42) (L' := [some (.ref 48), some (.int x2_1), some (.int r2)]) (S' := [.int r17, .int x2_1, .ref 49]) (w' := w17) rfl ?_
        exact tx_Ro_countSecond_42 hs (fun q0 q1 q2 hs => ih q0 q1 q2 hs hE) hE
set_option maxHeartbeats 4000000 in
set_option maxRecDepth 100000 in
theorem dm_Ro_countSecond {d : Nat} {w : MW} {Q : MW → Prop} (hs : p_Ro_countSecond w Q) : Tc (d + 1) 187 [.ref 48] w (RV Q) := by
  unfold p_Ro_countSecond at hs
  refine tm_go 2 (pc' := 2) (L' := [some (.ref 48), some (.int 0), none]) (S' := []) (w' := w) rfl ?_
  refine tx_Ro_countSecond_2 FU _ _ _ hs (fun  z18_0 z18_1 z18_2 w18 hs => ?_)
  exact tm_r rfl ⟨rfl, hs⟩
set_option maxHeartbeats 4000000 in
set_option maxRecDepth 100000 in
theorem dm_Ru_choose {d : Nat} {w : MW} {a0 : Int32} {b0 : Int32} {Q : MW → Prop} (hs : p_Ru_choose w a0 b0 Q) : Tc (d + 0) 212 [.ref 61, .int a0, .int b0] w (RV Q) := by
  unfold p_Ru_choose at hs
  refine tm_go 4 (pc' := 6) (L' := [some (.ref 61), some (.int a0), some (.int b0)]) (S' := [.int b0, .int a0, .ref 81]) (w' := w) rfl ?_
  obtain ⟨b1, hs⟩ := hs
  refine tm_k (pc' := 7) (L' := [some (.ref 61), some (.int a0), some (.int b0)]) (S' := []) (w' := (sI w 81 a0.toInt.toNat b0)) rfl b1 ?_
  refine tm_go 1 (pc' := 8) (L' := [some (.ref 61), some (.int a0), some (.int b0)]) (S' := [.int b0]) (w' := (sI w 81 a0.toInt.toNat b0)) rfl ?_
  refine tm_i (p1 := 18) (p2 := 11) rfl (fun h2 => ?_) (fun h2 => ?_)
  · replace hs := hs.1 h2
    exact tm_r rfl ⟨rfl, hs⟩
  · replace hs := hs.2 h2
    refine tm_go 4 (pc' := 17) (L' := [some (.ref 61), some (.int a0), some (.int b0)]) (S' := [.int 0, .int b0, .ref 80]) (w' := (sI w 81 a0.toInt.toNat b0)) rfl ?_
    obtain ⟨b3, hs⟩ := hs
    refine tm_k (pc' := 18) (L' := [some (.ref 61), some (.int a0), some (.int b0)]) (S' := []) (w' := (sI (sI w 81 a0.toInt.toNat b0) 80 b0.toInt.toNat 0)) rfl b3 ?_
    exact tm_r rfl ⟨rfl, hs⟩
set_option maxHeartbeats 4000000 in
set_option maxRecDepth 100000 in
theorem dm_Ru_goInside {d : Nat} {w : MW} {a0 : Int32} {b0 : Int32} {Q : Int32 → MW → Prop} (hs : p_Ru_goInside w a0 b0 Q) : Tc (d + 1) 220 [.ref 61, .int a0, .int b0] w (RI Q) := by
  unfold p_Ru_goInside at hs
  refine tm_go 4 (pc' := 6) (L' := [some (.ref 61), some (.int a0), some (.int b0)]) (S' := [.int 1, .int a0, .ref 80]) (w' := w) rfl ?_
  obtain ⟨b1, hs⟩ := hs
  refine tm_k (pc' := 7) (L' := [some (.ref 61), some (.int a0), some (.int b0)]) (S' := []) (w' := (sI w 80 a0.toInt.toNat 1)) rfl b1 ?_
  refine tm_go 3 (pc' := 10) (L' := [some (.ref 61), some (.int a0), some (.int b0)]) (S' := [.int b0, .int a0, .ref 61]) (w' := (sI w 80 a0.toInt.toNat 1)) rfl ?_
  refine tm_c rfl (Nat.le_of_ble_eq_true rfl) (dm_Ru_choose (d := d + 0) hs) (fun v w2 hq => ?_)
  obtain ⟨rfl, hs⟩ := hq
  refine tm_go 1 (pc' := 14) (L' := [some (.ref 61), some (.int a0), some (.int b0)]) (S' := [.int 2]) (w' := w2) rfl ?_
  exact tm_r rfl ⟨_, rfl, hs⟩
set_option maxHeartbeats 4000000 in
set_option maxRecDepth 100000 in
theorem tx_Ru_beginPar_9 {d : Nat} {x9_1 : Int32} {E : MW → Prop} {Q : Int32 → MW → Prop} (n : Nat) : ∀ (x9_2 : Int32) (x9_3 : Int32)   (w : MW), q_Ru_beginPar_9 x9_1 E Q n x9_2 x9_3 w → (∀  (v2 : Option Value) (v3 : Option Value) (w : MW), E  w → Tm (d + 2) 221 40 [some (.ref 61), some (.int x9_1), v2, v3] [] w (RI Q)) → Tm (d + 2) 221 9 [some (.ref 61), some (.int x9_1), some (.int x9_2), some (.int x9_3)] [] w (RI Q) := by
  induction n with
  | zero => intro x9_2 x9_3  w hs; rw [q_Ru_beginPar_9.eq_1] at hs; exact hs.elim
  | succ n ih =>
    intro x9_2 x9_3  w hs hE
    rw [q_Ru_beginPar_9.eq_2] at hs
    refine tm_go 2 (pc' := 13) (L' := [some (.ref 61), some (.int x9_1), some (.int x9_2), some (.int x9_3)]) (S' := [.int 500, .int x9_3]) (w' := w) rfl ?_
    refine tm_i (p1 := 40) (p2 := 16) rfl (fun h2 => ?_) (fun h2 => ?_)
    · replace hs := hs.1 h2
      exact hE _ _ _ hs
    · replace hs := hs.2 h2
      refine tm_go 1 (pc' := 17) (L' := [some (.ref 61), some (.int x9_1), some (.int x9_2), some (.int x9_3)]) (S' := [.int x9_2]) (w' := w) rfl ?_
      refine tm_i (p1 := 40) (p2 := 20) rfl (fun h3 => ?_) (fun h3 => ?_)
      · replace hs := hs.1 h3
        exact hE _ _ _ hs
      · replace hs := hs.2 h3
        refine tm_go 4 (pc' := 26) (L' := [some (.ref 61), some (.int x9_1), some (.int x9_2), some (.int x9_3)]) (S' := [.int 0, .int x9_2, .ref 80]) (w' := w) rfl ?_
        obtain ⟨b4, hs⟩ := hs
        refine tm_k (pc' := 27) (L' := [some (.ref 61), some (.int x9_1), some (.int x9_2), some (.int x9_3)]) (S' := []) (w' := (sI w 80 x9_2.toInt.toNat 0)) rfl b4 ?_
        refine tm_go 3 (pc' := 32) (L' := [some (.ref 61), some (.int x9_1), some (.int x9_2), some (.int x9_3)]) (S' := [.int x9_2, .ref 79]) (w' := (sI w 80 x9_2.toInt.toNat 0)) rfl ?_
        obtain ⟨b5, hs⟩ := hs
        refine tm_k (pc' := 33) (L' := [some (.ref 61), some (.int x9_1), some (.int x9_2), some (.int x9_3)]) (S' := [.int (w.1 79 x9_2.toInt.toNat)]) (w' := (sI w 80 x9_2.toInt.toNat 0)) rfl b5 ?_
        refine tm_go 3 (pc' := 9) (L' := [some (.ref 61), some (.int x9_1), some (.int (w.1 79 x9_2.toInt.toNat)), some (.int (x9_3 + (1 : Int32)))]) (S' := []) (w' := (sI w 80 x9_2.toInt.toNat 0)) rfl ?_
        exact ih _ _ _ hs hE
set_option maxHeartbeats 4000000 in
set_option maxRecDepth 100000 in
theorem dm_Ru_beginPar {d : Nat} {w : MW} {a0 : Int32} {Q : Int32 → MW → Prop} (hs : p_Ru_beginPar w a0 Q) : Tc (d + 2) 221 [.ref 61, .int a0] w (RI Q) := by
  unfold p_Ru_beginPar at hs
  refine tm_go 3 (pc' := 5) (L' := [some (.ref 61), some (.int a0), none, none]) (S' := [.int a0, .ref 78]) (w' := w) rfl ?_
  obtain ⟨b1, hs⟩ := hs
  refine tm_k (pc' := 6) (L' := [some (.ref 61), some (.int a0), none, none]) (S' := [.int (w.1 78 a0.toInt.toNat)]) (w' := w) rfl b1 ?_
  refine tm_go 3 (pc' := 9) (L' := [some (.ref 61), some (.int a0), some (.int (w.1 78 a0.toInt.toNat)), some (.int 0)]) (S' := []) (w' := w) rfl ?_
  refine tx_Ru_beginPar_9 FU _ _ _ hs (fun  z6_2 z6_3 w6 hs => ?_)
  refine tm_go 3 (pc' := 43) (L' := [some (.ref 61), some (.int a0), z6_2, z6_3]) (S' := [.int (-1), .int a0, .ref 61]) (w' := w6) rfl ?_
  refine tm_c rfl (Nat.le_of_ble_eq_true rfl) (dm_Ru_goInside (d := d + 0) hs) (fun v w7 hq => ?_)
  obtain ⟨r7, rfl, hs⟩ := hq
  exact tm_r rfl ⟨_, rfl, hs⟩
set_option maxHeartbeats 4000000 in
set_option maxRecDepth 100000 in
theorem dm_Ru_stand {d : Nat} {w : MW} {a0 : Int32} {Q : Int32 → MW → Prop} (hs : p_Ru_stand w a0 Q) : Tc (d + 0) 219 [.ref 61, .int a0] w (RI Q) := by
  unfold p_Ru_stand at hs
  refine tm_go 4 (pc' := 6) (L' := [some (.ref 61), some (.int a0)]) (S' := [.int 1, .int a0, .ref 80]) (w' := w) rfl ?_
  obtain ⟨b1, hs⟩ := hs
  refine tm_k (pc' := 7) (L' := [some (.ref 61), some (.int a0)]) (S' := []) (w' := (sI w 80 a0.toInt.toNat 1)) rfl b1 ?_
  refine tm_go 4 (pc' := 13) (L' := [some (.ref 61), some (.int a0)]) (S' := [.int (-1), .int a0, .ref 81]) (w' := (sI w 80 a0.toInt.toNat 1)) rfl ?_
  obtain ⟨b2, hs⟩ := hs
  refine tm_k (pc' := 14) (L' := [some (.ref 61), some (.int a0)]) (S' := []) (w' := (sI (sI w 80 a0.toInt.toNat 1) 81 a0.toInt.toNat (-1))) rfl b2 ?_
  refine tm_go 1 (pc' := 15) (L' := [some (.ref 61), some (.int a0)]) (S' := [.int 0]) (w' := (sI (sI w 80 a0.toInt.toNat 1) 81 a0.toInt.toNat (-1))) rfl ?_
  exact tm_r rfl ⟨_, rfl, hs⟩
set_option maxHeartbeats 4000000 in
set_option maxRecDepth 100000 in
theorem dm_Ru_beginPlain {d : Nat} {w : MW} {a0 : Int32} {b0 : Int32} {Q : Int32 → MW → Prop} (hs : p_Ru_beginPlain w a0 b0 Q) : Tc (d + 6) 218 [.ref 61, .int a0, .int b0] w (RI Q) := by
  unfold p_Ru_beginPlain at hs
  refine tm_go 3 (pc' := 5) (L' := [some (.ref 61), some (.int a0), some (.int b0), none, none]) (S' := [.int a0, .ref 77]) (w' := w) rfl ?_
  obtain ⟨b1, hs⟩ := hs
  refine tm_k (pc' := 6) (L' := [some (.ref 61), some (.int a0), some (.int b0), none, none]) (S' := [.int (w.1 77 a0.toInt.toNat)]) (w' := w) rfl b1 ?_
  refine tm_go 2 (pc' := 8) (L' := [some (.ref 61), some (.int a0), some (.int b0), some (.int (w.1 77 a0.toInt.toNat)), none]) (S' := [.int b0]) (w' := w) rfl ?_
  by_cases h2 : b0.toInt = 16
  · replace hs := hs.1 h2
    refine tm_tab (dflt := 146) (lo := 16) (ts := [140, 146, 146, 146, 146, 146, 127, 146, 120, 113, 68]) rfl (by rw [h2]; decide) (t := 140) (by rw [h2]; rfl) ?_
    refine tm_go 2 (pc' := 142) (L' := [some (.ref 61), some (.int a0), some (.int b0), some (.int (w.1 77 a0.toInt.toNat)), none]) (S' := [.int a0, .ref 61]) (w' := w) rfl ?_
    refine tm_c rfl (Nat.le_of_ble_eq_true rfl) (dm_Ru_beginPar (d := d + 3) hs) (fun v w3 hq => ?_)
    obtain ⟨r3, rfl, hs⟩ := hq
    exact tm_r rfl ⟨_, rfl, hs⟩
  · replace hs := hs.2 h2
    by_cases h4 : b0.toInt = 17
    · replace hs := hs.1 h4
      refine tm_tab (dflt := 146) (lo := 16) (ts := [140, 146, 146, 146, 146, 146, 127, 146, 120, 113, 68]) rfl (by rw [h4]; decide) (t := 146) (by rw [h4]; rfl) ?_
      refine tm_go 5 (pc' := 153) (L' := [some (.ref 61), some (.int a0), some (.int b0), some (.int (w.1 77 a0.toInt.toNat)), none]) (S' := [.int a0, .ref 78, .int a0, .ref 61]) (w' := w) rfl ?_
      obtain ⟨b5, hs⟩ := hs
      refine tm_k (pc' := 154) (L' := [some (.ref 61), some (.int a0), some (.int b0), some (.int (w.1 77 a0.toInt.toNat)), none]) (S' := [.int (w.1 78 a0.toInt.toNat), .int a0, .ref 61]) (w' := w) rfl b5 ?_
      refine tm_c rfl (Nat.le_of_ble_eq_true rfl) (dm_Ru_goInside (d := d + 4) hs) (fun v w6 hq => ?_)
      obtain ⟨r6, rfl, hs⟩ := hq
      exact tm_r rfl ⟨_, rfl, hs⟩
    · replace hs := hs.2 h4
      by_cases h7 : b0.toInt = 18
      · replace hs := hs.1 h7
        refine tm_tab (dflt := 146) (lo := 16) (ts := [140, 146, 146, 146, 146, 146, 127, 146, 120, 113, 68]) rfl (by rw [h7]; decide) (t := 146) (by rw [h7]; rfl) ?_
        refine tm_go 5 (pc' := 153) (L' := [some (.ref 61), some (.int a0), some (.int b0), some (.int (w.1 77 a0.toInt.toNat)), none]) (S' := [.int a0, .ref 78, .int a0, .ref 61]) (w' := w) rfl ?_
        obtain ⟨b8, hs⟩ := hs
        refine tm_k (pc' := 154) (L' := [some (.ref 61), some (.int a0), some (.int b0), some (.int (w.1 77 a0.toInt.toNat)), none]) (S' := [.int (w.1 78 a0.toInt.toNat), .int a0, .ref 61]) (w' := w) rfl b8 ?_
        refine tm_c rfl (Nat.le_of_ble_eq_true rfl) (dm_Ru_goInside (d := d + 4) hs) (fun v w9 hq => ?_)
        obtain ⟨r9, rfl, hs⟩ := hq
        exact tm_r rfl ⟨_, rfl, hs⟩
      · replace hs := hs.2 h7
        by_cases h10 : b0.toInt = 19
        · replace hs := hs.1 h10
          refine tm_tab (dflt := 146) (lo := 16) (ts := [140, 146, 146, 146, 146, 146, 127, 146, 120, 113, 68]) rfl (by rw [h10]; decide) (t := 146) (by rw [h10]; rfl) ?_
          refine tm_go 5 (pc' := 153) (L' := [some (.ref 61), some (.int a0), some (.int b0), some (.int (w.1 77 a0.toInt.toNat)), none]) (S' := [.int a0, .ref 78, .int a0, .ref 61]) (w' := w) rfl ?_
          obtain ⟨b11, hs⟩ := hs
          refine tm_k (pc' := 154) (L' := [some (.ref 61), some (.int a0), some (.int b0), some (.int (w.1 77 a0.toInt.toNat)), none]) (S' := [.int (w.1 78 a0.toInt.toNat), .int a0, .ref 61]) (w' := w) rfl b11 ?_
          refine tm_c rfl (Nat.le_of_ble_eq_true rfl) (dm_Ru_goInside (d := d + 4) hs) (fun v w12 hq => ?_)
          obtain ⟨r12, rfl, hs⟩ := hq
          exact tm_r rfl ⟨_, rfl, hs⟩
        · replace hs := hs.2 h10
          by_cases h13 : b0.toInt = 20
          · replace hs := hs.1 h13
            refine tm_tab (dflt := 146) (lo := 16) (ts := [140, 146, 146, 146, 146, 146, 127, 146, 120, 113, 68]) rfl (by rw [h13]; decide) (t := 146) (by rw [h13]; rfl) ?_
            refine tm_go 5 (pc' := 153) (L' := [some (.ref 61), some (.int a0), some (.int b0), some (.int (w.1 77 a0.toInt.toNat)), none]) (S' := [.int a0, .ref 78, .int a0, .ref 61]) (w' := w) rfl ?_
            obtain ⟨b14, hs⟩ := hs
            refine tm_k (pc' := 154) (L' := [some (.ref 61), some (.int a0), some (.int b0), some (.int (w.1 77 a0.toInt.toNat)), none]) (S' := [.int (w.1 78 a0.toInt.toNat), .int a0, .ref 61]) (w' := w) rfl b14 ?_
            refine tm_c rfl (Nat.le_of_ble_eq_true rfl) (dm_Ru_goInside (d := d + 4) hs) (fun v w15 hq => ?_)
            obtain ⟨r15, rfl, hs⟩ := hq
            exact tm_r rfl ⟨_, rfl, hs⟩
          · replace hs := hs.2 h13
            by_cases h16 : b0.toInt = 21
            · replace hs := hs.1 h16
              refine tm_tab (dflt := 146) (lo := 16) (ts := [140, 146, 146, 146, 146, 146, 127, 146, 120, 113, 68]) rfl (by rw [h16]; decide) (t := 146) (by rw [h16]; rfl) ?_
              refine tm_go 5 (pc' := 153) (L' := [some (.ref 61), some (.int a0), some (.int b0), some (.int (w.1 77 a0.toInt.toNat)), none]) (S' := [.int a0, .ref 78, .int a0, .ref 61]) (w' := w) rfl ?_
              obtain ⟨b17, hs⟩ := hs
              refine tm_k (pc' := 154) (L' := [some (.ref 61), some (.int a0), some (.int b0), some (.int (w.1 77 a0.toInt.toNat)), none]) (S' := [.int (w.1 78 a0.toInt.toNat), .int a0, .ref 61]) (w' := w) rfl b17 ?_
              refine tm_c rfl (Nat.le_of_ble_eq_true rfl) (dm_Ru_goInside (d := d + 4) hs) (fun v w18 hq => ?_)
              obtain ⟨r18, rfl, hs⟩ := hq
              exact tm_r rfl ⟨_, rfl, hs⟩
            · replace hs := hs.2 h16
              by_cases h19 : b0.toInt = 22
              · replace hs := hs.1 h19
                refine tm_tab (dflt := 146) (lo := 16) (ts := [140, 146, 146, 146, 146, 146, 127, 146, 120, 113, 68]) rfl (by rw [h19]; decide) (t := 127) (by rw [h19]; rfl) ?_
                refine tm_go 4 (pc' := 133) (L' := [some (.ref 61), some (.int a0), some (.int b0), some (.int (w.1 77 a0.toInt.toNat)), none]) (S' := [.long 0, .int a0, .ref 82]) (w' := w) rfl ?_
                obtain ⟨b20, hs⟩ := hs
                refine tm_k (pc' := 134) (L' := [some (.ref 61), some (.int a0), some (.int b0), some (.int (w.1 77 a0.toInt.toNat)), none]) (S' := []) (w' := (sJ w 82 a0.toInt.toNat 0)) rfl b20 ?_
                refine tm_go 2 (pc' := 136) (L' := [some (.ref 61), some (.int a0), some (.int b0), some (.int (w.1 77 a0.toInt.toNat)), none]) (S' := [.int a0, .ref 61]) (w' := (sJ w 82 a0.toInt.toNat 0)) rfl ?_
                refine tm_c rfl (Nat.le_of_ble_eq_true rfl) (dm_Ru_stand (d := d + 5) hs) (fun v w21 hq => ?_)
                obtain ⟨r21, rfl, hs⟩ := hq
                exact tm_r rfl ⟨_, rfl, hs⟩
              · replace hs := hs.2 h19
                by_cases h22 : b0.toInt = 23
                · replace hs := hs.1 h22
                  refine tm_tab (dflt := 146) (lo := 16) (ts := [140, 146, 146, 146, 146, 146, 127, 146, 120, 113, 68]) rfl (by rw [h22]; decide) (t := 146) (by rw [h22]; rfl) ?_
                  refine tm_go 5 (pc' := 153) (L' := [some (.ref 61), some (.int a0), some (.int b0), some (.int (w.1 77 a0.toInt.toNat)), none]) (S' := [.int a0, .ref 78, .int a0, .ref 61]) (w' := w) rfl ?_
                  obtain ⟨b23, hs⟩ := hs
                  refine tm_k (pc' := 154) (L' := [some (.ref 61), some (.int a0), some (.int b0), some (.int (w.1 77 a0.toInt.toNat)), none]) (S' := [.int (w.1 78 a0.toInt.toNat), .int a0, .ref 61]) (w' := w) rfl b23 ?_
                  refine tm_c rfl (Nat.le_of_ble_eq_true rfl) (dm_Ru_goInside (d := d + 4) hs) (fun v w24 hq => ?_)
                  obtain ⟨r24, rfl, hs⟩ := hq
                  exact tm_r rfl ⟨_, rfl, hs⟩
                · replace hs := hs.2 h22
                  by_cases h25 : b0.toInt = 24
                  · replace hs := hs.1 h25
                    refine tm_tab (dflt := 146) (lo := 16) (ts := [140, 146, 146, 146, 146, 146, 127, 146, 120, 113, 68]) rfl (by rw [h25]; decide) (t := 120) (by rw [h25]; rfl) ?_
                    refine tm_go 4 (pc' := 126) (L' := [some (.ref 61), some (.int a0), some (.int b0), some (.int (w.1 77 a0.toInt.toNat)), none]) (S' := [.int 0]) (w' := (sI w 61 4 3)) rfl ?_
                    exact tm_r rfl ⟨_, rfl, hs⟩
                  · replace hs := hs.2 h25
                    by_cases h26 : b0.toInt = 25
                    · replace hs := hs.1 h26
                      refine tm_tab (dflt := 146) (lo := 16) (ts := [140, 146, 146, 146, 146, 146, 127, 146, 120, 113, 68]) rfl (by rw [h26]; decide) (t := 113) (by rw [h26]; rfl) ?_
                      refine tm_go 4 (pc' := 119) (L' := [some (.ref 61), some (.int a0), some (.int b0), some (.int (w.1 77 a0.toInt.toNat)), none]) (S' := [.int 1]) (w' := (sI w 61 18 1)) rfl ?_
                      exact tm_r rfl ⟨_, rfl, hs⟩
                    · replace hs := hs.2 h26
                      by_cases h27 : b0.toInt = 26
                      · replace hs := hs.1 h27
                        refine tm_tab (dflt := 146) (lo := 16) (ts := [140, 146, 146, 146, 146, 146, 127, 146, 120, 113, 68]) rfl (by rw [h27]; decide) (t := 68) (by rw [h27]; rfl) ?_
                        refine tm_go 3 (pc' := 73) (L' := [some (.ref 61), some (.int a0), some (.int b0), some (.int (w.1 77 a0.toInt.toNat)), none]) (S' := [.ref 61, .ref 47]) (w' := w) rfl ?_
                        obtain ⟨b28, hs⟩ := hs
                        refine tm_g (pc' := 76) (k := 61) (j := 3) rfl b28 ?_
                        refine tm_go 2 (pc' := 80) (L' := [some (.ref 61), some (.int a0), some (.int b0), some (.int (w.1 77 a0.toInt.toNat)), none]) (S' := [.int (w.1 77 a0.toInt.toNat), .ref 64, .ref 47]) (w' := w) rfl ?_
                        obtain ⟨b29, hs⟩ := hs
                        refine tm_k (pc' := 81) (L' := [some (.ref 61), some (.int a0), some (.int b0), some (.int (w.1 77 a0.toInt.toNat)), none]) (S' := [.int (w.1 64 ((w.1 77 a0.toInt.toNat).toInt.toNat)), .ref 47]) (w' := w) rfl b29 ?_
                        refine tm_c rfl (Nat.le_of_ble_eq_true rfl) (dm_Ac_perform (d := d + 0) hs) (fun v w30 hq => ?_)
                        obtain ⟨r30, rfl, hs⟩ := hq
                        refine tm_go 2 (pc' := 88) (L' := [some (.ref 61), some (.int a0), some (.int b0), some (.int (w.1 77 a0.toInt.toNat)), some (.int r30)]) (S' := [.int r30]) (w' := w30) rfl ?_
                        refine tm_i (p1 := 111) (p2 := 91) rfl (fun h31 => ?_) (fun h31 => ?_)
                        · replace hs := hs.1 h31
                          refine tm_go 1 (pc' := 112) (L' := [some (.ref 61), some (.int a0), some (.int b0), some (.int (w.1 77 a0.toInt.toNat)), some (.int r30)]) (S' := [.int 1]) (w' := w30) rfl ?_
                          exact tm_r rfl ⟨_, rfl, hs⟩
                        · replace hs := hs.2 h31
                          refine tm_go 9 (pc' := 108) (L' := [some (.ref 61), some (.int a0), some (.int b0), some (.int (w.1 77 a0.toInt.toNat)), some (.int r30)]) (S' := [.int ((10 : Int32) + r30), .int (w.1 77 a0.toInt.toNat), .int (w30.1 7 1), .ref 3]) (w' := w30) rfl ?_
                          refine tm_c rfl (Nat.le_of_ble_eq_true rfl) (dm_Al_add (d := d + 5) hs) (fun v w32 hq => ?_)
                          obtain ⟨rfl, hs⟩ := hq
                          refine tm_go 1 (pc' := 112) (L' := [some (.ref 61), some (.int a0), some (.int b0), some (.int (w.1 77 a0.toInt.toNat)), some (.int r30)]) (S' := [.int 1]) (w' := w32) rfl ?_
                          exact tm_r rfl ⟨_, rfl, hs⟩
                      · replace hs := hs.2 h27
                        refine tm_tad (dflt := 146) (lo := 16) (ts := [140, 146, 146, 146, 146, 146, 127, 146, 120, 113, 68]) rfl (by simp only [List.length_cons, List.length_nil]; omega) ?_
                        refine tm_go 5 (pc' := 153) (L' := [some (.ref 61), some (.int a0), some (.int b0), some (.int (w.1 77 a0.toInt.toNat)), none]) (S' := [.int a0, .ref 78, .int a0, .ref 61]) (w' := w) rfl ?_
                        obtain ⟨b33, hs⟩ := hs
                        refine tm_k (pc' := 154) (L' := [some (.ref 61), some (.int a0), some (.int b0), some (.int (w.1 77 a0.toInt.toNat)), none]) (S' := [.int (w.1 78 a0.toInt.toNat), .int a0, .ref 61]) (w' := w) rfl b33 ?_
                        refine tm_c rfl (Nat.le_of_ble_eq_true rfl) (dm_Ru_goInside (d := d + 4) hs) (fun v w34 hq => ?_)
                        obtain ⟨r34, rfl, hs⟩ := hq
                        exact tm_r rfl ⟨_, rfl, hs⟩
set_option maxHeartbeats 4000000 in
set_option maxRecDepth 100000 in
theorem dm_Ru_isOver {d : Nat} {w : MW} {Q : Int32 → MW → Prop} (hs : p_Ru_isOver w Q) : Tc (d + 0) 208 [.ref 61] w (RZ Q) := by
  unfold p_Ru_isOver at hs
  refine tm_go 2 (pc' := 4) (L' := [some (.ref 61)]) (S' := [.int (w.1 61 4)]) (w' := w) rfl ?_
  refine tm_i (p1 := 11) (p2 := 7) rfl (fun h1 => ?_) (fun h1 => ?_)
  · replace hs := hs.1 h1
    refine tm_go 1 (pc' := 12) (L' := [some (.ref 61)]) (S' := [.int 0]) (w' := w) rfl ?_
    exact tm_r rfl ⟨_, rfl, by decide, hs⟩
  · replace hs := hs.2 h1
    refine tm_go 2 (pc' := 12) (L' := [some (.ref 61)]) (S' := [.int 1]) (w' := w) rfl ?_
    exact tm_r rfl ⟨_, rfl, by decide, hs⟩
set_option maxHeartbeats 4000000 in
set_option maxRecDepth 100000 in
theorem dm_Ru_apply {d : Nat} {w : MW} {a0 : Int32} {b0 : Int64} {c0 : Int64} {Q : Int64 → MW → Prop} (hs : p_Ru_apply w a0 b0 c0 Q) : Tc (d + 0) 228 [.int a0, .long b0, .long c0] w (RJ Q) := by
  unfold p_Ru_apply at hs
  refine tm_go 1 (pc' := 1) (L' := [some (.int a0), some (.long b0), none, some (.long c0), none]) (S' := [.int a0]) (w' := w) rfl ?_
  by_cases h1 : a0.toInt = 42
  · replace hs := hs.1 h1
    refine tm_tab (dflt := 158) (lo := 42) (ts := [104, 96, 158, 100, 158, 112, 158, 158, 158, 158, 158, 158, 158, 158, 158, 158, 158, 158, 130, 144]) rfl (by rw [h1]; decide) (t := 104) (by rw [h1]; rfl) ?_
    refine tm_go 5 (pc' := 111) (L' := [some (.int a0), some (.long b0), none, some (.long c0), none]) (S' := [.long ((b0 * c0) / (1000 : Int64))]) (w' := w) rfl ?_
    exact tm_r rfl ⟨_, rfl, hs⟩
  · replace hs := hs.2 h1
    by_cases h2 : a0.toInt = 43
    · replace hs := hs.1 h2
      refine tm_tab (dflt := 158) (lo := 42) (ts := [104, 96, 158, 100, 158, 112, 158, 158, 158, 158, 158, 158, 158, 158, 158, 158, 158, 158, 130, 144]) rfl (by rw [h2]; decide) (t := 96) (by rw [h2]; rfl) ?_
      refine tm_go 3 (pc' := 99) (L' := [some (.int a0), some (.long b0), none, some (.long c0), none]) (S' := [.long (b0 + c0)]) (w' := w) rfl ?_
      exact tm_r rfl ⟨_, rfl, hs⟩
    · replace hs := hs.2 h2
      by_cases h3 : a0.toInt = 44
      · replace hs := hs.1 h3
        refine tm_tab (dflt := 158) (lo := 42) (ts := [104, 96, 158, 100, 158, 112, 158, 158, 158, 158, 158, 158, 158, 158, 158, 158, 158, 158, 130, 144]) rfl (by rw [h3]; decide) (t := 158) (by rw [h3]; rfl) ?_
        refine tm_go 3 (pc' := 161) (L' := [some (.int a0), some (.long b0), none, some (.long c0), none]) (S' := [.int (lg_cmp b0 c0)]) (w' := w) rfl ?_
        refine tm_i (p1 := 170) (p2 := 164) rfl (fun h4 => ?_) (fun h4 => ?_)
        · replace hs := hs.1 h4
          refine tm_go 1 (pc' := 171) (L' := [some (.int a0), some (.long b0), none, some (.long c0), none]) (S' := [.long 0]) (w' := w) rfl ?_
          exact tm_r rfl ⟨_, rfl, hs⟩
        · replace hs := hs.2 h4
          refine tm_go 2 (pc' := 171) (L' := [some (.int a0), some (.long b0), none, some (.long c0), none]) (S' := [.long 1000]) (w' := w) rfl ?_
          exact tm_r rfl ⟨_, rfl, hs⟩
      · replace hs := hs.2 h3
        by_cases h5 : a0.toInt = 45
        · replace hs := hs.1 h5
          refine tm_tab (dflt := 158) (lo := 42) (ts := [104, 96, 158, 100, 158, 112, 158, 158, 158, 158, 158, 158, 158, 158, 158, 158, 158, 158, 130, 144]) rfl (by rw [h5]; decide) (t := 100) (by rw [h5]; rfl) ?_
          refine tm_go 3 (pc' := 103) (L' := [some (.int a0), some (.long b0), none, some (.long c0), none]) (S' := [.long (b0 - c0)]) (w' := w) rfl ?_
          exact tm_r rfl ⟨_, rfl, hs⟩
        · replace hs := hs.2 h5
          by_cases h6 : a0.toInt = 46
          · replace hs := hs.1 h6
            refine tm_tab (dflt := 158) (lo := 42) (ts := [104, 96, 158, 100, 158, 112, 158, 158, 158, 158, 158, 158, 158, 158, 158, 158, 158, 158, 130, 144]) rfl (by rw [h6]; decide) (t := 158) (by rw [h6]; rfl) ?_
            refine tm_go 3 (pc' := 161) (L' := [some (.int a0), some (.long b0), none, some (.long c0), none]) (S' := [.int (lg_cmp b0 c0)]) (w' := w) rfl ?_
            refine tm_i (p1 := 170) (p2 := 164) rfl (fun h7 => ?_) (fun h7 => ?_)
            · replace hs := hs.1 h7
              refine tm_go 1 (pc' := 171) (L' := [some (.int a0), some (.long b0), none, some (.long c0), none]) (S' := [.long 0]) (w' := w) rfl ?_
              exact tm_r rfl ⟨_, rfl, hs⟩
            · replace hs := hs.2 h7
              refine tm_go 2 (pc' := 171) (L' := [some (.int a0), some (.long b0), none, some (.long c0), none]) (S' := [.long 1000]) (w' := w) rfl ?_
              exact tm_r rfl ⟨_, rfl, hs⟩
          · replace hs := hs.2 h6
            by_cases h8 : a0.toInt = 47
            · replace hs := hs.1 h8
              refine tm_tab (dflt := 158) (lo := 42) (ts := [104, 96, 158, 100, 158, 112, 158, 158, 158, 158, 158, 158, 158, 158, 158, 158, 158, 158, 130, 144]) rfl (by rw [h8]; decide) (t := 112) (by rw [h8]; rfl) ?_
              refine tm_go 3 (pc' := 115) (L' := [some (.int a0), some (.long b0), none, some (.long c0), none]) (S' := [.int (lg_cmp c0 (0 : Int64))]) (w' := w) rfl ?_
              refine tm_i (p1 := 122) (p2 := 118) rfl (fun h9 => ?_) (fun h9 => ?_)
              · replace hs := hs.1 h9
                refine tm_go 4 (pc' := 128) (L' := [some (.int a0), some (.long b0), none, some (.long c0), none]) (S' := [.long c0, .long (b0 * (1000 : Int64))]) (w' := w) rfl ?_
                obtain ⟨b10, hs⟩ := hs
                refine tm_k (pc' := 129) (L' := [some (.int a0), some (.long b0), none, some (.long c0), none]) (S' := [.long ((b0 * (1000 : Int64)) / c0)]) (w' := w) rfl b10 ?_
                exact tm_r rfl ⟨_, rfl, hs⟩
              · replace hs := hs.2 h9
                refine tm_go 2 (pc' := 129) (L' := [some (.int a0), some (.long b0), none, some (.long c0), none]) (S' := [.long 0]) (w' := w) rfl ?_
                exact tm_r rfl ⟨_, rfl, hs⟩
            · replace hs := hs.2 h8
              by_cases h11 : a0.toInt = 48
              · replace hs := hs.1 h11
                refine tm_tab (dflt := 158) (lo := 42) (ts := [104, 96, 158, 100, 158, 112, 158, 158, 158, 158, 158, 158, 158, 158, 158, 158, 158, 158, 130, 144]) rfl (by rw [h11]; decide) (t := 158) (by rw [h11]; rfl) ?_
                refine tm_go 3 (pc' := 161) (L' := [some (.int a0), some (.long b0), none, some (.long c0), none]) (S' := [.int (lg_cmp b0 c0)]) (w' := w) rfl ?_
                refine tm_i (p1 := 170) (p2 := 164) rfl (fun h12 => ?_) (fun h12 => ?_)
                · replace hs := hs.1 h12
                  refine tm_go 1 (pc' := 171) (L' := [some (.int a0), some (.long b0), none, some (.long c0), none]) (S' := [.long 0]) (w' := w) rfl ?_
                  exact tm_r rfl ⟨_, rfl, hs⟩
                · replace hs := hs.2 h12
                  refine tm_go 2 (pc' := 171) (L' := [some (.int a0), some (.long b0), none, some (.long c0), none]) (S' := [.long 1000]) (w' := w) rfl ?_
                  exact tm_r rfl ⟨_, rfl, hs⟩
              · replace hs := hs.2 h11
                by_cases h13 : a0.toInt = 49
                · replace hs := hs.1 h13
                  refine tm_tab (dflt := 158) (lo := 42) (ts := [104, 96, 158, 100, 158, 112, 158, 158, 158, 158, 158, 158, 158, 158, 158, 158, 158, 158, 130, 144]) rfl (by rw [h13]; decide) (t := 158) (by rw [h13]; rfl) ?_
                  refine tm_go 3 (pc' := 161) (L' := [some (.int a0), some (.long b0), none, some (.long c0), none]) (S' := [.int (lg_cmp b0 c0)]) (w' := w) rfl ?_
                  refine tm_i (p1 := 170) (p2 := 164) rfl (fun h14 => ?_) (fun h14 => ?_)
                  · replace hs := hs.1 h14
                    refine tm_go 1 (pc' := 171) (L' := [some (.int a0), some (.long b0), none, some (.long c0), none]) (S' := [.long 0]) (w' := w) rfl ?_
                    exact tm_r rfl ⟨_, rfl, hs⟩
                  · replace hs := hs.2 h14
                    refine tm_go 2 (pc' := 171) (L' := [some (.int a0), some (.long b0), none, some (.long c0), none]) (S' := [.long 1000]) (w' := w) rfl ?_
                    exact tm_r rfl ⟨_, rfl, hs⟩
                · replace hs := hs.2 h13
                  by_cases h15 : a0.toInt = 50
                  · replace hs := hs.1 h15
                    refine tm_tab (dflt := 158) (lo := 42) (ts := [104, 96, 158, 100, 158, 112, 158, 158, 158, 158, 158, 158, 158, 158, 158, 158, 158, 158, 130, 144]) rfl (by rw [h15]; decide) (t := 158) (by rw [h15]; rfl) ?_
                    refine tm_go 3 (pc' := 161) (L' := [some (.int a0), some (.long b0), none, some (.long c0), none]) (S' := [.int (lg_cmp b0 c0)]) (w' := w) rfl ?_
                    refine tm_i (p1 := 170) (p2 := 164) rfl (fun h16 => ?_) (fun h16 => ?_)
                    · replace hs := hs.1 h16
                      refine tm_go 1 (pc' := 171) (L' := [some (.int a0), some (.long b0), none, some (.long c0), none]) (S' := [.long 0]) (w' := w) rfl ?_
                      exact tm_r rfl ⟨_, rfl, hs⟩
                    · replace hs := hs.2 h16
                      refine tm_go 2 (pc' := 171) (L' := [some (.int a0), some (.long b0), none, some (.long c0), none]) (S' := [.long 1000]) (w' := w) rfl ?_
                      exact tm_r rfl ⟨_, rfl, hs⟩
                  · replace hs := hs.2 h15
                    by_cases h17 : a0.toInt = 51
                    · replace hs := hs.1 h17
                      refine tm_tab (dflt := 158) (lo := 42) (ts := [104, 96, 158, 100, 158, 112, 158, 158, 158, 158, 158, 158, 158, 158, 158, 158, 158, 158, 130, 144]) rfl (by rw [h17]; decide) (t := 158) (by rw [h17]; rfl) ?_
                      refine tm_go 3 (pc' := 161) (L' := [some (.int a0), some (.long b0), none, some (.long c0), none]) (S' := [.int (lg_cmp b0 c0)]) (w' := w) rfl ?_
                      refine tm_i (p1 := 170) (p2 := 164) rfl (fun h18 => ?_) (fun h18 => ?_)
                      · replace hs := hs.1 h18
                        refine tm_go 1 (pc' := 171) (L' := [some (.int a0), some (.long b0), none, some (.long c0), none]) (S' := [.long 0]) (w' := w) rfl ?_
                        exact tm_r rfl ⟨_, rfl, hs⟩
                      · replace hs := hs.2 h18
                        refine tm_go 2 (pc' := 171) (L' := [some (.int a0), some (.long b0), none, some (.long c0), none]) (S' := [.long 1000]) (w' := w) rfl ?_
                        exact tm_r rfl ⟨_, rfl, hs⟩
                    · replace hs := hs.2 h17
                      by_cases h19 : a0.toInt = 52
                      · replace hs := hs.1 h19
                        refine tm_tab (dflt := 158) (lo := 42) (ts := [104, 96, 158, 100, 158, 112, 158, 158, 158, 158, 158, 158, 158, 158, 158, 158, 158, 158, 130, 144]) rfl (by rw [h19]; decide) (t := 158) (by rw [h19]; rfl) ?_
                        refine tm_go 3 (pc' := 161) (L' := [some (.int a0), some (.long b0), none, some (.long c0), none]) (S' := [.int (lg_cmp b0 c0)]) (w' := w) rfl ?_
                        refine tm_i (p1 := 170) (p2 := 164) rfl (fun h20 => ?_) (fun h20 => ?_)
                        · replace hs := hs.1 h20
                          refine tm_go 1 (pc' := 171) (L' := [some (.int a0), some (.long b0), none, some (.long c0), none]) (S' := [.long 0]) (w' := w) rfl ?_
                          exact tm_r rfl ⟨_, rfl, hs⟩
                        · replace hs := hs.2 h20
                          refine tm_go 2 (pc' := 171) (L' := [some (.int a0), some (.long b0), none, some (.long c0), none]) (S' := [.long 1000]) (w' := w) rfl ?_
                          exact tm_r rfl ⟨_, rfl, hs⟩
                      · replace hs := hs.2 h19
                        by_cases h21 : a0.toInt = 53
                        · replace hs := hs.1 h21
                          refine tm_tab (dflt := 158) (lo := 42) (ts := [104, 96, 158, 100, 158, 112, 158, 158, 158, 158, 158, 158, 158, 158, 158, 158, 158, 158, 130, 144]) rfl (by rw [h21]; decide) (t := 158) (by rw [h21]; rfl) ?_
                          refine tm_go 3 (pc' := 161) (L' := [some (.int a0), some (.long b0), none, some (.long c0), none]) (S' := [.int (lg_cmp b0 c0)]) (w' := w) rfl ?_
                          refine tm_i (p1 := 170) (p2 := 164) rfl (fun h22 => ?_) (fun h22 => ?_)
                          · replace hs := hs.1 h22
                            refine tm_go 1 (pc' := 171) (L' := [some (.int a0), some (.long b0), none, some (.long c0), none]) (S' := [.long 0]) (w' := w) rfl ?_
                            exact tm_r rfl ⟨_, rfl, hs⟩
                          · replace hs := hs.2 h22
                            refine tm_go 2 (pc' := 171) (L' := [some (.int a0), some (.long b0), none, some (.long c0), none]) (S' := [.long 1000]) (w' := w) rfl ?_
                            exact tm_r rfl ⟨_, rfl, hs⟩
                        · replace hs := hs.2 h21
                          by_cases h23 : a0.toInt = 54
                          · replace hs := hs.1 h23
                            refine tm_tab (dflt := 158) (lo := 42) (ts := [104, 96, 158, 100, 158, 112, 158, 158, 158, 158, 158, 158, 158, 158, 158, 158, 158, 158, 130, 144]) rfl (by rw [h23]; decide) (t := 158) (by rw [h23]; rfl) ?_
                            refine tm_go 3 (pc' := 161) (L' := [some (.int a0), some (.long b0), none, some (.long c0), none]) (S' := [.int (lg_cmp b0 c0)]) (w' := w) rfl ?_
                            refine tm_i (p1 := 170) (p2 := 164) rfl (fun h24 => ?_) (fun h24 => ?_)
                            · replace hs := hs.1 h24
                              refine tm_go 1 (pc' := 171) (L' := [some (.int a0), some (.long b0), none, some (.long c0), none]) (S' := [.long 0]) (w' := w) rfl ?_
                              exact tm_r rfl ⟨_, rfl, hs⟩
                            · replace hs := hs.2 h24
                              refine tm_go 2 (pc' := 171) (L' := [some (.int a0), some (.long b0), none, some (.long c0), none]) (S' := [.long 1000]) (w' := w) rfl ?_
                              exact tm_r rfl ⟨_, rfl, hs⟩
                          · replace hs := hs.2 h23
                            by_cases h25 : a0.toInt = 55
                            · replace hs := hs.1 h25
                              refine tm_tab (dflt := 158) (lo := 42) (ts := [104, 96, 158, 100, 158, 112, 158, 158, 158, 158, 158, 158, 158, 158, 158, 158, 158, 158, 130, 144]) rfl (by rw [h25]; decide) (t := 158) (by rw [h25]; rfl) ?_
                              refine tm_go 3 (pc' := 161) (L' := [some (.int a0), some (.long b0), none, some (.long c0), none]) (S' := [.int (lg_cmp b0 c0)]) (w' := w) rfl ?_
                              refine tm_i (p1 := 170) (p2 := 164) rfl (fun h26 => ?_) (fun h26 => ?_)
                              · replace hs := hs.1 h26
                                refine tm_go 1 (pc' := 171) (L' := [some (.int a0), some (.long b0), none, some (.long c0), none]) (S' := [.long 0]) (w' := w) rfl ?_
                                exact tm_r rfl ⟨_, rfl, hs⟩
                              · replace hs := hs.2 h26
                                refine tm_go 2 (pc' := 171) (L' := [some (.int a0), some (.long b0), none, some (.long c0), none]) (S' := [.long 1000]) (w' := w) rfl ?_
                                exact tm_r rfl ⟨_, rfl, hs⟩
                            · replace hs := hs.2 h25
                              by_cases h27 : a0.toInt = 56
                              · replace hs := hs.1 h27
                                refine tm_tab (dflt := 158) (lo := 42) (ts := [104, 96, 158, 100, 158, 112, 158, 158, 158, 158, 158, 158, 158, 158, 158, 158, 158, 158, 130, 144]) rfl (by rw [h27]; decide) (t := 158) (by rw [h27]; rfl) ?_
                                refine tm_go 3 (pc' := 161) (L' := [some (.int a0), some (.long b0), none, some (.long c0), none]) (S' := [.int (lg_cmp b0 c0)]) (w' := w) rfl ?_
                                refine tm_i (p1 := 170) (p2 := 164) rfl (fun h28 => ?_) (fun h28 => ?_)
                                · replace hs := hs.1 h28
                                  refine tm_go 1 (pc' := 171) (L' := [some (.int a0), some (.long b0), none, some (.long c0), none]) (S' := [.long 0]) (w' := w) rfl ?_
                                  exact tm_r rfl ⟨_, rfl, hs⟩
                                · replace hs := hs.2 h28
                                  refine tm_go 2 (pc' := 171) (L' := [some (.int a0), some (.long b0), none, some (.long c0), none]) (S' := [.long 1000]) (w' := w) rfl ?_
                                  exact tm_r rfl ⟨_, rfl, hs⟩
                              · replace hs := hs.2 h27
                                by_cases h29 : a0.toInt = 57
                                · replace hs := hs.1 h29
                                  refine tm_tab (dflt := 158) (lo := 42) (ts := [104, 96, 158, 100, 158, 112, 158, 158, 158, 158, 158, 158, 158, 158, 158, 158, 158, 158, 130, 144]) rfl (by rw [h29]; decide) (t := 158) (by rw [h29]; rfl) ?_
                                  refine tm_go 3 (pc' := 161) (L' := [some (.int a0), some (.long b0), none, some (.long c0), none]) (S' := [.int (lg_cmp b0 c0)]) (w' := w) rfl ?_
                                  refine tm_i (p1 := 170) (p2 := 164) rfl (fun h30 => ?_) (fun h30 => ?_)
                                  · replace hs := hs.1 h30
                                    refine tm_go 1 (pc' := 171) (L' := [some (.int a0), some (.long b0), none, some (.long c0), none]) (S' := [.long 0]) (w' := w) rfl ?_
                                    exact tm_r rfl ⟨_, rfl, hs⟩
                                  · replace hs := hs.2 h30
                                    refine tm_go 2 (pc' := 171) (L' := [some (.int a0), some (.long b0), none, some (.long c0), none]) (S' := [.long 1000]) (w' := w) rfl ?_
                                    exact tm_r rfl ⟨_, rfl, hs⟩
                                · replace hs := hs.2 h29
                                  by_cases h31 : a0.toInt = 58
                                  · replace hs := hs.1 h31
                                    refine tm_tab (dflt := 158) (lo := 42) (ts := [104, 96, 158, 100, 158, 112, 158, 158, 158, 158, 158, 158, 158, 158, 158, 158, 158, 158, 130, 144]) rfl (by rw [h31]; decide) (t := 158) (by rw [h31]; rfl) ?_
                                    refine tm_go 3 (pc' := 161) (L' := [some (.int a0), some (.long b0), none, some (.long c0), none]) (S' := [.int (lg_cmp b0 c0)]) (w' := w) rfl ?_
                                    refine tm_i (p1 := 170) (p2 := 164) rfl (fun h32 => ?_) (fun h32 => ?_)
                                    · replace hs := hs.1 h32
                                      refine tm_go 1 (pc' := 171) (L' := [some (.int a0), some (.long b0), none, some (.long c0), none]) (S' := [.long 0]) (w' := w) rfl ?_
                                      exact tm_r rfl ⟨_, rfl, hs⟩
                                    · replace hs := hs.2 h32
                                      refine tm_go 2 (pc' := 171) (L' := [some (.int a0), some (.long b0), none, some (.long c0), none]) (S' := [.long 1000]) (w' := w) rfl ?_
                                      exact tm_r rfl ⟨_, rfl, hs⟩
                                  · replace hs := hs.2 h31
                                    by_cases h33 : a0.toInt = 59
                                    · replace hs := hs.1 h33
                                      refine tm_tab (dflt := 158) (lo := 42) (ts := [104, 96, 158, 100, 158, 112, 158, 158, 158, 158, 158, 158, 158, 158, 158, 158, 158, 158, 130, 144]) rfl (by rw [h33]; decide) (t := 158) (by rw [h33]; rfl) ?_
                                      refine tm_go 3 (pc' := 161) (L' := [some (.int a0), some (.long b0), none, some (.long c0), none]) (S' := [.int (lg_cmp b0 c0)]) (w' := w) rfl ?_
                                      refine tm_i (p1 := 170) (p2 := 164) rfl (fun h34 => ?_) (fun h34 => ?_)
                                      · replace hs := hs.1 h34
                                        refine tm_go 1 (pc' := 171) (L' := [some (.int a0), some (.long b0), none, some (.long c0), none]) (S' := [.long 0]) (w' := w) rfl ?_
                                        exact tm_r rfl ⟨_, rfl, hs⟩
                                      · replace hs := hs.2 h34
                                        refine tm_go 2 (pc' := 171) (L' := [some (.int a0), some (.long b0), none, some (.long c0), none]) (S' := [.long 1000]) (w' := w) rfl ?_
                                        exact tm_r rfl ⟨_, rfl, hs⟩
                                    · replace hs := hs.2 h33
                                      by_cases h35 : a0.toInt = 60
                                      · replace hs := hs.1 h35
                                        refine tm_tab (dflt := 158) (lo := 42) (ts := [104, 96, 158, 100, 158, 112, 158, 158, 158, 158, 158, 158, 158, 158, 158, 158, 158, 158, 130, 144]) rfl (by rw [h35]; decide) (t := 130) (by rw [h35]; rfl) ?_
                                        refine tm_go 3 (pc' := 133) (L' := [some (.int a0), some (.long b0), none, some (.long c0), none]) (S' := [.int (lg_cmp b0 c0)]) (w' := w) rfl ?_
                                        refine tm_i (p1 := 142) (p2 := 136) rfl (fun h36 => ?_) (fun h36 => ?_)
                                        · replace hs := hs.1 h36
                                          refine tm_go 1 (pc' := 143) (L' := [some (.int a0), some (.long b0), none, some (.long c0), none]) (S' := [.long 0]) (w' := w) rfl ?_
                                          exact tm_r rfl ⟨_, rfl, hs⟩
                                        · replace hs := hs.2 h36
                                          refine tm_go 2 (pc' := 143) (L' := [some (.int a0), some (.long b0), none, some (.long c0), none]) (S' := [.long 1000]) (w' := w) rfl ?_
                                          exact tm_r rfl ⟨_, rfl, hs⟩
                                      · replace hs := hs.2 h35
                                        by_cases h37 : a0.toInt = 61
                                        · replace hs := hs.1 h37
                                          refine tm_tab (dflt := 158) (lo := 42) (ts := [104, 96, 158, 100, 158, 112, 158, 158, 158, 158, 158, 158, 158, 158, 158, 158, 158, 158, 130, 144]) rfl (by rw [h37]; decide) (t := 144) (by rw [h37]; rfl) ?_
                                          refine tm_go 3 (pc' := 147) (L' := [some (.int a0), some (.long b0), none, some (.long c0), none]) (S' := [.int (lg_cmp b0 c0)]) (w' := w) rfl ?_
                                          refine tm_i (p1 := 156) (p2 := 150) rfl (fun h38 => ?_) (fun h38 => ?_)
                                          · replace hs := hs.1 h38
                                            refine tm_go 1 (pc' := 157) (L' := [some (.int a0), some (.long b0), none, some (.long c0), none]) (S' := [.long 0]) (w' := w) rfl ?_
                                            exact tm_r rfl ⟨_, rfl, hs⟩
                                          · replace hs := hs.2 h38
                                            refine tm_go 2 (pc' := 157) (L' := [some (.int a0), some (.long b0), none, some (.long c0), none]) (S' := [.long 1000]) (w' := w) rfl ?_
                                            exact tm_r rfl ⟨_, rfl, hs⟩
                                        · replace hs := hs.2 h37
                                          refine tm_tad (dflt := 158) (lo := 42) (ts := [104, 96, 158, 100, 158, 112, 158, 158, 158, 158, 158, 158, 158, 158, 158, 158, 158, 158, 130, 144]) rfl (by simp only [List.length_cons, List.length_nil]; omega) ?_
                                          refine tm_go 3 (pc' := 161) (L' := [some (.int a0), some (.long b0), none, some (.long c0), none]) (S' := [.int (lg_cmp b0 c0)]) (w' := w) rfl ?_
                                          refine tm_i (p1 := 170) (p2 := 164) rfl (fun h39 => ?_) (fun h39 => ?_)
                                          · replace hs := hs.1 h39
                                            refine tm_go 1 (pc' := 171) (L' := [some (.int a0), some (.long b0), none, some (.long c0), none]) (S' := [.long 0]) (w' := w) rfl ?_
                                            exact tm_r rfl ⟨_, rfl, hs⟩
                                          · replace hs := hs.2 h39
                                            refine tm_go 2 (pc' := 171) (L' := [some (.int a0), some (.long b0), none, some (.long c0), none]) (S' := [.long 1000]) (w' := w) rfl ?_
                                            exact tm_r rfl ⟨_, rfl, hs⟩
set_option maxHeartbeats 4000000 in
set_option maxRecDepth 100000 in
theorem dm_Ru_fault {d : Nat} {w : MW} {a0 : Int32} {b0 : Int32} {Q : MW → Prop} (hs : p_Ru_fault w a0 b0 Q) : Tc (d + 1) 209 [.ref 61, .int a0, .int b0] w (RV Q) := by
  unfold p_Ru_fault at hs
  refine tm_go 7 (pc' := 13) (L' := [some (.ref 61), some (.int a0), some (.int b0)]) (S' := [.int a0, .int b0, .int (w.1 7 1), .ref 3]) (w' := w) rfl ?_
  refine tm_c rfl (Nat.le_of_ble_eq_true rfl) (dm_Al_add (d := d + 0) hs) (fun v w1 hq => ?_)
  obtain ⟨rfl, hs⟩ := hq
  refine tm_go 3 (pc' := 21) (L' := [some (.ref 61), some (.int a0), some (.int b0)]) (S' := []) (w' := (sI w1 61 4 2)) rfl ?_
  exact tm_r rfl ⟨rfl, hs⟩
set_option maxHeartbeats 4000000 in
set_option maxRecDepth 100000 in
theorem tx_Ru_reckon_53 {d : Nat} {x12_2 : Int32} {y53_3 : Int32} {y53_4 : Int32} {y53_5 : Int32} {z1 : Option Value} {w : MW} {A : Int32 → Int32 → MW → Prop} {E : MW → Prop} {Q : Int64 → MW → Prop} (hs : q_Ru_reckon_53 x12_2 y53_3 y53_4 y53_5 w A E Q) (hA : ∀ (x12_3 : Int32) (x12_4 : Int32)  (z1 : Option Value) (z5 : Option Value) (w : MW), A x12_3 x12_4 w → Tm (d + 2) 227 12 [some (.ref 61), z1, some (.int x12_2), some (.int x12_3), some (.int x12_4), z5] [] w (RJ Q)) (hE : ∀  (v1 : Option Value) (v2 : Option Value) (v3 : Option Value) (v4 : Option Value) (v5 : Option Value) (w : MW), E  w → Tm (d + 2) 227 202 [some (.ref 61), v1, v2, v3, v4, v5] [] w (RJ Q)) : Tm (d + 2) 227 53 [some (.ref 61), z1, some (.int x12_2), some (.int y53_3), some (.int y53_4), some (.int y53_5)] [] w (RJ Q) := by
  unfold q_Ru_reckon_53 at hs
  refine tm_go 5 (pc' := 62) (L' := [some (.ref 61), z1, some (.int x12_2), some (.int y53_3), some (.int y53_4), some (.int y53_5)]) (S' := [.int 31, .int y53_5, .int y53_3, .ref 86]) (w' := w) rfl ?_
  refine tm_i (p1 := 78) (p2 := 65) rfl (fun h6 => ?_) (fun h6 => ?_)
  · replace hs := hs.1 h6
    refine tm_go 1 (pc' := 79) (L' := [some (.ref 61), z1, some (.int x12_2), some (.int y53_3), some (.int y53_4), some (.int y53_5)]) (S' := [.ref 61, .int y53_3, .ref 86]) (w' := w) rfl ?_
    obtain ⟨b7, hs⟩ := hs
    refine tm_g (pc' := 82) (k := 61) (j := 3) rfl b7 ?_
    refine tm_go 2 (pc' := 86) (L' := [some (.ref 61), z1, some (.int x12_2), some (.int y53_3), some (.int y53_4), some (.int y53_5)]) (S' := [.ref 61, .ref 74, .int y53_3, .ref 86]) (w' := w) rfl ?_
    obtain ⟨b8, hs⟩ := hs
    refine tm_g (pc' := 89) (k := 61) (j := 3) rfl b8 ?_
    refine tm_go 2 (pc' := 94) (L' := [some (.ref 61), z1, some (.int x12_2), some (.int y53_3), some (.int y53_4), some (.int y53_5)]) (S' := [.int y53_4, .ref 64, .ref 74, .int y53_3, .ref 86]) (w' := w) rfl ?_
    obtain ⟨b9, hs⟩ := hs
    refine tm_k (pc' := 95) (L' := [some (.ref 61), z1, some (.int x12_2), some (.int y53_3), some (.int y53_4), some (.int y53_5)]) (S' := [.int (w.1 64 y53_4.toInt.toNat), .ref 74, .int y53_3, .ref 86]) (w' := w) rfl b9 ?_
    obtain ⟨b10, hs⟩ := hs
    refine tm_k (pc' := 96) (L' := [some (.ref 61), z1, some (.int x12_2), some (.int y53_3), some (.int y53_4), some (.int y53_5)]) (S' := [.long (w.2.1 74 ((w.1 64 y53_4.toInt.toNat).toInt.toNat)), .int y53_3, .ref 86]) (w' := w) rfl b10 ?_
    obtain ⟨b11, hs⟩ := hs
    refine tm_k (pc' := 97) (L' := [some (.ref 61), z1, some (.int x12_2), some (.int y53_3), some (.int y53_4), some (.int y53_5)]) (S' := []) (w' := (sJ w 86 y53_3.toInt.toNat (w.2.1 74 ((w.1 64 y53_4.toInt.toNat).toInt.toNat)))) rfl b11 ?_
    refine tm_go 4 (pc' := 12) (L' := [some (.ref 61), z1, some (.int x12_2), some (.int (y53_3 + (1 : Int32))), some (.int (y53_4 + (1 : Int32))), some (.int y53_5)]) (S' := []) (w' := (sJ w 86 y53_3.toInt.toNat (w.2.1 74 ((w.1 64 y53_4.toInt.toNat).toInt.toNat)))) rfl ?_
    exact hA _ _ _ _ _ hs
  · replace hs := hs.2 h6
    refine tm_go 1 (pc' := 66) (L' := [some (.ref 61), z1, some (.int x12_2), some (.int y53_3), some (.int y53_4), some (.int y53_5)]) (S' := [.ref 61, .int y53_3, .ref 86]) (w' := w) rfl ?_
    obtain ⟨b12, hs⟩ := hs
    refine tm_g (pc' := 69) (k := 61) (j := 3) rfl b12 ?_
    refine tm_go 2 (pc' := 74) (L' := [some (.ref 61), z1, some (.int x12_2), some (.int y53_3), some (.int y53_4), some (.int y53_5)]) (S' := [.int y53_4, .ref 69, .int y53_3, .ref 86]) (w' := w) rfl ?_
    obtain ⟨b13, hs⟩ := hs
    refine tm_k (pc' := 75) (L' := [some (.ref 61), z1, some (.int x12_2), some (.int y53_3), some (.int y53_4), some (.int y53_5)]) (S' := [.long (w.2.1 69 y53_4.toInt.toNat), .int y53_3, .ref 86]) (w' := w) rfl b13 ?_
    refine tm_go 1 (pc' := 96) (L' := [some (.ref 61), z1, some (.int x12_2), some (.int y53_3), some (.int y53_4), some (.int y53_5)]) (S' := [.long (w.2.1 69 y53_4.toInt.toNat), .int y53_3, .ref 86]) (w' := w) rfl ?_
    obtain ⟨b14, hs⟩ := hs
    refine tm_k (pc' := 97) (L' := [some (.ref 61), z1, some (.int x12_2), some (.int y53_3), some (.int y53_4), some (.int y53_5)]) (S' := []) (w' := (sJ w 86 y53_3.toInt.toNat (w.2.1 69 y53_4.toInt.toNat))) rfl b14 ?_
    refine tm_go 4 (pc' := 12) (L' := [some (.ref 61), z1, some (.int x12_2), some (.int (y53_3 + (1 : Int32))), some (.int (y53_4 + (1 : Int32))), some (.int y53_5)]) (S' := []) (w' := (sJ w 86 y53_3.toInt.toNat (w.2.1 69 y53_4.toInt.toNat))) rfl ?_
    exact hA _ _ _ _ _ hs
set_option maxHeartbeats 4000000 in
set_option maxRecDepth 100000 in
theorem tx_Ru_reckon_169 {d : Nat} {x12_2 : Int32} {y169_3 : Int32} {y169_4 : Int32} {y169_5 : Int32} {z1 : Option Value} {w : MW} {A : Int32 → Int32 → MW → Prop} {E : MW → Prop} {Q : Int64 → MW → Prop} (hs : q_Ru_reckon_169 x12_2 y169_3 y169_4 y169_5 w A E Q) (hA : ∀ (x12_3 : Int32) (x12_4 : Int32)  (z1 : Option Value) (z5 : Option Value) (w : MW), A x12_3 x12_4 w → Tm (d + 2) 227 12 [some (.ref 61), z1, some (.int x12_2), some (.int x12_3), some (.int x12_4), z5] [] w (RJ Q)) (hE : ∀  (v1 : Option Value) (v2 : Option Value) (v3 : Option Value) (v4 : Option Value) (v5 : Option Value) (w : MW), E  w → Tm (d + 2) 227 202 [some (.ref 61), v1, v2, v3, v4, v5] [] w (RJ Q)) : Tm (d + 2) 227 169 [some (.ref 61), z1, some (.int x12_2), some (.int y169_3), some (.int y169_4), some (.int y169_5)] [] w (RJ Q) := by
  unfold q_Ru_reckon_169 at hs
  refine tm_go 11 (pc' := 185) (L' := [some (.ref 61), z1, some (.int x12_2), some (.int y169_3), some (.int y169_4), some (.int y169_5)]) (S' := [.int (y169_3 - (1 : Int32)), .ref 86, .int y169_5, .int (y169_3 - (1 : Int32)), .ref 86]) (w' := w) rfl ?_
  obtain ⟨b20, hs⟩ := hs
  refine tm_k (pc' := 186) (L' := [some (.ref 61), z1, some (.int x12_2), some (.int y169_3), some (.int y169_4), some (.int y169_5)]) (S' := [.long (w.2.1 86 ((y169_3 - (1 : Int32)).toInt.toNat)), .int y169_5, .int (y169_3 - (1 : Int32)), .ref 86]) (w' := w) rfl b20 ?_
  refine tm_go 3 (pc' := 191) (L' := [some (.ref 61), z1, some (.int x12_2), some (.int y169_3), some (.int y169_4), some (.int y169_5)]) (S' := [.int y169_3, .ref 86, .long (w.2.1 86 ((y169_3 - (1 : Int32)).toInt.toNat)), .int y169_5, .int (y169_3 - (1 : Int32)), .ref 86]) (w' := w) rfl ?_
  obtain ⟨b21, hs⟩ := hs
  refine tm_k (pc' := 192) (L' := [some (.ref 61), z1, some (.int x12_2), some (.int y169_3), some (.int y169_4), some (.int y169_5)]) (S' := [.long (w.2.1 86 y169_3.toInt.toNat), .long (w.2.1 86 ((y169_3 - (1 : Int32)).toInt.toNat)), .int y169_5, .int (y169_3 - (1 : Int32)), .ref 86]) (w' := w) rfl b21 ?_
  refine tm_c rfl (Nat.le_of_ble_eq_true rfl) (dm_Ru_apply (d := d + 1) hs) (fun v w22 hq => ?_)
  obtain ⟨r22, rfl, hs⟩ := hq
  obtain ⟨b23, hs⟩ := hs
  refine tm_k (pc' := 196) (L' := [some (.ref 61), z1, some (.int x12_2), some (.int y169_3), some (.int y169_4), some (.int y169_5)]) (S' := []) (w' := (sJ w22 86 ((y169_3 - (1 : Int32)).toInt.toNat) r22)) rfl b23 ?_
  refine tm_go 2 (pc' := 12) (L' := [some (.ref 61), z1, some (.int x12_2), some (.int y169_3), some (.int (y169_4 + (1 : Int32))), some (.int y169_5)]) (S' := []) (w' := (sJ w22 86 ((y169_3 - (1 : Int32)).toInt.toNat) r22)) rfl ?_
  exact hA _ _ _ _ _ hs
set_option maxHeartbeats 4000000 in
set_option maxRecDepth 100000 in
theorem tx_Ru_reckon_134 {d : Nat} {x12_2 : Int32} {y134_3 : Int32} {y134_4 : Int32} {y134_5 : Int32} {z1 : Option Value} {w : MW} {A : Int32 → Int32 → MW → Prop} {E : MW → Prop} {Q : Int64 → MW → Prop} (hs : q_Ru_reckon_134 x12_2 y134_3 y134_4 y134_5 w A E Q) (hA : ∀ (x12_3 : Int32) (x12_4 : Int32)  (z1 : Option Value) (z5 : Option Value) (w : MW), A x12_3 x12_4 w → Tm (d + 2) 227 12 [some (.ref 61), z1, some (.int x12_2), some (.int x12_3), some (.int x12_4), z5] [] w (RJ Q)) (hE : ∀  (v1 : Option Value) (v2 : Option Value) (v3 : Option Value) (v4 : Option Value) (v5 : Option Value) (w : MW), E  w → Tm (d + 2) 227 202 [some (.ref 61), v1, v2, v3, v4, v5] [] w (RJ Q)) : Tm (d + 2) 227 134 [some (.ref 61), z1, some (.int x12_2), some (.int y134_3), some (.int y134_4), some (.int y134_5)] [] w (RJ Q) := by
  unfold q_Ru_reckon_134 at hs
  refine tm_go 2 (pc' := 136) (L' := [some (.ref 61), z1, some (.int x12_2), some (.int y134_3), some (.int y134_4), some (.int y134_5)]) (S' := [.int 1, .int y134_3]) (w' := w) rfl ?_
  refine tm_i (p1 := 196) (p2 := 139) rfl (fun h17 => ?_) (fun h17 => ?_)
  · replace hs := hs.1 h17
    refine tm_go 2 (pc' := 12) (L' := [some (.ref 61), z1, some (.int x12_2), some (.int y134_3), some (.int (y134_4 + (1 : Int32))), some (.int y134_5)]) (S' := []) (w' := w) rfl ?_
    exact hA _ _ _ _ _ hs
  · replace hs := hs.2 h17
    refine tm_go 1 (pc' := 142) (L' := [some (.ref 61), z1, some (.int x12_2), some (.int (y134_3 + ((-1) : Int32))), some (.int y134_4), some (.int y134_5)]) (S' := []) (w' := w) rfl ?_
    obtain ⟨g18, eg18⟩ : ∃ g : Int32, (y134_3 + ((-1) : Int32)) = g := ⟨_, rfl⟩
    rw [eg18] at hs; rw [eg18]
    refine tm_go 2 (pc' := 146) (L' := [some (.ref 61), z1, some (.int x12_2), some (.int g18), some (.int y134_4), some (.int y134_5)]) (S' := [.int 47, .int y134_5]) (w' := w) rfl ?_
    refine tm_i (p1 := 169) (p2 := 149) rfl (fun h19 => ?_) (fun h19 => ?_)
    · replace hs := hs.1 h19
      exact tx_Ru_reckon_169 hs hA hE
    · replace hs := hs.2 h19
      refine tm_go 3 (pc' := 154) (L' := [some (.ref 61), z1, some (.int x12_2), some (.int g18), some (.int y134_4), some (.int y134_5)]) (S' := [.int g18, .ref 86]) (w' := w) rfl ?_
      obtain ⟨b24, hs⟩ := hs
      refine tm_k (pc' := 155) (L' := [some (.ref 61), z1, some (.int x12_2), some (.int g18), some (.int y134_4), some (.int y134_5)]) (S' := [.long (w.2.1 86 (g18.toInt.toNat))]) (w' := w) rfl b24 ?_
      refine tm_go 2 (pc' := 157) (L' := [some (.ref 61), z1, some (.int x12_2), some (.int g18), some (.int y134_4), some (.int y134_5)]) (S' := [.int (lg_cmp (w.2.1 86 (g18.toInt.toNat)) (0 : Int64))]) (w' := w) rfl ?_
      refine tm_i (p1 := 169) (p2 := 160) rfl (fun h25 => ?_) (fun h25 => ?_)
      · replace hs := hs.1 h25
        exact tx_Ru_reckon_169 hs hA hE
      · replace hs := hs.2 h25
        refine tm_go 3 (pc' := 164) (L' := [some (.ref 61), z1, some (.int x12_2), some (.int g18), some (.int y134_4), some (.int y134_5)]) (S' := [.int y134_4, .int 1, .ref 61]) (w' := w) rfl ?_
        refine tm_c rfl (Nat.le_of_ble_eq_true rfl) (dm_Ru_fault (d := d + 0) hs) (fun v w26 hq => ?_)
        obtain ⟨rfl, hs⟩ := hq
        refine tm_go 1 (pc' := 168) (L' := [some (.ref 61), z1, some (.int x12_2), some (.int g18), some (.int y134_4), some (.int y134_5)]) (S' := [.long 0]) (w' := w26) rfl ?_
        exact tm_r rfl ⟨_, rfl, hs⟩
set_option maxHeartbeats 4000000 in
set_option maxRecDepth 100000 in
theorem tx_Ru_reckon_12 {d : Nat} {x12_2 : Int32} {E : MW → Prop} {Q : Int64 → MW → Prop} (n : Nat) : ∀ (x12_3 : Int32) (x12_4 : Int32)  (z1 : Option Value) (z5 : Option Value) (w : MW), q_Ru_reckon_12 x12_2 E Q n x12_3 x12_4 w → (∀  (v1 : Option Value) (v2 : Option Value) (v3 : Option Value) (v4 : Option Value) (v5 : Option Value) (w : MW), E  w → Tm (d + 2) 227 202 [some (.ref 61), v1, v2, v3, v4, v5] [] w (RJ Q)) → Tm (d + 2) 227 12 [some (.ref 61), z1, some (.int x12_2), some (.int x12_3), some (.int x12_4), z5] [] w (RJ Q) := by
  induction n with
  | zero => intro x12_3 x12_4 z1 z5 w hs; rw [q_Ru_reckon_12.eq_1] at hs; exact hs.elim
  | succ n ih =>
    intro x12_3 x12_4 z1 z5 w hs hE
    rw [q_Ru_reckon_12.eq_2] at hs
    refine tm_go 2 (pc' := 15) (L' := [some (.ref 61), z1, some (.int x12_2), some (.int x12_3), some (.int x12_4), z5]) (S' := [.int x12_2, .int x12_4]) (w' := w) rfl ?_
    refine tm_i (p1 := 202) (p2 := 18) rfl (fun h1 => ?_) (fun h1 => ?_)
    · replace hs := hs.1 h1
      exact hE _ _ _ _ _ _ hs
    · replace hs := hs.2 h1
      refine tm_go 4 (pc' := 24) (L' := [some (.ref 61), z1, some (.int x12_2), some (.int x12_3), some (.int x12_4), z5]) (S' := [.int 64, .int x12_3]) (w' := w) rfl ?_
      refine tm_i (p1 := 202) (p2 := 27) rfl (fun h2 => ?_) (fun h2 => ?_)
      · replace hs := hs.1 h2
        exact hE _ _ _ _ _ _ hs
      · replace hs := hs.2 h2
        refine tm_go 1 (pc' := 28) (L' := [some (.ref 61), z1, some (.int x12_2), some (.int x12_3), some (.int x12_4), z5]) (S' := [.ref 61]) (w' := w) rfl ?_
        obtain ⟨b3, hs⟩ := hs
        refine tm_g (pc' := 31) (k := 61) (j := 3) rfl b3 ?_
        refine tm_go 2 (pc' := 36) (L' := [some (.ref 61), z1, some (.int x12_2), some (.int x12_3), some (.int x12_4), z5]) (S' := [.int x12_4, .ref 63]) (w' := w) rfl ?_
        obtain ⟨b4, hs⟩ := hs
        refine tm_k (pc' := 37) (L' := [some (.ref 61), z1, some (.int x12_2), some (.int x12_3), some (.int x12_4), z5]) (S' := [.int (w.1 63 x12_4.toInt.toNat)]) (w' := w) rfl b4 ?_
        refine tm_go 3 (pc' := 43) (L' := [some (.ref 61), z1, some (.int x12_2), some (.int x12_3), some (.int x12_4), some (.int (w.1 63 x12_4.toInt.toNat))]) (S' := [.int 31, .int (w.1 63 x12_4.toInt.toNat)]) (w' := w) rfl ?_
        refine tm_i (p1 := 53) (p2 := 46) rfl (fun h5 => ?_) (fun h5 => ?_)
        · replace hs := hs.1 h5
          exact tx_Ru_reckon_53 hs (fun q0 q1 q2 q3 q4 hs => ih q0 q1 q2 q3 q4 hs hE) hE
        · replace hs := hs.2 h5
          refine tm_go 2 (pc' := 50) (L' := [some (.ref 61), z1, some (.int x12_2), some (.int x12_3), some (.int x12_4), some (.int (w.1 63 x12_4.toInt.toNat))]) (S' := [.int 30, .int (w.1 63 x12_4.toInt.toNat)]) (w' := w) rfl ?_
          refine tm_i (p1 := 103) (p2 := 53) rfl (fun h15 => ?_) (fun h15 => ?_)
          · replace hs := hs.1 h15
            refine tm_go 2 (pc' := 107) (L' := [some (.ref 61), z1, some (.int x12_2), some (.int x12_3), some (.int x12_4), some (.int (w.1 63 x12_4.toInt.toNat))]) (S' := [.int 34, .int (w.1 63 x12_4.toInt.toNat)]) (w' := w) rfl ?_
            refine tm_i (p1 := 134) (p2 := 110) rfl (fun h16 => ?_) (fun h16 => ?_)
            · replace hs := hs.1 h16
              exact tx_Ru_reckon_134 hs (fun q0 q1 q2 q3 q4 hs => ih q0 q1 q2 q3 q4 hs hE) hE
            · replace hs := hs.2 h16
              refine tm_go 1 (pc' := 111) (L' := [some (.ref 61), z1, some (.int x12_2), some (.int x12_3), some (.int x12_4), some (.int (w.1 63 x12_4.toInt.toNat))]) (S' := [.int x12_3]) (w' := w) rfl ?_
              refine tm_i (p1 := 134) (p2 := 114) rfl (fun h27 => ?_) (fun h27 => ?_)
              · replace hs := hs.1 h27
                exact tx_Ru_reckon_134 hs (fun q0 q1 q2 q3 q4 hs => ih q0 q1 q2 q3 q4 hs hE) hE
              · replace hs := hs.2 h27
                refine tm_go 10 (pc' := 128) (L' := [some (.ref 61), z1, some (.int x12_2), some (.int x12_3), some (.int x12_4), some (.int (w.1 63 x12_4.toInt.toNat))]) (S' := [.int (x12_3 - (1 : Int32)), .ref 86, .int (x12_3 - (1 : Int32)), .ref 86]) (w' := w) rfl ?_
                obtain ⟨b28, hs⟩ := hs
                refine tm_k (pc' := 129) (L' := [some (.ref 61), z1, some (.int x12_2), some (.int x12_3), some (.int x12_4), some (.int (w.1 63 x12_4.toInt.toNat))]) (S' := [.long (w.2.1 86 ((x12_3 - (1 : Int32)).toInt.toNat)), .int (x12_3 - (1 : Int32)), .ref 86]) (w' := w) rfl b28 ?_
                refine tm_go 1 (pc' := 130) (L' := [some (.ref 61), z1, some (.int x12_2), some (.int x12_3), some (.int x12_4), some (.int (w.1 63 x12_4.toInt.toNat))]) (S' := [.long (-(w.2.1 86 ((x12_3 - (1 : Int32)).toInt.toNat))), .int (x12_3 - (1 : Int32)), .ref 86]) (w' := w) rfl ?_
                obtain ⟨b29, hs⟩ := hs
                refine tm_k (pc' := 131) (L' := [some (.ref 61), z1, some (.int x12_2), some (.int x12_3), some (.int x12_4), some (.int (w.1 63 x12_4.toInt.toNat))]) (S' := []) (w' := (sJ w 86 ((x12_3 - (1 : Int32)).toInt.toNat) (-(w.2.1 86 ((x12_3 - (1 : Int32)).toInt.toNat))))) rfl b29 ?_
                refine tm_go 3 (pc' := 12) (L' := [some (.ref 61), z1, some (.int x12_2), some (.int x12_3), some (.int (x12_4 + (1 : Int32))), some (.int (w.1 63 x12_4.toInt.toNat))]) (S' := []) (w' := (sJ w 86 ((x12_3 - (1 : Int32)).toInt.toNat) (-(w.2.1 86 ((x12_3 - (1 : Int32)).toInt.toNat))))) rfl ?_
                exact ih _ _ _ _ _ hs hE
          · replace hs := hs.2 h15
            exact tx_Ru_reckon_53 hs (fun q0 q1 q2 q3 q4 hs => ih q0 q1 q2 q3 q4 hs hE) hE
set_option maxHeartbeats 4000000 in
set_option maxRecDepth 100000 in
theorem dm_Ru_reckon {d : Nat} {w : MW} {a0 : Int32} {b0 : Int32} {Q : Int64 → MW → Prop} (hs : p_Ru_reckon w a0 b0 Q) : Tc (d + 2) 227 [.ref 61, .int a0, .int b0] w (RJ Q) := by
  unfold p_Ru_reckon at hs
  refine tm_go 9 (pc' := 12) (L' := [some (.ref 61), some (.int a0), some (.int b0), some (.int 0), some (.int a0), none]) (S' := []) (w' := (sJ w 86 0 0)) rfl ?_
  refine tx_Ru_reckon_12 FU _ _ _ _ _ hs (fun  z30_1 z30_2 z30_3 z30_4 z30_5 w30 hs => ?_)
  refine tm_go 4 (pc' := 208) (L' := [some (.ref 61), z30_1, z30_2, z30_3, z30_4, z30_5]) (S' := [.long (w30.2.1 86 0)]) (w' := w30) rfl ?_
  exact tm_r rfl ⟨_, rfl, hs⟩
set_option maxHeartbeats 4000000 in
set_option maxRecDepth 100000 in
theorem dm_Ru_setValue {d : Nat} {w : MW} {a0 : Int32} {b0 : Int64} {Q : MW → Prop} (hs : p_Ru_setValue w a0 b0 Q) : Tc (d + 0) 223 [.ref 61, .int a0, .long b0] w (RV Q) := by
  unfold p_Ru_setValue at hs
  refine tm_go 1 (pc' := 1) (L' := [some (.ref 61), some (.int a0), some (.long b0), none]) (S' := [.ref 61]) (w' := w) rfl ?_
  obtain ⟨b1, hs⟩ := hs
  refine tm_g (pc' := 4) (k := 61) (j := 3) rfl b1 ?_
  refine tm_go 2 (pc' := 8) (L' := [some (.ref 61), some (.int a0), some (.long b0), none]) (S' := [.ref 61, .ref 74]) (w' := w) rfl ?_
  obtain ⟨b2, hs⟩ := hs
  refine tm_g (pc' := 11) (k := 61) (j := 3) rfl b2 ?_
  refine tm_go 2 (pc' := 15) (L' := [some (.ref 61), some (.int a0), some (.long b0), none]) (S' := [.int a0, .ref 64, .ref 74]) (w' := w) rfl ?_
  obtain ⟨b3, hs⟩ := hs
  refine tm_k (pc' := 16) (L' := [some (.ref 61), some (.int a0), some (.long b0), none]) (S' := [.int (w.1 64 a0.toInt.toNat), .ref 74]) (w' := w) rfl b3 ?_
  refine tm_go 1 (pc' := 17) (L' := [some (.ref 61), some (.int a0), some (.long b0), none]) (S' := [.long b0, .int (w.1 64 a0.toInt.toNat), .ref 74]) (w' := w) rfl ?_
  obtain ⟨b4, hs⟩ := hs
  refine tm_k (pc' := 18) (L' := [some (.ref 61), some (.int a0), some (.long b0), none]) (S' := []) (w' := (sJ w 74 ((w.1 64 a0.toInt.toNat).toInt.toNat) b0)) rfl b4 ?_
  exact tm_r rfl ⟨rfl, hs⟩
set_option maxHeartbeats 4000000 in
set_option maxRecDepth 100000 in
theorem dm_Ru_beginRamp {d : Nat} {w : MW} {a0 : Int32} {b0 : Int64} {Q : Int32 → MW → Prop} (hs : p_Ru_beginRamp w a0 b0 Q) : Tc (d + 3) 224 [.ref 61, .int a0, .long b0] w (RI Q) := by
  unfold p_Ru_beginRamp at hs
  refine tm_go 3 (pc' := 5) (L' := [some (.ref 61), some (.int a0), some (.long b0), none, none, none, none]) (S' := [.int a0, .ref 77]) (w' := w) rfl ?_
  obtain ⟨b1, hs⟩ := hs
  refine tm_k (pc' := 6) (L' := [some (.ref 61), some (.int a0), some (.long b0), none, none, none, none]) (S' := [.int (w.1 77 a0.toInt.toNat)]) (w' := w) rfl b1 ?_
  refine tm_go 3 (pc' := 10) (L' := [some (.ref 61), some (.int a0), some (.long b0), none, some (.int (w.1 77 a0.toInt.toNat)), none, none]) (S' := [.ref 61, .ref 61]) (w' := w) rfl ?_
  obtain ⟨b2, hs⟩ := hs
  refine tm_g (pc' := 13) (k := 61) (j := 3) rfl b2 ?_
  refine tm_go 2 (pc' := 18) (L' := [some (.ref 61), some (.int a0), some (.long b0), none, some (.int (w.1 77 a0.toInt.toNat)), none, none]) (S' := [.int (w.1 77 a0.toInt.toNat), .ref 66, .ref 61]) (w' := w) rfl ?_
  obtain ⟨b3, hs⟩ := hs
  refine tm_k (pc' := 19) (L' := [some (.ref 61), some (.int a0), some (.long b0), none, some (.int (w.1 77 a0.toInt.toNat)), none, none]) (S' := [.int (w.1 66 ((w.1 77 a0.toInt.toNat).toInt.toNat)), .ref 61]) (w' := w) rfl b3 ?_
  refine tm_go 1 (pc' := 21) (L' := [some (.ref 61), some (.int a0), some (.long b0), none, some (.int (w.1 77 a0.toInt.toNat)), none, none]) (S' := [.int (w.1 77 a0.toInt.toNat), .int (w.1 66 ((w.1 77 a0.toInt.toNat).toInt.toNat)), .ref 61]) (w' := w) rfl ?_
  refine tm_c rfl (Nat.le_of_ble_eq_true rfl) (dm_Ru_reckon (d := d + 0) hs) (fun v w4 hq => ?_)
  obtain ⟨r4, rfl, hs⟩ := hq
  refine tm_go 4 (pc' := 31) (L' := [some (.ref 61), some (.int a0), some (.long b0), none, some (.int (w.1 77 a0.toInt.toNat)), some (.long (r4 / (1000 : Int64))), none]) (S' := [.ref 61]) (w' := w4) rfl ?_
  refine tm_c rfl (Nat.le_of_ble_eq_true rfl) (dm_Ru_isOver (d := d + 2) hs) (fun v w5 hq => ?_)
  obtain ⟨r5, rfl, hz5, hs⟩ := hq
  refine tm_i (p1 := 39) (p2 := 37) rfl (fun h6 => ?_) (fun h6 => ?_)
  · replace hs := hs.1 h6
    refine tm_go 3 (pc' := 43) (L' := [some (.ref 61), some (.int a0), some (.long b0), none, some (.int (w.1 77 a0.toInt.toNat)), some (.long (r4 / (1000 : Int64))), none]) (S' := [.int (lg_cmp (r4 / (1000 : Int64)) (1 : Int64))]) (w' := w5) rfl ?_
    refine tm_i (p1 := 55) (p2 := 46) rfl (fun h7 => ?_) (fun h7 => ?_)
    · replace hs := hs.1 h7
      refine tm_go 5 (pc' := 64) (L' := [some (.ref 61), some (.int a0), some (.long b0), none, some (.int (w.1 77 a0.toInt.toNat)), some (.long (r4 / (1000 : Int64))), none]) (S' := [.long (w5.2.1 61 17), .int a0, .ref 82]) (w' := w5) rfl ?_
      obtain ⟨b8, hs⟩ := hs
      refine tm_k (pc' := 65) (L' := [some (.ref 61), some (.int a0), some (.long b0), none, some (.int (w.1 77 a0.toInt.toNat)), some (.long (r4 / (1000 : Int64))), none]) (S' := []) (w' := (sJ w5 82 a0.toInt.toNat (w5.2.1 61 17))) rfl b8 ?_
      refine tm_go 4 (pc' := 72) (L' := [some (.ref 61), some (.int a0), some (.long b0), none, some (.int (w.1 77 a0.toInt.toNat)), some (.long (r4 / (1000 : Int64))), none]) (S' := [.long (r4 / (1000 : Int64)), .int a0, .ref 83]) (w' := (sJ w5 82 a0.toInt.toNat (w5.2.1 61 17))) rfl ?_
      obtain ⟨b9, hs⟩ := hs
      refine tm_k (pc' := 73) (L' := [some (.ref 61), some (.int a0), some (.long b0), none, some (.int (w.1 77 a0.toInt.toNat)), some (.long (r4 / (1000 : Int64))), none]) (S' := []) (w' := (sJ (sJ w5 82 a0.toInt.toNat (w5.2.1 61 17)) 83 a0.toInt.toNat (r4 / (1000 : Int64)))) rfl b9 ?_
      refine tm_go 4 (pc' := 79) (L' := [some (.ref 61), some (.int a0), some (.long b0), none, some (.int (w.1 77 a0.toInt.toNat)), some (.long (r4 / (1000 : Int64))), none]) (S' := [.ref 61, .int a0, .ref 84]) (w' := (sJ (sJ w5 82 a0.toInt.toNat (w5.2.1 61 17)) 83 a0.toInt.toNat (r4 / (1000 : Int64)))) rfl ?_
      obtain ⟨b10, hs⟩ := hs
      refine tm_g (pc' := 82) (k := 61) (j := 3) rfl b10 ?_
      refine tm_go 2 (pc' := 86) (L' := [some (.ref 61), some (.int a0), some (.long b0), none, some (.int (w.1 77 a0.toInt.toNat)), some (.long (r4 / (1000 : Int64))), none]) (S' := [.ref 61, .ref 74, .int a0, .ref 84]) (w' := (sJ (sJ w5 82 a0.toInt.toNat (w5.2.1 61 17)) 83 a0.toInt.toNat (r4 / (1000 : Int64)))) rfl ?_
      obtain ⟨b11, hs⟩ := hs
      refine tm_g (pc' := 89) (k := 61) (j := 3) rfl b11 ?_
      refine tm_go 2 (pc' := 94) (L' := [some (.ref 61), some (.int a0), some (.long b0), none, some (.int (w.1 77 a0.toInt.toNat)), some (.long (r4 / (1000 : Int64))), none]) (S' := [.int (w.1 77 a0.toInt.toNat), .ref 64, .ref 74, .int a0, .ref 84]) (w' := (sJ (sJ w5 82 a0.toInt.toNat (w5.2.1 61 17)) 83 a0.toInt.toNat (r4 / (1000 : Int64)))) rfl ?_
      obtain ⟨b12, hs⟩ := hs
      refine tm_k (pc' := 95) (L' := [some (.ref 61), some (.int a0), some (.long b0), none, some (.int (w.1 77 a0.toInt.toNat)), some (.long (r4 / (1000 : Int64))), none]) (S' := [.int (w5.1 64 ((w.1 77 a0.toInt.toNat).toInt.toNat)), .ref 74, .int a0, .ref 84]) (w' := (sJ (sJ w5 82 a0.toInt.toNat (w5.2.1 61 17)) 83 a0.toInt.toNat (r4 / (1000 : Int64)))) rfl b12 ?_
      obtain ⟨b13, hs⟩ := hs
      refine tm_k (pc' := 96) (L' := [some (.ref 61), some (.int a0), some (.long b0), none, some (.int (w.1 77 a0.toInt.toNat)), some (.long (r4 / (1000 : Int64))), none]) (S' := [.long (w5.2.1 74 ((w5.1 64 ((w.1 77 a0.toInt.toNat).toInt.toNat)).toInt.toNat)), .int a0, .ref 84]) (w' := (sJ (sJ w5 82 a0.toInt.toNat (w5.2.1 61 17)) 83 a0.toInt.toNat (r4 / (1000 : Int64)))) rfl b13 ?_
      obtain ⟨b14, hs⟩ := hs
      refine tm_k (pc' := 97) (L' := [some (.ref 61), some (.int a0), some (.long b0), none, some (.int (w.1 77 a0.toInt.toNat)), some (.long (r4 / (1000 : Int64))), none]) (S' := []) (w' := (sJ (sJ (sJ w5 82 a0.toInt.toNat (w5.2.1 61 17)) 83 a0.toInt.toNat (r4 / (1000 : Int64))) 84 a0.toInt.toNat (w5.2.1 74 ((w5.1 64 ((w.1 77 a0.toInt.toNat).toInt.toNat)).toInt.toNat)))) rfl b14 ?_
      refine tm_go 4 (pc' := 103) (L' := [some (.ref 61), some (.int a0), some (.long b0), none, some (.int (w.1 77 a0.toInt.toNat)), some (.long (r4 / (1000 : Int64))), none]) (S' := [.long b0, .int a0, .ref 85]) (w' := (sJ (sJ (sJ w5 82 a0.toInt.toNat (w5.2.1 61 17)) 83 a0.toInt.toNat (r4 / (1000 : Int64))) 84 a0.toInt.toNat (w5.2.1 74 ((w5.1 64 ((w.1 77 a0.toInt.toNat).toInt.toNat)).toInt.toNat)))) rfl ?_
      obtain ⟨b15, hs⟩ := hs
      refine tm_k (pc' := 104) (L' := [some (.ref 61), some (.int a0), some (.long b0), none, some (.int (w.1 77 a0.toInt.toNat)), some (.long (r4 / (1000 : Int64))), none]) (S' := []) (w' := (sJ (sJ (sJ (sJ w5 82 a0.toInt.toNat (w5.2.1 61 17)) 83 a0.toInt.toNat (r4 / (1000 : Int64))) 84 a0.toInt.toNat (w5.2.1 74 ((w5.1 64 ((w.1 77 a0.toInt.toNat).toInt.toNat)).toInt.toNat))) 85 a0.toInt.toNat b0)) rfl b15 ?_
      refine tm_go 2 (pc' := 106) (L' := [some (.ref 61), some (.int a0), some (.long b0), none, some (.int (w.1 77 a0.toInt.toNat)), some (.long (r4 / (1000 : Int64))), none]) (S' := [.int a0, .ref 61]) (w' := (sJ (sJ (sJ (sJ w5 82 a0.toInt.toNat (w5.2.1 61 17)) 83 a0.toInt.toNat (r4 / (1000 : Int64))) 84 a0.toInt.toNat (w5.2.1 74 ((w5.1 64 ((w.1 77 a0.toInt.toNat).toInt.toNat)).toInt.toNat))) 85 a0.toInt.toNat b0)) rfl ?_
      refine tm_c rfl (Nat.le_of_ble_eq_true rfl) (dm_Ru_stand (d := d + 2) hs) (fun v w16 hq => ?_)
      obtain ⟨r16, rfl, hs⟩ := hq
      exact tm_r rfl ⟨_, rfl, hs⟩
    · replace hs := hs.2 h7
      refine tm_go 3 (pc' := 50) (L' := [some (.ref 61), some (.int a0), some (.long b0), none, some (.int (w.1 77 a0.toInt.toNat)), some (.long (r4 / (1000 : Int64))), none]) (S' := [.long b0, .int (w.1 77 a0.toInt.toNat), .ref 61]) (w' := w5) rfl ?_
      refine tm_c rfl (Nat.le_of_ble_eq_true rfl) (dm_Ru_setValue (d := d + 2) hs) (fun v w17 hq => ?_)
      obtain ⟨rfl, hs⟩ := hq
      refine tm_go 1 (pc' := 54) (L' := [some (.ref 61), some (.int a0), some (.long b0), none, some (.int (w.1 77 a0.toInt.toNat)), some (.long (r4 / (1000 : Int64))), none]) (S' := [.int 1]) (w' := w17) rfl ?_
      exact tm_r rfl ⟨_, rfl, hs⟩
  · replace hs := hs.2 h6
    refine tm_go 1 (pc' := 38) (L' := [some (.ref 61), some (.int a0), some (.long b0), none, some (.int (w.1 77 a0.toInt.toNat)), some (.long (r4 / (1000 : Int64))), none]) (S' := [.int 0]) (w' := w5) rfl ?_
    exact tm_r rfl ⟨_, rfl, hs⟩
set_option maxHeartbeats 4000000 in
set_option maxRecDepth 100000 in
theorem tx_Ru_beginReckoned_247 {d : Nat} {y247_1 : Int32} {y247_4 : Int64} {z2 : Option Value} {z3 : Option Value} {w : MW} {Q : Int32 → MW → Prop} (hs : q_Ru_beginReckoned_247 y247_1 y247_4 w Q) : Tm (d + 4) 222 247 [some (.ref 61), some (.int y247_1), z2, z3, some (.long y247_4), none] [] w (RI Q) := by
  unfold q_Ru_beginReckoned_247 at hs
  refine tm_go 5 (pc' := 253) (L' := [some (.ref 61), some (.int y247_1), z2, z3, some (.long y247_4), none]) (S' := [.int (lg_cmp y247_4 (0 : Int64)), .int y247_1, .ref 61]) (w' := w) rfl ?_
  refine tm_i (p1 := 265) (p2 := 256) rfl (fun h23 => ?_) (fun h23 => ?_)
  · replace hs := hs.1 h23
    refine tm_go 5 (pc' := 274) (L' := [some (.ref 61), some (.int y247_1), z2, z3, some (.long y247_4), none]) (S' := [.int y247_1, .ref 78, .ref 79, .int y247_1, .ref 61]) (w' := w) rfl ?_
    obtain ⟨b24, hs⟩ := hs
    refine tm_k (pc' := 275) (L' := [some (.ref 61), some (.int y247_1), z2, z3, some (.long y247_4), none]) (S' := [.int (w.1 78 y247_1.toInt.toNat), .ref 79, .int y247_1, .ref 61]) (w' := w) rfl b24 ?_
    obtain ⟨b25, hs⟩ := hs
    refine tm_k (pc' := 276) (L' := [some (.ref 61), some (.int y247_1), z2, z3, some (.long y247_4), none]) (S' := [.int (w.1 79 ((w.1 78 y247_1.toInt.toNat).toInt.toNat)), .int y247_1, .ref 61]) (w' := w) rfl b25 ?_
    refine tm_c rfl (Nat.le_of_ble_eq_true rfl) (dm_Ru_goInside (d := d + 2) hs) (fun v w26 hq => ?_)
    obtain ⟨r26, rfl, hs⟩ := hq
    exact tm_r rfl ⟨_, rfl, hs⟩
  · replace hs := hs.2 h23
    refine tm_go 3 (pc' := 261) (L' := [some (.ref 61), some (.int y247_1), z2, z3, some (.long y247_4), none]) (S' := [.int y247_1, .ref 78, .int y247_1, .ref 61]) (w' := w) rfl ?_
    obtain ⟨b27, hs⟩ := hs
    refine tm_k (pc' := 262) (L' := [some (.ref 61), some (.int y247_1), z2, z3, some (.long y247_4), none]) (S' := [.int (w.1 78 y247_1.toInt.toNat), .int y247_1, .ref 61]) (w' := w) rfl b27 ?_
    refine tm_go 1 (pc' := 276) (L' := [some (.ref 61), some (.int y247_1), z2, z3, some (.long y247_4), none]) (S' := [.int (w.1 78 y247_1.toInt.toNat), .int y247_1, .ref 61]) (w' := w) rfl ?_
    refine tm_c rfl (Nat.le_of_ble_eq_true rfl) (dm_Ru_goInside (d := d + 2) hs) (fun v w28 hq => ?_)
    obtain ⟨r28, rfl, hs⟩ := hq
    exact tm_r rfl ⟨_, rfl, hs⟩
set_option maxHeartbeats 4000000 in
set_option maxRecDepth 100000 in
theorem dm_Ru_beginReckoned {d : Nat} {w : MW} {a0 : Int32} {b0 : Int32} {Q : Int32 → MW → Prop} (hs : p_Ru_beginReckoned w a0 b0 Q) : Tc (d + 4) 222 [.ref 61, .int a0, .int b0] w (RI Q) := by
  unfold p_Ru_beginReckoned at hs
  refine tm_go 3 (pc' := 5) (L' := [some (.ref 61), some (.int a0), some (.int b0), none, none, none]) (S' := [.int a0, .ref 77]) (w' := w) rfl ?_
  obtain ⟨b1, hs⟩ := hs
  refine tm_k (pc' := 6) (L' := [some (.ref 61), some (.int a0), some (.int b0), none, none, none]) (S' := [.int (w.1 77 a0.toInt.toNat)]) (w' := w) rfl b1 ?_
  refine tm_go 3 (pc' := 9) (L' := [some (.ref 61), some (.int a0), some (.int b0), some (.int (w.1 77 a0.toInt.toNat)), none, none]) (S' := [.ref 61, .ref 61]) (w' := w) rfl ?_
  obtain ⟨b2, hs⟩ := hs
  refine tm_g (pc' := 12) (k := 61) (j := 3) rfl b2 ?_
  refine tm_go 2 (pc' := 16) (L' := [some (.ref 61), some (.int a0), some (.int b0), some (.int (w.1 77 a0.toInt.toNat)), none, none]) (S' := [.int (w.1 77 a0.toInt.toNat), .ref 65, .ref 61]) (w' := w) rfl ?_
  obtain ⟨b3, hs⟩ := hs
  refine tm_k (pc' := 17) (L' := [some (.ref 61), some (.int a0), some (.int b0), some (.int (w.1 77 a0.toInt.toNat)), none, none]) (S' := [.int (w.1 65 ((w.1 77 a0.toInt.toNat).toInt.toNat)), .ref 61]) (w' := w) rfl b3 ?_
  refine tm_go 1 (pc' := 18) (L' := [some (.ref 61), some (.int a0), some (.int b0), some (.int (w.1 77 a0.toInt.toNat)), none, none]) (S' := [.ref 61, .int (w.1 65 ((w.1 77 a0.toInt.toNat).toInt.toNat)), .ref 61]) (w' := w) rfl ?_
  obtain ⟨b4, hs⟩ := hs
  refine tm_g (pc' := 21) (k := 61) (j := 3) rfl b4 ?_
  refine tm_go 2 (pc' := 25) (L' := [some (.ref 61), some (.int a0), some (.int b0), some (.int (w.1 77 a0.toInt.toNat)), none, none]) (S' := [.int (w.1 77 a0.toInt.toNat), .ref 66, .int (w.1 65 ((w.1 77 a0.toInt.toNat).toInt.toNat)), .ref 61]) (w' := w) rfl ?_
  obtain ⟨b5, hs⟩ := hs
  refine tm_k (pc' := 26) (L' := [some (.ref 61), some (.int a0), some (.int b0), some (.int (w.1 77 a0.toInt.toNat)), none, none]) (S' := [.int (w.1 66 ((w.1 77 a0.toInt.toNat).toInt.toNat)), .int (w.1 65 ((w.1 77 a0.toInt.toNat).toInt.toNat)), .ref 61]) (w' := w) rfl b5 ?_
  refine tm_c rfl (Nat.le_of_ble_eq_true rfl) (dm_Ru_reckon (d := d + 1) hs) (fun v w6 hq => ?_)
  obtain ⟨r6, rfl, hs⟩ := hq
  refine tm_go 2 (pc' := 32) (L' := [some (.ref 61), some (.int a0), some (.int b0), some (.int (w.1 77 a0.toInt.toNat)), some (.long r6), none]) (S' := [.ref 61]) (w' := w6) rfl ?_
  refine tm_c rfl (Nat.le_of_ble_eq_true rfl) (dm_Ru_isOver (d := d + 3) hs) (fun v w7 hq => ?_)
  obtain ⟨r7, rfl, hz7, hs⟩ := hq
  refine tm_i (p1 := 40) (p2 := 38) rfl (fun h8 => ?_) (fun h8 => ?_)
  · replace hs := hs.1 h8
    refine tm_go 1 (pc' := 41) (L' := [some (.ref 61), some (.int a0), some (.int b0), some (.int (w.1 77 a0.toInt.toNat)), some (.long r6), none]) (S' := [.int b0]) (w' := w7) rfl ?_
    by_cases h9 : b0.toInt = 11
    · replace hs := hs.1 h9
      refine tm_tab (dflt := 224) (lo := 11) (ts := [92, 101, 142, 159, 224, 224, 191, 224, 167]) rfl (by rw [h9]; decide) (t := 92) (by rw [h9]; rfl) ?_
      refine tm_go 3 (pc' := 96) (L' := [some (.ref 61), some (.int a0), some (.int b0), some (.int (w.1 77 a0.toInt.toNat)), some (.long r6), none]) (S' := [.long r6, .int (w.1 77 a0.toInt.toNat), .ref 61]) (w' := w7) rfl ?_
      refine tm_c rfl (Nat.le_of_ble_eq_true rfl) (dm_Ru_setValue (d := d + 3) hs) (fun v w10 hq => ?_)
      obtain ⟨rfl, hs⟩ := hq
      refine tm_go 1 (pc' := 100) (L' := [some (.ref 61), some (.int a0), some (.int b0), some (.int (w.1 77 a0.toInt.toNat)), some (.long r6), none]) (S' := [.int 1]) (w' := w10) rfl ?_
      exact tm_r rfl ⟨_, rfl, hs⟩
    · replace hs := hs.2 h9
      by_cases h11 : b0.toInt = 12
      · replace hs := hs.1 h11
        refine tm_tab (dflt := 224) (lo := 11) (ts := [92, 101, 142, 159, 224, 224, 191, 224, 167]) rfl (by rw [h11]; decide) (t := 101) (by rw [h11]; rfl) ?_
        refine tm_go 9 (pc' := 117) (L' := [some (.ref 61), some (.int a0), some (.int b0), some (.int (w.1 77 a0.toInt.toNat)), some (.long r6), none]) (S' := [.long ((w7.2.1 61 17) + (r6 / (1000 : Int64))), .int a0, .ref 82]) (w' := w7) rfl ?_
        obtain ⟨b12, hs⟩ := hs
        refine tm_k (pc' := 118) (L' := [some (.ref 61), some (.int a0), some (.int b0), some (.int (w.1 77 a0.toInt.toNat)), some (.long r6), none]) (S' := []) (w' := (sJ w7 82 a0.toInt.toNat ((w7.2.1 61 17) + (r6 / (1000 : Int64))))) rfl b12 ?_
        refine tm_go 3 (pc' := 123) (L' := [some (.ref 61), some (.int a0), some (.int b0), some (.int (w.1 77 a0.toInt.toNat)), some (.long r6), none]) (S' := [.int a0, .ref 82]) (w' := (sJ w7 82 a0.toInt.toNat ((w7.2.1 61 17) + (r6 / (1000 : Int64))))) rfl ?_
        obtain ⟨b13, hs⟩ := hs
        refine tm_k (pc' := 124) (L' := [some (.ref 61), some (.int a0), some (.int b0), some (.int (w.1 77 a0.toInt.toNat)), some (.long r6), none]) (S' := [.long ((sJ w7 82 a0.toInt.toNat ((w7.2.1 61 17) + (r6 / (1000 : Int64)))).2.1 82 a0.toInt.toNat)]) (w' := (sJ w7 82 a0.toInt.toNat ((w7.2.1 61 17) + (r6 / (1000 : Int64))))) rfl b13 ?_
        refine tm_go 3 (pc' := 129) (L' := [some (.ref 61), some (.int a0), some (.int b0), some (.int (w.1 77 a0.toInt.toNat)), some (.long r6), none]) (S' := [.int (lg_cmp ((sJ w7 82 a0.toInt.toNat ((w7.2.1 61 17) + (r6 / (1000 : Int64)))).2.1 82 a0.toInt.toNat) (w7.2.1 61 17))]) (w' := (sJ w7 82 a0.toInt.toNat ((w7.2.1 61 17) + (r6 / (1000 : Int64))))) rfl ?_
        refine tm_i (p1 := 136) (p2 := 132) rfl (fun h14 => ?_) (fun h14 => ?_)
        · replace hs := hs.1 h14
          refine tm_go 2 (pc' := 138) (L' := [some (.ref 61), some (.int a0), some (.int b0), some (.int (w.1 77 a0.toInt.toNat)), some (.long r6), none]) (S' := [.int a0, .ref 61]) (w' := (sJ w7 82 a0.toInt.toNat ((w7.2.1 61 17) + (r6 / (1000 : Int64))))) rfl ?_
          refine tm_c rfl (Nat.le_of_ble_eq_true rfl) (dm_Ru_stand (d := d + 3) hs) (fun v w15 hq => ?_)
          obtain ⟨r15, rfl, hs⟩ := hq
          exact tm_r rfl ⟨_, rfl, hs⟩
        · replace hs := hs.2 h14
          refine tm_go 2 (pc' := 141) (L' := [some (.ref 61), some (.int a0), some (.int b0), some (.int (w.1 77 a0.toInt.toNat)), some (.long r6), none]) (S' := [.int 1]) (w' := (sJ w7 82 a0.toInt.toNat ((w7.2.1 61 17) + (r6 / (1000 : Int64))))) rfl ?_
          exact tm_r rfl ⟨_, rfl, hs⟩
      · replace hs := hs.2 h11
        by_cases h16 : b0.toInt = 13
        · replace hs := hs.1 h16
          refine tm_tab (dflt := 224) (lo := 11) (ts := [92, 101, 142, 159, 224, 224, 191, 224, 167]) rfl (by rw [h16]; decide) (t := 142) (by rw [h16]; rfl) ?_
          refine tm_go 3 (pc' := 146) (L' := [some (.ref 61), some (.int a0), some (.int b0), some (.int (w.1 77 a0.toInt.toNat)), some (.long r6), none]) (S' := [.int (lg_cmp r6 (0 : Int64))]) (w' := w7) rfl ?_
          refine tm_i (p1 := 153) (p2 := 149) rfl (fun h17 => ?_) (fun h17 => ?_)
          · replace hs := hs.1 h17
            refine tm_go 2 (pc' := 155) (L' := [some (.ref 61), some (.int a0), some (.int b0), some (.int (w.1 77 a0.toInt.toNat)), some (.long r6), none]) (S' := [.int a0, .ref 61]) (w' := w7) rfl ?_
            refine tm_c rfl (Nat.le_of_ble_eq_true rfl) (dm_Ru_stand (d := d + 3) hs) (fun v w18 hq => ?_)
            obtain ⟨r18, rfl, hs⟩ := hq
            exact tm_r rfl ⟨_, rfl, hs⟩
          · replace hs := hs.2 h17
            refine tm_go 2 (pc' := 158) (L' := [some (.ref 61), some (.int a0), some (.int b0), some (.int (w.1 77 a0.toInt.toNat)), some (.long r6), none]) (S' := [.int 1]) (w' := w7) rfl ?_
            exact tm_r rfl ⟨_, rfl, hs⟩
        · replace hs := hs.2 h16
          by_cases h19 : b0.toInt = 14
          · replace hs := hs.1 h19
            refine tm_tab (dflt := 224) (lo := 11) (ts := [92, 101, 142, 159, 224, 224, 191, 224, 167]) rfl (by rw [h19]; decide) (t := 159) (by rw [h19]; rfl) ?_
            refine tm_go 3 (pc' := 163) (L' := [some (.ref 61), some (.int a0), some (.int b0), some (.int (w.1 77 a0.toInt.toNat)), some (.long r6), none]) (S' := [.long r6, .int a0, .ref 61]) (w' := w7) rfl ?_
            refine tm_c rfl (Nat.le_of_ble_eq_true rfl) (dm_Ru_beginRamp (d := d + 0) hs) (fun v w20 hq => ?_)
            obtain ⟨r20, rfl, hs⟩ := hq
            exact tm_r rfl ⟨_, rfl, hs⟩
          · replace hs := hs.2 h19
            by_cases h21 : b0.toInt = 15
            · replace hs := hs.1 h21
              refine tm_tab (dflt := 224) (lo := 11) (ts := [92, 101, 142, 159, 224, 224, 191, 224, 167]) rfl (by rw [h21]; decide) (t := 224) (by rw [h21]; rfl) ?_
              refine tm_go 3 (pc' := 228) (L' := [some (.ref 61), some (.int a0), some (.int b0), some (.int (w.1 77 a0.toInt.toNat)), some (.long r6), none]) (S' := [.int (lg_cmp r6 (0 : Int64))]) (w' := w7) rfl ?_
              refine tm_i (p1 := 247) (p2 := 231) rfl (fun h22 => ?_) (fun h22 => ?_)
              · replace hs := hs.1 h22
                exact tx_Ru_beginReckoned_247 hs 
              · replace hs := hs.2 h22
                refine tm_go 7 (pc' := 244) (L' := [some (.ref 61), some (.int a0), some (.int b0), some (.int (w.1 77 a0.toInt.toNat)), some (.long r6), none]) (S' := [.int 3, .int (w.1 77 a0.toInt.toNat), .int (w7.1 7 1), .ref 3]) (w' := w7) rfl ?_
                refine tm_c rfl (Nat.le_of_ble_eq_true rfl) (dm_Al_add (d := d + 3) hs) (fun v w29 hq => ?_)
                obtain ⟨rfl, hs⟩ := hq
                exact tx_Ru_beginReckoned_247 hs 
            · replace hs := hs.2 h21
              by_cases h30 : b0.toInt = 16
              · replace hs := hs.1 h30
                refine tm_tab (dflt := 224) (lo := 11) (ts := [92, 101, 142, 159, 224, 224, 191, 224, 167]) rfl (by rw [h30]; decide) (t := 224) (by rw [h30]; rfl) ?_
                refine tm_go 3 (pc' := 228) (L' := [some (.ref 61), some (.int a0), some (.int b0), some (.int (w.1 77 a0.toInt.toNat)), some (.long r6), none]) (S' := [.int (lg_cmp r6 (0 : Int64))]) (w' := w7) rfl ?_
                refine tm_i (p1 := 247) (p2 := 231) rfl (fun h31 => ?_) (fun h31 => ?_)
                · replace hs := hs.1 h31
                  exact tx_Ru_beginReckoned_247 hs 
                · replace hs := hs.2 h31
                  refine tm_go 7 (pc' := 244) (L' := [some (.ref 61), some (.int a0), some (.int b0), some (.int (w.1 77 a0.toInt.toNat)), some (.long r6), none]) (S' := [.int 3, .int (w.1 77 a0.toInt.toNat), .int (w7.1 7 1), .ref 3]) (w' := w7) rfl ?_
                  refine tm_c rfl (Nat.le_of_ble_eq_true rfl) (dm_Al_add (d := d + 3) hs) (fun v w32 hq => ?_)
                  obtain ⟨rfl, hs⟩ := hq
                  exact tx_Ru_beginReckoned_247 hs 
              · replace hs := hs.2 h30
                by_cases h33 : b0.toInt = 17
                · replace hs := hs.1 h33
                  refine tm_tab (dflt := 224) (lo := 11) (ts := [92, 101, 142, 159, 224, 224, 191, 224, 167]) rfl (by rw [h33]; decide) (t := 191) (by rw [h33]; rfl) ?_
                  refine tm_go 5 (pc' := 197) (L' := [some (.ref 61), some (.int a0), some (.int b0), some (.int (w.1 77 a0.toInt.toNat)), some (.long r6), none]) (S' := [.int (lg_cmp r6 (0 : Int64)), .int a0, .ref 61]) (w' := w7) rfl ?_
                  refine tm_i (p1 := 209) (p2 := 200) rfl (fun h34 => ?_) (fun h34 => ?_)
                  · replace hs := hs.1 h34
                    refine tm_go 5 (pc' := 218) (L' := [some (.ref 61), some (.int a0), some (.int b0), some (.int (w.1 77 a0.toInt.toNat)), some (.long r6), none]) (S' := [.int a0, .ref 78, .ref 79, .int a0, .ref 61]) (w' := w7) rfl ?_
                    obtain ⟨b35, hs⟩ := hs
                    refine tm_k (pc' := 219) (L' := [some (.ref 61), some (.int a0), some (.int b0), some (.int (w.1 77 a0.toInt.toNat)), some (.long r6), none]) (S' := [.int (w7.1 78 a0.toInt.toNat), .ref 79, .int a0, .ref 61]) (w' := w7) rfl b35 ?_
                    obtain ⟨b36, hs⟩ := hs
                    refine tm_k (pc' := 220) (L' := [some (.ref 61), some (.int a0), some (.int b0), some (.int (w.1 77 a0.toInt.toNat)), some (.long r6), none]) (S' := [.int (w7.1 79 ((w7.1 78 a0.toInt.toNat).toInt.toNat)), .int a0, .ref 61]) (w' := w7) rfl b36 ?_
                    refine tm_c rfl (Nat.le_of_ble_eq_true rfl) (dm_Ru_goInside (d := d + 2) hs) (fun v w37 hq => ?_)
                    obtain ⟨r37, rfl, hs⟩ := hq
                    exact tm_r rfl ⟨_, rfl, hs⟩
                  · replace hs := hs.2 h34
                    refine tm_go 3 (pc' := 205) (L' := [some (.ref 61), some (.int a0), some (.int b0), some (.int (w.1 77 a0.toInt.toNat)), some (.long r6), none]) (S' := [.int a0, .ref 78, .int a0, .ref 61]) (w' := w7) rfl ?_
                    obtain ⟨b38, hs⟩ := hs
                    refine tm_k (pc' := 206) (L' := [some (.ref 61), some (.int a0), some (.int b0), some (.int (w.1 77 a0.toInt.toNat)), some (.long r6), none]) (S' := [.int (w7.1 78 a0.toInt.toNat), .int a0, .ref 61]) (w' := w7) rfl b38 ?_
                    refine tm_go 1 (pc' := 220) (L' := [some (.ref 61), some (.int a0), some (.int b0), some (.int (w.1 77 a0.toInt.toNat)), some (.long r6), none]) (S' := [.int (w7.1 78 a0.toInt.toNat), .int a0, .ref 61]) (w' := w7) rfl ?_
                    refine tm_c rfl (Nat.le_of_ble_eq_true rfl) (dm_Ru_goInside (d := d + 2) hs) (fun v w39 hq => ?_)
                    obtain ⟨r39, rfl, hs⟩ := hq
                    exact tm_r rfl ⟨_, rfl, hs⟩
                · replace hs := hs.2 h33
                  by_cases h40 : b0.toInt = 18
                  · replace hs := hs.1 h40
                    refine tm_tab (dflt := 224) (lo := 11) (ts := [92, 101, 142, 159, 224, 224, 191, 224, 167]) rfl (by rw [h40]; decide) (t := 224) (by rw [h40]; rfl) ?_
                    refine tm_go 3 (pc' := 228) (L' := [some (.ref 61), some (.int a0), some (.int b0), some (.int (w.1 77 a0.toInt.toNat)), some (.long r6), none]) (S' := [.int (lg_cmp r6 (0 : Int64))]) (w' := w7) rfl ?_
                    refine tm_i (p1 := 247) (p2 := 231) rfl (fun h41 => ?_) (fun h41 => ?_)
                    · replace hs := hs.1 h41
                      exact tx_Ru_beginReckoned_247 hs 
                    · replace hs := hs.2 h41
                      refine tm_go 7 (pc' := 244) (L' := [some (.ref 61), some (.int a0), some (.int b0), some (.int (w.1 77 a0.toInt.toNat)), some (.long r6), none]) (S' := [.int 3, .int (w.1 77 a0.toInt.toNat), .int (w7.1 7 1), .ref 3]) (w' := w7) rfl ?_
                      refine tm_c rfl (Nat.le_of_ble_eq_true rfl) (dm_Al_add (d := d + 3) hs) (fun v w42 hq => ?_)
                      obtain ⟨rfl, hs⟩ := hq
                      exact tx_Ru_beginReckoned_247 hs 
                  · replace hs := hs.2 h40
                    by_cases h43 : b0.toInt = 19
                    · replace hs := hs.1 h43
                      refine tm_tab (dflt := 224) (lo := 11) (ts := [92, 101, 142, 159, 224, 224, 191, 224, 167]) rfl (by rw [h43]; decide) (t := 167) (by rw [h43]; rfl) ?_
                      refine tm_go 6 (pc' := 178) (L' := [some (.ref 61), some (.int a0), some (.int b0), some (.int (w.1 77 a0.toInt.toNat)), some (.long r6), none]) (S' := [.long (r6 / (1000 : Int64)), .int a0, .ref 82]) (w' := w7) rfl ?_
                      obtain ⟨b44, hs⟩ := hs
                      refine tm_k (pc' := 179) (L' := [some (.ref 61), some (.int a0), some (.int b0), some (.int (w.1 77 a0.toInt.toNat)), some (.long r6), none]) (S' := []) (w' := (sJ w7 82 a0.toInt.toNat (r6 / (1000 : Int64)))) rfl b44 ?_
                      refine tm_go 5 (pc' := 186) (L' := [some (.ref 61), some (.int a0), some (.int b0), some (.int (w.1 77 a0.toInt.toNat)), some (.long r6), none]) (S' := [.int a0, .ref 78, .int a0, .ref 61]) (w' := (sJ w7 82 a0.toInt.toNat (r6 / (1000 : Int64)))) rfl ?_
                      obtain ⟨b45, hs⟩ := hs
                      refine tm_k (pc' := 187) (L' := [some (.ref 61), some (.int a0), some (.int b0), some (.int (w.1 77 a0.toInt.toNat)), some (.long r6), none]) (S' := [.int (w7.1 78 a0.toInt.toNat), .int a0, .ref 61]) (w' := (sJ w7 82 a0.toInt.toNat (r6 / (1000 : Int64)))) rfl b45 ?_
                      refine tm_c rfl (Nat.le_of_ble_eq_true rfl) (dm_Ru_goInside (d := d + 2) hs) (fun v w46 hq => ?_)
                      obtain ⟨r46, rfl, hs⟩ := hq
                      exact tm_r rfl ⟨_, rfl, hs⟩
                    · replace hs := hs.2 h43
                      refine tm_tad (dflt := 224) (lo := 11) (ts := [92, 101, 142, 159, 224, 224, 191, 224, 167]) rfl (by simp only [List.length_cons, List.length_nil]; omega) ?_
                      refine tm_go 3 (pc' := 228) (L' := [some (.ref 61), some (.int a0), some (.int b0), some (.int (w.1 77 a0.toInt.toNat)), some (.long r6), none]) (S' := [.int (lg_cmp r6 (0 : Int64))]) (w' := w7) rfl ?_
                      refine tm_i (p1 := 247) (p2 := 231) rfl (fun h47 => ?_) (fun h47 => ?_)
                      · replace hs := hs.1 h47
                        exact tx_Ru_beginReckoned_247 hs 
                      · replace hs := hs.2 h47
                        refine tm_go 7 (pc' := 244) (L' := [some (.ref 61), some (.int a0), some (.int b0), some (.int (w.1 77 a0.toInt.toNat)), some (.long r6), none]) (S' := [.int 3, .int (w.1 77 a0.toInt.toNat), .int (w7.1 7 1), .ref 3]) (w' := w7) rfl ?_
                        refine tm_c rfl (Nat.le_of_ble_eq_true rfl) (dm_Al_add (d := d + 3) hs) (fun v w48 hq => ?_)
                        obtain ⟨rfl, hs⟩ := hq
                        exact tx_Ru_beginReckoned_247 hs 
  · replace hs := hs.2 h8
    refine tm_go 1 (pc' := 39) (L' := [some (.ref 61), some (.int a0), some (.int b0), some (.int (w.1 77 a0.toInt.toNat)), some (.long r6), none]) (S' := [.int 0]) (w' := w7) rfl ?_
    exact tm_r rfl ⟨_, rfl, hs⟩
