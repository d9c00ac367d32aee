set_option maxHeartbeats 4000000 in
set_option maxRecDepth 100000 in
theorem tx_Wa_move_12 {d : Nat} {x12_1 : Int32} {E : MW → Prop} {Q : MW → Prop} (n : Nat) : ∀ (x12_2 : Int32)   (w : MW), q_Wa_move_12 x12_1 E Q n x12_2 w → (∀  (v2 : Option Value) (w : MW), E  w → Tm (d + 4) 275 36 [some (.ref 26), some (.int x12_1), v2] [] w (RV Q)) → Tm (d + 4) 275 12 [some (.ref 26), some (.int x12_1), some (.int x12_2)] [] w (RV Q) := by
  induction n with
  | zero => intro x12_2  w hs; rw [q_Wa_move_12.eq_1] at hs; exact hs.elim
  | succ n ih =>
    intro x12_2  w hs hE
    rw [q_Wa_move_12.eq_2] at hs
    refine tm_go 4 (pc' := 18) (L' := [some (.ref 26), some (.int x12_1), some (.int x12_2)]) (S' := [.int x12_1, .ref 29, .int x12_2]) (w' := w) rfl ?_
    obtain ⟨b2, hs⟩ := hs
    refine tm_k (pc' := 19) (L' := [some (.ref 26), some (.int x12_1), some (.int x12_2)]) (S' := [.int (w.1 29 x12_1.toInt.toNat), .int x12_2]) (w' := w) rfl b2 ?_
    refine tm_i (p1 := 36) (p2 := 22) rfl (fun h3 => ?_) (fun h3 => ?_)
    · replace hs := hs.1 h3
      exact hE _ _ hs
    · replace hs := hs.2 h3
      refine tm_go 2 (pc' := 24) (L' := [some (.ref 26), some (.int x12_1), some (.int x12_2)]) (S' := [.int x12_1, .ref 26]) (w' := w) rfl ?_
      refine tm_c rfl (Nat.le_of_ble_eq_true rfl) (dm_Wa_movesLitre (d := d + 0) hs) (fun v w4 hq => ?_)
      obtain ⟨r4, rfl, hz4, hs⟩ := hq
      refine tm_i (p1 := 36) (p2 := 30) rfl (fun h5 => ?_) (fun h5 => ?_)
      · replace hs := hs.1 h5
        exact hE _ _ hs
      · replace hs := hs.2 h5
        refine tm_go 2 (pc' := 12) (L' := [some (.ref 26), some (.int x12_1), some (.int (x12_2 + (1 : Int32)))]) (S' := []) (w' := w4) rfl ?_
        exact ih _ _ hs hE
set_option maxHeartbeats 4000000 in
set_option maxRecDepth 100000 in
theorem tx_Wa_move_2 {d : Nat} {E : MW → Prop} {Q : MW → Prop} (n : Nat) : ∀ (x2_1 : Int32)  (z2 : Option Value) (w : MW), q_Wa_move_2  E Q n x2_1 w → (∀  (v0 : Option Value) (v1 : Option Value) (v2 : Option Value) (w : MW), E  w → Tm (d + 4) 275 42 [v0, v1, v2] [] w (RV Q)) → Tm (d + 4) 275 2 [some (.ref 26), some (.int x2_1), z2] [] w (RV Q) := by
  induction n with
  | zero => intro x2_1 z2 w hs; rw [q_Wa_move_2.eq_1] at hs; exact hs.elim
  | succ n ih =>
    intro x2_1 z2 w hs hE
    rw [q_Wa_move_2.eq_2] at hs
    refine tm_go 3 (pc' := 7) (L' := [some (.ref 26), some (.int x2_1), z2]) (S' := [.int (w.1 26 1), .int x2_1]) (w' := w) rfl ?_
    refine tm_i (p1 := 42) (p2 := 10) rfl (fun h1 => ?_) (fun h1 => ?_)
    · replace hs := hs.1 h1
      exact hE _ _ _ _ hs
    · replace hs := hs.2 h1
      refine tm_go 2 (pc' := 12) (L' := [some (.ref 26), some (.int x2_1), some (.int 0)]) (S' := []) (w' := w) rfl ?_
      refine tx_Wa_move_12 FU _ _ hs (fun  z6_2 w6 hs => ?_)
      refine tm_go 2 (pc' := 2) (L' := [some (.ref 26), some (.int (x2_1 + (1 : Int32))), z6_2]) (S' := []) (w' := w6) rfl ?_
      exact ih _ _ _ hs hE
set_option maxHeartbeats 4000000 in
set_option maxRecDepth 100000 in
theorem dm_Wa_move {d : Nat} {w : MW} {Q : MW → Prop} (hs : p_Wa_move w Q) : Tc (d + 4) 275 [.ref 26] w (RV Q) := by
  unfold p_Wa_move at hs
  refine tm_go 2 (pc' := 2) (L' := [some (.ref 26), some (.int 0), none]) (S' := []) (w' := w) rfl ?_
  refine tx_Wa_move_2 FU _ _ _ hs (fun  z7_0 z7_1 z7_2 w7 hs => ?_)
  exact tm_r rfl ⟨rfl, hs⟩
set_option maxHeartbeats 4000000 in
set_option maxRecDepth 100000 in
theorem tx_Bh_tick_73 {d : Nat} {x15_1 : Int32} {y73_2 : Int32}  {w : MW} {A : Int32 → MW → Prop} {E : MW → Prop} {Q : Int32 → MW → Prop} (hs : q_Bh_tick_73 x15_1 y73_2 w A E Q) (hA : ∀ (x15_2 : Int32)   (w : MW), A x15_2 w → Tm (d + 408) 16 15 [some (.ref 0), some (.int x15_1), some (.int x15_2)] [] w (RI Q)) (hE : ∀  (v1 : Option Value) (v2 : Option Value) (w : MW), E  w → Tm (d + 408) 16 106 [some (.ref 0), v1, v2] [] w (RI Q)) : Tm (d + 408) 16 73 [some (.ref 0), some (.int x15_1), some (.int y73_2)] [] w (RI Q) := by
  unfold q_Bh_tick_73 at hs
  refine tm_go 2 (pc' := 77) (L' := [some (.ref 0), some (.int x15_1), some (.int y73_2)]) (S' := [.ref 26]) (w' := w) rfl ?_
  refine tm_c rfl (Nat.le_of_ble_eq_true rfl) (dm_Wa_closeAll (d := d + 406) hs) (fun v w11 hq => ?_)
  obtain ⟨rfl, hs⟩ := hq
  refine tm_go 2 (pc' := 84) (L' := [some (.ref 0), some (.int x15_1), some (.int y73_2)]) (S' := [.ref 26]) (w' := w11) rfl ?_
  refine tm_c rfl (Nat.le_of_ble_eq_true rfl) (dm_Wa_move (d := d + 403) hs) (fun v w12 hq => ?_)
  obtain ⟨rfl, hs⟩ := hq
  refine tm_go 9 (pc' := 15) (L' := [some (.ref 0), some (.int x15_1), some (.int (y73_2 + (1 : Int32)))]) (S' := []) (w' := (sI w12 7 1 ((w12.1 7 1) + (1 : Int32)))) rfl ?_
  exact hA _ _ hs
set_option maxHeartbeats 4000000 in
set_option maxRecDepth 100000 in
theorem tx_Bh_tick_15 {d : Nat} {x15_1 : Int32} {E : MW → Prop} {Q : Int32 → MW → Prop} (n : Nat) : ∀ (x15_2 : Int32)   (w : MW), q_Bh_tick_15 x15_1 E Q n x15_2 w → (∀  (v1 : Option Value) (v2 : Option Value) (w : MW), E  w → Tm (d + 408) 16 106 [some (.ref 0), v1, v2] [] w (RI Q)) → Tm (d + 408) 16 15 [some (.ref 0), some (.int x15_1), some (.int x15_2)] [] w (RI Q) := by
  induction n with
  | zero => intro x15_2  w hs; rw [q_Bh_tick_15.eq_1] at hs; exact hs.elim
  | succ n ih =>
    intro x15_2  w hs hE
    rw [q_Bh_tick_15.eq_2] at hs
    refine tm_go 2 (pc' := 17) (L' := [some (.ref 0), some (.int x15_1), some (.int x15_2)]) (S' := [.int x15_1, .int x15_2]) (w' := w) rfl ?_
    refine tm_i (p1 := 106) (p2 := 20) rfl (fun h3 => ?_) (fun h3 => ?_)
    · replace hs := hs.1 h3
      exact hE _ _ _ hs
    · replace hs := hs.2 h3
      refine tm_go 1 (pc' := 21) (L' := [some (.ref 0), some (.int x15_1), some (.int x15_2)]) (S' := [.ref 0]) (w' := w) rfl ?_
      refine tm_c rfl (Nat.le_of_ble_eq_true rfl) (dm_Bh_senseAll (d := d + 404) hs) (fun v w4 hq => ?_)
      obtain ⟨rfl, hs⟩ := hq
      refine tm_go 2 (pc' := 28) (L' := [some (.ref 0), some (.int x15_1), some (.int x15_2)]) (S' := [.ref 47]) (w' := w4) rfl ?_
      obtain ⟨b5, hs⟩ := hs
      refine tm_g (pc' := 31) (k := 47) (j := 3) rfl b5 ?_
      refine tm_c rfl (Nat.le_of_ble_eq_true rfl) (dm_Ro_countSecond (d := d + 406) hs) (fun v w6 hq => ?_)
      obtain ⟨rfl, hs⟩ := hq
      refine tm_go 3 (pc' := 41) (L' := [some (.ref 0), some (.int x15_1), some (.int x15_2)]) (S' := [.int (w6.1 61 4)]) (w' := w6) rfl ?_
      refine tm_i (p1 := 80) (p2 := 44) rfl (fun h7 => ?_) (fun h7 => ?_)
      · replace hs := hs.1 h7
        refine tm_go 2 (pc' := 84) (L' := [some (.ref 0), some (.int x15_1), some (.int x15_2)]) (S' := [.ref 26]) (w' := w6) rfl ?_
        refine tm_c rfl (Nat.le_of_ble_eq_true rfl) (dm_Wa_move (d := d + 403) hs) (fun v w8 hq => ?_)
        obtain ⟨rfl, hs⟩ := hq
        refine tm_go 9 (pc' := 15) (L' := [some (.ref 0), some (.int x15_1), some (.int (x15_2 + (1 : Int32)))]) (S' := []) (w' := (sI w8 7 1 ((w8.1 7 1) + (1 : Int32)))) rfl ?_
        exact ih _ _ hs hE
      · replace hs := hs.2 h7
        refine tm_go 2 (pc' := 48) (L' := [some (.ref 0), some (.int x15_1), some (.int x15_2)]) (S' := [.ref 61]) (w' := w6) rfl ?_
        refine tm_c rfl (Nat.le_of_ble_eq_true rfl) (dm_Ru_walk (d := d + 0) hs) (fun v w9 hq => ?_)
        obtain ⟨rfl, hs⟩ := hq
        refine tm_go 4 (pc' := 59) (L' := [some (.ref 0), some (.int x15_1), some (.int x15_2)]) (S' := [.int 2, .int (w9.1 61 4)]) (w' := w9) rfl ?_
        refine tm_i (p1 := 73) (p2 := 62) rfl (fun h10 => ?_) (fun h10 => ?_)
        · replace hs := hs.1 h10
          exact tx_Bh_tick_73 hs (fun q0 q1 hs => ih q0 q1 hs hE) hE
        · replace hs := hs.2 h10
          refine tm_go 4 (pc' := 70) (L' := [some (.ref 0), some (.int x15_1), some (.int x15_2)]) (S' := [.int 3, .int (w9.1 61 4)]) (w' := w9) rfl ?_
          refine tm_i (p1 := 80) (p2 := 73) rfl (fun h13 => ?_) (fun h13 => ?_)
          · replace hs := hs.1 h13
            refine tm_go 2 (pc' := 84) (L' := [some (.ref 0), some (.int x15_1), some (.int x15_2)]) (S' := [.ref 26]) (w' := w9) rfl ?_
            refine tm_c rfl (Nat.le_of_ble_eq_true rfl) (dm_Wa_move (d := d + 403) hs) (fun v w14 hq => ?_)
            obtain ⟨rfl, hs⟩ := hq
            refine tm_go 9 (pc' := 15) (L' := [some (.ref 0), some (.int x15_1), some (.int (x15_2 + (1 : Int32)))]) (S' := []) (w' := (sI w14 7 1 ((w14.1 7 1) + (1 : Int32)))) rfl ?_
            exact ih _ _ hs hE
          · replace hs := hs.2 h13
            exact tx_Bh_tick_73 hs (fun q0 q1 hs => ih q0 q1 hs hE) hE
set_option maxHeartbeats 4000000 in
set_option maxRecDepth 100000 in
theorem dm_Bh_tick {d : Nat} {w : MW} {a0 : Int32} {Q : Int32 → MW → Prop} (hs : p_Bh_tick w a0 Q) : Tc (d + 408) 16 [.ref 0, .int a0] w (RI Q) := by
  unfold p_Bh_tick at hs
  refine tm_go 1 (pc' := 1) (L' := [some (.ref 0), some (.int a0), none]) (S' := [.int a0]) (w' := w) rfl ?_
  refine tm_i (p1 := 11) (p2 := 4) rfl (fun h1 => ?_) (fun h1 => ?_)
  · replace hs := hs.1 h1
    refine tm_go 1 (pc' := 12) (L' := [some (.ref 0), some (.int a0), none]) (S' := [.int (-1)]) (w' := w) rfl ?_
    exact tm_r rfl ⟨_, rfl, hs⟩
  · replace hs := hs.2 h1
    refine tm_go 2 (pc' := 8) (L' := [some (.ref 0), some (.int a0), none]) (S' := [.int 600, .int a0]) (w' := w) rfl ?_
    refine tm_i (p1 := 13) (p2 := 11) rfl (fun h2 => ?_) (fun h2 => ?_)
    · replace hs := hs.1 h2
      refine tm_go 2 (pc' := 15) (L' := [some (.ref 0), some (.int a0), some (.int 0)]) (S' := []) (w' := w) rfl ?_
      refine tx_Bh_tick_15 FU _ _ hs (fun  z15_1 z15_2 w15 hs => ?_)
      refine tm_go 3 (pc' := 113) (L' := [some (.ref 0), z15_1, z15_2]) (S' := [.int (w15.1 61 4)]) (w' := w15) rfl ?_
      exact tm_r rfl ⟨_, rfl, hs⟩
    · replace hs := hs.2 h2
      refine tm_go 1 (pc' := 12) (L' := [some (.ref 0), some (.int a0), none]) (S' := [.int (-1)]) (w' := w) rfl ?_
      exact tm_r rfl ⟨_, rfl, hs⟩
set_option maxHeartbeats 4000000 in
set_option maxRecDepth 100000 in
theorem tx_Ru_seek_114 {d : Nat} {r_Ru_seek : MW → Int32 → Int32 → Int32 → (Int32 → MW → Prop) → Prop} (hr_Ru_seek : ∀ (w : MW) (a0 : Int32) (b0 : Int32) (c0 : Int32) (Q : Int32 → MW → Prop), r_Ru_seek w a0 b0 c0 Q → Tc (d + 0) 229 [.ref 61, .int a0, .int b0, .int c0] w (RI Q)) {x114_2 : Int32} {x114_3 : Int32} {x114_4 : Int32} {x114_5 : Int32} {E : Int32 → MW → Prop} {Q : Int32 → MW → Prop} (n : Nat) : ∀ (x114_6 : Int32) (x114_7 : Int32) (x114_8 : Int32)  (z1 : Option Value) (w : MW), q_Ru_seek_114 r_Ru_seek x114_2 x114_3 x114_4 x114_5 E Q n x114_6 x114_7 x114_8 w → (∀ (e114_7 : Int32)  (v1 : Option Value) (v3 : Option Value) (v6 : Option Value) (v8 : Option Value) (w : MW), E e114_7 w → Tm (d + 1) 229 159 [some (.ref 61), v1, some (.int x114_2), v3, some (.int x114_4), some (.int x114_5), v6, some (.int e114_7), v8] [] w (RI Q)) → Tm (d + 1) 229 114 [some (.ref 61), z1, some (.int x114_2), some (.int x114_3), some (.int x114_4), some (.int x114_5), some (.int x114_6), some (.int x114_7), some (.int x114_8)] [] w (RI Q) := by
  induction n with
  | zero => intro x114_6 x114_7 x114_8 z1 w hs; rw [q_Ru_seek_114.eq_1] at hs; exact hs.elim
  | succ n ih =>
    intro x114_6 x114_7 x114_8 z1 w hs hE
    rw [q_Ru_seek_114.eq_2] at hs
    refine tm_go 2 (pc' := 119) (L' := [some (.ref 61), z1, some (.int x114_2), some (.int x114_3), some (.int x114_4), some (.int x114_5), some (.int x114_6), some (.int x114_7), some (.int x114_8)]) (S' := [.int 500, .int x114_8]) (w' := w) rfl ?_
    refine tm_i (p1 := 159) (p2 := 122) rfl (fun h13 => ?_) (fun h13 => ?_)
    · replace hs := hs.1 h13
      exact hE _ _ _ _ _ _ hs
    · replace hs := hs.2 h13
      refine tm_go 1 (pc' := 124) (L' := [some (.ref 61), z1, some (.int x114_2), some (.int x114_3), some (.int x114_4), some (.int x114_5), some (.int x114_6), some (.int x114_7), some (.int x114_8)]) (S' := [.int x114_6]) (w' := w) rfl ?_
      refine tm_i (p1 := 159) (p2 := 127) rfl (fun h14 => ?_) (fun h14 => ?_)
      · replace hs := hs.1 h14
        exact hE _ _ _ _ _ _ hs
      · replace hs := hs.2 h14
        refine tm_go 1 (pc' := 129) (L' := [some (.ref 61), z1, some (.int x114_2), some (.int x114_3), some (.int x114_4), some (.int x114_5), some (.int x114_6), some (.int x114_7), some (.int x114_8)]) (S' := [.int x114_7]) (w' := w) rfl ?_
        refine tm_i (p1 := 159) (p2 := 132) rfl (fun h15 => ?_) (fun h15 => ?_)
        · replace hs := hs.1 h15
          exact hE _ _ _ _ _ _ hs
        · replace hs := hs.2 h15
          refine tm_go 6 (pc' := 139) (L' := [some (.ref 61), z1, some (.int x114_2), some (.int x114_3), some (.int x114_4), some (.int x114_5), some (.int x114_6), some (.int x114_7), some (.int x114_8)]) (S' := [.int (x114_3 + (1 : Int32)), .int x114_2, .int x114_6, .ref 61]) (w' := w) rfl ?_
          refine tm_c rfl (Nat.le_of_ble_eq_true rfl) (hr_Ru_seek _ _ _ _ _ hs) (fun v w16 hq => ?_)
          obtain ⟨r16, rfl, hs⟩ := hq
          refine tm_go 4 (pc' := 150) (L' := [some (.ref 61), z1, some (.int x114_2), some (.int x114_3), some (.int x114_4), some (.int x114_5), some (.int x114_6), some (.int r16), some (.int x114_8)]) (S' := [.int x114_6, .ref 79]) (w' := w16) rfl ?_
          obtain ⟨b17, hs⟩ := hs
          refine tm_k (pc' := 151) (L' := [some (.ref 61), z1, some (.int x114_2), some (.int x114_3), some (.int x114_4), some (.int x114_5), some (.int x114_6), some (.int r16), some (.int x114_8)]) (S' := [.int (w16.1 79 x114_6.toInt.toNat)]) (w' := w16) rfl b17 ?_
          refine tm_go 3 (pc' := 114) (L' := [some (.ref 61), z1, some (.int x114_2), some (.int x114_3), some (.int x114_4), some (.int x114_5), some (.int (w16.1 79 x114_6.toInt.toNat)), some (.int r16), some (.int (x114_8 + (1 : Int32)))]) (S' := []) (w' := w16) rfl ?_
          exact ih _ _ _ _ _ hs hE
set_option maxHeartbeats 4000000 in
set_option maxRecDepth 100000 in
theorem tx_Ru_seek_192 {d : Nat} {r_Ru_seek : MW → Int32 → Int32 → Int32 → (Int32 → MW → Prop) → Prop} (hr_Ru_seek : ∀ (w : MW) (a0 : Int32) (b0 : Int32) (c0 : Int32) (Q : Int32 → MW → Prop), r_Ru_seek w a0 b0 c0 Q → Tc (d + 0) 229 [.ref 61, .int a0, .int b0, .int c0] w (RI Q)) {y192_4 : Int32} {z1 : Option Value} {z2 : Option Value} {z3 : Option Value} {z5 : Option Value} {z6 : Option Value} {z7 : Option Value} {z8 : Option Value} {w : MW} {Q : Int32 → MW → Prop} (hs : q_Ru_seek_192 r_Ru_seek y192_4 w Q) : Tm (d + 1) 229 192 [some (.ref 61), z1, z2, z3, some (.int y192_4), z5, z6, z7, z8] [] w (RI Q) := by
  unfold q_Ru_seek_192 at hs
  refine tm_go 8 (pc' := 206) (L' := [some (.ref 61), z1, z2, z3, some (.int y192_4), z5, z6, z7, z8]) (S' := [.int ((w.1 61 15) - (1 : Int32))]) (w' := (sI w 61 15 ((w.1 61 15) - (1 : Int32)))) rfl ?_
  refine tm_i (p1 := 214) (p2 := 209) rfl (fun h21 => ?_) (fun h21 => ?_)
  · replace hs := hs.1 h21
    refine tm_go 1 (pc' := 215) (L' := [some (.ref 61), z1, z2, z3, some (.int y192_4), z5, z6, z7, z8]) (S' := [.int (-1)]) (w' := (sI w 61 15 ((w.1 61 15) - (1 : Int32)))) rfl ?_
    exact tm_r rfl ⟨_, rfl, hs⟩
  · replace hs := hs.2 h21
    refine tm_go 2 (pc' := 215) (L' := [some (.ref 61), z1, z2, z3, some (.int y192_4), z5, z6, z7, z8]) (S' := [.int y192_4]) (w' := (sI w 61 15 ((w.1 61 15) - (1 : Int32)))) rfl ?_
    exact tm_r rfl ⟨_, rfl, hs⟩
set_option maxHeartbeats 4000000 in
set_option maxRecDepth 100000 in
theorem tx_Ru_seek_106 {d : Nat} {r_Ru_seek : MW → Int32 → Int32 → Int32 → (Int32 → MW → Prop) → Prop} (hr_Ru_seek : ∀ (w : MW) (a0 : Int32) (b0 : Int32) (c0 : Int32) (Q : Int32 → MW → Prop), r_Ru_seek w a0 b0 c0 Q → Tc (d + 0) 229 [.ref 61, .int a0, .int b0, .int c0] w (RI Q)) {y106_2 : Int32} {y106_3 : Int32} {y106_4 : Int32} {y106_5 : Int32} {ys106_0 : Int32} {z1 : Option Value} {z6 : Option Value} {z7 : Option Value} {z8 : Option Value} {w : MW} {Q : Int32 → MW → Prop} (hs : q_Ru_seek_106 r_Ru_seek y106_2 y106_3 y106_4 y106_5 ys106_0 w Q) : Tm (d + 1) 229 106 [some (.ref 61), z1, some (.int y106_2), some (.int y106_3), some (.int y106_4), some (.int y106_5), z6, z7, z8] [.int ys106_0] w (RI Q) := by
  unfold q_Ru_seek_106 at hs
  refine tm_go 5 (pc' := 114) (L' := [some (.ref 61), z1, some (.int y106_2), some (.int y106_3), some (.int y106_4), some (.int y106_5), some (.int ys106_0), some (.int (-1)), some (.int 0)]) (S' := []) (w' := w) rfl ?_
  refine tx_Ru_seek_114 hr_Ru_seek FU _ _ _ _ _ hs (fun e114_7_18 z18_1 z18_3 z18_6 z18_8 w18 hs => ?_)
  refine tm_go 2 (pc' := 163) (L' := [some (.ref 61), z18_1, some (.int y106_2), z18_3, some (.int y106_4), some (.int y106_5), z18_6, some (.int e114_7_18), z18_8]) (S' := [.int 16, .int y106_5]) (w' := w18) rfl ?_
  refine tm_i (p1 := 189) (p2 := 166) rfl (fun h19 => ?_) (fun h19 => ?_)
  · replace hs := hs.1 h19
    refine tm_go 1 (pc' := 191) (L' := [some (.ref 61), z18_1, some (.int y106_2), z18_3, some (.int y106_4), some (.int y106_5), z18_6, some (.int e114_7_18), z18_8]) (S' := [.int e114_7_18]) (w' := w18) rfl ?_
    exact tm_r rfl ⟨_, rfl, hs⟩
  · replace hs := hs.2 h19
    refine tm_go 1 (pc' := 167) (L' := [some (.ref 61), z18_1, some (.int y106_2), z18_3, some (.int y106_4), some (.int y106_5), z18_6, some (.int e114_7_18), z18_8]) (S' := [.int y106_2]) (w' := w18) rfl ?_
    refine tm_i (p1 := 192) (p2 := 170) rfl (fun h20 => ?_) (fun h20 => ?_)
    · replace hs := hs.1 h20
      exact tx_Ru_seek_192 hr_Ru_seek hs 
    · replace hs := hs.2 h20
      refine tm_go 2 (pc' := 174) (L' := [some (.ref 61), z18_1, some (.int y106_2), z18_3, some (.int y106_4), some (.int y106_5), z18_6, some (.int e114_7_18), z18_8]) (S' := [.int 22, .int y106_5]) (w' := w18) rfl ?_
      refine tm_i (p1 := 189) (p2 := 177) rfl (fun h22 => ?_) (fun h22 => ?_)
      · replace hs := hs.1 h22
        refine tm_go 1 (pc' := 191) (L' := [some (.ref 61), z18_1, some (.int y106_2), z18_3, some (.int y106_4), some (.int y106_5), z18_6, some (.int e114_7_18), z18_8]) (S' := [.int e114_7_18]) (w' := w18) rfl ?_
        exact tm_r rfl ⟨_, rfl, hs⟩
      · replace hs := hs.2 h22
        refine tm_go 3 (pc' := 183) (L' := [some (.ref 61), z18_1, some (.int y106_2), z18_3, some (.int y106_4), some (.int y106_5), z18_6, some (.int e114_7_18), z18_8]) (S' := [.int y106_4, .ref 82]) (w' := w18) rfl ?_
        obtain ⟨b23, hs⟩ := hs
        refine tm_k (pc' := 184) (L' := [some (.ref 61), z18_1, some (.int y106_2), z18_3, some (.int y106_4), some (.int y106_5), z18_6, some (.int e114_7_18), z18_8]) (S' := [.long (w18.2.1 82 y106_4.toInt.toNat)]) (w' := w18) rfl b23 ?_
        refine tm_go 2 (pc' := 186) (L' := [some (.ref 61), z18_1, some (.int y106_2), z18_3, some (.int y106_4), some (.int y106_5), z18_6, some (.int e114_7_18), z18_8]) (S' := [.int (lg_cmp (w18.2.1 82 y106_4.toInt.toNat) (0 : Int64))]) (w' := w18) rfl ?_
        refine tm_i (p1 := 192) (p2 := 189) rfl (fun h24 => ?_) (fun h24 => ?_)
        · replace hs := hs.1 h24
          exact tx_Ru_seek_192 hr_Ru_seek hs 
        · replace hs := hs.2 h24
          refine tm_go 1 (pc' := 191) (L' := [some (.ref 61), z18_1, some (.int y106_2), z18_3, some (.int y106_4), some (.int y106_5), z18_6, some (.int e114_7_18), z18_8]) (S' := [.int e114_7_18]) (w' := w18) rfl ?_
          exact tm_r rfl ⟨_, rfl, hs⟩
set_option maxHeartbeats 4000000 in
set_option maxRecDepth 100000 in
theorem tx_Ru_seek_20 {d : Nat} {r_Ru_seek : MW → Int32 → Int32 → Int32 → (Int32 → MW → Prop) → Prop} (hr_Ru_seek : ∀ (w : MW) (a0 : Int32) (b0 : Int32) (c0 : Int32) (Q : Int32 → MW → Prop), r_Ru_seek w a0 b0 c0 Q → Tc (d + 0) 229 [.ref 61, .int a0, .int b0, .int c0] w (RI Q)) {y20_2 : Int32} {y20_3 : Int32} {ys20_0 : Int32} {z1 : Option Value} {z4 : Option Value} {z5 : Option Value} {z6 : Option Value} {z7 : Option Value} {z8 : Option Value} {w : MW} {Q : Int32 → MW → Prop} (hs : q_Ru_seek_20 r_Ru_seek y20_2 y20_3 ys20_0 w Q) : Tm (d + 1) 229 20 [some (.ref 61), z1, some (.int y20_2), some (.int y20_3), z4, z5, z6, z7, z8] [.int ys20_0] w (RI Q) := by
  unfold q_Ru_seek_20 at hs
  refine tm_go 2 (pc' := 24) (L' := [some (.ref 61), z1, some (.int y20_2), some (.int y20_3), some (.int ys20_0), z5, z6, z7, z8]) (S' := [.int ys20_0]) (w' := w) rfl ?_
  refine tm_i (p1 := 43) (p2 := 27) rfl (fun h3 => ?_) (fun h3 => ?_)
  · replace hs := hs.1 h3
    refine tm_go 1 (pc' := 44) (L' := [some (.ref 61), z1, some (.int y20_2), some (.int y20_3), some (.int ys20_0), z5, z6, z7, z8]) (S' := [.int (-1)]) (w' := w) rfl ?_
    exact tm_r rfl ⟨_, rfl, hs⟩
  · replace hs := hs.2 h3
    refine tm_go 3 (pc' := 33) (L' := [some (.ref 61), z1, some (.int y20_2), some (.int y20_3), some (.int ys20_0), z5, z6, z7, z8]) (S' := [.int ys20_0, .ref 80]) (w' := w) rfl ?_
    obtain ⟨b4, hs⟩ := hs
    refine tm_k (pc' := 34) (L' := [some (.ref 61), z1, some (.int y20_2), some (.int y20_3), some (.int ys20_0), z5, z6, z7, z8]) (S' := [.int (w.1 80 ys20_0.toInt.toNat)]) (w' := w) rfl b4 ?_
    refine tm_i (p1 := 43) (p2 := 37) rfl (fun h5 => ?_) (fun h5 => ?_)
    · replace hs := hs.1 h5
      refine tm_go 1 (pc' := 44) (L' := [some (.ref 61), z1, some (.int y20_2), some (.int y20_3), some (.int ys20_0), z5, z6, z7, z8]) (S' := [.int (-1)]) (w' := w) rfl ?_
      exact tm_r rfl ⟨_, rfl, hs⟩
    · replace hs := hs.2 h5
      refine tm_go 2 (pc' := 40) (L' := [some (.ref 61), z1, some (.int y20_2), some (.int y20_3), some (.int ys20_0), z5, z6, z7, z8]) (S' := [.int 100, .int y20_3]) (w' := w) rfl ?_
      refine tm_i (p1 := 45) (p2 := 43) rfl (fun h6 => ?_) (fun h6 => ?_)
      · replace hs := hs.1 h6
        refine tm_go 3 (pc' := 51) (L' := [some (.ref 61), z1, some (.int y20_2), some (.int y20_3), some (.int ys20_0), z5, z6, z7, z8]) (S' := [.int ys20_0, .ref 81]) (w' := w) rfl ?_
        obtain ⟨b7, hs⟩ := hs
        refine tm_k (pc' := 52) (L' := [some (.ref 61), z1, some (.int y20_2), some (.int y20_3), some (.int ys20_0), z5, z6, z7, z8]) (S' := [.int (w.1 81 ys20_0.toInt.toNat)]) (w' := w) rfl b7 ?_
        refine tm_i (p1 := 71) (p2 := 55) rfl (fun h8 => ?_) (fun h8 => ?_)
        · replace hs := hs.1 h8
          refine tm_go 1 (pc' := 72) (L' := [some (.ref 61), z1, some (.int y20_2), some (.int y20_3), some (.int ys20_0), z5, z6, z7, z8]) (S' := [.ref 61]) (w' := w) rfl ?_
          obtain ⟨b9, hs⟩ := hs
          refine tm_g (pc' := 75) (k := 61) (j := 3) rfl b9 ?_
          refine tm_go 4 (pc' := 84) (L' := [some (.ref 61), z1, some (.int y20_2), some (.int y20_3), some (.int ys20_0), z5, z6, z7, z8]) (S' := [.int ys20_0, .ref 77, .ref 63]) (w' := w) rfl ?_
          obtain ⟨b10, hs⟩ := hs
          refine tm_k (pc' := 85) (L' := [some (.ref 61), z1, some (.int y20_2), some (.int y20_3), some (.int ys20_0), z5, z6, z7, z8]) (S' := [.int (w.1 77 ys20_0.toInt.toNat), .ref 63]) (w' := w) rfl b10 ?_
          obtain ⟨b11, hs⟩ := hs
          refine tm_k (pc' := 86) (L' := [some (.ref 61), z1, some (.int y20_2), some (.int y20_3), some (.int ys20_0), z5, z6, z7, z8]) (S' := [.int (w.1 63 ((w.1 77 ys20_0.toInt.toNat).toInt.toNat))]) (w' := w) rfl b11 ?_
          refine tm_go 3 (pc' := 92) (L' := [some (.ref 61), z1, some (.int y20_2), some (.int y20_3), some (.int ys20_0), some (.int (w.1 63 ((w.1 77 ys20_0.toInt.toNat).toInt.toNat))), z6, z7, z8]) (S' := [.int 16, .int (w.1 63 ((w.1 77 ys20_0.toInt.toNat).toInt.toNat))]) (w' := w) rfl ?_
          refine tm_i (p1 := 105) (p2 := 95) rfl (fun h12 => ?_) (fun h12 => ?_)
          · replace hs := hs.1 h12
            refine tm_go 1 (pc' := 106) (L' := [some (.ref 61), z1, some (.int y20_2), some (.int y20_3), some (.int ys20_0), some (.int (w.1 63 ((w.1 77 ys20_0.toInt.toNat).toInt.toNat))), z6, z7, z8]) (S' := [.int (-1)]) (w' := w) rfl ?_
            exact tx_Ru_seek_106 hr_Ru_seek hs 
          · replace hs := hs.2 h12
            refine tm_go 3 (pc' := 101) (L' := [some (.ref 61), z1, some (.int y20_2), some (.int y20_3), some (.int ys20_0), some (.int (w.1 63 ((w.1 77 ys20_0.toInt.toNat).toInt.toNat))), z6, z7, z8]) (S' := [.int ys20_0, .ref 78]) (w' := w) rfl ?_
            obtain ⟨b25, hs⟩ := hs
            refine tm_k (pc' := 102) (L' := [some (.ref 61), z1, some (.int y20_2), some (.int y20_3), some (.int ys20_0), some (.int (w.1 63 ((w.1 77 ys20_0.toInt.toNat).toInt.toNat))), z6, z7, z8]) (S' := [.int (w.1 78 ys20_0.toInt.toNat)]) (w' := w) rfl b25 ?_
            refine tm_go 1 (pc' := 106) (L' := [some (.ref 61), z1, some (.int y20_2), some (.int y20_3), some (.int ys20_0), some (.int (w.1 63 ((w.1 77 ys20_0.toInt.toNat).toInt.toNat))), z6, z7, z8]) (S' := [.int (w.1 78 ys20_0.toInt.toNat)]) (w' := w) rfl ?_
            exact tx_Ru_seek_106 hr_Ru_seek hs 
        · replace hs := hs.2 h8
          refine tm_go 4 (pc' := 62) (L' := [some (.ref 61), z1, some (.int y20_2), some (.int y20_3), some (.int ys20_0), z5, z6, z7, z8]) (S' := [.int ys20_0, .ref 81, .ref 61]) (w' := w) rfl ?_
          obtain ⟨b26, hs⟩ := hs
          refine tm_k (pc' := 63) (L' := [some (.ref 61), z1, some (.int y20_2), some (.int y20_3), some (.int ys20_0), z5, z6, z7, z8]) (S' := [.int (w.1 81 ys20_0.toInt.toNat), .ref 61]) (w' := w) rfl b26 ?_
          refine tm_go 4 (pc' := 67) (L' := [some (.ref 61), z1, some (.int y20_2), some (.int y20_3), some (.int ys20_0), z5, z6, z7, z8]) (S' := [.int (y20_3 + (1 : Int32)), .int y20_2, .int (w.1 81 ys20_0.toInt.toNat), .ref 61]) (w' := w) rfl ?_
          refine tm_c rfl (Nat.le_of_ble_eq_true rfl) (hr_Ru_seek _ _ _ _ _ hs) (fun v w27 hq => ?_)
          obtain ⟨r27, rfl, hs⟩ := hq
          exact tm_r rfl ⟨_, rfl, hs⟩
      · replace hs := hs.2 h6
        refine tm_go 1 (pc' := 44) (L' := [some (.ref 61), z1, some (.int y20_2), some (.int y20_3), some (.int ys20_0), z5, z6, z7, z8]) (S' := [.int (-1)]) (w' := w) rfl ?_
        exact tm_r rfl ⟨_, rfl, hs⟩
set_option maxHeartbeats 4000000 in
set_option maxRecDepth 100000 in
theorem dmb_Ru_seek {d : Nat} {r_Ru_seek : MW → Int32 → Int32 → Int32 → (Int32 → MW → Prop) → Prop} (hr_Ru_seek : ∀ (w : MW) (a0 : Int32) (b0 : Int32) (c0 : Int32) (Q : Int32 → MW → Prop), r_Ru_seek w a0 b0 c0 Q → Tc (d + 0) 229 [.ref 61, .int a0, .int b0, .int c0] w (RI Q)) {w : MW} {a0 : Int32} {b0 : Int32} {c0 : Int32} {Q : Int32 → MW → Prop} (hs : pb_Ru_seek r_Ru_seek w a0 b0 c0 Q) : Tc (d + 1) 229 [.ref 61, .int a0, .int b0, .int c0] w (RI Q) := by
  unfold pb_Ru_seek at hs
  refine tm_go 3 (pc' := 5) (L' := [some (.ref 61), some (.int a0), some (.int b0), some (.int c0), none, none, none, none, none]) (S' := [.int a0, .ref 80]) (w' := w) rfl ?_
  obtain ⟨b1, hs⟩ := hs
  refine tm_k (pc' := 6) (L' := [some (.ref 61), some (.int a0), some (.int b0), some (.int c0), none, none, none, none, none]) (S' := [.int (w.1 80 a0.toInt.toNat)]) (w' := w) rfl b1 ?_
  refine tm_go 1 (pc' := 7) (L' := [some (.ref 61), some (.int a0), some (.int b0), some (.int c0), none, none, none, none, none]) (S' := [.int 1, .int (w.1 80 a0.toInt.toNat)]) (w' := w) rfl ?_
  refine tm_i (p1 := 19) (p2 := 10) rfl (fun h2 => ?_) (fun h2 => ?_)
  · replace hs := hs.1 h2
    refine tm_go 1 (pc' := 20) (L' := [some (.ref 61), some (.int a0), some (.int b0), some (.int c0), none, none, none, none, none]) (S' := [.int (-1)]) (w' := w) rfl ?_
    exact tx_Ru_seek_20 hr_Ru_seek hs 
  · replace hs := hs.2 h2
    refine tm_go 3 (pc' := 15) (L' := [some (.ref 61), some (.int a0), some (.int b0), some (.int c0), none, none, none, none, none]) (S' := [.int a0, .ref 81]) (w' := w) rfl ?_
    obtain ⟨b28, hs⟩ := hs
    refine tm_k (pc' := 16) (L' := [some (.ref 61), some (.int a0), some (.int b0), some (.int c0), none, none, none, none, none]) (S' := [.int (w.1 81 a0.toInt.toNat)]) (w' := w) rfl b28 ?_
    refine tm_go 1 (pc' := 20) (L' := [some (.ref 61), some (.int a0), some (.int b0), some (.int c0), none, none, none, none, none]) (S' := [.int (w.1 81 a0.toInt.toNat)]) (w' := w) rfl ?_
    exact tx_Ru_seek_20 hr_Ru_seek hs 
theorem da_Ru_seek (n : Nat) : (∀ (w : MW) (a0 : Int32) (b0 : Int32) (c0 : Int32) (Q : Int32 → MW → Prop), pn_Ru_seek n w a0 b0 c0 Q → Tc (n + 0) 229 [.ref 61, .int a0, .int b0, .int c0] w (RI Q)) := by
  induction n with
  | zero => exact fun _ _ _ _ _ h => h.elim
  | succ n h0 =>
    skip
    exact fun _ _ _ _ _ h => (dmb_Ru_seek (d := n) h0 h).le (by omega)
theorem dm_Ru_seek {d : Nat} {w : MW} {a0 : Int32} {b0 : Int32} {c0 : Int32} {Q : Int32 → MW → Prop} (hs : p_Ru_seek w a0 b0 c0 Q) : Tc (d + 400) 229 [.ref 61, .int a0, .int b0, .int c0] w (RI Q) := ((da_Ru_seek 400) _ _ _ _ _ hs).le (by omega)
set_option maxHeartbeats 4000000 in
set_option maxRecDepth 100000 in
theorem tx_Ru_giveAnswer_23 {d : Nat} {y23_1 : Int64} {ys23_0 : Int32} {z3 : Option Value} {w : MW} {Q : Int32 → MW → Prop} (hs : q_Ru_giveAnswer_23 y23_1 ys23_0 w Q) : Tm (d + 401) 231 23 [some (.ref 61), some (.long y23_1), none, z3] [.int ys23_0] w (RZ Q) := by
  unfold q_Ru_giveAnswer_23 at hs
  refine tm_go 2 (pc' := 25) (L' := [some (.ref 61), some (.long y23_1), none, some (.int ys23_0)]) (S' := [.int ys23_0]) (w' := w) rfl ?_
  refine tm_i (p1 := 30) (p2 := 28) rfl (fun h2 => ?_) (fun h2 => ?_)
  · replace hs := hs.1 h2
    refine tm_go 4 (pc' := 36) (L' := [some (.ref 61), some (.long y23_1), none, some (.int ys23_0)]) (S' := [.long 1, .int ys23_0, .ref 82]) (w' := w) rfl ?_
    obtain ⟨b3, hs⟩ := hs
    refine tm_k (pc' := 37) (L' := [some (.ref 61), some (.long y23_1), none, some (.int ys23_0)]) (S' := []) (w' := (sJ w 82 ys23_0.toInt.toNat 1)) rfl b3 ?_
    refine tm_go 4 (pc' := 43) (L' := [some (.ref 61), some (.long y23_1), none, some (.int ys23_0)]) (S' := [.int ys23_0, .ref 77, .ref 61]) (w' := (sJ w 82 ys23_0.toInt.toNat 1)) rfl ?_
    obtain ⟨b4, hs⟩ := hs
    refine tm_k (pc' := 44) (L' := [some (.ref 61), some (.long y23_1), none, some (.int ys23_0)]) (S' := [.int (w.1 77 ys23_0.toInt.toNat), .ref 61]) (w' := (sJ w 82 ys23_0.toInt.toNat 1)) rfl b4 ?_
    refine tm_go 1 (pc' := 45) (L' := [some (.ref 61), some (.long y23_1), none, some (.int ys23_0)]) (S' := [.long y23_1, .int (w.1 77 ys23_0.toInt.toNat), .ref 61]) (w' := (sJ w 82 ys23_0.toInt.toNat 1)) rfl ?_
    refine tm_c rfl (Nat.le_of_ble_eq_true rfl) (dm_Ru_setValue (d := d + 400) hs) (fun v w5 hq => ?_)
    obtain ⟨rfl, hs⟩ := hq
    refine tm_go 1 (pc' := 49) (L' := [some (.ref 61), some (.long y23_1), none, some (.int ys23_0)]) (S' := [.int 1]) (w' := w5) rfl ?_
    exact tm_r rfl ⟨_, rfl, by decide, hs⟩
  · replace hs := hs.2 h2
    refine tm_go 1 (pc' := 29) (L' := [some (.ref 61), some (.long y23_1), none, some (.int ys23_0)]) (S' := [.int 0]) (w' := w) rfl ?_
    exact tm_r rfl ⟨_, rfl, by decide, hs⟩
set_option maxHeartbeats 4000000 in
set_option maxRecDepth 100000 in
theorem dm_Ru_giveAnswer {d : Nat} {w : MW} {a0 : Int64} {Q : Int32 → MW → Prop} (hs : p_Ru_giveAnswer w a0 Q) : Tc (d + 401) 231 [.ref 61, .long a0] w (RZ Q) := by
  unfold p_Ru_giveAnswer at hs
  refine tm_go 5 (pc' := 9) (L' := [some (.ref 61), some (.long a0), none, none]) (S' := [.int (w.1 61 4)]) (w' := (sI w 61 15 0)) rfl ?_
  refine tm_i (p1 := 22) (p2 := 12) rfl (fun h1 => ?_) (fun h1 => ?_)
  · replace hs := hs.1 h1
    refine tm_go 1 (pc' := 23) (L' := [some (.ref 61), some (.long a0), none, none]) (S' := [.int (-1)]) (w' := (sI w 61 15 0)) rfl ?_
    exact tx_Ru_giveAnswer_23 hs 
  · replace hs := hs.2 h1
    refine tm_go 4 (pc' := 16) (L' := [some (.ref 61), some (.long a0), none, none]) (S' := [.int 0, .int 1, .int 0, .ref 61]) (w' := (sI w 61 15 0)) rfl ?_
    refine tm_c rfl (Nat.le_of_ble_eq_true rfl) (dm_Ru_seek (d := d + 0) hs) (fun v w6 hq => ?_)
    obtain ⟨r6, rfl, hs⟩ := hq
    refine tm_go 1 (pc' := 23) (L' := [some (.ref 61), some (.long a0), none, none]) (S' := [.int r6]) (w' := w6) rfl ?_
    exact tx_Ru_giveAnswer_23 hs 
set_option maxHeartbeats 4000000 in
set_option maxRecDepth 100000 in
theorem dm_Bh_answer {d : Nat} {w : MW} {a0 : Int64} {Q : Int32 → MW → Prop} (hs : p_Bh_answer w a0 Q) : Tc (d + 402) 19 [.ref 0, .long a0] w (RZ Q) := by
  unfold p_Bh_answer at hs
  refine tm_go 3 (pc' := 5) (L' := [some (.ref 0), some (.long a0), none]) (S' := [.long a0, .ref 61]) (w' := w) rfl ?_
  refine tm_c rfl (Nat.le_of_ble_eq_true rfl) (dm_Ru_giveAnswer (d := d + 0) hs) (fun v w1 hq => ?_)
  obtain ⟨r1, rfl, hz1, hs⟩ := hq
  exact tm_rk rfl hz1 ⟨_, rfl, hz1, hs⟩
set_option maxHeartbeats 4000000 in
set_option maxRecDepth 100000 in
theorem tx_Bh_hold_16 {d : Nat} {y16_1 : Int32} {ys16_0 : Int32} {ys16_1 : Int32}  {w : MW} {Q : Int32 → MW → Prop} (hs : q_Bh_hold_16 y16_1 ys16_0 ys16_1 w Q) : Tm (d + 2) 20 16 [some (.ref 0), some (.int y16_1)] [.int ys16_0, .int ys16_1] w (RZ Q) := by
  unfold q_Bh_hold_16 at hs
  refine tm_i (p1 := 21) (p2 := 19) rfl (fun h2 => ?_) (fun h2 => ?_)
  · replace hs := hs.1 h2
    refine tm_go 3 (pc' := 26) (L' := [some (.ref 0), some (.int y16_1)]) (S' := [.int y16_1, .ref 61]) (w' := w) rfl ?_
    refine tm_i (p1 := 33) (p2 := 29) rfl (fun h3 => ?_) (fun h3 => ?_)
    · replace hs := hs.1 h3
      refine tm_go 3 (pc' := 38) (L' := [some (.ref 0), some (.int y16_1)]) (S' := [.int y16_1]) (w' := (sI w 61 4 0)) rfl ?_
      refine tm_i (p1 := 48) (p2 := 41) rfl (fun _ => ?_) (fun h => absurd h3 h)
      refine tm_go 1 (pc' := 49) (L' := [some (.ref 0), some (.int y16_1)]) (S' := [.int 1]) (w' := (sI w 61 4 0)) rfl ?_
      exact tm_r rfl ⟨_, rfl, by decide, hs⟩
    · replace hs := hs.2 h3
      refine tm_go 4 (pc' := 38) (L' := [some (.ref 0), some (.int y16_1)]) (S' := [.int y16_1]) (w' := (sI w 61 4 2)) rfl ?_
      refine tm_i (p1 := 48) (p2 := 41) rfl (fun h => absurd h h3) (fun _ => ?_)
      refine tm_go 2 (pc' := 45) (L' := [some (.ref 0), some (.int y16_1)]) (S' := [.ref 26]) (w' := (sI w 61 4 2)) rfl ?_
      refine tm_c rfl (Nat.le_of_ble_eq_true rfl) (dm_Wa_closeAll (d := d + 0) hs) (fun v w6 hq => ?_)
      obtain ⟨rfl, hs⟩ := hq
      refine tm_go 1 (pc' := 49) (L' := [some (.ref 0), some (.int y16_1)]) (S' := [.int 1]) (w' := w6) rfl ?_
      exact tm_r rfl ⟨_, rfl, by decide, hs⟩
  · replace hs := hs.2 h2
    refine tm_go 1 (pc' := 20) (L' := [some (.ref 0), some (.int y16_1)]) (S' := [.int 0]) (w' := w) rfl ?_
    exact tm_r rfl ⟨_, rfl, by decide, hs⟩
set_option maxHeartbeats 4000000 in
set_option maxRecDepth 100000 in
theorem dm_Bh_hold {d : Nat} {w : MW} {a0 : Int32} {Q : Int32 → MW → Prop} (hs : p_Bh_hold w a0 Q) : Tc (d + 2) 20 [.ref 0, .int a0] w (RZ Q) := by
  unfold p_Bh_hold at hs
  refine tm_go 4 (pc' := 8) (L' := [some (.ref 0), some (.int a0)]) (S' := [.int a0, .int (w.1 61 4)]) (w' := w) rfl ?_
  refine tm_i (p1 := 15) (p2 := 11) rfl (fun h1 => ?_) (fun h1 => ?_)
  · replace hs := hs.1 h1
    refine tm_go 1 (pc' := 16) (L' := [some (.ref 0), some (.int a0)]) (S' := [.int 2, .int (w.1 61 4)]) (w' := w) rfl ?_
    exact tx_Bh_hold_16 hs 
  · replace hs := hs.2 h1
    refine tm_go 2 (pc' := 16) (L' := [some (.ref 0), some (.int a0)]) (S' := [.int 0, .int (w.1 61 4)]) (w' := w) rfl ?_
    exact tx_Bh_hold_16 hs 
set_option maxHeartbeats 4000000 in
set_option maxRecDepth 100000 in
theorem dm_Bh_stop {d : Nat} {w : MW} {Q : Int32 → MW → Prop} (hs : p_Bh_stop w Q) : Tc (d + 2) 21 [.ref 0] w (RZ Q) := by
  unfold p_Bh_stop at hs
  refine tm_go 2 (pc' := 4) (L' := [some (.ref 0)]) (S' := [.ref 61]) (w' := w) rfl ?_
  refine tm_c rfl (Nat.le_of_ble_eq_true rfl) (dm_Ru_isAlive (d := d + 1) hs) (fun v w1 hq => ?_)
  obtain ⟨r1, rfl, hz1, hs⟩ := hq
  refine tm_i (p1 := 12) (p2 := 10) rfl (fun h2 => ?_) (fun h2 => ?_)
  · replace hs := hs.1 h2
    refine tm_go 6 (pc' := 24) (L' := [some (.ref 0)]) (S' := [.ref 26]) (w' := (sI w1 61 4 3)) rfl ?_
    refine tm_c rfl (Nat.le_of_ble_eq_true rfl) (dm_Wa_closeAll (d := d + 0) hs) (fun v w3 hq => ?_)
    obtain ⟨rfl, hs⟩ := hq
    refine tm_go 1 (pc' := 28) (L' := [some (.ref 0)]) (S' := [.int 1]) (w' := w3) rfl ?_
    exact tm_r rfl ⟨_, rfl, by decide, hs⟩
  · replace hs := hs.2 h2
    refine tm_go 1 (pc' := 11) (L' := [some (.ref 0)]) (S' := [.int 0]) (w' := w1) rfl ?_
    exact tm_r rfl ⟨_, rfl, by decide, hs⟩
set_option maxHeartbeats 4000000 in
set_option maxRecDepth 100000 in
theorem dm_Bh_isPerson {d : Nat} {w : MW} {a0 : Int32} {Q : Int32 → MW → Prop} (hs : p_Bh_isPerson w a0 Q) : Tc (d + 0) 23 [.int a0] w (RZ Q) := by
  unfold p_Bh_isPerson at hs
  refine tm_go 2 (pc' := 2) (L' := [some (.int a0)]) (S' := [.int 1, .int a0]) (w' := w) rfl ?_
  refine tm_i (p1 := 16) (p2 := 5) rfl (fun h1 => ?_) (fun h1 => ?_)
  · replace hs := hs.1 h1
    refine tm_go 1 (pc' := 17) (L' := [some (.int a0)]) (S' := [.int 0]) (w' := w) rfl ?_
    exact tm_r rfl ⟨_, rfl, by decide, hs⟩
  · replace hs := hs.2 h1
    refine tm_go 2 (pc' := 9) (L' := [some (.int a0)]) (S' := [.int 999, .int a0]) (w' := w) rfl ?_
    refine tm_i (p1 := 16) (p2 := 12) rfl (fun h2 => ?_) (fun h2 => ?_)
    · replace hs := hs.1 h2
      refine tm_go 1 (pc' := 17) (L' := [some (.int a0)]) (S' := [.int 0]) (w' := w) rfl ?_
      exact tm_r rfl ⟨_, rfl, by decide, hs⟩
    · replace hs := hs.2 h2
      refine tm_go 2 (pc' := 17) (L' := [some (.int a0)]) (S' := [.int 1]) (w' := w) rfl ?_
      exact tm_r rfl ⟨_, rfl, by decide, hs⟩
set_option maxHeartbeats 4000000 in
set_option maxRecDepth 100000 in
theorem dm_Ro_has {d : Nat} {w : MW} {a0 : Int32} {Q : Int32 → MW → Prop} (hs : p_Ro_has w a0 Q) : Tc (d + 0) 185 [.ref 48, .int a0] w (RZ Q) := by
  unfold p_Ro_has at hs
  refine tm_go 2 (pc' := 2) (L' := [some (.ref 48), some (.int a0)]) (S' := [.int 1, .int a0]) (w' := w) rfl ?_
  refine tm_i (p1 := 17) (p2 := 5) rfl (fun h1 => ?_) (fun h1 => ?_)
  · replace hs := hs.1 h1
    refine tm_go 1 (pc' := 18) (L' := [some (.ref 48), some (.int a0)]) (S' := [.int 0]) (w' := w) rfl ?_
    exact tm_r rfl ⟨_, rfl, by decide, hs⟩
  · replace hs := hs.2 h1
    refine tm_go 3 (pc' := 10) (L' := [some (.ref 48), some (.int a0)]) (S' := [.int (w.1 48 0), .int a0]) (w' := w) rfl ?_
    refine tm_i (p1 := 17) (p2 := 13) rfl (fun h2 => ?_) (fun h2 => ?_)
    · replace hs := hs.1 h2
      refine tm_go 1 (pc' := 18) (L' := [some (.ref 48), some (.int a0)]) (S' := [.int 0]) (w' := w) rfl ?_
      exact tm_r rfl ⟨_, rfl, by decide, hs⟩
    · replace hs := hs.2 h2
      refine tm_go 2 (pc' := 18) (L' := [some (.ref 48), some (.int a0)]) (S' := [.int 1]) (w' := w) rfl ?_
      exact tm_r rfl ⟨_, rfl, by decide, hs⟩
set_option maxHeartbeats 4000000 in
set_option maxRecDepth 100000 in
theorem dm_Bh_pass {d : Nat} {w : MW} {a0 : Int32} {b0 : Int32} {c0 : Int32} {e0 : Int32} {Q : Int32 → MW → Prop} (hs : p_Bh_pass w a0 b0 c0 e0 Q) : Tc (d + 1) 22 [.ref 0, .int a0, .int b0, .int c0, .int e0] w (RI Q) := by
  unfold p_Bh_pass at hs
  refine tm_go 2 (pc' := 4) (L' := [some (.ref 0), some (.int a0), some (.int b0), some (.int c0), some (.int e0)]) (S' := [.ref 47]) (w' := w) rfl ?_
  obtain ⟨b1, hs⟩ := hs
  refine tm_g (pc' := 7) (k := 47) (j := 3) rfl b1 ?_
  refine tm_go 1 (pc' := 8) (L' := [some (.ref 0), some (.int a0), some (.int b0), some (.int c0), some (.int e0)]) (S' := [.int a0, .ref 48]) (w' := w) rfl ?_
  refine tm_c rfl (Nat.le_of_ble_eq_true rfl) (dm_Ro_has (d := d + 0) hs) (fun v w2 hq => ?_)
  obtain ⟨r2, rfl, hz2, hs⟩ := hq
  refine tm_i (p1 := 16) (p2 := 14) rfl (fun h3 => ?_) (fun h3 => ?_)
  · replace hs := hs.1 h3
    refine tm_go 1 (pc' := 17) (L' := [some (.ref 0), some (.int a0), some (.int b0), some (.int c0), some (.int e0)]) (S' := [.int b0]) (w' := w2) rfl ?_
    refine tm_c rfl (Nat.le_of_ble_eq_true rfl) (dm_Bh_isPerson (d := d + 0) hs) (fun v w4 hq => ?_)
    obtain ⟨r4, rfl, hz4, hs⟩ := hq
    refine tm_i (p1 := 35) (p2 := 23) rfl (fun h5 => ?_) (fun h5 => ?_)
    · replace hs := hs.1 h5
      refine tm_go 1 (pc' := 37) (L' := [some (.ref 0), some (.int a0), some (.int b0), some (.int c0), some (.int e0)]) (S' := [.int (-2)]) (w' := w4) rfl ?_
      exact tm_r rfl ⟨_, rfl, hs⟩
    · replace hs := hs.2 h5
      refine tm_go 1 (pc' := 24) (L' := [some (.ref 0), some (.int a0), some (.int b0), some (.int c0), some (.int e0)]) (S' := [.int c0]) (w' := w4) rfl ?_
      refine tm_c rfl (Nat.le_of_ble_eq_true rfl) (dm_Bh_isPerson (d := d + 0) hs) (fun v w6 hq => ?_)
      obtain ⟨r6, rfl, hz6, hs⟩ := hq
      refine tm_i (p1 := 35) (p2 := 30) rfl (fun h7 => ?_) (fun h7 => ?_)
      · replace hs := hs.1 h7
        refine tm_go 1 (pc' := 37) (L' := [some (.ref 0), some (.int a0), some (.int b0), some (.int c0), some (.int e0)]) (S' := [.int (-2)]) (w' := w6) rfl ?_
        exact tm_r rfl ⟨_, rfl, hs⟩
      · replace hs := hs.2 h7
        refine tm_go 2 (pc' := 32) (L' := [some (.ref 0), some (.int a0), some (.int b0), some (.int c0), some (.int e0)]) (S' := [.int c0, .int b0]) (w' := w6) rfl ?_
        refine tm_i (p1 := 38) (p2 := 35) rfl (fun h8 => ?_) (fun h8 => ?_)
        · replace hs := hs.1 h8
          refine tm_go 2 (pc' := 41) (L' := [some (.ref 0), some (.int a0), some (.int b0), some (.int c0), some (.int e0)]) (S' := [.int 1, .int e0]) (w' := w6) rfl ?_
          refine tm_i (p1 := 52) (p2 := 44) rfl (fun h9 => ?_) (fun h9 => ?_)
          · replace hs := hs.1 h9
            refine tm_go 1 (pc' := 54) (L' := [some (.ref 0), some (.int a0), some (.int b0), some (.int c0), some (.int e0)]) (S' := [.int (-3)]) (w' := w6) rfl ?_
            exact tm_r rfl ⟨_, rfl, hs⟩
          · replace hs := hs.2 h9
            refine tm_go 2 (pc' := 49) (L' := [some (.ref 0), some (.int a0), some (.int b0), some (.int c0), some (.int e0)]) (S' := [.int 3600, .int e0]) (w' := w6) rfl ?_
            refine tm_i (p1 := 55) (p2 := 52) rfl (fun h10 => ?_) (fun h10 => ?_)
            · replace hs := hs.1 h10
              refine tm_go 2 (pc' := 59) (L' := [some (.ref 0), some (.int a0), some (.int b0), some (.int c0), some (.int e0)]) (S' := [.ref 47]) (w' := w6) rfl ?_
              obtain ⟨b11, hs⟩ := hs
              refine tm_g (pc' := 62) (k := 47) (j := 3) rfl b11 ?_
              refine tm_go 4 (pc' := 68) (L' := [some (.ref 0), some (.int a0), some (.int b0), some (.int c0), some (.int e0)]) (S' := [.int (a0 - (1 : Int32)), .ref 51]) (w' := w6) rfl ?_
              obtain ⟨b12, hs⟩ := hs
              refine tm_k (pc' := 69) (L' := [some (.ref 0), some (.int a0), some (.int b0), some (.int c0), some (.int e0)]) (S' := [.int (w6.1 51 ((a0 - (1 : Int32)).toInt.toNat))]) (w' := w6) rfl b12 ?_
              refine tm_i (p1 := 75) (p2 := 72) rfl (fun h13 => ?_) (fun h13 => ?_)
              · replace hs := hs.1 h13
                refine tm_go 2 (pc' := 79) (L' := [some (.ref 0), some (.int a0), some (.int b0), some (.int c0), some (.int e0)]) (S' := [.ref 47]) (w' := w6) rfl ?_
                obtain ⟨b14, hs⟩ := hs
                refine tm_g (pc' := 82) (k := 47) (j := 3) rfl b14 ?_
                refine tm_go 5 (pc' := 90) (L' := [some (.ref 0), some (.int a0), some (.int b0), some (.int c0), some (.int e0)]) (S' := [.int e0, .int (a0 - (1 : Int32)), .ref 51]) (w' := w6) rfl ?_
                obtain ⟨b15, hs⟩ := hs
                refine tm_k (pc' := 91) (L' := [some (.ref 0), some (.int a0), some (.int b0), some (.int c0), some (.int e0)]) (S' := []) (w' := (sI w6 51 ((a0 - (1 : Int32)).toInt.toNat) e0)) rfl b15 ?_
                refine tm_go 1 (pc' := 92) (L' := [some (.ref 0), some (.int a0), some (.int b0), some (.int c0), some (.int e0)]) (S' := [.int 0]) (w' := (sI w6 51 ((a0 - (1 : Int32)).toInt.toNat) e0)) rfl ?_
                exact tm_r rfl ⟨_, rfl, hs⟩
              · replace hs := hs.2 h13
                refine tm_go 1 (pc' := 74) (L' := [some (.ref 0), some (.int a0), some (.int b0), some (.int c0), some (.int e0)]) (S' := [.int (-4)]) (w' := w6) rfl ?_
                exact tm_r rfl ⟨_, rfl, hs⟩
            · replace hs := hs.2 h10
              refine tm_go 1 (pc' := 54) (L' := [some (.ref 0), some (.int a0), some (.int b0), some (.int c0), some (.int e0)]) (S' := [.int (-3)]) (w' := w6) rfl ?_
              exact tm_r rfl ⟨_, rfl, hs⟩
        · replace hs := hs.2 h8
          refine tm_go 1 (pc' := 37) (L' := [some (.ref 0), some (.int a0), some (.int b0), some (.int c0), some (.int e0)]) (S' := [.int (-2)]) (w' := w6) rfl ?_
          exact tm_r rfl ⟨_, rfl, hs⟩
  · replace hs := hs.2 h3
    refine tm_go 1 (pc' := 15) (L' := [some (.ref 0), some (.int a0), some (.int b0), some (.int c0), some (.int e0)]) (S' := [.int (-1)]) (w' := w2) rfl ?_
    exact tm_r rfl ⟨_, rfl, hs⟩
set_option maxHeartbeats 4000000 in
set_option maxRecDepth 100000 in
theorem dm_Bh_reset {d : Nat} {w : MW} {a0 : Int32} {Q : Int32 → MW → Prop} (hs : p_Bh_reset w a0 Q) : Tc (d + 1) 24 [.ref 0, .int a0] w (RZ Q) := by
  unfold p_Bh_reset at hs
  refine tm_go 2 (pc' := 4) (L' := [some (.ref 0), some (.int a0), none]) (S' := [.ref 47]) (w' := w) rfl ?_
  obtain ⟨b1, hs⟩ := hs
  refine tm_g (pc' := 7) (k := 47) (j := 3) rfl b1 ?_
  refine tm_go 3 (pc' := 10) (L' := [some (.ref 0), some (.int a0), some (.ref 48)]) (S' := [.int a0, .ref 48]) (w' := w) rfl ?_
  refine tm_c rfl (Nat.le_of_ble_eq_true rfl) (dm_Ro_has (d := d + 0) hs) (fun v w2 hq => ?_)
  obtain ⟨r2, rfl, hz2, hs⟩ := hq
  refine tm_i (p1 := 37) (p2 := 16) rfl (fun h3 => ?_) (fun h3 => ?_)
  · replace hs := hs.1 h3
    refine tm_go 1 (pc' := 38) (L' := [some (.ref 0), some (.int a0), some (.ref 48)]) (S' := [.int 0]) (w' := w2) rfl ?_
    exact tm_r rfl ⟨_, rfl, by decide, hs⟩
  · replace hs := hs.2 h3
    refine tm_go 5 (pc' := 23) (L' := [some (.ref 0), some (.int a0), some (.ref 48)]) (S' := [.int (a0 - (1 : Int32)), .ref 50]) (w' := w2) rfl ?_
    obtain ⟨b4, hs⟩ := hs
    refine tm_k (pc' := 24) (L' := [some (.ref 0), some (.int a0), some (.ref 48)]) (S' := [.int (w2.1 50 ((a0 - (1 : Int32)).toInt.toNat))]) (w' := w2) rfl b4 ?_
    refine tm_i (p1 := 37) (p2 := 27) rfl (fun h5 => ?_) (fun h5 => ?_)
    · replace hs := hs.1 h5
      refine tm_go 1 (pc' := 38) (L' := [some (.ref 0), some (.int a0), some (.ref 48)]) (S' := [.int 0]) (w' := w2) rfl ?_
      exact tm_r rfl ⟨_, rfl, by decide, hs⟩
    · replace hs := hs.2 h5
      refine tm_go 4 (pc' := 31) (L' := [some (.ref 0), some (.int a0), some (.ref 48)]) (S' := [.int (a0 - (1 : Int32)), .ref 48]) (w' := w2) rfl ?_
      refine tm_c rfl (Nat.le_of_ble_eq_true rfl) (dm_Ro_isOn (d := d + 0) hs) (fun v w6 hq => ?_)
      obtain ⟨r6, rfl, hz6, hs⟩ := hq
      refine tm_i (p1 := 39) (p2 := 37) rfl (fun h7 => ?_) (fun h7 => ?_)
      · replace hs := hs.1 h7
        refine tm_go 6 (pc' := 47) (L' := [some (.ref 0), some (.int a0), some (.ref 48)]) (S' := [.int 0, .int (a0 - (1 : Int32)), .ref 50]) (w' := w6) rfl ?_
        obtain ⟨b8, hs⟩ := hs
        refine tm_k (pc' := 48) (L' := [some (.ref 0), some (.int a0), some (.ref 48)]) (S' := []) (w' := (sI w6 50 ((a0 - (1 : Int32)).toInt.toNat) (vp_nar .boolean (0 : Int32)))) rfl b8 ?_
        refine tm_go 1 (pc' := 49) (L' := [some (.ref 0), some (.int a0), some (.ref 48)]) (S' := [.int 1]) (w' := (sI w6 50 ((a0 - (1 : Int32)).toInt.toNat) (vp_nar .boolean (0 : Int32)))) rfl ?_
        exact tm_r rfl ⟨_, rfl, by decide, hs⟩
      · replace hs := hs.2 h7
        refine tm_go 1 (pc' := 38) (L' := [some (.ref 0), some (.int a0), some (.ref 48)]) (S' := [.int 0]) (w' := w6) rfl ?_
        exact tm_r rfl ⟨_, rfl, by decide, hs⟩
set_option maxHeartbeats 4000000 in
set_option maxRecDepth 100000 in
theorem dm_Bh_bars {d : Nat} {w : MW} {a0 : Int32} {Q : Int32 → MW → Prop} (hs : p_Bh_bars w a0 Q) : Tc (d + 2) 25 [.ref 0, .int a0] w (RI Q) := by
  unfold p_Bh_bars at hs
  refine tm_go 1 (pc' := 1) (L' := [some (.ref 0), some (.int a0)]) (S' := [.int a0]) (w' := w) rfl ?_
  refine tm_c rfl (Nat.le_of_ble_eq_true rfl) (dm_Ac_isAct (d := d + 1) hs) (fun v w1 hq => ?_)
  obtain ⟨r1, rfl, hz1, hs⟩ := hq
  refine tm_i (p1 := 21) (p2 := 7) rfl (fun h2 => ?_) (fun h2 => ?_)
  · replace hs := hs.1 h2
    refine tm_go 1 (pc' := 22) (L' := [some (.ref 0), some (.int a0)]) (S' := [.int (-1)]) (w' := w1) rfl ?_
    exact tm_r rfl ⟨_, rfl, hs⟩
  · replace hs := hs.2 h2
    refine tm_go 2 (pc' := 11) (L' := [some (.ref 0), some (.int a0)]) (S' := [.ref 47]) (w' := w1) rfl ?_
    obtain ⟨b3, hs⟩ := hs
    refine tm_g (pc' := 14) (k := 47) (j := 3) rfl b3 ?_
    refine tm_go 1 (pc' := 15) (L' := [some (.ref 0), some (.int a0)]) (S' := [.int a0, .ref 48]) (w' := w1) rfl ?_
    refine tm_c rfl (Nat.le_of_ble_eq_true rfl) (dm_Ro_barring (d := d + 0) hs) (fun v w4 hq => ?_)
    obtain ⟨r4, rfl, hs⟩ := hq
    refine tm_go 1 (pc' := 22) (L' := [some (.ref 0), some (.int a0)]) (S' := [.int r4]) (w' := w4) rfl ?_
    exact tm_r rfl ⟨_, rfl, hs⟩
set_option maxHeartbeats 4000000 in
set_option maxRecDepth 100000 in
theorem dm_Bh_row {d : Nat} {w : MW} {a0 : Int32} {b0 : Int32} {Q : Int32 → MW → Prop} (hs : p_Bh_row w a0 b0 Q) : Tc (d + 1) 26 [.ref 0, .int a0, .int b0] w (RI Q) := by
  unfold p_Bh_row at hs
  refine tm_go 2 (pc' := 4) (L' := [some (.ref 0), some (.int a0), some (.int b0), none]) (S' := [.ref 47]) (w' := w) rfl ?_
  obtain ⟨b1, hs⟩ := hs
  refine tm_g (pc' := 7) (k := 47) (j := 3) rfl b1 ?_
  refine tm_go 3 (pc' := 10) (L' := [some (.ref 0), some (.int a0), some (.int b0), some (.ref 48)]) (S' := [.int a0, .ref 48]) (w' := w) rfl ?_
  refine tm_c rfl (Nat.le_of_ble_eq_true rfl) (dm_Ro_has (d := d + 0) hs) (fun v w2 hq => ?_)
  obtain ⟨r2, rfl, hz2, hs⟩ := hq
  refine tm_i (p1 := 18) (p2 := 16) rfl (fun h3 => ?_) (fun h3 => ?_)
  · replace hs := hs.1 h3
    refine tm_go 1 (pc' := 19) (L' := [some (.ref 0), some (.int a0), some (.int b0), some (.ref 48)]) (S' := [.int b0]) (w' := w2) rfl ?_
    by_cases h4 : b0.toInt = 0
    · replace hs := hs.1 h4
      refine tm_tab (dflt := 99) (lo := 0) (ts := [48, 57, 74, 83]) rfl (by rw [h4]; decide) (t := 48) (by rw [h4]; rfl) ?_
      refine tm_go 5 (pc' := 55) (L' := [some (.ref 0), some (.int a0), some (.int b0), some (.ref 48)]) (S' := [.int (a0 - (1 : Int32)), .ref 49]) (w' := w2) rfl ?_
      obtain ⟨b5, hs⟩ := hs
      refine tm_k (pc' := 56) (L' := [some (.ref 0), some (.int a0), some (.int b0), some (.ref 48)]) (S' := [.int (w2.1 49 ((a0 - (1 : Int32)).toInt.toNat))]) (w' := w2) rfl b5 ?_
      exact tm_r rfl ⟨_, rfl, hs⟩
    · replace hs := hs.2 h4
      by_cases h6 : b0.toInt = 1
      · replace hs := hs.1 h6
        refine tm_tab (dflt := 99) (lo := 0) (ts := [48, 57, 74, 83]) rfl (by rw [h6]; decide) (t := 57) (by rw [h6]; rfl) ?_
        refine tm_go 5 (pc' := 64) (L' := [some (.ref 0), some (.int a0), some (.int b0), some (.ref 48)]) (S' := [.int (a0 - (1 : Int32)), .ref 50]) (w' := w2) rfl ?_
        obtain ⟨b7, hs⟩ := hs
        refine tm_k (pc' := 65) (L' := [some (.ref 0), some (.int a0), some (.int b0), some (.ref 48)]) (S' := [.int (w2.1 50 ((a0 - (1 : Int32)).toInt.toNat))]) (w' := w2) rfl b7 ?_
        refine tm_i (p1 := 72) (p2 := 68) rfl (fun h8 => ?_) (fun h8 => ?_)
        · replace hs := hs.1 h8
          refine tm_go 1 (pc' := 73) (L' := [some (.ref 0), some (.int a0), some (.int b0), some (.ref 48)]) (S' := [.int 0]) (w' := w2) rfl ?_
          exact tm_r rfl ⟨_, rfl, hs⟩
        · replace hs := hs.2 h8
          refine tm_go 2 (pc' := 73) (L' := [some (.ref 0), some (.int a0), some (.int b0), some (.ref 48)]) (S' := [.int 1]) (w' := w2) rfl ?_
          exact tm_r rfl ⟨_, rfl, hs⟩
      · replace hs := hs.2 h6
        by_cases h9 : b0.toInt = 2
        · replace hs := hs.1 h9
          refine tm_tab (dflt := 99) (lo := 0) (ts := [48, 57, 74, 83]) rfl (by rw [h9]; decide) (t := 74) (by rw [h9]; rfl) ?_
          refine tm_go 5 (pc' := 81) (L' := [some (.ref 0), some (.int a0), some (.int b0), some (.ref 48)]) (S' := [.int (a0 - (1 : Int32)), .ref 51]) (w' := w2) rfl ?_
          obtain ⟨b10, hs⟩ := hs
          refine tm_k (pc' := 82) (L' := [some (.ref 0), some (.int a0), some (.int b0), some (.ref 48)]) (S' := [.int (w2.1 51 ((a0 - (1 : Int32)).toInt.toNat))]) (w' := w2) rfl b10 ?_
          exact tm_r rfl ⟨_, rfl, hs⟩
        · replace hs := hs.2 h9
          by_cases h11 : b0.toInt = 3
          · replace hs := hs.1 h11
            refine tm_tab (dflt := 99) (lo := 0) (ts := [48, 57, 74, 83]) rfl (by rw [h11]; decide) (t := 83) (by rw [h11]; rfl) ?_
            refine tm_go 4 (pc' := 87) (L' := [some (.ref 0), some (.int a0), some (.int b0), some (.ref 48)]) (S' := [.int (a0 - (1 : Int32)), .ref 48]) (w' := w2) rfl ?_
            refine tm_c rfl (Nat.le_of_ble_eq_true rfl) (dm_Ro_isOn (d := d + 0) hs) (fun v w12 hq => ?_)
            obtain ⟨r12, rfl, hz12, hs⟩ := hq
            refine tm_i (p1 := 97) (p2 := 93) rfl (fun h13 => ?_) (fun h13 => ?_)
            · replace hs := hs.1 h13
              refine tm_go 1 (pc' := 98) (L' := [some (.ref 0), some (.int a0), some (.int b0), some (.ref 48)]) (S' := [.int 0]) (w' := w12) rfl ?_
              exact tm_r rfl ⟨_, rfl, hs⟩
            · replace hs := hs.2 h13
              refine tm_go 2 (pc' := 98) (L' := [some (.ref 0), some (.int a0), some (.int b0), some (.ref 48)]) (S' := [.int 1]) (w' := w12) rfl ?_
              exact tm_r rfl ⟨_, rfl, hs⟩
          · replace hs := hs.2 h11
            refine tm_tad (dflt := 99) (lo := 0) (ts := [48, 57, 74, 83]) rfl (by simp only [List.length_cons, List.length_nil]; omega) ?_
            refine tm_go 1 (pc' := 100) (L' := [some (.ref 0), some (.int a0), some (.int b0), some (.ref 48)]) (S' := [.int (-1)]) (w' := w2) rfl ?_
            exact tm_r rfl ⟨_, rfl, hs⟩
  · replace hs := hs.2 h3
    refine tm_go 1 (pc' := 17) (L' := [some (.ref 0), some (.int a0), some (.int b0), some (.ref 48)]) (S' := [.int (-1)]) (w' := w2) rfl ?_
    exact tm_r rfl ⟨_, rfl, hs⟩
set_option maxHeartbeats 4000000 in
set_option maxRecDepth 100000 in
theorem dm_Bh_state {d : Nat} {w : MW} {Q : Int32 → MW → Prop} (hs : p_Bh_state w Q) : Tc (d + 0) 27 [.ref 0] w (RI Q) := by
  unfold p_Bh_state at hs
  refine tm_go 3 (pc' := 7) (L' := [some (.ref 0)]) (S' := [.int (w.1 61 4)]) (w' := w) rfl ?_
  exact tm_r rfl ⟨_, rfl, hs⟩
set_option maxHeartbeats 4000000 in
set_option maxRecDepth 100000 in
theorem dm_Pr_hasValue {d : Nat} {w : MW} {a0 : Int32} {Q : Int32 → MW → Prop} (hs : p_Pr_hasValue w a0 Q) : Tc (d + 0) 154 [.ref 62, .int a0] w (RZ Q) := by
  unfold p_Pr_hasValue at hs
  refine tm_go 1 (pc' := 1) (L' := [some (.ref 62), some (.int a0)]) (S' := [.int a0]) (w' := w) rfl ?_
  refine tm_i (p1 := 27) (p2 := 4) rfl (fun h1 => ?_) (fun h1 => ?_)
  · replace hs := hs.1 h1
    refine tm_go 1 (pc' := 28) (L' := [some (.ref 62), some (.int a0)]) (S' := [.int 0]) (w' := w) rfl ?_
    exact tm_r rfl ⟨_, rfl, by decide, hs⟩
  · replace hs := hs.2 h1
    refine tm_go 3 (pc' := 9) (L' := [some (.ref 62), some (.int a0)]) (S' := [.int (w.1 62 10), .int a0]) (w' := w) rfl ?_
    refine tm_i (p1 := 27) (p2 := 12) rfl (fun h2 => ?_) (fun h2 => ?_)
    · replace hs := hs.1 h2
      refine tm_go 1 (pc' := 28) (L' := [some (.ref 62), some (.int a0)]) (S' := [.int 0]) (w' := w) rfl ?_
      exact tm_r rfl ⟨_, rfl, by decide, hs⟩
    · replace hs := hs.2 h2
      refine tm_go 3 (pc' := 17) (L' := [some (.ref 62), some (.int a0)]) (S' := [.int a0, .ref 71]) (w' := w) rfl ?_
      obtain ⟨b3, hs⟩ := hs
      refine tm_k (pc' := 18) (L' := [some (.ref 62), some (.int a0)]) (S' := [.int (w.1 71 a0.toInt.toNat)]) (w' := w) rfl b3 ?_
      refine tm_go 1 (pc' := 20) (L' := [some (.ref 62), some (.int a0)]) (S' := [.int 10, .int (w.1 71 a0.toInt.toNat)]) (w' := w) rfl ?_
      refine tm_i (p1 := 27) (p2 := 23) rfl (fun h4 => ?_) (fun h4 => ?_)
      · replace hs := hs.1 h4
        refine tm_go 1 (pc' := 28) (L' := [some (.ref 62), some (.int a0)]) (S' := [.int 0]) (w' := w) rfl ?_
        exact tm_r rfl ⟨_, rfl, by decide, hs⟩
      · replace hs := hs.2 h4
        refine tm_go 2 (pc' := 28) (L' := [some (.ref 62), some (.int a0)]) (S' := [.int 1]) (w' := w) rfl ?_
        exact tm_r rfl ⟨_, rfl, by decide, hs⟩
set_option maxHeartbeats 4000000 in
set_option maxRecDepth 100000 in
theorem dm_Bh_value {d : Nat} {w : MW} {a0 : Int32} {Q : Int64 → MW → Prop} (hs : p_Bh_value w a0 Q) : Tc (d + 1) 28 [.ref 0, .int a0] w (RJ Q) := by
  unfold p_Bh_value at hs
  refine tm_go 2 (pc' := 4) (L' := [some (.ref 0), some (.int a0)]) (S' := [.ref 61]) (w' := w) rfl ?_
  obtain ⟨b1, hs⟩ := hs
  refine tm_g (pc' := 7) (k := 61) (j := 3) rfl b1 ?_
  refine tm_go 1 (pc' := 8) (L' := [some (.ref 0), some (.int a0)]) (S' := [.int a0, .ref 62]) (w' := w) rfl ?_
  refine tm_c rfl (Nat.le_of_ble_eq_true rfl) (dm_Pr_hasValue (d := d + 0) hs) (fun v w2 hq => ?_)
  obtain ⟨r2, rfl, hz2, hs⟩ := hq
  refine tm_i (p1 := 29) (p2 := 14) rfl (fun h3 => ?_) (fun h3 => ?_)
  · replace hs := hs.1 h3
    refine tm_go 1 (pc' := 30) (L' := [some (.ref 0), some (.int a0)]) (S' := [.long 0]) (w' := w2) rfl ?_
    exact tm_r rfl ⟨_, rfl, hs⟩
  · replace hs := hs.2 h3
    refine tm_go 2 (pc' := 18) (L' := [some (.ref 0), some (.int a0)]) (S' := [.ref 61]) (w' := w2) rfl ?_
    obtain ⟨b4, hs⟩ := hs
    refine tm_g (pc' := 21) (k := 61) (j := 3) rfl b4 ?_
    refine tm_go 2 (pc' := 25) (L' := [some (.ref 0), some (.int a0)]) (S' := [.int a0, .ref 74]) (w' := w2) rfl ?_
    obtain ⟨b5, hs⟩ := hs
    refine tm_k (pc' := 26) (L' := [some (.ref 0), some (.int a0)]) (S' := [.long (w2.2.1 74 a0.toInt.toNat)]) (w' := w2) rfl b5 ?_
    refine tm_go 1 (pc' := 30) (L' := [some (.ref 0), some (.int a0)]) (S' := [.long (w2.2.1 74 a0.toInt.toNat)]) (w' := w2) rfl ?_
    exact tm_r rfl ⟨_, rfl, hs⟩
set_option maxHeartbeats 4000000 in
set_option maxRecDepth 100000 in
theorem dm_Ru_standingNode {d : Nat} {w : MW} {a0 : Int32} {Q : Int32 → MW → Prop} (hs : p_Ru_standingNode w a0 Q) : Tc (d + 401) 230 [.ref 61, .int a0] w (RI Q) := by
  unfold p_Ru_standingNode at hs
  refine tm_go 4 (pc' := 6) (L' := [some (.ref 61), some (.int a0), none]) (S' := [.ref 61]) (w' := (sI w 61 15 a0)) rfl ?_
  refine tm_c rfl (Nat.le_of_ble_eq_true rfl) (dm_Ru_isAlive (d := d + 400) hs) (fun v w1 hq => ?_)
  obtain ⟨r1, rfl, hz1, hs⟩ := hq
  refine tm_i (p1 := 26) (p2 := 12) rfl (fun h2 => ?_) (fun h2 => ?_)
  · replace hs := hs.1 h2
    refine tm_go 6 (pc' := 42) (L' := [some (.ref 61), some (.int a0), some (.int (-1))]) (S' := [.int (-1)]) (w' := w1) rfl ?_
    exact tm_r rfl ⟨_, rfl, hs⟩
  · replace hs := hs.2 h2
    refine tm_go 1 (pc' := 13) (L' := [some (.ref 61), some (.int a0), none]) (S' := [.int a0]) (w' := w1) rfl ?_
    refine tm_i (p1 := 26) (p2 := 16) rfl (fun h3 => ?_) (fun h3 => ?_)
    · replace hs := hs.1 h3
      refine tm_go 6 (pc' := 42) (L' := [some (.ref 61), some (.int a0), some (.int (-1))]) (S' := [.int (-1)]) (w' := w1) rfl ?_
      exact tm_r rfl ⟨_, rfl, hs⟩
    · replace hs := hs.2 h3
      refine tm_go 4 (pc' := 20) (L' := [some (.ref 61), some (.int a0), none]) (S' := [.int 0, .int 0, .int 0, .ref 61]) (w' := w1) rfl ?_
      refine tm_c rfl (Nat.le_of_ble_eq_true rfl) (dm_Ru_seek (d := d + 0) hs) (fun v w4 hq => ?_)
      obtain ⟨r4, rfl, hs⟩ := hq
      refine tm_go 3 (pc' := 29) (L' := [some (.ref 61), some (.int a0), some (.int r4)]) (S' := [.int r4]) (w' := w4) rfl ?_
      refine tm_i (p1 := 36) (p2 := 32) rfl (fun h5 => ?_) (fun h5 => ?_)
      · replace hs := hs.1 h5
        refine tm_go 3 (pc' := 41) (L' := [some (.ref 61), some (.int a0), some (.int r4)]) (S' := [.int r4, .ref 77]) (w' := w4) rfl ?_
        obtain ⟨b6, hs⟩ := hs
        refine tm_k (pc' := 42) (L' := [some (.ref 61), some (.int a0), some (.int r4)]) (S' := [.int (w4.1 77 r4.toInt.toNat)]) (w' := w4) rfl b6 ?_
        exact tm_r rfl ⟨_, rfl, hs⟩
      · replace hs := hs.2 h5
        refine tm_go 2 (pc' := 42) (L' := [some (.ref 61), some (.int a0), some (.int r4)]) (S' := [.int (-1)]) (w' := w4) rfl ?_
        exact tm_r rfl ⟨_, rfl, hs⟩
set_option maxHeartbeats 4000000 in
set_option maxRecDepth 100000 in
theorem dm_Bh_still {d : Nat} {w : MW} {a0 : Int32} {Q : Int32 → MW → Prop} (hs : p_Bh_still w a0 Q) : Tc (d + 402) 29 [.ref 0, .int a0] w (RI Q) := by
  unfold p_Bh_still at hs
  refine tm_go 3 (pc' := 5) (L' := [some (.ref 0), some (.int a0)]) (S' := [.int a0, .ref 61]) (w' := w) rfl ?_
  refine tm_c rfl (Nat.le_of_ble_eq_true rfl) (dm_Ru_standingNode (d := d + 0) hs) (fun v w1 hq => ?_)
  obtain ⟨r1, rfl, hs⟩ := hq
  exact tm_r rfl ⟨_, rfl, hs⟩
set_option maxHeartbeats 4000000 in
set_option maxRecDepth 100000 in
theorem dm_Al_get {d : Nat} {w : MW} {a0 : Int32} {b0 : Int32} {Q : Int32 → MW → Prop} (hs : p_Al_get w a0 b0 Q) : Tc (d + 0) 136 [.ref 3, .int a0, .int b0] w (RI Q) := by
  unfold p_Al_get at hs
  refine tm_go 1 (pc' := 1) (L' := [some (.ref 3), some (.int a0), some (.int b0)]) (S' := [.int a0]) (w' := w) rfl ?_
  refine tm_i (p1 := 21) (p2 := 4) rfl (fun h1 => ?_) (fun h1 => ?_)
  · replace hs := hs.1 h1
    refine tm_go 1 (pc' := 22) (L' := [some (.ref 3), some (.int a0), some (.int b0)]) (S' := [.int (-1)]) (w' := w) rfl ?_
    exact tm_r rfl ⟨_, rfl, hs⟩
  · replace hs := hs.2 h1
    refine tm_go 3 (pc' := 9) (L' := [some (.ref 3), some (.int a0), some (.int b0)]) (S' := [.int (w.1 3 0), .int a0]) (w' := w) rfl ?_
    refine tm_i (p1 := 21) (p2 := 12) rfl (fun h2 => ?_) (fun h2 => ?_)
    · replace hs := hs.1 h2
      refine tm_go 1 (pc' := 22) (L' := [some (.ref 3), some (.int a0), some (.int b0)]) (S' := [.int (-1)]) (w' := w) rfl ?_
      exact tm_r rfl ⟨_, rfl, hs⟩
    · replace hs := hs.2 h2
      refine tm_go 1 (pc' := 13) (L' := [some (.ref 3), some (.int a0), some (.int b0)]) (S' := [.int b0]) (w' := w) rfl ?_
      refine tm_i (p1 := 21) (p2 := 16) rfl (fun h3 => ?_) (fun h3 => ?_)
      · replace hs := hs.1 h3
        refine tm_go 1 (pc' := 22) (L' := [some (.ref 3), some (.int a0), some (.int b0)]) (S' := [.int (-1)]) (w' := w) rfl ?_
        exact tm_r rfl ⟨_, rfl, hs⟩
      · replace hs := hs.2 h3
        refine tm_go 2 (pc' := 18) (L' := [some (.ref 3), some (.int a0), some (.int b0)]) (S' := [.int 2, .int b0]) (w' := w) rfl ?_
        refine tm_i (p1 := 23) (p2 := 21) rfl (fun h4 => ?_) (fun h4 => ?_)
        · replace hs := hs.1 h4
          refine tm_go 1 (pc' := 24) (L' := [some (.ref 3), some (.int a0), some (.int b0)]) (S' := [.int b0]) (w' := w) rfl ?_
          refine tm_i (p1 := 36) (p2 := 27) rfl (fun h5 => ?_) (fun h5 => ?_)
          · replace hs := hs.1 h5
            refine tm_go 2 (pc' := 38) (L' := [some (.ref 3), some (.int a0), some (.int b0)]) (S' := [.int 1, .int b0]) (w' := w) rfl ?_
            refine tm_i (p1 := 50) (p2 := 41) rfl (fun h6 => ?_) (fun h6 => ?_)
            · replace hs := hs.1 h6
              refine tm_go 3 (pc' := 55) (L' := [some (.ref 3), some (.int a0), some (.int b0)]) (S' := [.int a0, .ref 6]) (w' := w) rfl ?_
              obtain ⟨b7, hs⟩ := hs
              refine tm_k (pc' := 56) (L' := [some (.ref 3), some (.int a0), some (.int b0)]) (S' := [.int (w.1 6 a0.toInt.toNat)]) (w' := w) rfl b7 ?_
              exact tm_r rfl ⟨_, rfl, hs⟩
            · replace hs := hs.2 h6
              refine tm_go 3 (pc' := 46) (L' := [some (.ref 3), some (.int a0), some (.int b0)]) (S' := [.int a0, .ref 5]) (w' := w) rfl ?_
              obtain ⟨b8, hs⟩ := hs
              refine tm_k (pc' := 47) (L' := [some (.ref 3), some (.int a0), some (.int b0)]) (S' := [.int (w.1 5 a0.toInt.toNat)]) (w' := w) rfl b8 ?_
              refine tm_go 1 (pc' := 56) (L' := [some (.ref 3), some (.int a0), some (.int b0)]) (S' := [.int (w.1 5 a0.toInt.toNat)]) (w' := w) rfl ?_
              exact tm_r rfl ⟨_, rfl, hs⟩
          · replace hs := hs.2 h5
            refine tm_go 3 (pc' := 32) (L' := [some (.ref 3), some (.int a0), some (.int b0)]) (S' := [.int a0, .ref 4]) (w' := w) rfl ?_
            obtain ⟨b9, hs⟩ := hs
            refine tm_k (pc' := 33) (L' := [some (.ref 3), some (.int a0), some (.int b0)]) (S' := [.int (w.1 4 a0.toInt.toNat)]) (w' := w) rfl b9 ?_
            refine tm_go 1 (pc' := 56) (L' := [some (.ref 3), some (.int a0), some (.int b0)]) (S' := [.int (w.1 4 a0.toInt.toNat)]) (w' := w) rfl ?_
            exact tm_r rfl ⟨_, rfl, hs⟩
        · replace hs := hs.2 h4
          refine tm_go 1 (pc' := 22) (L' := [some (.ref 3), some (.int a0), some (.int b0)]) (S' := [.int (-1)]) (w' := w) rfl ?_
          exact tm_r rfl ⟨_, rfl, hs⟩
set_option maxHeartbeats 4000000 in
set_option maxRecDepth 100000 in
theorem dm_Bh_alarm {d : Nat} {w : MW} {a0 : Int32} {b0 : Int32} {Q : Int32 → MW → Prop} (hs : p_Bh_alarm w a0 b0 Q) : Tc (d + 1) 30 [.ref 0, .int a0, .int b0] w (RI Q) := by
  unfold p_Bh_alarm at hs
  refine tm_go 4 (pc' := 6) (L' := [some (.ref 0), some (.int a0), some (.int b0)]) (S' := [.int b0, .int a0, .ref 3]) (w' := w) rfl ?_
  refine tm_c rfl (Nat.le_of_ble_eq_true rfl) (dm_Al_get (d := d + 0) hs) (fun v w1 hq => ?_)
  obtain ⟨r1, rfl, hs⟩ := hq
  exact tm_r rfl ⟨_, rfl, hs⟩
set_option maxHeartbeats 4000000 in
set_option maxRecDepth 100000 in
theorem tx_Wa_get_79 {d : Nat} {x79_2 : Int32} {E : Int32 → MW → Prop} {Q : Int32 → MW → Prop} (n : Nat) : ∀ (x79_3 : Int32) (x79_4 : Int32)  (z1 : Option Value) (w : MW), q_Wa_get_79 x79_2 E Q n x79_3 x79_4 w → (∀ (e79_3 : Int32)  (v0 : Option Value) (v1 : Option Value) (v2 : Option Value) (v4 : Option Value) (w : MW), E e79_3 w → Tm (d + 0) 263 102 [v0, v1, v2, some (.int e79_3), v4] [] w (RI Q)) → Tm (d + 0) 263 79 [some (.ref 26), z1, some (.int x79_2), some (.int x79_3), some (.int x79_4)] [] w (RI Q) := by
  induction n with
  | zero => intro x79_3 x79_4 z1 w hs; rw [q_Wa_get_79.eq_1] at hs; exact hs.elim
  | succ n ih =>
    intro x79_3 x79_4 z1 w hs hE
    rw [q_Wa_get_79.eq_2] at hs
    refine tm_go 2 (pc' := 82) (L' := [some (.ref 26), z1, some (.int x79_2), some (.int x79_3), some (.int x79_4)]) (S' := [.int x79_2, .int x79_4]) (w' := w) rfl ?_
    refine tm_i (p1 := 102) (p2 := 85) rfl (fun h8 => ?_) (fun h8 => ?_)
    · replace hs := hs.1 h8
      exact hE _ _ _ _ _ _ hs
    · replace hs := hs.2 h8
      refine tm_go 1 (pc' := 86) (L' := [some (.ref 26), z1, some (.int x79_2), some (.int x79_3), some (.int x79_4)]) (S' := [.int x79_3]) (w' := w) rfl ?_
      refine tm_i (p1 := 102) (p2 := 89) rfl (fun h9 => ?_) (fun h9 => ?_)
      · replace hs := hs.1 h9
        exact hE _ _ _ _ _ _ hs
      · replace hs := hs.2 h9
        refine tm_go 3 (pc' := 94) (L' := [some (.ref 26), z1, some (.int x79_2), some (.int x79_3), some (.int x79_4)]) (S' := [.int x79_3, .ref 35]) (w' := w) rfl ?_
        obtain ⟨b10, hs⟩ := hs
        refine tm_k (pc' := 95) (L' := [some (.ref 26), z1, some (.int x79_2), some (.int x79_3), some (.int x79_4)]) (S' := [.int (w.1 35 x79_3.toInt.toNat)]) (w' := w) rfl b10 ?_
        refine tm_go 3 (pc' := 79) (L' := [some (.ref 26), z1, some (.int x79_2), some (.int (w.1 35 x79_3.toInt.toNat)), some (.int (x79_4 + (1 : Int32)))]) (S' := []) (w' := w) rfl ?_
        exact ih _ _ _ _ hs hE
set_option maxHeartbeats 4000000 in
set_option maxRecDepth 100000 in
theorem dm_Wa_get {d : Nat} {w : MW} {a0 : Int32} {b0 : Int32} {Q : Int32 → MW → Prop} (hs : p_Wa_get w a0 b0 Q) : Tc (d + 0) 263 [.ref 26, .int a0, .int b0] w (RI Q) := by
  unfold p_Wa_get at hs
  refine tm_go 1 (pc' := 1) (L' := [some (.ref 26), some (.int a0), some (.int b0), none, none]) (S' := [.int a0]) (w' := w) rfl ?_
  refine tm_i (p1 := 28) (p2 := 4) rfl (fun h1 => ?_) (fun h1 => ?_)
  · replace hs := hs.1 h1
    refine tm_go 1 (pc' := 29) (L' := [some (.ref 26), some (.int a0), some (.int b0), none, none]) (S' := [.int (-1)]) (w' := w) rfl ?_
    exact tm_r rfl ⟨_, rfl, hs⟩
  · replace hs := hs.2 h1
    refine tm_go 3 (pc' := 9) (L' := [some (.ref 26), some (.int a0), some (.int b0), none, none]) (S' := [.int (w.1 26 1), .int a0]) (w' := w) rfl ?_
    refine tm_i (p1 := 28) (p2 := 12) rfl (fun h2 => ?_) (fun h2 => ?_)
    · replace hs := hs.1 h2
      refine tm_go 1 (pc' := 29) (L' := [some (.ref 26), some (.int a0), some (.int b0), none, none]) (S' := [.int (-1)]) (w' := w) rfl ?_
      exact tm_r rfl ⟨_, rfl, hs⟩
    · replace hs := hs.2 h2
      refine tm_go 1 (pc' := 13) (L' := [some (.ref 26), some (.int a0), some (.int b0), none, none]) (S' := [.int b0]) (w' := w) rfl ?_
      refine tm_i (p1 := 28) (p2 := 16) rfl (fun h3 => ?_) (fun h3 => ?_)
      · replace hs := hs.1 h3
        refine tm_go 1 (pc' := 29) (L' := [some (.ref 26), some (.int a0), some (.int b0), none, none]) (S' := [.int (-1)]) (w' := w) rfl ?_
        exact tm_r rfl ⟨_, rfl, hs⟩
      · replace hs := hs.2 h3
        refine tm_go 5 (pc' := 23) (L' := [some (.ref 26), some (.int a0), some (.int b0), none, none]) (S' := [.int a0, .ref 31, .int 3, .int b0]) (w' := w) rfl ?_
        obtain ⟨b4, hs⟩ := hs
        refine tm_k (pc' := 24) (L' := [some (.ref 26), some (.int a0), some (.int b0), none, none]) (S' := [.int (w.1 31 a0.toInt.toNat), .int 3, .int b0]) (w' := w) rfl b4 ?_
        refine tm_go 1 (pc' := 25) (L' := [some (.ref 26), some (.int a0), some (.int b0), none, none]) (S' := [.int ((3 : Int32) + (w.1 31 a0.toInt.toNat)), .int b0]) (w' := w) rfl ?_
        refine tm_i (p1 := 30) (p2 := 28) rfl (fun h5 => ?_) (fun h5 => ?_)
        · replace hs := hs.1 h5
          refine tm_go 2 (pc' := 32) (L' := [some (.ref 26), some (.int a0), some (.int b0), none, none]) (S' := [.int 3, .int b0]) (w' := w) rfl ?_
          refine tm_i (p1 := 69) (p2 := 35) rfl (fun h6 => ?_) (fun h6 => ?_)
          · replace hs := hs.1 h6
            refine tm_go 3 (pc' := 74) (L' := [some (.ref 26), some (.int a0), some (.int b0), none, none]) (S' := [.int a0, .ref 32]) (w' := w) rfl ?_
            obtain ⟨b7, hs⟩ := hs
            refine tm_k (pc' := 75) (L' := [some (.ref 26), some (.int a0), some (.int b0), none, none]) (S' := [.int (w.1 32 a0.toInt.toNat)]) (w' := w) rfl b7 ?_
            refine tm_go 3 (pc' := 79) (L' := [some (.ref 26), some (.int a0), some (.int b0), some (.int (w.1 32 a0.toInt.toNat)), some (.int 3)]) (S' := []) (w' := w) rfl ?_
            refine tx_Wa_get_79 FU _ _ _ _ hs (fun e79_3_11 z11_0 z11_1 z11_2 z11_4 w11 hs => ?_)
            refine tm_go 1 (pc' := 103) (L' := [z11_0, z11_1, z11_2, some (.int e79_3_11), z11_4]) (S' := [.int e79_3_11]) (w' := w11) rfl ?_
            exact tm_r rfl ⟨_, rfl, hs⟩
          · replace hs := hs.2 h6
            refine tm_go 1 (pc' := 36) (L' := [some (.ref 26), some (.int a0), some (.int b0), none, none]) (S' := [.int b0]) (w' := w) rfl ?_
            refine tm_i (p1 := 48) (p2 := 39) rfl (fun h12 => ?_) (fun h12 => ?_)
            · replace hs := hs.1 h12
              refine tm_go 2 (pc' := 50) (L' := [some (.ref 26), some (.int a0), some (.int b0), none, none]) (S' := [.int 1, .int b0]) (w' := w) rfl ?_
              refine tm_i (p1 := 62) (p2 := 53) rfl (fun h13 => ?_) (fun h13 => ?_)
              · replace hs := hs.1 h13
                refine tm_go 3 (pc' := 67) (L' := [some (.ref 26), some (.int a0), some (.int b0), none, none]) (S' := [.int a0, .ref 31]) (w' := w) rfl ?_
                obtain ⟨b14, hs⟩ := hs
                refine tm_k (pc' := 68) (L' := [some (.ref 26), some (.int a0), some (.int b0), none, none]) (S' := [.int (w.1 31 a0.toInt.toNat)]) (w' := w) rfl b14 ?_
                exact tm_r rfl ⟨_, rfl, hs⟩
              · replace hs := hs.2 h13
                refine tm_go 3 (pc' := 58) (L' := [some (.ref 26), some (.int a0), some (.int b0), none, none]) (S' := [.int a0, .ref 28]) (w' := w) rfl ?_
                obtain ⟨b15, hs⟩ := hs
                refine tm_k (pc' := 59) (L' := [some (.ref 26), some (.int a0), some (.int b0), none, none]) (S' := [.int (w.1 28 a0.toInt.toNat)]) (w' := w) rfl b15 ?_
                refine tm_go 1 (pc' := 68) (L' := [some (.ref 26), some (.int a0), some (.int b0), none, none]) (S' := [.int (w.1 28 a0.toInt.toNat)]) (w' := w) rfl ?_
                exact tm_r rfl ⟨_, rfl, hs⟩
            · replace hs := hs.2 h12
              refine tm_go 3 (pc' := 44) (L' := [some (.ref 26), some (.int a0), some (.int b0), none, none]) (S' := [.int a0, .ref 27]) (w' := w) rfl ?_
              obtain ⟨b16, hs⟩ := hs
              refine tm_k (pc' := 45) (L' := [some (.ref 26), some (.int a0), some (.int b0), none, none]) (S' := [.int (w.1 27 a0.toInt.toNat)]) (w' := w) rfl b16 ?_
              refine tm_go 1 (pc' := 68) (L' := [some (.ref 26), some (.int a0), some (.int b0), none, none]) (S' := [.int (w.1 27 a0.toInt.toNat)]) (w' := w) rfl ?_
              exact tm_r rfl ⟨_, rfl, hs⟩
        · replace hs := hs.2 h5
          refine tm_go 1 (pc' := 29) (L' := [some (.ref 26), some (.int a0), some (.int b0), none, none]) (S' := [.int (-1)]) (w' := w) rfl ?_
          exact tm_r rfl ⟨_, rfl, hs⟩
set_option maxHeartbeats 4000000 in
set_option maxRecDepth 100000 in
theorem dm_Bh_way {d : Nat} {w : MW} {a0 : Int32} {b0 : Int32} {Q : Int32 → MW → Prop} (hs : p_Bh_way w a0 b0 Q) : Tc (d + 1) 31 [.ref 0, .int a0, .int b0] w (RI Q) := by
  unfold p_Bh_way at hs
  refine tm_go 4 (pc' := 6) (L' := [some (.ref 0), some (.int a0), some (.int b0)]) (S' := [.int b0, .int a0, .ref 26]) (w' := w) rfl ?_
  refine tm_c rfl (Nat.le_of_ble_eq_true rfl) (dm_Wa_get (d := d + 0) hs) (fun v w1 hq => ?_)
  obtain ⟨r1, rfl, hs⟩ := hq
  exact tm_r rfl ⟨_, rfl, hs⟩
set_option maxHeartbeats 4000000 in
set_option maxRecDepth 100000 in
theorem dm_St_levelOf {d : Nat} {w : MW} {a0 : Int32} {Q : Int32 → MW → Prop} (hs : p_St_levelOf w a0 Q) : Tc (d + 2) 244 [.ref 7, .int a0] w (RI Q) := by
  unfold p_St_levelOf at hs
  refine tm_go 3 (pc' := 5) (L' := [some (.ref 7), some (.int a0)]) (S' := [.int a0, .ref 17]) (w' := w) rfl ?_
  obtain ⟨b1, hs⟩ := hs
  refine tm_k (pc' := 6) (L' := [some (.ref 7), some (.int a0)]) (S' := [.int (w.1 17 a0.toInt.toNat)]) (w' := w) rfl b1 ?_
  refine tm_i (p1 := 18) (p2 := 9) rfl (fun h2 => ?_) (fun h2 => ?_)
  · replace hs := hs.1 h2
    refine tm_go 2 (pc' := 27) (L' := [some (.ref 7), some (.int a0)]) (S' := [.int 0]) (w' := w) rfl ?_
    exact tm_r rfl ⟨_, rfl, hs⟩
  · replace hs := hs.2 h2
    refine tm_go 3 (pc' := 14) (L' := [some (.ref 7), some (.int a0)]) (S' := [.int a0, .ref 19]) (w' := w) rfl ?_
    obtain ⟨b3, hs⟩ := hs
    refine tm_k (pc' := 15) (L' := [some (.ref 7), some (.int a0)]) (S' := [.int (w.1 19 a0.toInt.toNat)]) (w' := w) rfl b3 ?_
    refine tm_i (p1 := 22) (p2 := 18) rfl (fun h4 => ?_) (fun h4 => ?_)
    · replace hs := hs.1 h4
      refine tm_go 2 (pc' := 24) (L' := [some (.ref 7), some (.int a0)]) (S' := [.int a0, .ref 7]) (w' := w) rfl ?_
      refine tm_c rfl (Nat.le_of_ble_eq_true rfl) (dm_St_heldLevel (d := d + 0) hs) (fun v w5 hq => ?_)
      obtain ⟨r5, rfl, hs⟩ := hq
      exact tm_r rfl ⟨_, rfl, hs⟩
    · replace hs := hs.2 h4
      refine tm_go 2 (pc' := 27) (L' := [some (.ref 7), some (.int a0)]) (S' := [.int 0]) (w' := w) rfl ?_
      exact tm_r rfl ⟨_, rfl, hs⟩
set_option maxHeartbeats 4000000 in
set_option maxRecDepth 100000 in
theorem dm_Bh_space {d : Nat} {w : MW} {a0 : Int32} {b0 : Int32} {Q : Int32 → MW → Prop} (hs : p_Bh_space w a0 b0 Q) : Tc (d + 3) 32 [.ref 0, .int a0, .int b0] w (RI Q) := by
  unfold p_Bh_space at hs
  refine tm_go 2 (pc' := 2) (L' := [some (.ref 0), some (.int a0), some (.int b0)]) (S' := [.int 4, .int b0]) (w' := w) rfl ?_
  refine tm_i (p1 := 30) (p2 := 5) rfl (fun h1 => ?_) (fun h1 => ?_)
  · replace hs := hs.1 h1
    refine tm_go 3 (pc' := 35) (L' := [some (.ref 0), some (.int a0), some (.int b0)]) (S' := [.int a0, .ref 7]) (w' := w) rfl ?_
    refine tm_c rfl (Nat.le_of_ble_eq_true rfl) (dm_St_isHolder (d := d + 1) hs) (fun v w2 hq => ?_)
    obtain ⟨r2, rfl, hz2, hs⟩ := hq
    refine tm_i (p1 := 43) (p2 := 41) rfl (fun h3 => ?_) (fun h3 => ?_)
    · replace hs := hs.1 h3
      refine tm_go 1 (pc' := 44) (L' := [some (.ref 0), some (.int a0), some (.int b0)]) (S' := [.int b0]) (w' := w2) rfl ?_
      by_cases h4 : b0.toInt = 0
      · replace hs := hs.1 h4
        refine tm_tab (dflt := 139) (lo := 0) (ts := [76, 86, 96, 130]) rfl (by rw [h4]; decide) (t := 76) (by rw [h4]; rfl) ?_
        refine tm_go 4 (pc' := 84) (L' := [some (.ref 0), some (.int a0), some (.int b0)]) (S' := [.int a0, .ref 17]) (w' := w2) rfl ?_
        obtain ⟨b5, hs⟩ := hs
        refine tm_k (pc' := 85) (L' := [some (.ref 0), some (.int a0), some (.int b0)]) (S' := [.int (w2.1 17 a0.toInt.toNat)]) (w' := w2) rfl b5 ?_
        exact tm_r rfl ⟨_, rfl, hs⟩
      · replace hs := hs.2 h4
        by_cases h6 : b0.toInt = 1
        · replace hs := hs.1 h6
          refine tm_tab (dflt := 139) (lo := 0) (ts := [76, 86, 96, 130]) rfl (by rw [h6]; decide) (t := 86) (by rw [h6]; rfl) ?_
          refine tm_go 4 (pc' := 94) (L' := [some (.ref 0), some (.int a0), some (.int b0)]) (S' := [.int a0, .ref 18]) (w' := w2) rfl ?_
          obtain ⟨b7, hs⟩ := hs
          refine tm_k (pc' := 95) (L' := [some (.ref 0), some (.int a0), some (.int b0)]) (S' := [.int (w2.1 18 a0.toInt.toNat)]) (w' := w2) rfl b7 ?_
          exact tm_r rfl ⟨_, rfl, hs⟩
        · replace hs := hs.2 h6
          by_cases h8 : b0.toInt = 2
          · replace hs := hs.1 h8
            refine tm_tab (dflt := 139) (lo := 0) (ts := [76, 86, 96, 130]) rfl (by rw [h8]; decide) (t := 96) (by rw [h8]; rfl) ?_
            refine tm_go 4 (pc' := 104) (L' := [some (.ref 0), some (.int a0), some (.int b0)]) (S' := [.int a0, .ref 17]) (w' := w2) rfl ?_
            obtain ⟨b9, hs⟩ := hs
            refine tm_k (pc' := 105) (L' := [some (.ref 0), some (.int a0), some (.int b0)]) (S' := [.int (w2.1 17 a0.toInt.toNat)]) (w' := w2) rfl b9 ?_
            refine tm_i (p1 := 120) (p2 := 108) rfl (fun h10 => ?_) (fun h10 => ?_)
            · replace hs := hs.1 h10
              refine tm_go 4 (pc' := 128) (L' := [some (.ref 0), some (.int a0), some (.int b0)]) (S' := [.int a0, .ref 19]) (w' := w2) rfl ?_
              obtain ⟨b11, hs⟩ := hs
              refine tm_k (pc' := 129) (L' := [some (.ref 0), some (.int a0), some (.int b0)]) (S' := [.int (w2.1 19 a0.toInt.toNat)]) (w' := w2) rfl b11 ?_
              exact tm_r rfl ⟨_, rfl, hs⟩
            · replace hs := hs.2 h10
              refine tm_go 4 (pc' := 116) (L' := [some (.ref 0), some (.int a0), some (.int b0)]) (S' := [.int a0, .ref 17]) (w' := w2) rfl ?_
              obtain ⟨b12, hs⟩ := hs
              refine tm_k (pc' := 117) (L' := [some (.ref 0), some (.int a0), some (.int b0)]) (S' := [.int (w2.1 17 a0.toInt.toNat)]) (w' := w2) rfl b12 ?_
              refine tm_go 1 (pc' := 129) (L' := [some (.ref 0), some (.int a0), some (.int b0)]) (S' := [.int (w2.1 17 a0.toInt.toNat)]) (w' := w2) rfl ?_
              exact tm_r rfl ⟨_, rfl, hs⟩
          · replace hs := hs.2 h8
            by_cases h13 : b0.toInt = 3
            · replace hs := hs.1 h13
              refine tm_tab (dflt := 139) (lo := 0) (ts := [76, 86, 96, 130]) rfl (by rw [h13]; decide) (t := 130) (by rw [h13]; rfl) ?_
              refine tm_go 3 (pc' := 135) (L' := [some (.ref 0), some (.int a0), some (.int b0)]) (S' := [.int a0, .ref 7]) (w' := w2) rfl ?_
              refine tm_c rfl (Nat.le_of_ble_eq_true rfl) (dm_St_levelOf (d := d + 0) hs) (fun v w14 hq => ?_)
              obtain ⟨r14, rfl, hs⟩ := hq
              exact tm_r rfl ⟨_, rfl, hs⟩
            · replace hs := hs.2 h13
              refine tm_tad (dflt := 139) (lo := 0) (ts := [76, 86, 96, 130]) rfl (by simp only [List.length_cons, List.length_nil]; omega) ?_
              refine tm_go 1 (pc' := 140) (L' := [some (.ref 0), some (.int a0), some (.int b0)]) (S' := [.int (-1)]) (w' := w2) rfl ?_
              exact tm_r rfl ⟨_, rfl, hs⟩
    · replace hs := hs.2 h3
      refine tm_go 1 (pc' := 42) (L' := [some (.ref 0), some (.int a0), some (.int b0)]) (S' := [.int (-1)]) (w' := w2) rfl ?_
      exact tm_r rfl ⟨_, rfl, hs⟩
  · replace hs := hs.2 h1
    refine tm_go 3 (pc' := 10) (L' := [some (.ref 0), some (.int a0), some (.int b0)]) (S' := [.int a0, .ref 7]) (w' := w) rfl ?_
    refine tm_c rfl (Nat.le_of_ble_eq_true rfl) (dm_St_isValve (d := d + 2) hs) (fun v w15 hq => ?_)
    obtain ⟨r15, rfl, hz15, hs⟩ := hq
    refine tm_i (p1 := 28) (p2 := 16) rfl (fun h16 => ?_) (fun h16 => ?_)
    · replace hs := hs.1 h16
      refine tm_go 1 (pc' := 29) (L' := [some (.ref 0), some (.int a0), some (.int b0)]) (S' := [.int (-1)]) (w' := w15) rfl ?_
      exact tm_r rfl ⟨_, rfl, hs⟩
    · replace hs := hs.2 h16
      refine tm_go 4 (pc' := 24) (L' := [some (.ref 0), some (.int a0), some (.int b0)]) (S' := [.int a0, .ref 16]) (w' := w15) rfl ?_
      obtain ⟨b17, hs⟩ := hs
      refine tm_k (pc' := 25) (L' := [some (.ref 0), some (.int a0), some (.int b0)]) (S' := [.int (w15.1 16 a0.toInt.toNat)]) (w' := w15) rfl b17 ?_
      refine tm_go 1 (pc' := 29) (L' := [some (.ref 0), some (.int a0), some (.int b0)]) (S' := [.int (w15.1 16 a0.toInt.toNat)]) (w' := w15) rfl ?_
      exact tm_r rfl ⟨_, rfl, hs⟩
set_option maxHeartbeats 4000000 in
set_option maxRecDepth 100000 in
theorem dm_Bh_danger {d : Nat} {w : MW} {a0 : Int32} {Q : Int32 → MW → Prop} (hs : p_Bh_danger w a0 Q) : Tc (d + 4) 33 [.ref 0, .int a0] w (RI Q) := by
  unfold p_Bh_danger at hs
  refine tm_go 2 (pc' := 4) (L' := [some (.ref 0), some (.int a0), none]) (S' := [.ref 42]) (w' := w) rfl ?_
  refine tm_c rfl (Nat.le_of_ble_eq_true rfl) (dm_Sf_isSafe (d := d + 0) hs) (fun v w1 hq => ?_)
  obtain ⟨r1, rfl, hz1, hs⟩ := hq
  refine tm_go 2 (pc' := 9) (L' := [some (.ref 0), some (.int a0), some (.int r1)]) (S' := [.int a0]) (w' := w1) rfl ?_
  refine tm_i (p1 := 20) (p2 := 12) rfl (fun h2 => ?_) (fun h2 => ?_)
  · replace hs := hs.1 h2
    refine tm_go 1 (pc' := 21) (L' := [some (.ref 0), some (.int a0), some (.int r1)]) (S' := [.int r1]) (w' := w1) rfl ?_
    refine tm_i (p1 := 26) (p2 := 24) rfl (fun h3 => ?_) (fun h3 => ?_)
    · replace hs := hs.1 h3
      refine tm_go 1 (pc' := 27) (L' := [some (.ref 0), some (.int a0), some (.int r1)]) (S' := [.int a0]) (w' := w1) rfl ?_
      by_cases h4 : a0.toInt = 1
      · replace hs := hs.1 h4
        refine tm_tab (dflt := 76) (lo := 1) (ts := [52, 60, 68]) rfl (by rw [h4]; decide) (t := 52) (by rw [h4]; rfl) ?_
        refine tm_go 3 (pc' := 59) (L' := [some (.ref 0), some (.int a0), some (.int r1)]) (S' := [.int (w1.1 42 7)]) (w' := w1) rfl ?_
        exact tm_r rfl ⟨_, rfl, hs⟩
      · replace hs := hs.2 h4
        by_cases h5 : a0.toInt = 2
        · replace hs := hs.1 h5
          refine tm_tab (dflt := 76) (lo := 1) (ts := [52, 60, 68]) rfl (by rw [h5]; decide) (t := 60) (by rw [h5]; rfl) ?_
          refine tm_go 3 (pc' := 67) (L' := [some (.ref 0), some (.int a0), some (.int r1)]) (S' := [.int (w1.1 42 8)]) (w' := w1) rfl ?_
          exact tm_r rfl ⟨_, rfl, hs⟩
        · replace hs := hs.2 h5
          by_cases h6 : a0.toInt = 3
          · replace hs := hs.1 h6
            refine tm_tab (dflt := 76) (lo := 1) (ts := [52, 60, 68]) rfl (by rw [h6]; decide) (t := 68) (by rw [h6]; rfl) ?_
            refine tm_go 3 (pc' := 75) (L' := [some (.ref 0), some (.int a0), some (.int r1)]) (S' := [.int (w1.1 42 9)]) (w' := w1) rfl ?_
            exact tm_r rfl ⟨_, rfl, hs⟩
          · replace hs := hs.2 h6
            refine tm_tad (dflt := 76) (lo := 1) (ts := [52, 60, 68]) rfl (by simp only [List.length_cons, List.length_nil]; omega) ?_
            refine tm_go 1 (pc' := 77) (L' := [some (.ref 0), some (.int a0), some (.int r1)]) (S' := [.int (-1)]) (w' := w1) rfl ?_
            exact tm_r rfl ⟨_, rfl, hs⟩
    · replace hs := hs.2 h3
      refine tm_go 1 (pc' := 25) (L' := [some (.ref 0), some (.int a0), some (.int r1)]) (S' := [.int (-1)]) (w' := w1) rfl ?_
      exact tm_r rfl ⟨_, rfl, hs⟩
  · replace hs := hs.2 h2
    refine tm_go 3 (pc' := 19) (L' := [some (.ref 0), some (.int a0), some (.int r1)]) (S' := [.int (w1.1 42 6)]) (w' := w1) rfl ?_
    exact tm_r rfl ⟨_, rfl, hs⟩
set_option maxHeartbeats 4000000 in
set_option maxRecDepth 100000 in
theorem dm_Bh_write {d : Nat} {w : MW} {a0 : Int32} {Q : Int32 → MW → Prop} (hs : p_Bh_write w a0 Q) : Tc (d + 0) 34 [.ref 0, .int a0] w (RI Q) := by
  unfold p_Bh_write at hs
  refine tm_go 1 (pc' := 1) (L' := [some (.ref 0), some (.int a0)]) (S' := [.int a0]) (w' := w) rfl ?_
  refine tm_i (p1 := 21) (p2 := 4) rfl (fun h1 => ?_) (fun h1 => ?_)
  · replace hs := hs.1 h1
    refine tm_go 1 (pc' := 22) (L' := [some (.ref 0), some (.int a0)]) (S' := [.int (-1)]) (w' := w) rfl ?_
    exact tm_r rfl ⟨_, rfl, hs⟩
  · replace hs := hs.2 h1
    refine tm_go 3 (pc' := 9) (L' := [some (.ref 0), some (.int a0)]) (S' := [.int (w.1 0 12), .int a0]) (w' := w) rfl ?_
    refine tm_i (p1 := 21) (p2 := 12) rfl (fun h2 => ?_) (fun h2 => ?_)
    · replace hs := hs.1 h2
      refine tm_go 1 (pc' := 22) (L' := [some (.ref 0), some (.int a0)]) (S' := [.int (-1)]) (w' := w) rfl ?_
      exact tm_r rfl ⟨_, rfl, hs⟩
    · replace hs := hs.2 h2
      refine tm_go 3 (pc' := 17) (L' := [some (.ref 0), some (.int a0)]) (S' := [.int a0, .ref 123]) (w' := w) rfl ?_
      obtain ⟨b3, hs⟩ := hs
      refine tm_k (pc' := 18) (L' := [some (.ref 0), some (.int a0)]) (S' := [.int (w.1 123 a0.toInt.toNat)]) (w' := w) rfl b3 ?_
      refine tm_go 1 (pc' := 22) (L' := [some (.ref 0), some (.int a0)]) (S' := [.int (w.1 123 a0.toInt.toNat)]) (w' := w) rfl ?_
      exact tm_r rfl ⟨_, rfl, hs⟩
set_option maxHeartbeats 4000000 in
set_option maxRecDepth 100000 in
theorem dm_Bh_second {d : Nat} {w : MW} {Q : Int32 → MW → Prop} (hs : p_Bh_second w Q) : Tc (d + 0) 35 [.ref 0] w (RI Q) := by
  unfold p_Bh_second at hs
  refine tm_go 3 (pc' := 7) (L' := [some (.ref 0)]) (S' := [.int (w.1 7 1)]) (w' := w) rfl ?_
  exact tm_r rfl ⟨_, rfl, hs⟩
set_option maxHeartbeats 4000000 in
set_option maxRecDepth 100000 in
theorem tx_Mo_feed_72 {d : Nat} {x19_1 : Int32} {x19_2 : Int32} {x19_3 : Int32} {x19_4 : Int32} {x19_5 : Int32} {y72_6 : Int32} {ys72_0 : Int32} {z7 : Option Value} {w : MW} {A : Int32 → MW → Prop} {E : MW → Prop} {Q : Int32 → MW → Prop} (hs : q_Mo_feed_72 x19_1 x19_2 x19_3 x19_4 x19_5 y72_6 ys72_0 w A E Q) (hA : ∀ (x19_6 : Int32)  (z7 : Option Value) (w : MW), A x19_6 w → Tm (d + 0) 36 19 [some (.ref 127), some (.int x19_1), some (.int x19_2), some (.int x19_3), some (.int x19_4), some (.int x19_5), some (.int x19_6), z7] [] w (RI Q)) (hE : ∀  (v1 : Option Value) (v2 : Option Value) (v3 : Option Value) (v4 : Option Value) (v5 : Option Value) (v6 : Option Value) (v7 : Option Value) (w : MW), E  w → Tm (d + 0) 36 113 [some (.ref 127), v1, v2, v3, v4, v5, v6, v7] [] w (RI Q)) : Tm (d + 0) 36 72 [some (.ref 127), some (.int x19_1), some (.int x19_2), some (.int x19_3), some (.int x19_4), some (.int x19_5), some (.int y72_6), z7] [.int ys72_0] w (RI Q) := by
  unfold q_Mo_feed_72 at hs
  refine tm_go 15 (pc' := 96) (L' := [some (.ref 127), some (.int x19_1), some (.int x19_2), some (.int x19_3), some (.int x19_4), some (.int x19_5), some (.int y72_6), some (.int ys72_0)]) (S' := [.int ((Int32.toInt8 ((ys72_0.toUInt32 >>> (((24 : Int32) - ((8 : Int32) * (y72_6 - y72_6 / (4 : Int32) * (4 : Int32)))).toUInt32 &&& Int32.toUInt32 31)).toInt32)).toInt32), .int (w.1 127 1), .ref 128]) (w' := w) rfl ?_
  obtain ⟨b7, hs⟩ := hs
  refine tm_k (pc' := 97) (L' := [some (.ref 127), some (.int x19_1), some (.int x19_2), some (.int x19_3), some (.int x19_4), some (.int x19_5), some (.int y72_6), some (.int ys72_0)]) (S' := []) (w' := (sI w 128 ((w.1 127 1).toInt.toNat) (vp_nar .byte ((Int32.toInt8 ((ys72_0.toUInt32 >>> (((24 : Int32) - ((8 : Int32) * (y72_6 - y72_6 / (4 : Int32) * (4 : Int32)))).toUInt32 &&& Int32.toUInt32 31)).toInt32)).toInt32)))) rfl b7 ?_
  refine tm_go 8 (pc' := 19) (L' := [some (.ref 127), some (.int x19_1), some (.int x19_2), some (.int x19_3), some (.int x19_4), some (.int x19_5), some (.int (y72_6 + (1 : Int32))), some (.int ys72_0)]) (S' := []) (w' := (sI (sI w 128 ((w.1 127 1).toInt.toNat) (vp_nar .byte ((Int32.toInt8 ((ys72_0.toUInt32 >>> (((24 : Int32) - ((8 : Int32) * (y72_6 - y72_6 / (4 : Int32) * (4 : Int32)))).toUInt32 &&& Int32.toUInt32 31)).toInt32)).toInt32))) 127 1 ((w.1 127 1) + (1 : Int32)))) rfl ?_
  exact hA _ _ _ hs
set_option maxHeartbeats 4000000 in
set_option maxRecDepth 100000 in
theorem tx_Mo_feed_19 {d : Nat} {x19_1 : Int32} {x19_2 : Int32} {x19_3 : Int32} {x19_4 : Int32} {x19_5 : Int32} {E : MW → Prop} {Q : Int32 → MW → Prop} (n : Nat) : ∀ (x19_6 : Int32)  (z7 : Option Value) (w : MW), q_Mo_feed_19 x19_1 x19_2 x19_3 x19_4 x19_5 E Q n x19_6 w → (∀  (v1 : Option Value) (v2 : Option Value) (v3 : Option Value) (v4 : Option Value) (v5 : Option Value) (v6 : Option Value) (v7 : Option Value) (w : MW), E  w → Tm (d + 0) 36 113 [some (.ref 127), v1, v2, v3, v4, v5, v6, v7] [] w (RI Q)) → Tm (d + 0) 36 19 [some (.ref 127), some (.int x19_1), some (.int x19_2), some (.int x19_3), some (.int x19_4), some (.int x19_5), some (.int x19_6), z7] [] w (RI Q) := by
  induction n with
  | zero => intro x19_6 z7 w hs; rw [q_Mo_feed_19.eq_1] at hs; exact hs.elim
  | succ n ih =>
    intro x19_6 z7 w hs hE
    rw [q_Mo_feed_19.eq_2] at hs
    refine tm_go 2 (pc' := 23) (L' := [some (.ref 127), some (.int x19_1), some (.int x19_2), some (.int x19_3), some (.int x19_4), some (.int x19_5), some (.int x19_6), z7]) (S' := [.int 20, .int x19_6]) (w' := w) rfl ?_
    refine tm_i (p1 := 113) (p2 := 26) rfl (fun h2 => ?_) (fun h2 => ?_)
    · replace hs := hs.1 h2
      exact hE _ _ _ _ _ _ _ _ hs
    · replace hs := hs.2 h2
      refine tm_go 2 (pc' := 29) (L' := [some (.ref 127), some (.int x19_1), some (.int x19_2), some (.int x19_3), some (.int x19_4), some (.int x19_5), some (.int x19_6), z7]) (S' := [.int 4, .int x19_6]) (w' := w) rfl ?_
      refine tm_i (p1 := 36) (p2 := 32) rfl (fun h3 => ?_) (fun h3 => ?_)
      · replace hs := hs.1 h3
        refine tm_go 2 (pc' := 40) (L' := [some (.ref 127), some (.int x19_1), some (.int x19_2), some (.int x19_3), some (.int x19_4), some (.int x19_5), some (.int x19_6), z7]) (S' := [.int 8, .int x19_6]) (w' := w) rfl ?_
        refine tm_i (p1 := 47) (p2 := 43) rfl (fun h4 => ?_) (fun h4 => ?_)
        · replace hs := hs.1 h4
          refine tm_go 2 (pc' := 51) (L' := [some (.ref 127), some (.int x19_1), some (.int x19_2), some (.int x19_3), some (.int x19_4), some (.int x19_5), some (.int x19_6), z7]) (S' := [.int 12, .int x19_6]) (w' := w) rfl ?_
          refine tm_i (p1 := 58) (p2 := 54) rfl (fun h5 => ?_) (fun h5 => ?_)
          · replace hs := hs.1 h5
            refine tm_go 2 (pc' := 62) (L' := [some (.ref 127), some (.int x19_1), some (.int x19_2), some (.int x19_3), some (.int x19_4), some (.int x19_5), some (.int x19_6), z7]) (S' := [.int 16, .int x19_6]) (w' := w) rfl ?_
            refine tm_i (p1 := 70) (p2 := 65) rfl (fun h6 => ?_) (fun h6 => ?_)
            · replace hs := hs.1 h6
              refine tm_go 1 (pc' := 72) (L' := [some (.ref 127), some (.int x19_1), some (.int x19_2), some (.int x19_3), some (.int x19_4), some (.int x19_5), some (.int x19_6), z7]) (S' := [.int x19_5]) (w' := w) rfl ?_
              exact tx_Mo_feed_72 hs (fun q0 q1 q2 hs => ih q0 q1 q2 hs hE) hE
            · replace hs := hs.2 h6
              refine tm_go 2 (pc' := 72) (L' := [some (.ref 127), some (.int x19_1), some (.int x19_2), some (.int x19_3), some (.int x19_4), some (.int x19_5), some (.int x19_6), z7]) (S' := [.int x19_4]) (w' := w) rfl ?_
              exact tx_Mo_feed_72 hs (fun q0 q1 q2 hs => ih q0 q1 q2 hs hE) hE
          · replace hs := hs.2 h5
            refine tm_go 2 (pc' := 72) (L' := [some (.ref 127), some (.int x19_1), some (.int x19_2), some (.int x19_3), some (.int x19_4), some (.int x19_5), some (.int x19_6), z7]) (S' := [.int x19_3]) (w' := w) rfl ?_
            exact tx_Mo_feed_72 hs (fun q0 q1 q2 hs => ih q0 q1 q2 hs hE) hE
        · replace hs := hs.2 h4
          refine tm_go 2 (pc' := 72) (L' := [some (.ref 127), some (.int x19_1), some (.int x19_2), some (.int x19_3), some (.int x19_4), some (.int x19_5), some (.int x19_6), z7]) (S' := [.int x19_2]) (w' := w) rfl ?_
          exact tx_Mo_feed_72 hs (fun q0 q1 q2 hs => ih q0 q1 q2 hs hE) hE
      · replace hs := hs.2 h3
        refine tm_go 2 (pc' := 72) (L' := [some (.ref 127), some (.int x19_1), some (.int x19_2), some (.int x19_3), some (.int x19_4), some (.int x19_5), some (.int x19_6), z7]) (S' := [.int x19_1]) (w' := w) rfl ?_
        exact tx_Mo_feed_72 hs (fun q0 q1 q2 hs => ih q0 q1 q2 hs hE) hE
set_option maxHeartbeats 4000000 in
set_option maxRecDepth 100000 in
theorem dm_Mo_feed {d : Nat} {w : MW} {a0 : Int32} {b0 : Int32} {c0 : Int32} {e0 : Int32} {f0 : Int32} {Q : Int32 → MW → Prop} (hs : p_Mo_feed w a0 b0 c0 e0 f0 Q) : Tc (d + 0) 36 [.ref 127, .int a0, .int b0, .int c0, .int e0, .int f0] w (RI Q) := by
  unfold p_Mo_feed at hs
  refine tm_go 5 (pc' := 10) (L' := [some (.ref 127), some (.int a0), some (.int b0), some (.int c0), some (.int e0), some (.int f0), none, none]) (S' := [.int 4020, .int ((w.1 127 1) + (20 : Int32))]) (w' := w) rfl ?_
  refine tm_i (p1 := 16) (p2 := 13) rfl (fun h1 => ?_) (fun h1 => ?_)
  · replace hs := hs.1 h1
    refine tm_go 2 (pc' := 19) (L' := [some (.ref 127), some (.int a0), some (.int b0), some (.int c0), some (.int e0), some (.int f0), some (.int 0), none]) (S' := []) (w' := w) rfl ?_
    refine tx_Mo_feed_19 FU _ _ _ hs (fun  z8_1 z8_2 z8_3 z8_4 z8_5 z8_6 z8_7 w8 hs => ?_)
    refine tm_go 2 (pc' := 117) (L' := [some (.ref 127), z8_1, z8_2, z8_3, z8_4, z8_5, z8_6, z8_7]) (S' := [.int (w8.1 127 1)]) (w' := w8) rfl ?_
    exact tm_r rfl ⟨_, rfl, hs⟩
  · replace hs := hs.2 h1
    refine tm_go 1 (pc' := 15) (L' := [some (.ref 127), some (.int a0), some (.int b0), some (.int c0), some (.int e0), some (.int f0), none, none]) (S' := [.int (-2)]) (w' := w) rfl ?_
    exact tm_r rfl ⟨_, rfl, hs⟩
set_option maxHeartbeats 4000000 in
set_option maxRecDepth 100000 in
theorem tx_Mo_held_2 {d : Nat} {x2_1 : Int32} {E : MW → Prop} {Q : Int32 → MW → Prop} (n : Nat) : ∀ (x2_2 : Int32)   (w : MW), q_Mo_held_2 x2_1 E Q n x2_2 w → (∀  (v0 : Option Value) (v1 : Option Value) (v2 : Option Value) (w : MW), E  w → Tm (d + 0) 71 43 [v0, v1, v2] [] w (RI Q)) → Tm (d + 0) 71 2 [some (.ref 127), some (.int x2_1), some (.int x2_2)] [] w (RI Q) := by
  induction n with
  | zero => intro x2_2  w hs; rw [q_Mo_held_2.eq_1] at hs; exact hs.elim
  | succ n ih =>
    intro x2_2  w hs hE
    rw [q_Mo_held_2.eq_2] at hs
    refine tm_go 3 (pc' := 7) (L' := [some (.ref 127), some (.int x2_1), some (.int x2_2)]) (S' := [.int (w.1 127 26), .int x2_2]) (w' := w) rfl ?_
    refine tm_i (p1 := 43) (p2 := 10) rfl (fun h1 => ?_) (fun h1 => ?_)
    · replace hs := hs.1 h1
      exact hE _ _ _ _ hs
    · replace hs := hs.2 h1
      refine tm_go 7 (pc' := 20) (L' := [some (.ref 127), some (.int x2_1), some (.int x2_2)]) (S' := [.int (((20 : Int32) * x2_2) + x2_1), .ref 187]) (w' := w) rfl ?_
      obtain ⟨b2, hs⟩ := hs
      refine tm_k (pc' := 21) (L' := [some (.ref 127), some (.int x2_1), some (.int x2_2)]) (S' := [.int (w.1 187 ((((20 : Int32) * x2_2) + x2_1).toInt.toNat))]) (w' := w) rfl b2 ?_
      refine tm_go 1 (pc' := 22) (L' := [some (.ref 127), some (.int x2_1), some (.int x2_2)]) (S' := [.int (-1), .int (w.1 187 ((((20 : Int32) * x2_2) + x2_1).toInt.toNat))]) (w' := w) rfl ?_
      refine tm_i (p1 := 37) (p2 := 25) rfl (fun h3 => ?_) (fun h3 => ?_)
      · replace hs := hs.1 h3
        refine tm_go 2 (pc' := 2) (L' := [some (.ref 127), some (.int x2_1), some (.int (x2_2 + (1 : Int32)))]) (S' := []) (w' := w) rfl ?_
        exact ih _ _ hs hE
      · replace hs := hs.2 h3
        refine tm_go 7 (pc' := 35) (L' := [some (.ref 127), some (.int x2_1), some (.int x2_2)]) (S' := [.int (((20 : Int32) * x2_2) + x2_1), .ref 187]) (w' := w) rfl ?_
        obtain ⟨b4, hs⟩ := hs
        refine tm_k (pc' := 36) (L' := [some (.ref 127), some (.int x2_1), some (.int x2_2)]) (S' := [.int (w.1 187 ((((20 : Int32) * x2_2) + x2_1).toInt.toNat))]) (w' := w) rfl b4 ?_
        exact tm_r rfl ⟨_, rfl, hs⟩
set_option maxHeartbeats 4000000 in
set_option maxRecDepth 100000 in
theorem dm_Mo_held {d : Nat} {w : MW} {a0 : Int32} {Q : Int32 → MW → Prop} (hs : p_Mo_held w a0 Q) : Tc (d + 0) 71 [.ref 127, .int a0] w (RI Q) := by
  unfold p_Mo_held at hs
  refine tm_go 2 (pc' := 2) (L' := [some (.ref 127), some (.int a0), some (.int 0)]) (S' := []) (w' := w) rfl ?_
  refine tx_Mo_held_2 FU _ _ hs (fun  z5_0 z5_1 z5_2 w5 hs => ?_)
  refine tm_go 1 (pc' := 44) (L' := [z5_0, z5_1, z5_2]) (S' := [.int (-1)]) (w' := w5) rfl ?_
  exact tm_r rfl ⟨_, rfl, hs⟩
set_option maxHeartbeats 4000000 in
set_option maxRecDepth 100000 in
theorem tx_Mo_close_40 {d : Nat} {x2_1 : Int32} {y40_2 : Int32} {ys40_0 : Int32} {z3 : Option Value} {w : MW} {A : Int32 → MW → Prop} {E : MW → Prop} {Q : MW → Prop} (hs : q_Mo_close_40 x2_1 y40_2 ys40_0 w A E Q) (hA : ∀ (x2_2 : Int32)  (z3 : Option Value) (w : MW), A x2_2 w → Tm (d + 1) 77 2 [some (.ref 127), some (.int x2_1), some (.int x2_2), z3] [] w (RV Q)) (hE : ∀  (v2 : Option Value) (v3 : Option Value) (w : MW), E  w → Tm (d + 1) 77 93 [some (.ref 127), some (.int x2_1), v2, v3] [] w (RV Q)) : Tm (d + 1) 77 40 [some (.ref 127), some (.int x2_1), some (.int y40_2), z3] [.int ys40_0] w (RV Q) := by
  unfold q_Mo_close_40 at hs
  refine tm_go 9 (pc' := 52) (L' := [some (.ref 127), some (.int x2_1), some (.int y40_2), some (.int ys40_0)]) (S' := [.int (-1), .int (((20 : Int32) * x2_1) + y40_2), .ref 187]) (w' := w) rfl ?_
  obtain ⟨b4, hs⟩ := hs
  refine tm_k (pc' := 53) (L' := [some (.ref 127), some (.int x2_1), some (.int y40_2), some (.int ys40_0)]) (S' := []) (w' := (sI w 187 ((((20 : Int32) * x2_1) + y40_2).toInt.toNat) (-1))) rfl b4 ?_
  refine tm_go 1 (pc' := 54) (L' := [some (.ref 127), some (.int x2_1), some (.int y40_2), some (.int ys40_0)]) (S' := [.int ys40_0]) (w' := (sI w 187 ((((20 : Int32) * x2_1) + y40_2).toInt.toNat) (-1))) rfl ?_
  refine tm_i (p1 := 87) (p2 := 57) rfl (fun h5 => ?_) (fun h5 => ?_)
  · replace hs := hs.1 h5
    refine tm_go 2 (pc' := 2) (L' := [some (.ref 127), some (.int x2_1), some (.int (y40_2 + (1 : Int32))), some (.int ys40_0)]) (S' := []) (w' := (sI w 187 ((((20 : Int32) * x2_1) + y40_2).toInt.toNat) (-1))) rfl ?_
    exact hA _ _ _ hs
  · replace hs := hs.2 h5
    refine tm_go 2 (pc' := 59) (L' := [some (.ref 127), some (.int x2_1), some (.int y40_2), some (.int ys40_0)]) (S' := [.int y40_2, .ref 127]) (w' := (sI w 187 ((((20 : Int32) * x2_1) + y40_2).toInt.toNat) (-1))) rfl ?_
    refine tm_c rfl (Nat.le_of_ble_eq_true rfl) (dm_Mo_held (d := d + 0) hs) (fun v w6 hq => ?_)
    obtain ⟨r6, rfl, hs⟩ := hq
    refine tm_go 1 (pc' := 63) (L' := [some (.ref 127), some (.int x2_1), some (.int y40_2), some (.int ys40_0)]) (S' := [.int (-1), .int r6]) (w' := w6) rfl ?_
    refine tm_i (p1 := 87) (p2 := 66) rfl (fun h7 => ?_) (fun h7 => ?_)
    · replace hs := hs.1 h7
      refine tm_go 2 (pc' := 2) (L' := [some (.ref 127), some (.int x2_1), some (.int (y40_2 + (1 : Int32))), some (.int ys40_0)]) (S' := []) (w' := w6) rfl ?_
      exact hA _ _ _ hs
    · replace hs := hs.2 h7
      refine tm_go 6 (pc' := 76) (L' := [some (.ref 127), some (.int x2_1), some (.int y40_2), some (.int ys40_0)]) (S' := [.int y40_2, .ref 163, .int y40_2, .ref 167]) (w' := w6) rfl ?_
      obtain ⟨b8, hs⟩ := hs
      refine tm_k (pc' := 77) (L' := [some (.ref 127), some (.int x2_1), some (.int y40_2), some (.int ys40_0)]) (S' := [.int (w6.1 163 y40_2.toInt.toNat), .int y40_2, .ref 167]) (w' := w6) rfl b8 ?_
      refine tm_go 1 (pc' := 78) (L' := [some (.ref 127), some (.int x2_1), some (.int y40_2), some (.int ys40_0)]) (S' := [.int 3, .int (w6.1 163 y40_2.toInt.toNat), .int y40_2, .ref 167]) (w' := w6) rfl ?_
      refine tm_i (p1 := 85) (p2 := 81) rfl (fun h9 => ?_) (fun h9 => ?_)
      · replace hs := hs.1 h9
        refine tm_go 1 (pc' := 86) (L' := [some (.ref 127), some (.int x2_1), some (.int y40_2), some (.int ys40_0)]) (S' := [.int 0, .int y40_2, .ref 167]) (w' := w6) rfl ?_
        obtain ⟨b10, hs⟩ := hs
        refine tm_k (pc' := 87) (L' := [some (.ref 127), some (.int x2_1), some (.int y40_2), some (.int ys40_0)]) (S' := []) (w' := (sI w6 167 y40_2.toInt.toNat 0)) rfl b10 ?_
        refine tm_go 2 (pc' := 2) (L' := [some (.ref 127), some (.int x2_1), some (.int (y40_2 + (1 : Int32))), some (.int ys40_0)]) (S' := []) (w' := (sI w6 167 y40_2.toInt.toNat 0)) rfl ?_
        exact hA _ _ _ hs
      · replace hs := hs.2 h9
        refine tm_go 2 (pc' := 86) (L' := [some (.ref 127), some (.int x2_1), some (.int y40_2), some (.int ys40_0)]) (S' := [.int 2, .int y40_2, .ref 167]) (w' := w6) rfl ?_
        obtain ⟨b11, hs⟩ := hs
        refine tm_k (pc' := 87) (L' := [some (.ref 127), some (.int x2_1), some (.int y40_2), some (.int ys40_0)]) (S' := []) (w' := (sI w6 167 y40_2.toInt.toNat 2)) rfl b11 ?_
        refine tm_go 2 (pc' := 2) (L' := [some (.ref 127), some (.int x2_1), some (.int (y40_2 + (1 : Int32))), some (.int ys40_0)]) (S' := []) (w' := (sI w6 167 y40_2.toInt.toNat 2)) rfl ?_
        exact hA _ _ _ hs
set_option maxHeartbeats 4000000 in
set_option maxRecDepth 100000 in
theorem tx_Mo_close_2 {d : Nat} {x2_1 : Int32} {E : MW → Prop} {Q : MW → Prop} (n : Nat) : ∀ (x2_2 : Int32)  (z3 : Option Value) (w : MW), q_Mo_close_2 x2_1 E Q n x2_2 w → (∀  (v2 : Option Value) (v3 : Option Value) (w : MW), E  w → Tm (d + 1) 77 93 [some (.ref 127), some (.int x2_1), v2, v3] [] w (RV Q)) → Tm (d + 1) 77 2 [some (.ref 127), some (.int x2_1), some (.int x2_2), z3] [] w (RV Q) := by
  induction n with
  | zero => intro x2_2 z3 w hs; rw [q_Mo_close_2.eq_1] at hs; exact hs.elim
  | succ n ih =>
    intro x2_2 z3 w hs hE
    rw [q_Mo_close_2.eq_2] at hs
    refine tm_go 3 (pc' := 7) (L' := [some (.ref 127), some (.int x2_1), some (.int x2_2), z3]) (S' := [.int (w.1 127 4), .int x2_2]) (w' := w) rfl ?_
    refine tm_i (p1 := 93) (p2 := 10) rfl (fun h1 => ?_) (fun h1 => ?_)
    · replace hs := hs.1 h1
      exact hE _ _ _ hs
    · replace hs := hs.2 h1
      refine tm_go 7 (pc' := 20) (L' := [some (.ref 127), some (.int x2_1), some (.int x2_2), z3]) (S' := [.int (((20 : Int32) * x2_1) + x2_2), .ref 187]) (w' := w) rfl ?_
      obtain ⟨b2, hs⟩ := hs
      refine tm_k (pc' := 21) (L' := [some (.ref 127), some (.int x2_1), some (.int x2_2), z3]) (S' := [.int (w.1 187 ((((20 : Int32) * x2_1) + x2_2).toInt.toNat))]) (w' := w) rfl b2 ?_
      refine tm_go 1 (pc' := 22) (L' := [some (.ref 127), some (.int x2_1), some (.int x2_2), z3]) (S' := [.int (-1), .int (w.1 187 ((((20 : Int32) * x2_1) + x2_2).toInt.toNat))]) (w' := w) rfl ?_
      refine tm_i (p1 := 39) (p2 := 25) rfl (fun h3 => ?_) (fun h3 => ?_)
      · replace hs := hs.1 h3
        refine tm_go 1 (pc' := 40) (L' := [some (.ref 127), some (.int x2_1), some (.int x2_2), z3]) (S' := [.int 0]) (w' := w) rfl ?_
        exact tx_Mo_close_40 hs (fun q0 q1 q2 hs => ih q0 q1 q2 hs hE) hE
      · replace hs := hs.2 h3
        refine tm_go 3 (pc' := 30) (L' := [some (.ref 127), some (.int x2_1), some (.int x2_2), z3]) (S' := [.int x2_2, .ref 163]) (w' := w) rfl ?_
        obtain ⟨b12, hs⟩ := hs
        refine tm_k (pc' := 31) (L' := [some (.ref 127), some (.int x2_1), some (.int x2_2), z3]) (S' := [.int (w.1 163 x2_2.toInt.toNat)]) (w' := w) rfl b12 ?_
        refine tm_go 1 (pc' := 32) (L' := [some (.ref 127), some (.int x2_1), some (.int x2_2), z3]) (S' := [.int 2, .int (w.1 163 x2_2.toInt.toNat)]) (w' := w) rfl ?_
        refine tm_i (p1 := 39) (p2 := 35) rfl (fun h13 => ?_) (fun h13 => ?_)
        · replace hs := hs.1 h13
          refine tm_go 1 (pc' := 40) (L' := [some (.ref 127), some (.int x2_1), some (.int x2_2), z3]) (S' := [.int 0]) (w' := w) rfl ?_
          exact tx_Mo_close_40 hs (fun q0 q1 q2 hs => ih q0 q1 q2 hs hE) hE
        · replace hs := hs.2 h13
          refine tm_go 2 (pc' := 40) (L' := [some (.ref 127), some (.int x2_1), some (.int x2_2), z3]) (S' := [.int 1]) (w' := w) rfl ?_
          exact tx_Mo_close_40 hs (fun q0 q1 q2 hs => ih q0 q1 q2 hs hE) hE
set_option maxHeartbeats 4000000 in
set_option maxRecDepth 100000 in
theorem tx_Mo_close_177 {d : Nat} {x177_2 : Int32} {E : MW → Prop} {Q : MW → Prop} (n : Nat) : ∀ (x177_3 : Int32)  (z1 : Option Value) (w : MW), q_Mo_close_177 x177_2 E Q n x177_3 w → (∀  (v1 : Option Value) (v3 : Option Value) (w : MW), E  w → Tm (d + 1) 77 213 [some (.ref 127), v1, some (.int x177_2), v3] [] w (RV Q)) → Tm (d + 1) 77 177 [some (.ref 127), z1, some (.int x177_2), some (.int x177_3)] [] w (RV Q) := by
  induction n with
  | zero => intro x177_3 z1 w hs; rw [q_Mo_close_177.eq_1] at hs; exact hs.elim
  | succ n ih =>
    intro x177_3 z1 w hs hE
    rw [q_Mo_close_177.eq_2] at hs
    refine tm_go 2 (pc' := 180) (L' := [some (.ref 127), z1, some (.int x177_2), some (.int x177_3)]) (S' := [.int 24, .int x177_3]) (w' := w) rfl ?_
    refine tm_i (p1 := 213) (p2 := 183) rfl (fun h26 => ?_) (fun h26 => ?_)
    · replace hs := hs.1 h26
      exact hE _ _ _ hs
    · replace hs := hs.2 h26
      refine tm_go 16 (pc' := 205) (L' := [some (.ref 127), z1, some (.int x177_2), some (.int x177_3)]) (S' := [.int (((24 : Int32) * (x177_2 + (1 : Int32))) + x177_3), .ref 186, .int (((24 : Int32) * x177_2) + x177_3), .ref 186]) (w' := w) rfl ?_
      obtain ⟨b27, hs⟩ := hs
      refine tm_k (pc' := 206) (L' := [some (.ref 127), z1, some (.int x177_2), some (.int x177_3)]) (S' := [.int (w.1 186 ((((24 : Int32) * (x177_2 + (1 : Int32))) + x177_3).toInt.toNat)), .int (((24 : Int32) * x177_2) + x177_3), .ref 186]) (w' := w) rfl b27 ?_
      obtain ⟨b28, hs⟩ := hs
      refine tm_k (pc' := 207) (L' := [some (.ref 127), z1, some (.int x177_2), some (.int x177_3)]) (S' := []) (w' := (sI w 186 ((((24 : Int32) * x177_2) + x177_3).toInt.toNat) (w.1 186 ((((24 : Int32) * (x177_2 + (1 : Int32))) + x177_3).toInt.toNat)))) rfl b28 ?_
      refine tm_go 2 (pc' := 177) (L' := [some (.ref 127), z1, some (.int x177_2), some (.int (x177_3 + (1 : Int32)))]) (S' := []) (w' := (sI w 186 ((((24 : Int32) * x177_2) + x177_3).toInt.toNat) (w.1 186 ((((24 : Int32) * (x177_2 + (1 : Int32))) + x177_3).toInt.toNat)))) rfl ?_
      exact ih _ _ _ hs hE
set_option maxHeartbeats 4000000 in
set_option maxRecDepth 100000 in
theorem tx_Mo_close_215 {d : Nat} {x215_2 : Int32} {E : MW → Prop} {Q : MW → Prop} (n : Nat) : ∀ (x215_3 : Int32)  (z1 : Option Value) (w : MW), q_Mo_close_215 x215_2 E Q n x215_3 w → (∀  (v1 : Option Value) (v3 : Option Value) (w : MW), E  w → Tm (d + 1) 77 251 [some (.ref 127), v1, some (.int x215_2), v3] [] w (RV Q)) → Tm (d + 1) 77 215 [some (.ref 127), z1, some (.int x215_2), some (.int x215_3)] [] w (RV Q) := by
  induction n with
  | zero => intro x215_3 z1 w hs; rw [q_Mo_close_215.eq_1] at hs; exact hs.elim
  | succ n ih =>
    intro x215_3 z1 w hs hE
    rw [q_Mo_close_215.eq_2] at hs
    refine tm_go 2 (pc' := 218) (L' := [some (.ref 127), z1, some (.int x215_2), some (.int x215_3)]) (S' := [.int 20, .int x215_3]) (w' := w) rfl ?_
    refine tm_i (p1 := 251) (p2 := 221) rfl (fun h30 => ?_) (fun h30 => ?_)
    · replace hs := hs.1 h30
      exact hE _ _ _ hs
    · replace hs := hs.2 h30
      refine tm_go 16 (pc' := 243) (L' := [some (.ref 127), z1, some (.int x215_2), some (.int x215_3)]) (S' := [.int (((20 : Int32) * (x215_2 + (1 : Int32))) + x215_3), .ref 187, .int (((20 : Int32) * x215_2) + x215_3), .ref 187]) (w' := w) rfl ?_
      obtain ⟨b31, hs⟩ := hs
      refine tm_k (pc' := 244) (L' := [some (.ref 127), z1, some (.int x215_2), some (.int x215_3)]) (S' := [.int (w.1 187 ((((20 : Int32) * (x215_2 + (1 : Int32))) + x215_3).toInt.toNat)), .int (((20 : Int32) * x215_2) + x215_3), .ref 187]) (w' := w) rfl b31 ?_
      obtain ⟨b32, hs⟩ := hs
      refine tm_k (pc' := 245) (L' := [some (.ref 127), z1, some (.int x215_2), some (.int x215_3)]) (S' := []) (w' := (sI w 187 ((((20 : Int32) * x215_2) + x215_3).toInt.toNat) (w.1 187 ((((20 : Int32) * (x215_2 + (1 : Int32))) + x215_3).toInt.toNat)))) rfl b32 ?_
      refine tm_go 2 (pc' := 215) (L' := [some (.ref 127), z1, some (.int x215_2), some (.int (x215_3 + (1 : Int32)))]) (S' := []) (w' := (sI w 187 ((((20 : Int32) * x215_2) + x215_3).toInt.toNat) (w.1 187 ((((20 : Int32) * (x215_2 + (1 : Int32))) + x215_3).toInt.toNat)))) rfl ?_
      exact ih _ _ _ hs hE
set_option maxHeartbeats 4000000 in
set_option maxRecDepth 100000 in
theorem tx_Mo_close_95 {d : Nat} {E : MW → Prop} {Q : MW → Prop} (n : Nat) : ∀ (x95_2 : Int32)  (z1 : Option Value) (z3 : Option Value) (w : MW), q_Mo_close_95  E Q n x95_2 w → (∀  (v1 : Option Value) (v2 : Option Value) (v3 : Option Value) (w : MW), E  w → Tm (d + 1) 77 257 [some (.ref 127), v1, v2, v3] [] w (RV Q)) → Tm (d + 1) 77 95 [some (.ref 127), z1, some (.int x95_2), z3] [] w (RV Q) := by
  induction n with
  | zero => intro x95_2 z1 z3 w hs; rw [q_Mo_close_95.eq_1] at hs; exact hs.elim
  | succ n ih =>
    intro x95_2 z1 z3 w hs hE
    rw [q_Mo_close_95.eq_2] at hs
    refine tm_go 5 (pc' := 102) (L' := [some (.ref 127), z1, some (.int x95_2), z3]) (S' := [.int (w.1 127 26), .int (x95_2 + (1 : Int32))]) (w' := w) rfl ?_
    refine tm_i (p1 := 257) (p2 := 105) rfl (fun h15 => ?_) (fun h15 => ?_)
    · replace hs := hs.1 h15
      exact hE _ _ _ _ hs
    · replace hs := hs.2 h15
      refine tm_go 8 (pc' := 117) (L' := [some (.ref 127), z1, some (.int x95_2), z3]) (S' := [.int (x95_2 + (1 : Int32)), .ref 181, .int x95_2, .ref 181]) (w' := w) rfl ?_
      obtain ⟨b16, hs⟩ := hs
      refine tm_k (pc' := 118) (L' := [some (.ref 127), z1, some (.int x95_2), z3]) (S' := [.int (w.1 181 ((x95_2 + (1 : Int32)).toInt.toNat)), .int x95_2, .ref 181]) (w' := w) rfl b16 ?_
      obtain ⟨b17, hs⟩ := hs
      refine tm_k (pc' := 119) (L' := [some (.ref 127), z1, some (.int x95_2), z3]) (S' := []) (w' := (sI w 181 x95_2.toInt.toNat (w.1 181 ((x95_2 + (1 : Int32)).toInt.toNat)))) rfl b17 ?_
      refine tm_go 8 (pc' := 131) (L' := [some (.ref 127), z1, some (.int x95_2), z3]) (S' := [.int (x95_2 + (1 : Int32)), .ref 182, .int x95_2, .ref 182]) (w' := (sI w 181 x95_2.toInt.toNat (w.1 181 ((x95_2 + (1 : Int32)).toInt.toNat)))) rfl ?_
      obtain ⟨b18, hs⟩ := hs
      refine tm_k (pc' := 132) (L' := [some (.ref 127), z1, some (.int x95_2), z3]) (S' := [.int (w.1 182 ((x95_2 + (1 : Int32)).toInt.toNat)), .int x95_2, .ref 182]) (w' := (sI w 181 x95_2.toInt.toNat (w.1 181 ((x95_2 + (1 : Int32)).toInt.toNat)))) rfl b18 ?_
      obtain ⟨b19, hs⟩ := hs
      refine tm_k (pc' := 133) (L' := [some (.ref 127), z1, some (.int x95_2), z3]) (S' := []) (w' := (sI (sI w 181 x95_2.toInt.toNat (w.1 181 ((x95_2 + (1 : Int32)).toInt.toNat))) 182 x95_2.toInt.toNat (w.1 182 ((x95_2 + (1 : Int32)).toInt.toNat)))) rfl b19 ?_
      refine tm_go 8 (pc' := 145) (L' := [some (.ref 127), z1, some (.int x95_2), z3]) (S' := [.int (x95_2 + (1 : Int32)), .ref 183, .int x95_2, .ref 183]) (w' := (sI (sI w 181 x95_2.toInt.toNat (w.1 181 ((x95_2 + (1 : Int32)).toInt.toNat))) 182 x95_2.toInt.toNat (w.1 182 ((x95_2 + (1 : Int32)).toInt.toNat)))) rfl ?_
      obtain ⟨b20, hs⟩ := hs
      refine tm_k (pc' := 146) (L' := [some (.ref 127), z1, some (.int x95_2), z3]) (S' := [.int (w.1 183 ((x95_2 + (1 : Int32)).toInt.toNat)), .int x95_2, .ref 183]) (w' := (sI (sI w 181 x95_2.toInt.toNat (w.1 181 ((x95_2 + (1 : Int32)).toInt.toNat))) 182 x95_2.toInt.toNat (w.1 182 ((x95_2 + (1 : Int32)).toInt.toNat)))) rfl b20 ?_
      obtain ⟨b21, hs⟩ := hs
      refine tm_k (pc' := 147) (L' := [some (.ref 127), z1, some (.int x95_2), z3]) (S' := []) (w' := (sI (sI (sI w 181 x95_2.toInt.toNat (w.1 181 ((x95_2 + (1 : Int32)).toInt.toNat))) 182 x95_2.toInt.toNat (w.1 182 ((x95_2 + (1 : Int32)).toInt.toNat))) 183 x95_2.toInt.toNat (w.1 183 ((x95_2 + (1 : Int32)).toInt.toNat)))) rfl b21 ?_
      refine tm_go 8 (pc' := 159) (L' := [some (.ref 127), z1, some (.int x95_2), z3]) (S' := [.int (x95_2 + (1 : Int32)), .ref 184, .int x95_2, .ref 184]) (w' := (sI (sI (sI w 181 x95_2.toInt.toNat (w.1 181 ((x95_2 + (1 : Int32)).toInt.toNat))) 182 x95_2.toInt.toNat (w.1 182 ((x95_2 + (1 : Int32)).toInt.toNat))) 183 x95_2.toInt.toNat (w.1 183 ((x95_2 + (1 : Int32)).toInt.toNat)))) rfl ?_
      obtain ⟨b22, hs⟩ := hs
      refine tm_k (pc' := 160) (L' := [some (.ref 127), z1, some (.int x95_2), z3]) (S' := [.int (w.1 184 ((x95_2 + (1 : Int32)).toInt.toNat)), .int x95_2, .ref 184]) (w' := (sI (sI (sI w 181 x95_2.toInt.toNat (w.1 181 ((x95_2 + (1 : Int32)).toInt.toNat))) 182 x95_2.toInt.toNat (w.1 182 ((x95_2 + (1 : Int32)).toInt.toNat))) 183 x95_2.toInt.toNat (w.1 183 ((x95_2 + (1 : Int32)).toInt.toNat)))) rfl b22 ?_
      obtain ⟨b23, hs⟩ := hs
      refine tm_k (pc' := 161) (L' := [some (.ref 127), z1, some (.int x95_2), z3]) (S' := []) (w' := (sI (sI (sI (sI w 181 x95_2.toInt.toNat (w.1 181 ((x95_2 + (1 : Int32)).toInt.toNat))) 182 x95_2.toInt.toNat (w.1 182 ((x95_2 + (1 : Int32)).toInt.toNat))) 183 x95_2.toInt.toNat (w.1 183 ((x95_2 + (1 : Int32)).toInt.toNat))) 184 x95_2.toInt.toNat (w.1 184 ((x95_2 + (1 : Int32)).toInt.toNat)))) rfl b23 ?_
      refine tm_go 8 (pc' := 173) (L' := [some (.ref 127), z1, some (.int x95_2), z3]) (S' := [.int (x95_2 + (1 : Int32)), .ref 185, .int x95_2, .ref 185]) (w' := (sI (sI (sI (sI w 181 x95_2.toInt.toNat (w.1 181 ((x95_2 + (1 : Int32)).toInt.toNat))) 182 x95_2.toInt.toNat (w.1 182 ((x95_2 + (1 : Int32)).toInt.toNat))) 183 x95_2.toInt.toNat (w.1 183 ((x95_2 + (1 : Int32)).toInt.toNat))) 184 x95_2.toInt.toNat (w.1 184 ((x95_2 + (1 : Int32)).toInt.toNat)))) rfl ?_
      obtain ⟨b24, hs⟩ := hs
      refine tm_k (pc' := 174) (L' := [some (.ref 127), z1, some (.int x95_2), z3]) (S' := [.int (w.1 185 ((x95_2 + (1 : Int32)).toInt.toNat)), .int x95_2, .ref 185]) (w' := (sI (sI (sI (sI w 181 x95_2.toInt.toNat (w.1 181 ((x95_2 + (1 : Int32)).toInt.toNat))) 182 x95_2.toInt.toNat (w.1 182 ((x95_2 + (1 : Int32)).toInt.toNat))) 183 x95_2.toInt.toNat (w.1 183 ((x95_2 + (1 : Int32)).toInt.toNat))) 184 x95_2.toInt.toNat (w.1 184 ((x95_2 + (1 : Int32)).toInt.toNat)))) rfl b24 ?_
      obtain ⟨b25, hs⟩ := hs
      refine tm_k (pc' := 175) (L' := [some (.ref 127), z1, some (.int x95_2), z3]) (S' := []) (w' := (sI (sI (sI (sI (sI w 181 x95_2.toInt.toNat (w.1 181 ((x95_2 + (1 : Int32)).toInt.toNat))) 182 x95_2.toInt.toNat (w.1 182 ((x95_2 + (1 : Int32)).toInt.toNat))) 183 x95_2.toInt.toNat (w.1 183 ((x95_2 + (1 : Int32)).toInt.toNat))) 184 x95_2.toInt.toNat (w.1 184 ((x95_2 + (1 : Int32)).toInt.toNat))) 185 x95_2.toInt.toNat (w.1 185 ((x95_2 + (1 : Int32)).toInt.toNat)))) rfl b25 ?_
      refine tm_go 2 (pc' := 177) (L' := [some (.ref 127), z1, some (.int x95_2), some (.int 0)]) (S' := []) (w' := (sI (sI (sI (sI (sI w 181 x95_2.toInt.toNat (w.1 181 ((x95_2 + (1 : Int32)).toInt.toNat))) 182 x95_2.toInt.toNat (w.1 182 ((x95_2 + (1 : Int32)).toInt.toNat))) 183 x95_2.toInt.toNat (w.1 183 ((x95_2 + (1 : Int32)).toInt.toNat))) 184 x95_2.toInt.toNat (w.1 184 ((x95_2 + (1 : Int32)).toInt.toNat))) 185 x95_2.toInt.toNat (w.1 185 ((x95_2 + (1 : Int32)).toInt.toNat)))) rfl ?_
      refine tx_Mo_close_177 FU _ _ _ hs (fun  z29_1 z29_3 w29 hs => ?_)
      refine tm_go 2 (pc' := 215) (L' := [some (.ref 127), z29_1, some (.int x95_2), some (.int 0)]) (S' := []) (w' := w29) rfl ?_
      refine tx_Mo_close_215 FU _ _ _ hs (fun  z33_1 z33_3 w33 hs => ?_)
      refine tm_go 2 (pc' := 95) (L' := [some (.ref 127), (ksl z33_1), some (.int (x95_2 + (1 : Int32))), z33_3]) (S' := []) (w' := w33) rfl ?_
      exact ih _ _ _ _ hs hE
set_option maxHeartbeats 4000000 in
set_option maxRecDepth 100000 in
theorem dm_Mo_close {d : Nat} {w : MW} {a0 : Int32} {Q : MW → Prop} (hs : p_Mo_close w a0 Q) : Tc (d + 1) 77 [.ref 127, .int a0] w (RV Q) := by
  unfold p_Mo_close at hs
  refine tm_go 2 (pc' := 2) (L' := [some (.ref 127), some (.int a0), some (.int 0), none]) (S' := []) (w' := w) rfl ?_
  refine tx_Mo_close_2 FU _ _ _ hs (fun  z14_2 z14_3 w14 hs => ?_)
  refine tm_go 2 (pc' := 95) (L' := [some (.ref 127), some (.int a0), some (.int a0), z14_3]) (S' := []) (w' := w14) rfl ?_
  refine tx_Mo_close_95 FU _ _ _ _ hs (fun  z34_1 z34_2 z34_3 w34 hs => ?_)
  refine tm_go 6 (pc' := 267) (L' := [some (.ref 127), z34_1, z34_2, z34_3]) (S' := []) (w' := (sI w34 127 26 ((w34.1 127 26) - (1 : Int32)))) rfl ?_
  exact tm_r rfl ⟨rfl, hs⟩
