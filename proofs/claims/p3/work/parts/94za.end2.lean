/-! end on the machine: the read of a program by a contract of its own -/
def q2_Bh_end_58 (d : Nat) (y58_1 : Int32) (y58_3 : Int32) (ys58_0 : Int32) (w : MW) (Q : Int32 → MW → Prop) : Prop := ((y58_3.toInt = 0 → (Q (-1) (sI w 1 2 ys58_0))) ∧ (¬ (y58_3.toInt = 0) → (p_Tp_isText (sI w 1 2 ys58_0)  (fun r4 w4 => ((¬ r4.toInt = 0 → ((¬ y58_1.toInt = 0 → ((¬ y58_1.toInt = 1 → ((w4.2.2 0 10 = some 108) ∧ (Tc (d + 0 + 804) 159 [.ref 87, .ref 1, .ref 108] w4 (RI fun r9 w9 => (q_Bh_end_129 y58_1 r9 w9 Q))))) ∧ (¬ (¬ y58_1.toInt = 1) → ((w4.2.2 0 9 = some 99) ∧ (p_Ro_reads99_1 w4  (fun r17 w17 => (q_Bh_end_129 y58_1 r17 w17 Q))))))) ∧ (¬ (¬ y58_1.toInt = 0) → ((w4.2.2 0 8 = some 91) ∧ (p_Pl_reads91_1 w4  (fun r19 w19 => (q_Bh_end_129 y58_1 r19 w19 Q))))))) ∧ (¬ (¬ r4.toInt = 0) → (Q (-1) w4)))))))
set_option maxHeartbeats 4000000 in
set_option maxRecDepth 100000 in
theorem tx2_Bh_end_58 {d : Nat} {y58_1 : Int32} {y58_3 : Int32} {ys58_0 : Int32} {z2 : Option Value} {z4 : Option Value} {w : MW} {Q : Int32 → MW → Prop} (hs : q2_Bh_end_58 d y58_1 y58_3 ys58_0 w Q) : Tm (d + 805) 1 58 [some (.ref 0), some (.int y58_1), z2, some (.int y58_3), z4] [.int ys58_0, .ref 1] w (RI Q) := by
  unfold q2_Bh_end_58 at hs
  refine tm_go 2 (pc' := 62) (L' := [some (.ref 0), some (.int y58_1), z2, some (.int y58_3), z4]) (S' := [.int y58_3]) (w' := (sI w 1 2 ys58_0)) rfl ?_
  refine tm_i (p1 := 75) (p2 := 65) rfl (fun h3 => ?_) (fun h3 => ?_)
  · replace hs := hs.1 h3
    refine tm_go 1 (pc' := 76) (L' := [some (.ref 0), some (.int y58_1), z2, some (.int y58_3), z4]) (S' := [.int (-1)]) (w' := (sI w 1 2 ys58_0)) rfl ?_
    exact tm_r rfl ⟨_, rfl, hs⟩
  · replace hs := hs.2 h3
    refine tm_go 2 (pc' := 69) (L' := [some (.ref 0), some (.int y58_1), z2, some (.int y58_3), z4]) (S' := [.ref 1]) (w' := (sI w 1 2 ys58_0)) rfl ?_
    refine tm_c rfl (Nat.le_of_ble_eq_true rfl) (dm_Tp_isText (d := d + 803) hs) (fun v w4 hq => ?_)
    obtain ⟨r4, rfl, hz4, hs⟩ := hq
    refine tm_i (p1 := 77) (p2 := 75) rfl (fun h5 => ?_) (fun h5 => ?_)
    · replace hs := hs.1 h5
      refine tm_go 1 (pc' := 78) (L' := [some (.ref 0), some (.int y58_1), z2, some (.int y58_3), z4]) (S' := [.int y58_1]) (w' := w4) rfl ?_
      refine tm_i (p1 := 95) (p2 := 81) rfl (fun h6 => ?_) (fun h6 => ?_)
      · replace hs := hs.1 h6
        refine tm_go 2 (pc' := 97) (L' := [some (.ref 0), some (.int y58_1), z2, some (.int y58_3), z4]) (S' := [.int 1, .int y58_1]) (w' := w4) rfl ?_
        refine tm_i (p1 := 114) (p2 := 100) rfl (fun h7 => ?_) (fun h7 => ?_)
        · replace hs := hs.1 h7
          refine tm_go 5 (pc' := 123) (L' := [some (.ref 0), some (.int y58_1), z2, some (.int y58_3), z4]) (S' := [.ref 0, .ref 1, .ref 87]) (w' := w4) rfl ?_
          obtain ⟨b8, hs⟩ := hs
          refine tm_g (pc' := 126) (k := 0) (j := 10) rfl b8 ?_
          refine tm_c rfl (Nat.le_of_ble_eq_true rfl) hs (fun v w9 hq => ?_)
          obtain ⟨r9, rfl, hs⟩ := hq
          exact tx_Bh_end_129 hs 
        · replace hs := hs.2 h7
          refine tm_go 1 (pc' := 101) (L' := [some (.ref 0), some (.int y58_1), z2, some (.int y58_3), z4]) (S' := [.ref 0]) (w' := w4) rfl ?_
          obtain ⟨b16, hs⟩ := hs
          refine tm_g (pc' := 104) (k := 0) (j := 9) rfl b16 ?_
          refine tm_go 2 (pc' := 108) (L' := [some (.ref 0), some (.int y58_1), z2, some (.int y58_3), z4]) (S' := [.ref 1, .ref 99]) (w' := w4) rfl ?_
          refine tm_c rfl (Nat.le_of_ble_eq_true rfl) (dm_Ro_reads99_1 (d := d + 400) hs) (fun v w17 hq => ?_)
          obtain ⟨r17, rfl, hs⟩ := hq
          refine tm_go 1 (pc' := 129) (L' := [some (.ref 0), some (.int y58_1), z2, some (.int y58_3), z4]) (S' := [.int r17]) (w' := w17) rfl ?_
          exact tx_Bh_end_129 hs 
      · replace hs := hs.2 h6
        refine tm_go 1 (pc' := 82) (L' := [some (.ref 0), some (.int y58_1), z2, some (.int y58_3), z4]) (S' := [.ref 0]) (w' := w4) rfl ?_
        obtain ⟨b18, hs⟩ := hs
        refine tm_g (pc' := 85) (k := 0) (j := 8) rfl b18 ?_
        refine tm_go 2 (pc' := 89) (L' := [some (.ref 0), some (.int y58_1), z2, some (.int y58_3), z4]) (S' := [.ref 1, .ref 91]) (w' := w4) rfl ?_
        refine tm_c rfl (Nat.le_of_ble_eq_true rfl) (dm_Pl_reads91_1 (d := d + 799) hs) (fun v w19 hq => ?_)
        obtain ⟨r19, rfl, hs⟩ := hq
        refine tm_go 1 (pc' := 129) (L' := [some (.ref 0), some (.int y58_1), z2, some (.int y58_3), z4]) (S' := [.int r19]) (w' := w19) rfl ?_
        exact tx_Bh_end_129 hs 
    · replace hs := hs.2 h5
      refine tm_go 1 (pc' := 76) (L' := [some (.ref 0), some (.int y58_1), z2, some (.int y58_3), z4]) (S' := [.int (-1)]) (w' := w4) rfl ?_
      exact tm_r rfl ⟨_, rfl, hs⟩
def q2_Bh_end_36 (d : Nat) (y36_1 : Int32) (y36_2 : Int32) (ys36_0 : Int32) (w : MW) (Q : Int32 → MW → Prop) : Prop := ((ys36_0.toInt = 0 → (q2_Bh_end_58 d y36_1 ys36_0 0 (sI w 1 1 0) Q)) ∧ (¬ (ys36_0.toInt = 0) → (q2_Bh_end_58 d y36_1 ys36_0 y36_2 (sI w 1 1 0) Q)))
set_option maxHeartbeats 4000000 in
set_option maxRecDepth 100000 in
theorem tx2_Bh_end_36 {d : Nat} {y36_1 : Int32} {y36_2 : Int32} {ys36_0 : Int32} {z3 : Option Value} {z4 : Option Value} {w : MW} {Q : Int32 → MW → Prop} (hs : q2_Bh_end_36 d y36_1 y36_2 ys36_0 w Q) : Tm (d + 805) 1 36 [some (.ref 0), some (.int y36_1), some (.int y36_2), z3, z4] [.int ys36_0] w (RI Q) := by
  unfold q2_Bh_end_36 at hs
  refine tm_go 8 (pc' := 50) (L' := [some (.ref 0), some (.int y36_1), some (.int y36_2), some (.int ys36_0), z4]) (S' := [.int ys36_0, .ref 1]) (w' := (sI w 1 1 0)) rfl ?_
  refine tm_i (p1 := 57) (p2 := 53) rfl (fun h2 => ?_) (fun h2 => ?_)
  · replace hs := hs.1 h2
    refine tm_go 1 (pc' := 58) (L' := [some (.ref 0), some (.int y36_1), some (.int y36_2), some (.int ys36_0), z4]) (S' := [.int 0, .ref 1]) (w' := (sI w 1 1 0)) rfl ?_
    exact tx2_Bh_end_58 hs 
  · replace hs := hs.2 h2
    refine tm_go 2 (pc' := 58) (L' := [some (.ref 0), some (.int y36_1), some (.int y36_2), some (.int ys36_0), z4]) (S' := [.int y36_2, .ref 1]) (w' := (sI w 1 1 0)) rfl ?_
    exact tx2_Bh_end_58 hs 
def p2_Bh_end (d : Nat) (w : MW) (a0 : Int32) (b0 : Int32) (Q : Int32 → MW → Prop) : Prop := ((a0.toInt < 0 → (q2_Bh_end_36 d a0 b0 0 w Q)) ∧ (¬ (a0.toInt < 0) → ((2 < a0.toInt → (q2_Bh_end_36 d a0 b0 0 w Q)) ∧ (¬ (2 < a0.toInt) → ((b0.toInt < 0 → (q2_Bh_end_36 d a0 b0 0 w Q)) ∧ (¬ (b0.toInt < 0) → ((4000 < b0.toInt → (q2_Bh_end_36 d a0 b0 0 w Q)) ∧ (¬ (4000 < b0.toInt) → (((w.1 1 1).toInt < b0.toInt → (q2_Bh_end_36 d a0 b0 0 w Q)) ∧ (¬ ((w.1 1 1).toInt < b0.toInt) → (q2_Bh_end_36 d a0 b0 1 w Q)))))))))))
set_option maxHeartbeats 4000000 in
set_option maxRecDepth 100000 in
theorem dm2_Bh_end {d : Nat} {w : MW} {a0 : Int32} {b0 : Int32} {Q : Int32 → MW → Prop} (hs : p2_Bh_end d w a0 b0 Q) : Tc (d + 805) 1 [.ref 0, .int a0, .int b0] w (RI Q) := by
  unfold p2_Bh_end at hs
  refine tm_go 1 (pc' := 1) (L' := [some (.ref 0), some (.int a0), some (.int b0), none, none]) (S' := [.int a0]) (w' := w) rfl ?_
  refine tm_i (p1 := 35) (p2 := 4) rfl (fun h1 => ?_) (fun h1 => ?_)
  · replace hs := hs.1 h1
    refine tm_go 1 (pc' := 36) (L' := [some (.ref 0), some (.int a0), some (.int b0), none, none]) (S' := [.int 0]) (w' := w) rfl ?_
    exact tx2_Bh_end_36 hs 
  · replace hs := hs.2 h1
    refine tm_go 2 (pc' := 6) (L' := [some (.ref 0), some (.int a0), some (.int b0), none, none]) (S' := [.int 2, .int a0]) (w' := w) rfl ?_
    refine tm_i (p1 := 35) (p2 := 9) rfl (fun h20 => ?_) (fun h20 => ?_)
    · replace hs := hs.1 h20
      refine tm_go 1 (pc' := 36) (L' := [some (.ref 0), some (.int a0), some (.int b0), none, none]) (S' := [.int 0]) (w' := w) rfl ?_
      exact tx2_Bh_end_36 hs 
    · replace hs := hs.2 h20
      refine tm_go 1 (pc' := 10) (L' := [some (.ref 0), some (.int a0), some (.int b0), none, none]) (S' := [.int b0]) (w' := w) rfl ?_
      refine tm_i (p1 := 35) (p2 := 13) rfl (fun h21 => ?_) (fun h21 => ?_)
      · replace hs := hs.1 h21
        refine tm_go 1 (pc' := 36) (L' := [some (.ref 0), some (.int a0), some (.int b0), none, none]) (S' := [.int 0]) (w' := w) rfl ?_
        exact tx2_Bh_end_36 hs 
      · replace hs := hs.2 h21
        refine tm_go 2 (pc' := 17) (L' := [some (.ref 0), some (.int a0), some (.int b0), none, none]) (S' := [.int 4000, .int b0]) (w' := w) rfl ?_
        refine tm_i (p1 := 35) (p2 := 20) rfl (fun h22 => ?_) (fun h22 => ?_)
        · replace hs := hs.1 h22
          refine tm_go 1 (pc' := 36) (L' := [some (.ref 0), some (.int a0), some (.int b0), none, none]) (S' := [.int 0]) (w' := w) rfl ?_
          exact tx2_Bh_end_36 hs 
        · replace hs := hs.2 h22
          refine tm_go 4 (pc' := 28) (L' := [some (.ref 0), some (.int a0), some (.int b0), none, none]) (S' := [.int (w.1 1 1), .int b0]) (w' := w) rfl ?_
          refine tm_i (p1 := 35) (p2 := 31) rfl (fun h23 => ?_) (fun h23 => ?_)
          · replace hs := hs.1 h23
            refine tm_go 1 (pc' := 36) (L' := [some (.ref 0), some (.int a0), some (.int b0), none, none]) (S' := [.int 0]) (w' := w) rfl ?_
            exact tx2_Bh_end_36 hs 
          · replace hs := hs.2 h23
            refine tm_go 2 (pc' := 36) (L' := [some (.ref 0), some (.int a0), some (.int b0), none, none]) (S' := [.int 1]) (w' := w) rfl ?_
            exact tx2_Bh_end_36 hs 
def q2_Mo_end_33 (d : Nat) (y33_1 : Int32) (y33_2 : Int32) (ys33_0 : Int32) (w : MW) (Q : Int32 → MW → Prop) : Prop := (q_Mo_end_37 y33_1 y33_2 (fun (e37_3_6 : Int32) (w6 : MW) => ((¬ e37_3_6.toInt = 0 → ((¬ y33_1.toInt = 0 → (q_Mo_end_97 y33_1 y33_2 (fun (w15 : MW) => ((¬ y33_1.toInt = 1 → (Tc (d + 0 + 807) 335 [.ref 129] w15 (RI fun r17 w17 => (q_Mo_end_169 y33_1 r17 w17 Q)))) ∧ (¬ (¬ y33_1.toInt = 1) → (p_Mr_read w15  (fun r28 w28 => (q_Mo_end_169 y33_1 r28 w28 Q)))))) Q FU 0 (sI w6 127 1 0))) ∧ (¬ (¬ y33_1.toInt = 0) → (p_Mo_readPlant (sI (sI w6 127 1 0) 127 22 y33_2)  (fun r29 w29 => (Q r29 w29)))))) ∧ (¬ (¬ e37_3_6.toInt = 0) → (Q (-1) (sI w6 127 1 0))))) Q FU ys33_0 0 w)
set_option maxHeartbeats 4000000 in
set_option maxRecDepth 100000 in
theorem tx2_Mo_end_33 {d : Nat} {y33_1 : Int32} {y33_2 : Int32} {ys33_0 : Int32} {z3 : Option Value} {z4 : Option Value} {z5 : Option Value} {w : MW} {Q : Int32 → MW → Prop} (hs : q2_Mo_end_33 d y33_1 y33_2 ys33_0 w Q) : Tm (d + 808) 37 33 [some (.ref 127), some (.int y33_1), some (.int y33_2), z3, z4, z5] [.int ys33_0] w (RI Q) := by
  unfold q2_Mo_end_33 at hs
  refine tm_go 3 (pc' := 37) (L' := [some (.ref 127), some (.int y33_1), some (.int y33_2), some (.int ys33_0), some (.int 0), z5]) (S' := []) (w' := w) rfl ?_
  refine tx_Mo_end_37 FU _ _ _ _ hs (fun e37_3_6 z6_4 z6_5 w6 hs => ?_)
  refine tm_go 4 (pc' := 75) (L' := [some (.ref 127), some (.int y33_1), some (.int y33_2), some (.int e37_3_6), z6_4, z6_5]) (S' := [.int e37_3_6]) (w' := (sI w6 127 1 0)) rfl ?_
  refine tm_i (p1 := 80) (p2 := 78) rfl (fun h7 => ?_) (fun h7 => ?_)
  · replace hs := hs.1 h7
    refine tm_go 1 (pc' := 81) (L' := [some (.ref 127), some (.int y33_1), some (.int y33_2), some (.int e37_3_6), z6_4, z6_5]) (S' := [.int y33_1]) (w' := (sI w6 127 1 0)) rfl ?_
    refine tm_i (p1 := 94) (p2 := 84) rfl (fun h8 => ?_) (fun h8 => ?_)
    · replace hs := hs.1 h8
      refine tm_go 2 (pc' := 97) (L' := [some (.ref 127), some (.int y33_1), some (.int y33_2), some (.int e37_3_6), some (.int 0), z6_5]) (S' := []) (w' := (sI w6 127 1 0)) rfl ?_
      refine tx_Mo_end_97 FU _ _ _ _ hs (fun  z15_2 z15_3 z15_4 z15_5 w15 hs => ?_)
      refine tm_go 2 (pc' := 149) (L' := [some (.ref 127), some (.int y33_1), z15_2, z15_3, z15_4, z15_5]) (S' := [.int 1, .int y33_1]) (w' := w15) rfl ?_
      refine tm_i (p1 := 162) (p2 := 152) rfl (fun h16 => ?_) (fun h16 => ?_)
      · replace hs := hs.1 h16
        refine tm_go 2 (pc' := 166) (L' := [some (.ref 127), some (.int y33_1), z15_2, z15_3, z15_4, z15_5]) (S' := [.ref 129]) (w' := w15) rfl ?_
        refine tm_c rfl (Nat.le_of_ble_eq_true rfl) hs (fun v w17 hq => ?_)
        obtain ⟨r17, rfl, hs⟩ := hq
        exact tx_Mo_end_169 hs 
      · replace hs := hs.2 h16
        refine tm_go 2 (pc' := 156) (L' := [some (.ref 127), some (.int y33_1), z15_2, z15_3, z15_4, z15_5]) (S' := [.ref 147]) (w' := w15) rfl ?_
        refine tm_c rfl (Nat.le_of_ble_eq_true rfl) (dm_Mr_read (d := d + 403) hs) (fun v w28 hq => ?_)
        obtain ⟨r28, rfl, hs⟩ := hq
        refine tm_go 1 (pc' := 169) (L' := [some (.ref 127), some (.int y33_1), z15_2, z15_3, z15_4, z15_5]) (S' := [.int r28]) (w' := w28) rfl ?_
        exact tx_Mo_end_169 hs 
    · replace hs := hs.2 h8
      refine tm_go 4 (pc' := 90) (L' := [some (.ref 127), some (.int y33_1), some (.int y33_2), some (.int e37_3_6), z6_4, z6_5]) (S' := [.ref 127]) (w' := (sI (sI w6 127 1 0) 127 22 y33_2)) rfl ?_
      refine tm_c rfl (Nat.le_of_ble_eq_true rfl) (dm_Mo_readPlant (d := d + 803) hs) (fun v w29 hq => ?_)
      obtain ⟨r29, rfl, hs⟩ := hq
      exact tm_r rfl ⟨_, rfl, hs⟩
  · replace hs := hs.2 h7
    refine tm_go 1 (pc' := 79) (L' := [some (.ref 127), some (.int y33_1), some (.int y33_2), some (.int e37_3_6), z6_4, z6_5]) (S' := [.int (-1)]) (w' := (sI w6 127 1 0)) rfl ?_
    exact tm_r rfl ⟨_, rfl, hs⟩
def p2_Mo_end (d : Nat) (w : MW) (a0 : Int32) (b0 : Int32) (Q : Int32 → MW → Prop) : Prop := ((a0.toInt < 0 → (q2_Mo_end_33 d a0 b0 0 w Q)) ∧ (¬ (a0.toInt < 0) → ((2 < a0.toInt → (q2_Mo_end_33 d a0 b0 0 w Q)) ∧ (¬ (2 < a0.toInt) → ((b0.toInt < 0 → (q2_Mo_end_33 d a0 b0 0 w Q)) ∧ (¬ (b0.toInt < 0) → ((4000 < b0.toInt → (q2_Mo_end_33 d a0 b0 0 w Q)) ∧ (¬ (4000 < b0.toInt) → (((w.1 127 1).toInt < b0.toInt → (q2_Mo_end_33 d a0 b0 0 w Q)) ∧ (¬ ((w.1 127 1).toInt < b0.toInt) → (q2_Mo_end_33 d a0 b0 1 w Q)))))))))))
set_option maxHeartbeats 4000000 in
set_option maxRecDepth 100000 in
theorem dm2_Mo_end {d : Nat} {w : MW} {a0 : Int32} {b0 : Int32} {Q : Int32 → MW → Prop} (hs : p2_Mo_end d w a0 b0 Q) : Tc (d + 808) 37 [.ref 127, .int a0, .int b0] w (RI Q) := by
  unfold p2_Mo_end at hs
  refine tm_go 1 (pc' := 1) (L' := [some (.ref 127), some (.int a0), some (.int b0), none, none, none]) (S' := [.int a0]) (w' := w) rfl ?_
  refine tm_i (p1 := 32) (p2 := 4) rfl (fun h1 => ?_) (fun h1 => ?_)
  · replace hs := hs.1 h1
    refine tm_go 1 (pc' := 33) (L' := [some (.ref 127), some (.int a0), some (.int b0), none, none, none]) (S' := [.int 0]) (w' := w) rfl ?_
    exact tx2_Mo_end_33 hs 
  · replace hs := hs.2 h1
    refine tm_go 2 (pc' := 6) (L' := [some (.ref 127), some (.int a0), some (.int b0), none, none, none]) (S' := [.int 2, .int a0]) (w' := w) rfl ?_
    refine tm_i (p1 := 32) (p2 := 9) rfl (fun h30 => ?_) (fun h30 => ?_)
    · replace hs := hs.1 h30
      refine tm_go 1 (pc' := 33) (L' := [some (.ref 127), some (.int a0), some (.int b0), none, none, none]) (S' := [.int 0]) (w' := w) rfl ?_
      exact tx2_Mo_end_33 hs 
    · replace hs := hs.2 h30
      refine tm_go 1 (pc' := 10) (L' := [some (.ref 127), some (.int a0), some (.int b0), none, none, none]) (S' := [.int b0]) (w' := w) rfl ?_
      refine tm_i (p1 := 32) (p2 := 13) rfl (fun h31 => ?_) (fun h31 => ?_)
      · replace hs := hs.1 h31
        refine tm_go 1 (pc' := 33) (L' := [some (.ref 127), some (.int a0), some (.int b0), none, none, none]) (S' := [.int 0]) (w' := w) rfl ?_
        exact tx2_Mo_end_33 hs 
      · replace hs := hs.2 h31
        refine tm_go 2 (pc' := 17) (L' := [some (.ref 127), some (.int a0), some (.int b0), none, none, none]) (S' := [.int 4000, .int b0]) (w' := w) rfl ?_
        refine tm_i (p1 := 32) (p2 := 20) rfl (fun h32 => ?_) (fun h32 => ?_)
        · replace hs := hs.1 h32
          refine tm_go 1 (pc' := 33) (L' := [some (.ref 127), some (.int a0), some (.int b0), none, none, none]) (S' := [.int 0]) (w' := w) rfl ?_
          exact tx2_Mo_end_33 hs 
        · replace hs := hs.2 h32
          refine tm_go 3 (pc' := 25) (L' := [some (.ref 127), some (.int a0), some (.int b0), none, none, none]) (S' := [.int (w.1 127 1), .int b0]) (w' := w) rfl ?_
          refine tm_i (p1 := 32) (p2 := 28) rfl (fun h33 => ?_) (fun h33 => ?_)
          · replace hs := hs.1 h33
            refine tm_go 1 (pc' := 33) (L' := [some (.ref 127), some (.int a0), some (.int b0), none, none, none]) (S' := [.int 0]) (w' := w) rfl ?_
            exact tx2_Mo_end_33 hs 
          · replace hs := hs.2 h33
            refine tm_go 2 (pc' := 33) (L' := [some (.ref 127), some (.int a0), some (.int b0), none, none, none]) (S' := [.int 1]) (w' := w) rfl ?_
            exact tx2_Mo_end_33 hs 
