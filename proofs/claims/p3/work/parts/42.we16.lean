set_option maxHeartbeats 4000000 in
set_option maxRecDepth 100000 in
theorem dm_Mo_needOf {d : Nat} {w : MW} {a0 : Int32} {b0 : Int32} {Q : Int32 → MW → Prop} (hs : p_Mo_needOf w a0 b0 Q) : Tc (d + 2) 72 [.ref 127, .int a0, .int b0] w (RI Q) := by
  unfold p_Mo_needOf at hs
  refine tm_go 3 (pc' := 5) (L' := [some (.ref 127), some (.int a0), some (.int b0), none, none]) (S' := [.int a0, .ref 170]) (w' := w) rfl ?_
  obtain ⟨b1, hs⟩ := hs
  refine tm_k (pc' := 6) (L' := [some (.ref 127), some (.int a0), some (.int b0), none, none]) (S' := [.int (w.1 170 a0.toInt.toNat)]) (w' := w) rfl b1 ?_
  refine tm_go 2 (pc' := 8) (L' := [some (.ref 127), some (.int a0), some (.int b0), some (.int (w.1 170 a0.toInt.toNat)), none]) (S' := [.int (w.1 170 a0.toInt.toNat)]) (w' := w) rfl ?_
  refine tm_i (p1 := 50) (p2 := 11) rfl (fun h2 => ?_) (fun h2 => ?_)
  · replace hs := hs.1 h2
    refine tm_go 1 (pc' := 51) (L' := [some (.ref 127), some (.int a0), some (.int b0), some (.int (w.1 170 a0.toInt.toNat)), none]) (S' := [.int (-1)]) (w' := w) rfl ?_
    exact tm_r rfl ⟨_, rfl, hs⟩
  · replace hs := hs.2 h2
    refine tm_go 3 (pc' := 16) (L' := [some (.ref 127), some (.int a0), some (.int b0), some (.int (w.1 170 a0.toInt.toNat)), none]) (S' := [.int b0, .ref 170]) (w' := w) rfl ?_
    obtain ⟨b3, hs⟩ := hs
    refine tm_k (pc' := 17) (L' := [some (.ref 127), some (.int a0), some (.int b0), some (.int (w.1 170 a0.toInt.toNat)), none]) (S' := [.int (w.1 170 b0.toInt.toNat)]) (w' := w) rfl b3 ?_
    refine tm_go 1 (pc' := 18) (L' := [some (.ref 127), some (.int a0), some (.int b0), some (.int (w.1 170 a0.toInt.toNat)), none]) (S' := [.int (w.1 170 a0.toInt.toNat), .int (w.1 170 b0.toInt.toNat)]) (w' := w) rfl ?_
    refine tm_i (p1 := 50) (p2 := 21) rfl (fun h4 => ?_) (fun h4 => ?_)
    · replace hs := hs.1 h4
      refine tm_go 1 (pc' := 51) (L' := [some (.ref 127), some (.int a0), some (.int b0), some (.int (w.1 170 a0.toInt.toNat)), none]) (S' := [.int (-1)]) (w' := w) rfl ?_
      exact tm_r rfl ⟨_, rfl, hs⟩
    · replace hs := hs.2 h4
      refine tm_go 2 (pc' := 23) (L' := [some (.ref 127), some (.int a0), some (.int b0), some (.int (w.1 170 a0.toInt.toNat)), none]) (S' := [.int a0, .int b0]) (w' := w) rfl ?_
      refine tm_i (p1 := 50) (p2 := 26) rfl (fun h5 => ?_) (fun h5 => ?_)
      · replace hs := hs.1 h5
        refine tm_go 1 (pc' := 51) (L' := [some (.ref 127), some (.int a0), some (.int b0), some (.int (w.1 170 a0.toInt.toNat)), none]) (S' := [.int (-1)]) (w' := w) rfl ?_
        exact tm_r rfl ⟨_, rfl, hs⟩
      · replace hs := hs.2 h5
        refine tm_go 3 (pc' := 31) (L' := [some (.ref 127), some (.int a0), some (.int b0), some (.int (w.1 170 a0.toInt.toNat)), none]) (S' := [.int (w.1 170 a0.toInt.toNat), .ref 163]) (w' := w) rfl ?_
        obtain ⟨b6, hs⟩ := hs
        refine tm_k (pc' := 32) (L' := [some (.ref 127), some (.int a0), some (.int b0), some (.int (w.1 170 a0.toInt.toNat)), none]) (S' := [.int (w.1 163 ((w.1 170 a0.toInt.toNat).toInt.toNat))]) (w' := w) rfl b6 ?_
        refine tm_i (p1 := 50) (p2 := 35) rfl (fun h7 => ?_) (fun h7 => ?_)
        · replace hs := hs.1 h7
          refine tm_go 1 (pc' := 51) (L' := [some (.ref 127), some (.int a0), some (.int b0), some (.int (w.1 170 a0.toInt.toNat)), none]) (S' := [.int (-1)]) (w' := w) rfl ?_
          exact tm_r rfl ⟨_, rfl, hs⟩
        · replace hs := hs.2 h7
          refine tm_go 10 (pc' := 47) (L' := [some (.ref 127), some (.int a0), some (.int b0), some (.int (w.1 170 a0.toInt.toNat)), none]) (S' := [.int (lg_cmp (((w.2.1 127 40) >>> ((b0 / (2 : Int32)).toInt64 &&& 63)) &&& (1 : Int64)) (0 : Int64))]) (w' := w) rfl ?_
          refine tm_i (p1 := 52) (p2 := 50) rfl (fun h8 => ?_) (fun h8 => ?_)
          · replace hs := hs.1 h8
            refine tm_go 3 (pc' := 57) (L' := [some (.ref 127), some (.int a0), some (.int b0), some (.int (w.1 170 a0.toInt.toNat)), none]) (S' := [.int (w.1 170 a0.toInt.toNat), .ref 163]) (w' := w) rfl ?_
            obtain ⟨b9, hs⟩ := hs
            refine tm_k (pc' := 58) (L' := [some (.ref 127), some (.int a0), some (.int b0), some (.int (w.1 170 a0.toInt.toNat)), none]) (S' := [.int (w.1 163 ((w.1 170 a0.toInt.toNat).toInt.toNat))]) (w' := w) rfl b9 ?_
            refine tm_go 1 (pc' := 59) (L' := [some (.ref 127), some (.int a0), some (.int b0), some (.int (w.1 170 a0.toInt.toNat)), none]) (S' := [.int 1, .int (w.1 163 ((w.1 170 a0.toInt.toNat).toInt.toNat))]) (w' := w) rfl ?_
            refine tm_i (p1 := 86) (p2 := 62) rfl (fun h10 => ?_) (fun h10 => ?_)
            · replace hs := hs.1 h10
              refine tm_go 3 (pc' := 91) (L' := [some (.ref 127), some (.int a0), some (.int b0), some (.int (w.1 170 a0.toInt.toNat)), none]) (S' := [.int (w.1 170 a0.toInt.toNat), .ref 163]) (w' := w) rfl ?_
              obtain ⟨b11, hs⟩ := hs
              refine tm_k (pc' := 92) (L' := [some (.ref 127), some (.int a0), some (.int b0), some (.int (w.1 170 a0.toInt.toNat)), none]) (S' := [.int (w.1 163 ((w.1 170 a0.toInt.toNat).toInt.toNat))]) (w' := w) rfl b11 ?_
              refine tm_go 5 (pc' := 99) (L' := [some (.ref 127), some (.int a0), some (.int b0), some (.int (w.1 170 a0.toInt.toNat)), none]) (S' := [.int a0, .ref 171, .int ((w.1 163 ((w.1 170 a0.toInt.toNat).toInt.toNat)) - (2 : Int32))]) (w' := w) rfl ?_
              obtain ⟨b12, hs⟩ := hs
              refine tm_k (pc' := 100) (L' := [some (.ref 127), some (.int a0), some (.int b0), some (.int (w.1 170 a0.toInt.toNat)), none]) (S' := [.int (w.1 171 a0.toInt.toNat), .int ((w.1 163 ((w.1 170 a0.toInt.toNat).toInt.toNat)) - (2 : Int32))]) (w' := w) rfl b12 ?_
              refine tm_go 3 (pc' := 105) (L' := [some (.ref 127), some (.int a0), some (.int b0), some (.int (w.1 170 a0.toInt.toNat)), none]) (S' := [.int b0, .ref 171, .int (w.1 171 a0.toInt.toNat), .int ((w.1 163 ((w.1 170 a0.toInt.toNat).toInt.toNat)) - (2 : Int32))]) (w' := w) rfl ?_
              obtain ⟨b13, hs⟩ := hs
              refine tm_k (pc' := 106) (L' := [some (.ref 127), some (.int a0), some (.int b0), some (.int (w.1 170 a0.toInt.toNat)), none]) (S' := [.int (w.1 171 b0.toInt.toNat), .int (w.1 171 a0.toInt.toNat), .int ((w.1 163 ((w.1 170 a0.toInt.toNat).toInt.toNat)) - (2 : Int32))]) (w' := w) rfl b13 ?_
              refine tm_c rfl (Nat.le_of_ble_eq_true rfl) (dm_Mo_least (d := d + 0) hs) (fun v w14 hq => ?_)
              obtain ⟨r14, rfl, hs⟩ := hq
              refine tm_go 3 (pc' := 113) (L' := [some (.ref 127), some (.int a0), some (.int b0), some (.int (w.1 170 a0.toInt.toNat)), some (.int r14)]) (S' := [.int (w.1 170 a0.toInt.toNat), .ref 127]) (w' := w14) rfl ?_
              refine tm_c rfl (Nat.le_of_ble_eq_true rfl) (dm_Mo_held (d := d + 1) hs) (fun v w15 hq => ?_)
              obtain ⟨r15, rfl, hs⟩ := hq
              refine tm_go 1 (pc' := 117) (L' := [some (.ref 127), some (.int a0), some (.int b0), some (.int (w.1 170 a0.toInt.toNat)), some (.int r14)]) (S' := [.int (-1), .int r15]) (w' := w15) rfl ?_
              refine tm_i (p1 := 130) (p2 := 120) rfl (fun h16 => ?_) (fun h16 => ?_)
              · replace hs := hs.1 h16
                refine tm_go 2 (pc' := 136) (L' := [some (.ref 127), some (.int a0), some (.int b0), some (.int (w.1 170 a0.toInt.toNat)), some (.int r14)]) (S' := [.int r14]) (w' := w15) rfl ?_
                exact tm_r rfl ⟨_, rfl, hs⟩
              · replace hs := hs.2 h16
                refine tm_go 2 (pc' := 122) (L' := [some (.ref 127), some (.int a0), some (.int b0), some (.int (w.1 170 a0.toInt.toNat)), some (.int r14)]) (S' := [.int (w.1 170 a0.toInt.toNat), .ref 127]) (w' := w15) rfl ?_
                refine tm_c rfl (Nat.le_of_ble_eq_true rfl) (dm_Mo_held (d := d + 1) hs) (fun v w17 hq => ?_)
                obtain ⟨r17, rfl, hs⟩ := hq
                refine tm_go 1 (pc' := 127) (L' := [some (.ref 127), some (.int a0), some (.int b0), some (.int (w.1 170 a0.toInt.toNat)), some (.int r14)]) (S' := [.int r14, .int r17]) (w' := w17) rfl ?_
                refine tm_i (p1 := 135) (p2 := 130) rfl (fun h18 => ?_) (fun h18 => ?_)
                · replace hs := hs.1 h18
                  refine tm_go 1 (pc' := 136) (L' := [some (.ref 127), some (.int a0), some (.int b0), some (.int (w.1 170 a0.toInt.toNat)), some (.int r14)]) (S' := [.int (-1)]) (w' := w17) rfl ?_
                  exact tm_r rfl ⟨_, rfl, hs⟩
                · replace hs := hs.2 h18
                  refine tm_go 2 (pc' := 136) (L' := [some (.ref 127), some (.int a0), some (.int b0), some (.int (w.1 170 a0.toInt.toNat)), some (.int r14)]) (S' := [.int r14]) (w' := w17) rfl ?_
                  exact tm_r rfl ⟨_, rfl, hs⟩
            · replace hs := hs.2 h10
              refine tm_go 3 (pc' := 67) (L' := [some (.ref 127), some (.int a0), some (.int b0), some (.int (w.1 170 a0.toInt.toNat)), none]) (S' := [.int a0, .ref 171]) (w' := w) rfl ?_
              obtain ⟨b19, hs⟩ := hs
              refine tm_k (pc' := 68) (L' := [some (.ref 127), some (.int a0), some (.int b0), some (.int (w.1 170 a0.toInt.toNat)), none]) (S' := [.int (w.1 171 a0.toInt.toNat)]) (w' := w) rfl b19 ?_
              refine tm_i (p1 := 84) (p2 := 71) rfl (fun h20 => ?_) (fun h20 => ?_)
              · replace hs := hs.1 h20
                refine tm_go 1 (pc' := 85) (L' := [some (.ref 127), some (.int a0), some (.int b0), some (.int (w.1 170 a0.toInt.toNat)), none]) (S' := [.int (-1)]) (w' := w) rfl ?_
                exact tm_r rfl ⟨_, rfl, hs⟩
              · replace hs := hs.2 h20
                refine tm_go 2 (pc' := 73) (L' := [some (.ref 127), some (.int a0), some (.int b0), some (.int (w.1 170 a0.toInt.toNat)), none]) (S' := [.int (w.1 170 a0.toInt.toNat), .ref 127]) (w' := w) rfl ?_
                refine tm_c rfl (Nat.le_of_ble_eq_true rfl) (dm_Mo_held (d := d + 1) hs) (fun v w21 hq => ?_)
                obtain ⟨r21, rfl, hs⟩ := hq
                refine tm_go 1 (pc' := 77) (L' := [some (.ref 127), some (.int a0), some (.int b0), some (.int (w.1 170 a0.toInt.toNat)), none]) (S' := [.int (-1), .int r21]) (w' := w21) rfl ?_
                refine tm_i (p1 := 84) (p2 := 80) rfl (fun h22 => ?_) (fun h22 => ?_)
                · replace hs := hs.1 h22
                  refine tm_go 1 (pc' := 85) (L' := [some (.ref 127), some (.int a0), some (.int b0), some (.int (w.1 170 a0.toInt.toNat)), none]) (S' := [.int (-1)]) (w' := w21) rfl ?_
                  exact tm_r rfl ⟨_, rfl, hs⟩
                · replace hs := hs.2 h22
                  refine tm_go 2 (pc' := 85) (L' := [some (.ref 127), some (.int a0), some (.int b0), some (.int (w.1 170 a0.toInt.toNat)), none]) (S' := [.int 0]) (w' := w21) rfl ?_
                  exact tm_r rfl ⟨_, rfl, hs⟩
          · replace hs := hs.2 h8
            refine tm_go 1 (pc' := 51) (L' := [some (.ref 127), some (.int a0), some (.int b0), some (.int (w.1 170 a0.toInt.toNat)), none]) (S' := [.int (-1)]) (w' := w) rfl ?_
            exact tm_r rfl ⟨_, rfl, hs⟩
set_option maxHeartbeats 4000000 in
set_option maxRecDepth 100000 in
theorem tx_Mo_measure_66 {d : Nat} {x2_1 : Int32} {y66_2 : Int32} {y66_3 : Int32} {ys66_0 : Int32} {ys66_1 : Int32} {z4 : Option Value} {z5 : Option Value} {z6 : Option Value} {z7 : Option Value} {w : MW} {A : Int32 → MW → Prop} {E : MW → Prop} {Q : MW → Prop} (hs : q_Mo_measure_66 x2_1 y66_2 y66_3 ys66_0 ys66_1 w A E Q) (hA : ∀ (x2_2 : Int32)  (z3 : Option Value) (z4 : Option Value) (z5 : Option Value) (z6 : Option Value) (z7 : Option Value) (w : MW), A x2_2 w → Tm (d + 3) 73 2 [some (.ref 127), some (.int x2_1), some (.int x2_2), z3, z4, z5, z6, z7] [] w (RV Q)) (hE : ∀  (v1 : Option Value) (v2 : Option Value) (v3 : Option Value) (v4 : Option Value) (v5 : Option Value) (v6 : Option Value) (v7 : Option Value) (w : MW), E  w → Tm (d + 3) 73 88 [some (.ref 127), v1, v2, v3, v4, v5, v6, v7] [] w (RV Q)) : Tm (d + 3) 73 66 [some (.ref 127), some (.int x2_1), some (.int y66_2), some (.int y66_3), z4, z5, z6, z7] [.int ys66_0, .int ys66_1, .ref 188] w (RV Q) := by
  unfold q_Mo_measure_66 at hs
  obtain ⟨b5, hs⟩ := hs
  refine tm_k (pc' := 67) (L' := [some (.ref 127), some (.int x2_1), some (.int y66_2), some (.int y66_3), z4, z5, z6, z7]) (S' := []) (w' := (sI w 188 ys66_1.toInt.toNat ys66_0)) rfl b5 ?_
  refine tm_go 4 (pc' := 73) (L' := [some (.ref 127), some (.int x2_1), some (.int y66_2), some (.int y66_3), z4, z5, z6, z7]) (S' := [.int y66_3, .int y66_2, .ref 189]) (w' := (sI w 188 ys66_1.toInt.toNat ys66_0)) rfl ?_
  refine tm_i (p1 := 80) (p2 := 76) rfl (fun h6 => ?_) (fun h6 => ?_)
  · replace hs := hs.1 h6
    refine tm_go 1 (pc' := 81) (L' := [some (.ref 127), some (.int x2_1), some (.int y66_2), some (.int y66_3), z4, z5, z6, z7]) (S' := [.int 0, .int y66_2, .ref 189]) (w' := (sI w 188 ys66_1.toInt.toNat ys66_0)) rfl ?_
    obtain ⟨b7, hs⟩ := hs
    refine tm_k (pc' := 82) (L' := [some (.ref 127), some (.int x2_1), some (.int y66_2), some (.int y66_3), z4, z5, z6, z7]) (S' := []) (w' := (sI (sI w 188 ys66_1.toInt.toNat ys66_0) 189 y66_2.toInt.toNat 0)) rfl b7 ?_
    refine tm_go 2 (pc' := 2) (L' := [some (.ref 127), some (.int x2_1), some (.int (y66_2 + (1 : Int32))), some (.int y66_3), z4, z5, z6, z7]) (S' := []) (w' := (sI (sI w 188 ys66_1.toInt.toNat ys66_0) 189 y66_2.toInt.toNat 0)) rfl ?_
    exact hA _ _ _ _ _ _ _ hs
  · replace hs := hs.2 h6
    refine tm_go 2 (pc' := 81) (L' := [some (.ref 127), some (.int x2_1), some (.int y66_2), some (.int y66_3), z4, z5, z6, z7]) (S' := [.int 1, .int y66_2, .ref 189]) (w' := (sI w 188 ys66_1.toInt.toNat ys66_0)) rfl ?_
    obtain ⟨b8, hs⟩ := hs
    refine tm_k (pc' := 82) (L' := [some (.ref 127), some (.int x2_1), some (.int y66_2), some (.int y66_3), z4, z5, z6, z7]) (S' := []) (w' := (sI (sI w 188 ys66_1.toInt.toNat ys66_0) 189 y66_2.toInt.toNat 1)) rfl b8 ?_
    refine tm_go 2 (pc' := 2) (L' := [some (.ref 127), some (.int x2_1), some (.int (y66_2 + (1 : Int32))), some (.int y66_3), z4, z5, z6, z7]) (S' := []) (w' := (sI (sI w 188 ys66_1.toInt.toNat ys66_0) 189 y66_2.toInt.toNat 1)) rfl ?_
    exact hA _ _ _ _ _ _ _ hs
set_option maxHeartbeats 4000000 in
set_option maxRecDepth 100000 in
theorem tx_Mo_measure_44 {d : Nat} {x2_1 : Int32} {y44_2 : Int32} {ys44_0 : Int32} {z3 : Option Value} {z4 : Option Value} {z5 : Option Value} {z6 : Option Value} {z7 : Option Value} {w : MW} {A : Int32 → MW → Prop} {E : MW → Prop} {Q : MW → Prop} (hs : q_Mo_measure_44 x2_1 y44_2 ys44_0 w A E Q) (hA : ∀ (x2_2 : Int32)  (z3 : Option Value) (z4 : Option Value) (z5 : Option Value) (z6 : Option Value) (z7 : Option Value) (w : MW), A x2_2 w → Tm (d + 3) 73 2 [some (.ref 127), some (.int x2_1), some (.int x2_2), z3, z4, z5, z6, z7] [] w (RV Q)) (hE : ∀  (v1 : Option Value) (v2 : Option Value) (v3 : Option Value) (v4 : Option Value) (v5 : Option Value) (v6 : Option Value) (v7 : Option Value) (w : MW), E  w → Tm (d + 3) 73 88 [some (.ref 127), v1, v2, v3, v4, v5, v6, v7] [] w (RV Q)) : Tm (d + 3) 73 44 [some (.ref 127), some (.int x2_1), some (.int y44_2), z3, z4, z5, z6, z7] [.int ys44_0] w (RV Q) := by
  unfold q_Mo_measure_44 at hs
  refine tm_go 5 (pc' := 51) (L' := [some (.ref 127), some (.int x2_1), some (.int y44_2), some (.int ys44_0), z4, z5, z6, z7]) (S' := [.int ys44_0, .int y44_2, .ref 188]) (w' := w) rfl ?_
  refine tm_i (p1 := 65) (p2 := 54) rfl (fun h4 => ?_) (fun h4 => ?_)
  · replace hs := hs.1 h4
    refine tm_go 1 (pc' := 66) (L' := [some (.ref 127), some (.int x2_1), some (.int y44_2), some (.int ys44_0), z4, z5, z6, z7]) (S' := [.int (-1), .int y44_2, .ref 188]) (w' := w) rfl ?_
    exact tx_Mo_measure_66 hs hA hE
  · replace hs := hs.2 h4
    refine tm_go 5 (pc' := 61) (L' := [some (.ref 127), some (.int x2_1), some (.int y44_2), some (.int ys44_0), z4, z5, z6, z7]) (S' := [.int (y44_2 / (2 : Int32)), .ref 169, .int y44_2, .ref 188]) (w' := w) rfl ?_
    obtain ⟨b9, hs⟩ := hs
    refine tm_k (pc' := 62) (L' := [some (.ref 127), some (.int x2_1), some (.int y44_2), some (.int ys44_0), z4, z5, z6, z7]) (S' := [.int (w.1 169 ((y44_2 / (2 : Int32)).toInt.toNat)), .int y44_2, .ref 188]) (w' := w) rfl b9 ?_
    refine tm_go 1 (pc' := 66) (L' := [some (.ref 127), some (.int x2_1), some (.int y44_2), some (.int ys44_0), z4, z5, z6, z7]) (S' := [.int (w.1 169 ((y44_2 / (2 : Int32)).toInt.toNat)), .int y44_2, .ref 188]) (w' := w) rfl ?_
    exact tx_Mo_measure_66 hs hA hE
set_option maxHeartbeats 4000000 in
set_option maxRecDepth 100000 in
theorem tx_Mo_measure_2 {d : Nat} {x2_1 : Int32} {E : MW → Prop} {Q : MW → Prop} (n : Nat) : ∀ (x2_2 : Int32)  (z3 : Option Value) (z4 : Option Value) (z5 : Option Value) (z6 : Option Value) (z7 : Option Value) (w : MW), q_Mo_measure_2 x2_1 E Q n x2_2 w → (∀  (v1 : Option Value) (v2 : Option Value) (v3 : Option Value) (v4 : Option Value) (v5 : Option Value) (v6 : Option Value) (v7 : Option Value) (w : MW), E  w → Tm (d + 3) 73 88 [some (.ref 127), v1, v2, v3, v4, v5, v6, v7] [] w (RV Q)) → Tm (d + 3) 73 2 [some (.ref 127), some (.int x2_1), some (.int x2_2), z3, z4, z5, z6, z7] [] w (RV Q) := by
  induction n with
  | zero => intro x2_2 z3 z4 z5 z6 z7 w hs; rw [q_Mo_measure_2.eq_1] at hs; exact hs.elim
  | succ n ih =>
    intro x2_2 z3 z4 z5 z6 z7 w hs hE
    rw [q_Mo_measure_2.eq_2] at hs
    refine tm_go 5 (pc' := 9) (L' := [some (.ref 127), some (.int x2_1), some (.int x2_2), z3, z4, z5, z6, z7]) (S' := [.int ((2 : Int32) * (w.1 127 11)), .int x2_2]) (w' := w) rfl ?_
    refine tm_i (p1 := 88) (p2 := 12) rfl (fun h1 => ?_) (fun h1 => ?_)
    · replace hs := hs.1 h1
      exact hE _ _ _ _ _ _ _ _ hs
    · replace hs := hs.2 h1
      refine tm_go 5 (pc' := 19) (L' := [some (.ref 127), some (.int x2_1), some (.int x2_2), z3, z4, z5, z6, z7]) (S' := [.int (x2_2 ^^^ (1 : Int32)), .ref 170]) (w' := w) rfl ?_
      obtain ⟨b2, hs⟩ := hs
      refine tm_k (pc' := 20) (L' := [some (.ref 127), some (.int x2_1), some (.int x2_2), z3, z4, z5, z6, z7]) (S' := [.int (w.1 170 ((x2_2 ^^^ (1 : Int32)).toInt.toNat))]) (w' := w) rfl b2 ?_
      refine tm_go 1 (pc' := 21) (L' := [some (.ref 127), some (.int x2_1), some (.int x2_2), z3, z4, z5, z6, z7]) (S' := [.int x2_1, .int (w.1 170 ((x2_2 ^^^ (1 : Int32)).toInt.toNat))]) (w' := w) rfl ?_
      refine tm_i (p1 := 43) (p2 := 24) rfl (fun h3 => ?_) (fun h3 => ?_)
      · replace hs := hs.1 h3
        refine tm_go 1 (pc' := 44) (L' := [some (.ref 127), some (.int x2_1), some (.int x2_2), z3, z4, z5, z6, z7]) (S' := [.int 0]) (w' := w) rfl ?_
        exact tx_Mo_measure_44 hs (fun q0 q1 q2 q3 q4 q5 q6 hs => ih q0 q1 q2 q3 q4 q5 q6 hs hE) hE
      · replace hs := hs.2 h3
        refine tm_go 10 (pc' := 36) (L' := [some (.ref 127), some (.int x2_1), some (.int x2_2), z3, z4, z5, z6, z7]) (S' := [.int (lg_cmp (((w.2.1 127 40) >>> ((x2_2 / (2 : Int32)).toInt64 &&& 63)) &&& (1 : Int64)) (0 : Int64))]) (w' := w) rfl ?_
        refine tm_i (p1 := 43) (p2 := 39) rfl (fun h10 => ?_) (fun h10 => ?_)
        · replace hs := hs.1 h10
          refine tm_go 1 (pc' := 44) (L' := [some (.ref 127), some (.int x2_1), some (.int x2_2), z3, z4, z5, z6, z7]) (S' := [.int 0]) (w' := w) rfl ?_
          exact tx_Mo_measure_44 hs (fun q0 q1 q2 q3 q4 q5 q6 hs => ih q0 q1 q2 q3 q4 q5 q6 hs hE) hE
        · replace hs := hs.2 h10
          refine tm_go 2 (pc' := 44) (L' := [some (.ref 127), some (.int x2_1), some (.int x2_2), z3, z4, z5, z6, z7]) (S' := [.int 1]) (w' := w) rfl ?_
          exact tx_Mo_measure_44 hs (fun q0 q1 q2 q3 q4 q5 q6 hs => ih q0 q1 q2 q3 q4 q5 q6 hs hE) hE
set_option maxHeartbeats 4000000 in
set_option maxRecDepth 100000 in
theorem tx_Mo_measure_283 {d : Nat} {y283_2 : Int32} {x111_3 : Int32} {y283_4 : Int32} {y283_7 : Int32} {ys283_0 : Int32} {ys283_1 : Int32} {z1 : Option Value} {z5 : Option Value} {z6 : Option Value} {w : MW} {A : Int32 → Int32 → MW → Prop} {E : Int32 → MW → Prop} {Q : MW → Prop} (hs : q_Mo_measure_283 y283_2 x111_3 y283_4 y283_7 ys283_0 ys283_1 w A E Q) (hA : ∀ (x111_2 : Int32) (x111_4 : Int32)  (z1 : Option Value) (z5 : Option Value) (z6 : Option Value) (z7 : Option Value) (w : MW), A x111_2 x111_4 w → Tm (d + 3) 73 111 [some (.ref 127), z1, some (.int x111_2), some (.int x111_3), some (.int x111_4), z5, z6, z7] [] w (RV Q)) (hE : ∀ (e111_2 : Int32)  (v1 : Option Value) (v4 : Option Value) (v5 : Option Value) (v6 : Option Value) (v7 : Option Value) (w : MW), E e111_2 w → Tm (d + 3) 73 305 [some (.ref 127), v1, some (.int e111_2), some (.int x111_3), v4, v5, v6, v7] [] w (RV Q)) : Tm (d + 3) 73 283 [some (.ref 127), z1, some (.int y283_2), some (.int x111_3), some (.int y283_4), z5, z6, some (.int y283_7)] [.int ys283_0, .int ys283_1, .ref 189] w (RV Q) := by
  unfold q_Mo_measure_283 at hs
  obtain ⟨b30, hs⟩ := hs
  refine tm_k (pc' := 284) (L' := [some (.ref 127), z1, some (.int y283_2), some (.int x111_3), some (.int y283_4), z5, z6, some (.int y283_7)]) (S' := []) (w' := (sI w 189 ys283_1.toInt.toNat ys283_0)) rfl b30 ?_
  refine tm_go 1 (pc' := 285) (L' := [some (.ref 127), z1, some (.int y283_2), some (.int x111_3), some (.int y283_4), z5, z6, some (.int y283_7)]) (S' := [.int y283_2]) (w' := (sI w 189 ys283_1.toInt.toNat ys283_0)) rfl ?_
  refine tm_i (p1 := 293) (p2 := 288) rfl (fun h31 => ?_) (fun h31 => ?_)
  · replace hs := hs.1 h31
    refine tm_go 5 (pc' := 111) (L' := [some (.ref 127), (ksl z1), some (.int 1), some (.int x111_3), some (.int (y283_4 + (1 : Int32))), z5, z6, some (.int y283_7)]) (S' := []) (w' := (sI w 189 ys283_1.toInt.toNat ys283_0)) rfl ?_
    exact hA _ _ _ _ _ _ _ hs
  · replace hs := hs.2 h31
    refine tm_go 1 (pc' := 290) (L' := [some (.ref 127), z1, some (.int y283_2), some (.int x111_3), some (.int y283_4), z5, z6, some (.int y283_7)]) (S' := [.int y283_7]) (w' := (sI w 189 ys283_1.toInt.toNat ys283_0)) rfl ?_
    refine tm_i (p1 := 297) (p2 := 293) rfl (fun h32 => ?_) (fun h32 => ?_)
    · replace hs := hs.1 h32
      refine tm_go 4 (pc' := 111) (L' := [some (.ref 127), (ksl z1), some (.int 0), some (.int x111_3), some (.int (y283_4 + (1 : Int32))), z5, z6, some (.int y283_7)]) (S' := []) (w' := (sI w 189 ys283_1.toInt.toNat ys283_0)) rfl ?_
      exact hA _ _ _ _ _ _ _ hs
    · replace hs := hs.2 h32
      refine tm_go 5 (pc' := 111) (L' := [some (.ref 127), (ksl z1), some (.int 1), some (.int x111_3), some (.int (y283_4 + (1 : Int32))), z5, z6, some (.int y283_7)]) (S' := []) (w' := (sI w 189 ys283_1.toInt.toNat ys283_0)) rfl ?_
      exact hA _ _ _ _ _ _ _ hs
set_option maxHeartbeats 4000000 in
set_option maxRecDepth 100000 in
theorem tx_Mo_measure_261 {d : Nat} {y261_2 : Int32} {x111_3 : Int32} {y261_4 : Int32} {y261_6 : Int32} {y261_7 : Int32} {ys261_0 : Int32} {ys261_1 : Int32} {z1 : Option Value} {z5 : Option Value} {w : MW} {A : Int32 → Int32 → MW → Prop} {E : Int32 → MW → Prop} {Q : MW → Prop} (hs : q_Mo_measure_261 y261_2 x111_3 y261_4 y261_6 y261_7 ys261_0 ys261_1 w A E Q) (hA : ∀ (x111_2 : Int32) (x111_4 : Int32)  (z1 : Option Value) (z5 : Option Value) (z6 : Option Value) (z7 : Option Value) (w : MW), A x111_2 x111_4 w → Tm (d + 3) 73 111 [some (.ref 127), z1, some (.int x111_2), some (.int x111_3), some (.int x111_4), z5, z6, z7] [] w (RV Q)) (hE : ∀ (e111_2 : Int32)  (v1 : Option Value) (v4 : Option Value) (v5 : Option Value) (v6 : Option Value) (v7 : Option Value) (w : MW), E e111_2 w → Tm (d + 3) 73 305 [some (.ref 127), v1, some (.int e111_2), some (.int x111_3), v4, v5, v6, v7] [] w (RV Q)) : Tm (d + 3) 73 261 [some (.ref 127), z1, some (.int y261_2), some (.int x111_3), some (.int y261_4), z5, some (.int y261_6), some (.int y261_7)] [.int ys261_0, .int ys261_1, .ref 188] w (RV Q) := by
  unfold q_Mo_measure_261 at hs
  obtain ⟨b27, hs⟩ := hs
  refine tm_k (pc' := 262) (L' := [some (.ref 127), z1, some (.int y261_2), some (.int x111_3), some (.int y261_4), z5, some (.int y261_6), some (.int y261_7)]) (S' := []) (w' := (sI w 188 ys261_1.toInt.toNat ys261_0)) rfl b27 ?_
  refine tm_go 4 (pc' := 269) (L' := [some (.ref 127), z1, some (.int y261_2), some (.int x111_3), some (.int y261_4), z5, some (.int y261_6), some (.int y261_7)]) (S' := [.int y261_7, .int x111_3, .ref 189]) (w' := (sI w 188 ys261_1.toInt.toNat ys261_0)) rfl ?_
  refine tm_i (p1 := 277) (p2 := 272) rfl (fun h28 => ?_) (fun h28 => ?_)
  · replace hs := hs.1 h28
    refine tm_go 3 (pc' := 282) (L' := [some (.ref 127), z1, some (.int y261_2), some (.int x111_3), some (.int y261_4), z5, some (.int y261_6), some (.int y261_7)]) (S' := [.int x111_3, .ref 189, .int x111_3, .ref 189]) (w' := (sI w 188 ys261_1.toInt.toNat ys261_0)) rfl ?_
    obtain ⟨b29, hs⟩ := hs
    refine tm_k (pc' := 283) (L' := [some (.ref 127), z1, some (.int y261_2), some (.int x111_3), some (.int y261_4), z5, some (.int y261_6), some (.int y261_7)]) (S' := [.int (w.1 189 x111_3.toInt.toNat), .int x111_3, .ref 189]) (w' := (sI w 188 ys261_1.toInt.toNat ys261_0)) rfl b29 ?_
    exact tx_Mo_measure_283 hs hA hE
  · replace hs := hs.2 h28
    refine tm_go 2 (pc' := 283) (L' := [some (.ref 127), z1, some (.int y261_2), some (.int x111_3), some (.int y261_4), z5, some (.int y261_6), some (.int y261_7)]) (S' := [.int y261_6, .int x111_3, .ref 189]) (w' := (sI w 188 ys261_1.toInt.toNat ys261_0)) rfl ?_
    exact tx_Mo_measure_283 hs hA hE
set_option maxHeartbeats 4000000 in
set_option maxRecDepth 100000 in
theorem tx_Mo_measure_238 {d : Nat} {y238_2 : Int32} {x111_3 : Int32} {y238_4 : Int32} {y238_5 : Int32} {y238_6 : Int32} {ys238_0 : Int32} {z1 : Option Value} {z7 : Option Value} {w : MW} {A : Int32 → Int32 → MW → Prop} {E : Int32 → MW → Prop} {Q : MW → Prop} (hs : q_Mo_measure_238 y238_2 x111_3 y238_4 y238_5 y238_6 ys238_0 w A E Q) (hA : ∀ (x111_2 : Int32) (x111_4 : Int32)  (z1 : Option Value) (z5 : Option Value) (z6 : Option Value) (z7 : Option Value) (w : MW), A x111_2 x111_4 w → Tm (d + 3) 73 111 [some (.ref 127), z1, some (.int x111_2), some (.int x111_3), some (.int x111_4), z5, z6, z7] [] w (RV Q)) (hE : ∀ (e111_2 : Int32)  (v1 : Option Value) (v4 : Option Value) (v5 : Option Value) (v6 : Option Value) (v7 : Option Value) (w : MW), E e111_2 w → Tm (d + 3) 73 305 [some (.ref 127), v1, some (.int e111_2), some (.int x111_3), v4, v5, v6, v7] [] w (RV Q)) : Tm (d + 3) 73 238 [some (.ref 127), z1, some (.int y238_2), some (.int x111_3), some (.int y238_4), some (.int y238_5), some (.int y238_6), z7] [.int ys238_0] w (RV Q) := by
  unfold q_Mo_measure_238 at hs
  refine tm_go 5 (pc' := 247) (L' := [some (.ref 127), z1, some (.int y238_2), some (.int x111_3), some (.int y238_4), some (.int y238_5), some (.int y238_6), some (.int ys238_0)]) (S' := [.int ys238_0, .int x111_3, .ref 188]) (w' := w) rfl ?_
  refine tm_i (p1 := 255) (p2 := 250) rfl (fun h25 => ?_) (fun h25 => ?_)
  · replace hs := hs.1 h25
    refine tm_go 3 (pc' := 260) (L' := [some (.ref 127), z1, some (.int y238_2), some (.int x111_3), some (.int y238_4), some (.int y238_5), some (.int y238_6), some (.int ys238_0)]) (S' := [.int x111_3, .ref 188, .int x111_3, .ref 188]) (w' := w) rfl ?_
    obtain ⟨b26, hs⟩ := hs
    refine tm_k (pc' := 261) (L' := [some (.ref 127), z1, some (.int y238_2), some (.int x111_3), some (.int y238_4), some (.int y238_5), some (.int y238_6), some (.int ys238_0)]) (S' := [.int (w.1 188 x111_3.toInt.toNat), .int x111_3, .ref 188]) (w' := w) rfl b26 ?_
    exact tx_Mo_measure_261 hs hA hE
  · replace hs := hs.2 h25
    refine tm_go 2 (pc' := 261) (L' := [some (.ref 127), z1, some (.int y238_2), some (.int x111_3), some (.int y238_4), some (.int y238_5), some (.int y238_6), some (.int ys238_0)]) (S' := [.int y238_5, .int x111_3, .ref 188]) (w' := w) rfl ?_
    exact tx_Mo_measure_261 hs hA hE
set_option maxHeartbeats 4000000 in
set_option maxRecDepth 100000 in
theorem tx_Mo_measure_111 {d : Nat} {x111_3 : Int32} {E : Int32 → MW → Prop} {Q : MW → Prop} (n : Nat) : ∀ (x111_2 : Int32) (x111_4 : Int32)  (z1 : Option Value) (z5 : Option Value) (z6 : Option Value) (z7 : Option Value) (w : MW), q_Mo_measure_111 x111_3 E Q n x111_2 x111_4 w → (∀ (e111_2 : Int32)  (v1 : Option Value) (v4 : Option Value) (v5 : Option Value) (v6 : Option Value) (v7 : Option Value) (w : MW), E e111_2 w → Tm (d + 3) 73 305 [some (.ref 127), v1, some (.int e111_2), some (.int x111_3), v4, v5, v6, v7] [] w (RV Q)) → Tm (d + 3) 73 111 [some (.ref 127), z1, some (.int x111_2), some (.int x111_3), some (.int x111_4), z5, z6, z7] [] w (RV Q) := by
  induction n with
  | zero => intro x111_2 x111_4 z1 z5 z6 z7 w hs; rw [q_Mo_measure_111.eq_1] at hs; exact hs.elim
  | succ n ih =>
    intro x111_2 x111_4 z1 z5 z6 z7 w hs hE
    rw [q_Mo_measure_111.eq_2] at hs
    refine tm_go 5 (pc' := 119) (L' := [some (.ref 127), z1, some (.int x111_2), some (.int x111_3), some (.int x111_4), z5, z6, z7]) (S' := [.int ((2 : Int32) * (w.1 127 11)), .int x111_4]) (w' := w) rfl ?_
    refine tm_i (p1 := 305) (p2 := 122) rfl (fun h14 => ?_) (fun h14 => ?_)
    · replace hs := hs.1 h14
      exact hE _ _ _ _ _ _ _ hs
    · replace hs := hs.2 h14
      refine tm_go 10 (pc' := 134) (L' := [some (.ref 127), z1, some (.int x111_2), some (.int x111_3), some (.int x111_4), z5, z6, z7]) (S' := [.int (lg_cmp (((w.2.1 127 40) >>> ((x111_3 / (2 : Int32)).toInt64 &&& 63)) &&& (1 : Int64)) (0 : Int64))]) (w' := w) rfl ?_
      refine tm_i (p1 := 305) (p2 := 137) rfl (fun h15 => ?_) (fun h15 => ?_)
      · replace hs := hs.1 h15
        exact hE _ _ _ _ _ _ _ hs
      · replace hs := hs.2 h15
        refine tm_go 3 (pc' := 143) (L' := [some (.ref 127), z1, some (.int x111_2), some (.int x111_3), some (.int x111_4), z5, z6, z7]) (S' := [.int x111_4, .ref 188]) (w' := w) rfl ?_
        obtain ⟨b16, hs⟩ := hs
        refine tm_k (pc' := 144) (L' := [some (.ref 127), z1, some (.int x111_2), some (.int x111_3), some (.int x111_4), z5, z6, z7]) (S' := [.int (w.1 188 x111_4.toInt.toNat)]) (w' := w) rfl b16 ?_
        refine tm_go 1 (pc' := 145) (L' := [some (.ref 127), z1, some (.int x111_2), some (.int x111_3), some (.int x111_4), z5, z6, z7]) (S' := [.int (-1), .int (w.1 188 x111_4.toInt.toNat)]) (w' := w) rfl ?_
        refine tm_i (p1 := 299) (p2 := 148) rfl (fun h17 => ?_) (fun h17 => ?_)
        · replace hs := hs.1 h17
          refine tm_go 2 (pc' := 111) (L' := [some (.ref 127), z1, some (.int x111_2), some (.int x111_3), some (.int (x111_4 + (1 : Int32))), z5, z6, z7]) (S' := []) (w' := w) rfl ?_
          exact ih _ _ _ _ _ _ _ hs hE
        · replace hs := hs.2 h17
          refine tm_go 5 (pc' := 154) (L' := [some (.ref 127), z1, some (.int x111_2), some (.int x111_3), some (.int x111_4), z5, z6, z7]) (S' := [.int x111_4, .int (x111_3 ^^^ (1 : Int32)), .ref 127]) (w' := w) rfl ?_
          refine tm_c rfl (Nat.le_of_ble_eq_true rfl) (dm_Mo_needOf (d := d + 0) hs) (fun v w18 hq => ?_)
          obtain ⟨r18, rfl, hs⟩ := hq
          refine tm_go 1 (pc' := 158) (L' := [some (.ref 127), z1, some (.int x111_2), some (.int x111_3), some (.int x111_4), z5, z6, z7]) (S' := [.int (-1), .int r18]) (w' := w18) rfl ?_
          refine tm_i (p1 := 299) (p2 := 161) rfl (fun h19 => ?_) (fun h19 => ?_)
          · replace hs := hs.1 h19
            refine tm_go 2 (pc' := 111) (L' := [some (.ref 127), z1, some (.int x111_2), some (.int x111_3), some (.int (x111_4 + (1 : Int32))), z5, z6, z7]) (S' := []) (w' := w18) rfl ?_
            exact ih _ _ _ _ _ _ _ hs hE
          · replace hs := hs.2 h19
            refine tm_go 3 (pc' := 167) (L' := [some (.ref 127), z1, some (.int x111_2), some (.int x111_3), some (.int x111_4), z5, z6, z7]) (S' := [.int x111_4, .ref 188]) (w' := w18) rfl ?_
            obtain ⟨b20, hs⟩ := hs
            refine tm_k (pc' := 168) (L' := [some (.ref 127), z1, some (.int x111_2), some (.int x111_3), some (.int x111_4), z5, z6, z7]) (S' := [.int (w18.1 188 x111_4.toInt.toNat)]) (w' := w18) rfl b20 ?_
            refine tm_go 5 (pc' := 175) (L' := [some (.ref 127), z1, some (.int x111_2), some (.int x111_3), some (.int x111_4), z5, z6, z7]) (S' := [.int (x111_3 / (2 : Int32)), .ref 169, .int (w18.1 188 x111_4.toInt.toNat)]) (w' := w18) rfl ?_
            obtain ⟨b21, hs⟩ := hs
            refine tm_k (pc' := 176) (L' := [some (.ref 127), z1, some (.int x111_2), some (.int x111_3), some (.int x111_4), z5, z6, z7]) (S' := [.int (w18.1 169 ((x111_3 / (2 : Int32)).toInt.toNat)), .int (w18.1 188 x111_4.toInt.toNat)]) (w' := w18) rfl b21 ?_
            refine tm_go 5 (pc' := 185) (L' := [some (.ref 127), z1, some (.int x111_2), some (.int x111_3), some (.int x111_4), some (.int ((w18.1 188 x111_4.toInt.toNat) + (w18.1 169 ((x111_3 / (2 : Int32)).toInt.toNat)))), z6, z7]) (S' := [.int x111_4, .ref 189]) (w' := w18) rfl ?_
            obtain ⟨b22, hs⟩ := hs
            refine tm_k (pc' := 186) (L' := [some (.ref 127), z1, some (.int x111_2), some (.int x111_3), some (.int x111_4), some (.int ((w18.1 188 x111_4.toInt.toNat) + (w18.1 169 ((x111_3 / (2 : Int32)).toInt.toNat)))), z6, z7]) (S' := [.int (w18.1 189 x111_4.toInt.toNat)]) (w' := w18) rfl b22 ?_
            refine tm_go 6 (pc' := 195) (L' := [some (.ref 127), z1, some (.int x111_2), some (.int x111_3), some (.int x111_4), some (.int ((w18.1 188 x111_4.toInt.toNat) + (w18.1 169 ((x111_3 / (2 : Int32)).toInt.toNat)))), some (.int ((w18.1 189 x111_4.toInt.toNat) + (1 : Int32))), z7]) (S' := [.int x111_3, .ref 188]) (w' := w18) rfl ?_
            obtain ⟨b23, hs⟩ := hs
            refine tm_k (pc' := 196) (L' := [some (.ref 127), z1, some (.int x111_2), some (.int x111_3), some (.int x111_4), some (.int ((w18.1 188 x111_4.toInt.toNat) + (w18.1 169 ((x111_3 / (2 : Int32)).toInt.toNat)))), some (.int ((w18.1 189 x111_4.toInt.toNat) + (1 : Int32))), z7]) (S' := [.int (w18.1 188 x111_3.toInt.toNat)]) (w' := w18) rfl b23 ?_
            refine tm_go 1 (pc' := 197) (L' := [some (.ref 127), z1, some (.int x111_2), some (.int x111_3), some (.int x111_4), some (.int ((w18.1 188 x111_4.toInt.toNat) + (w18.1 169 ((x111_3 / (2 : Int32)).toInt.toNat)))), some (.int ((w18.1 189 x111_4.toInt.toNat) + (1 : Int32))), z7]) (S' := [.int (-1), .int (w18.1 188 x111_3.toInt.toNat)]) (w' := w18) rfl ?_
            refine tm_i (p1 := 233) (p2 := 200) rfl (fun h24 => ?_) (fun h24 => ?_)
            · replace hs := hs.1 h24
              refine tm_go 2 (pc' := 238) (L' := [some (.ref 127), z1, some (.int x111_2), some (.int x111_3), some (.int x111_4), some (.int ((w18.1 188 x111_4.toInt.toNat) + (w18.1 169 ((x111_3 / (2 : Int32)).toInt.toNat)))), some (.int ((w18.1 189 x111_4.toInt.toNat) + (1 : Int32))), z7]) (S' := [.int 1]) (w' := w18) rfl ?_
              exact tx_Mo_measure_238 hs (fun q0 q1 q2 q3 q4 q5 q6 hs => ih q0 q1 q2 q3 q4 q5 q6 hs hE) hE
            · replace hs := hs.2 h24
              refine tm_go 4 (pc' := 207) (L' := [some (.ref 127), z1, some (.int x111_2), some (.int x111_3), some (.int x111_4), some (.int ((w18.1 188 x111_4.toInt.toNat) + (w18.1 169 ((x111_3 / (2 : Int32)).toInt.toNat)))), some (.int ((w18.1 189 x111_4.toInt.toNat) + (1 : Int32))), z7]) (S' := [.int x111_3, .ref 188, .int ((w18.1 188 x111_4.toInt.toNat) + (w18.1 169 ((x111_3 / (2 : Int32)).toInt.toNat)))]) (w' := w18) rfl ?_
              obtain ⟨b33, hs⟩ := hs
              refine tm_k (pc' := 208) (L' := [some (.ref 127), z1, some (.int x111_2), some (.int x111_3), some (.int x111_4), some (.int ((w18.1 188 x111_4.toInt.toNat) + (w18.1 169 ((x111_3 / (2 : Int32)).toInt.toNat)))), some (.int ((w18.1 189 x111_4.toInt.toNat) + (1 : Int32))), z7]) (S' := [.int (w18.1 188 x111_3.toInt.toNat), .int ((w18.1 188 x111_4.toInt.toNat) + (w18.1 169 ((x111_3 / (2 : Int32)).toInt.toNat)))]) (w' := w18) rfl b33 ?_
              refine tm_i (p1 := 233) (p2 := 211) rfl (fun h34 => ?_) (fun h34 => ?_)
              · replace hs := hs.1 h34
                refine tm_go 2 (pc' := 238) (L' := [some (.ref 127), z1, some (.int x111_2), some (.int x111_3), some (.int x111_4), some (.int ((w18.1 188 x111_4.toInt.toNat) + (w18.1 169 ((x111_3 / (2 : Int32)).toInt.toNat)))), some (.int ((w18.1 189 x111_4.toInt.toNat) + (1 : Int32))), z7]) (S' := [.int 1]) (w' := w18) rfl ?_
                exact tx_Mo_measure_238 hs (fun q0 q1 q2 q3 q4 q5 q6 hs => ih q0 q1 q2 q3 q4 q5 q6 hs hE) hE
              · replace hs := hs.2 h34
                refine tm_go 4 (pc' := 218) (L' := [some (.ref 127), z1, some (.int x111_2), some (.int x111_3), some (.int x111_4), some (.int ((w18.1 188 x111_4.toInt.toNat) + (w18.1 169 ((x111_3 / (2 : Int32)).toInt.toNat)))), some (.int ((w18.1 189 x111_4.toInt.toNat) + (1 : Int32))), z7]) (S' := [.int x111_3, .ref 188, .int ((w18.1 188 x111_4.toInt.toNat) + (w18.1 169 ((x111_3 / (2 : Int32)).toInt.toNat)))]) (w' := w18) rfl ?_
                obtain ⟨b35, hs⟩ := hs
                refine tm_k (pc' := 219) (L' := [some (.ref 127), z1, some (.int x111_2), some (.int x111_3), some (.int x111_4), some (.int ((w18.1 188 x111_4.toInt.toNat) + (w18.1 169 ((x111_3 / (2 : Int32)).toInt.toNat)))), some (.int ((w18.1 189 x111_4.toInt.toNat) + (1 : Int32))), z7]) (S' := [.int (w18.1 188 x111_3.toInt.toNat), .int ((w18.1 188 x111_4.toInt.toNat) + (w18.1 169 ((x111_3 / (2 : Int32)).toInt.toNat)))]) (w' := w18) rfl b35 ?_
                refine tm_i (p1 := 237) (p2 := 222) rfl (fun h36 => ?_) (fun h36 => ?_)
                · replace hs := hs.1 h36
                  refine tm_go 1 (pc' := 238) (L' := [some (.ref 127), z1, some (.int x111_2), some (.int x111_3), some (.int x111_4), some (.int ((w18.1 188 x111_4.toInt.toNat) + (w18.1 169 ((x111_3 / (2 : Int32)).toInt.toNat)))), some (.int ((w18.1 189 x111_4.toInt.toNat) + (1 : Int32))), z7]) (S' := [.int 0]) (w' := w18) rfl ?_
                  exact tx_Mo_measure_238 hs (fun q0 q1 q2 q3 q4 q5 q6 hs => ih q0 q1 q2 q3 q4 q5 q6 hs hE) hE
                · replace hs := hs.2 h36
                  refine tm_go 4 (pc' := 229) (L' := [some (.ref 127), z1, some (.int x111_2), some (.int x111_3), some (.int x111_4), some (.int ((w18.1 188 x111_4.toInt.toNat) + (w18.1 169 ((x111_3 / (2 : Int32)).toInt.toNat)))), some (.int ((w18.1 189 x111_4.toInt.toNat) + (1 : Int32))), z7]) (S' := [.int x111_3, .ref 189, .int ((w18.1 189 x111_4.toInt.toNat) + (1 : Int32))]) (w' := w18) rfl ?_
                  obtain ⟨b37, hs⟩ := hs
                  refine tm_k (pc' := 230) (L' := [some (.ref 127), z1, some (.int x111_2), some (.int x111_3), some (.int x111_4), some (.int ((w18.1 188 x111_4.toInt.toNat) + (w18.1 169 ((x111_3 / (2 : Int32)).toInt.toNat)))), some (.int ((w18.1 189 x111_4.toInt.toNat) + (1 : Int32))), z7]) (S' := [.int (w18.1 189 x111_3.toInt.toNat), .int ((w18.1 189 x111_4.toInt.toNat) + (1 : Int32))]) (w' := w18) rfl b37 ?_
                  refine tm_i (p1 := 237) (p2 := 233) rfl (fun h38 => ?_) (fun h38 => ?_)
                  · replace hs := hs.1 h38
                    refine tm_go 1 (pc' := 238) (L' := [some (.ref 127), z1, some (.int x111_2), some (.int x111_3), some (.int x111_4), some (.int ((w18.1 188 x111_4.toInt.toNat) + (w18.1 169 ((x111_3 / (2 : Int32)).toInt.toNat)))), some (.int ((w18.1 189 x111_4.toInt.toNat) + (1 : Int32))), z7]) (S' := [.int 0]) (w' := w18) rfl ?_
                    exact tx_Mo_measure_238 hs (fun q0 q1 q2 q3 q4 q5 q6 hs => ih q0 q1 q2 q3 q4 q5 q6 hs hE) hE
                  · replace hs := hs.2 h38
                    refine tm_go 2 (pc' := 238) (L' := [some (.ref 127), z1, some (.int x111_2), some (.int x111_3), some (.int x111_4), some (.int ((w18.1 188 x111_4.toInt.toNat) + (w18.1 169 ((x111_3 / (2 : Int32)).toInt.toNat)))), some (.int ((w18.1 189 x111_4.toInt.toNat) + (1 : Int32))), z7]) (S' := [.int 1]) (w' := w18) rfl ?_
                    exact tx_Mo_measure_238 hs (fun q0 q1 q2 q3 q4 q5 q6 hs => ih q0 q1 q2 q3 q4 q5 q6 hs hE) hE
set_option maxHeartbeats 4000000 in
set_option maxRecDepth 100000 in
theorem tx_Mo_measure_98 {d : Nat} {E : Int32 → MW → Prop} {Q : MW → Prop} (n : Nat) : ∀ (x98_2 : Int32) (x98_3 : Int32)  (z1 : Option Value) (z4 : Option Value) (z5 : Option Value) (z6 : Option Value) (z7 : Option Value) (w : MW), q_Mo_measure_98  E Q n x98_2 x98_3 w → (∀ (e98_2 : Int32)  (v1 : Option Value) (v3 : Option Value) (v4 : Option Value) (v5 : Option Value) (v6 : Option Value) (v7 : Option Value) (w : MW), E e98_2 w → Tm (d + 3) 73 311 [some (.ref 127), v1, some (.int e98_2), v3, v4, v5, v6, v7] [] w (RV Q)) → Tm (d + 3) 73 98 [some (.ref 127), z1, some (.int x98_2), some (.int x98_3), z4, z5, z6, z7] [] w (RV Q) := by
  induction n with
  | zero => intro x98_2 x98_3 z1 z4 z5 z6 z7 w hs; rw [q_Mo_measure_98.eq_1] at hs; exact hs.elim
  | succ n ih =>
    intro x98_2 x98_3 z1 z4 z5 z6 z7 w hs hE
    rw [q_Mo_measure_98.eq_2] at hs
    refine tm_go 5 (pc' := 105) (L' := [some (.ref 127), z1, some (.int x98_2), some (.int x98_3), z4, z5, z6, z7]) (S' := [.int ((2 : Int32) * (w.1 127 11)), .int x98_3]) (w' := w) rfl ?_
    refine tm_i (p1 := 311) (p2 := 108) rfl (fun h13 => ?_) (fun h13 => ?_)
    · replace hs := hs.1 h13
      exact hE _ _ _ _ _ _ _ _ hs
    · replace hs := hs.2 h13
      refine tm_go 2 (pc' := 111) (L' := [some (.ref 127), z1, some (.int x98_2), some (.int x98_3), some (.int 0), z5, z6, z7]) (S' := []) (w' := w) rfl ?_
      refine tx_Mo_measure_111 FU _ _ _ _ _ _ _ hs (fun e111_2_39 z39_1 z39_4 z39_5 z39_6 z39_7 w39 hs => ?_)
      refine tm_go 2 (pc' := 98) (L' := [some (.ref 127), z39_1, some (.int e111_2_39), some (.int (x98_3 + (1 : Int32))), z39_4, z39_5, z39_6, z39_7]) (S' := []) (w' := w39) rfl ?_
      exact ih _ _ _ _ _ _ _ _ hs hE
set_option maxHeartbeats 4000000 in
set_option maxRecDepth 100000 in
theorem tx_Mo_measure_90 {d : Nat} {E : MW → Prop} {Q : MW → Prop} (n : Nat) : ∀ (x90_2 : Int32)  (z1 : Option Value) (z3 : Option Value) (z4 : Option Value) (z5 : Option Value) (z6 : Option Value) (z7 : Option Value) (w : MW), q_Mo_measure_90  E Q n x90_2 w → (∀  (v0 : Option Value) (v1 : Option Value) (v2 : Option Value) (v3 : Option Value) (v4 : Option Value) (v5 : Option Value) (v6 : Option Value) (v7 : Option Value) (w : MW), E  w → Tm (d + 3) 73 314 [v0, v1, v2, v3, v4, v5, v6, v7] [] w (RV Q)) → Tm (d + 3) 73 90 [some (.ref 127), z1, some (.int x90_2), z3, z4, z5, z6, z7] [] w (RV Q) := by
  induction n with
  | zero => intro x90_2 z1 z3 z4 z5 z6 z7 w hs; rw [q_Mo_measure_90.eq_1] at hs; exact hs.elim
  | succ n ih =>
    intro x90_2 z1 z3 z4 z5 z6 z7 w hs hE
    rw [q_Mo_measure_90.eq_2] at hs
    refine tm_go 1 (pc' := 91) (L' := [some (.ref 127), z1, some (.int x90_2), z3, z4, z5, z6, z7]) (S' := [.int x90_2]) (w' := w) rfl ?_
    refine tm_i (p1 := 314) (p2 := 94) rfl (fun h12 => ?_) (fun h12 => ?_)
    · replace hs := hs.1 h12
      exact hE _ _ _ _ _ _ _ _ _ hs
    · replace hs := hs.2 h12
      refine tm_go 4 (pc' := 98) (L' := [some (.ref 127), (ksl z1), some (.int 0), some (.int 0), z4, z5, z6, z7]) (S' := []) (w' := w) rfl ?_
      refine tx_Mo_measure_98 FU _ _ _ _ _ _ _ _ hs (fun e98_2_40 z40_1 z40_3 z40_4 z40_5 z40_6 z40_7 w40 hs => ?_)
      refine tm_go 1 (pc' := 90) (L' := [some (.ref 127), z40_1, some (.int e98_2_40), z40_3, z40_4, z40_5, z40_6, z40_7]) (S' := []) (w' := w40) rfl ?_
      exact ih _ _ _ _ _ _ _ _ hs hE
set_option maxHeartbeats 4000000 in
set_option maxRecDepth 100000 in
theorem dm_Mo_measure {d : Nat} {w : MW} {a0 : Int32} {Q : MW → Prop} (hs : p_Mo_measure w a0 Q) : Tc (d + 3) 73 [.ref 127, .int a0] w (RV Q) := by
  unfold p_Mo_measure at hs
  refine tm_go 2 (pc' := 2) (L' := [some (.ref 127), some (.int a0), some (.int 0), none, none, none, none, none]) (S' := []) (w' := w) rfl ?_
  refine tx_Mo_measure_2 FU _ _ _ _ _ _ _ hs (fun  z11_1 z11_2 z11_3 z11_4 z11_5 z11_6 z11_7 w11 hs => ?_)
  refine tm_go 2 (pc' := 90) (L' := [some (.ref 127), (ksl z11_1), some (.int 1), z11_3, z11_4, z11_5, z11_6, z11_7]) (S' := []) (w' := w11) rfl ?_
  refine tx_Mo_measure_90 FU _ _ _ _ _ _ _ _ hs (fun  z41_0 z41_1 z41_2 z41_3 z41_4 z41_5 z41_6 z41_7 w41 hs => ?_)
  exact tm_r rfl ⟨rfl, hs⟩
set_option maxHeartbeats 4000000 in
set_option maxRecDepth 100000 in
theorem tx_Mo_find_18 {d : Nat} {x18_1 : Int32} {x18_2 : Int32} {x18_3 : Int32} {E : MW → Prop} {Q : Int32 → MW → Prop} (n : Nat) : ∀ (x18_4 : Int32)  (z5 : Option Value) (z6 : Option Value) (w : MW), q_Mo_find_18 x18_1 x18_2 x18_3 E Q n x18_4 w → (∀  (v4 : Option Value) (v5 : Option Value) (v6 : Option Value) (w : MW), E  w → Tm (d + 4) 74 60 [some (.ref 127), some (.int x18_1), some (.int x18_2), some (.int x18_3), v4, v5, v6] [] w (RZ Q)) → Tm (d + 4) 74 18 [some (.ref 127), some (.int x18_1), some (.int x18_2), some (.int x18_3), some (.int x18_4), z5, z6] [] w (RZ Q) := by
  induction n with
  | zero => intro x18_4 z5 z6 w hs; rw [q_Mo_find_18.eq_1] at hs; exact hs.elim
  | succ n ih =>
    intro x18_4 z5 z6 w hs hE
    rw [q_Mo_find_18.eq_2] at hs
    refine tm_go 4 (pc' := 25) (L' := [some (.ref 127), some (.int x18_1), some (.int x18_2), some (.int x18_3), some (.int x18_4), z5, z6]) (S' := [.int x18_3, .ref 185, .int x18_4]) (w' := w) rfl ?_
    obtain ⟨b2, hs⟩ := hs
    refine tm_k (pc' := 26) (L' := [some (.ref 127), some (.int x18_1), some (.int x18_2), some (.int x18_3), some (.int x18_4), z5, z6]) (S' := [.int (w.1 185 x18_3.toInt.toNat), .int x18_4]) (w' := w) rfl b2 ?_
    refine tm_i (p1 := 60) (p2 := 29) rfl (fun h3 => ?_) (fun h3 => ?_)
    · replace hs := hs.1 h3
      exact hE _ _ _ _ hs
    · replace hs := hs.2 h3
      refine tm_go 11 (pc' := 46) (L' := [some (.ref 127), some (.int x18_1), some (.int x18_2), some (.int x18_3), some (.int x18_4), z5, z6]) (S' := [.int (((24 : Int32) * x18_3) + x18_4), .ref 186, .long 1, .long (w.2.1 127 40), .ref 127]) (w' := w) rfl ?_
      obtain ⟨b4, hs⟩ := hs
      refine tm_k (pc' := 47) (L' := [some (.ref 127), some (.int x18_1), some (.int x18_2), some (.int x18_3), some (.int x18_4), z5, z6]) (S' := [.int (w.1 186 ((((24 : Int32) * x18_3) + x18_4).toInt.toNat)), .long 1, .long (w.2.1 127 40), .ref 127]) (w' := w) rfl b4 ?_
      refine tm_go 7 (pc' := 18) (L' := [some (.ref 127), some (.int x18_1), some (.int x18_2), some (.int x18_3), some (.int (x18_4 + (1 : Int32))), z5, z6]) (S' := []) (w' := (sJ w 127 40 ((w.2.1 127 40) ||| ((1 : Int64) <<< (((w.1 186 ((((24 : Int32) * x18_3) + x18_4).toInt.toNat)) / (2 : Int32)).toInt64 &&& 63))))) rfl ?_
      exact ih _ _ _ _ hs hE
set_option maxHeartbeats 4000000 in
set_option maxRecDepth 100000 in
theorem tx_Mo_find_7 {d : Nat} {x7_1 : Int32} {x7_2 : Int32} {E : MW → Prop} {Q : Int32 → MW → Prop} (n : Nat) : ∀ (x7_3 : Int32)  (z4 : Option Value) (z5 : Option Value) (z6 : Option Value) (w : MW), q_Mo_find_7 x7_1 x7_2 E Q n x7_3 w → (∀  (v3 : Option Value) (v4 : Option Value) (v5 : Option Value) (v6 : Option Value) (w : MW), E  w → Tm (d + 4) 74 66 [some (.ref 127), some (.int x7_1), some (.int x7_2), v3, v4, v5, v6] [] w (RZ Q)) → Tm (d + 4) 74 7 [some (.ref 127), some (.int x7_1), some (.int x7_2), some (.int x7_3), z4, z5, z6] [] w (RZ Q) := by
  induction n with
  | zero => intro x7_3 z4 z5 z6 w hs; rw [q_Mo_find_7.eq_1] at hs; exact hs.elim
  | succ n ih =>
    intro x7_3 z4 z5 z6 w hs hE
    rw [q_Mo_find_7.eq_2] at hs
    refine tm_go 3 (pc' := 12) (L' := [some (.ref 127), some (.int x7_1), some (.int x7_2), some (.int x7_3), z4, z5, z6]) (S' := [.int (w.1 127 26), .int x7_3]) (w' := w) rfl ?_
    refine tm_i (p1 := 66) (p2 := 15) rfl (fun h1 => ?_) (fun h1 => ?_)
    · replace hs := hs.1 h1
      exact hE _ _ _ _ _ hs
    · replace hs := hs.2 h1
      refine tm_go 2 (pc' := 18) (L' := [some (.ref 127), some (.int x7_1), some (.int x7_2), some (.int x7_3), some (.int 0), z5, z6]) (S' := []) (w' := w) rfl ?_
      refine tx_Mo_find_18 FU _ _ _ _ hs (fun  z5_4 z5_5 z5_6 w5 hs => ?_)
      refine tm_go 2 (pc' := 7) (L' := [some (.ref 127), some (.int x7_1), some (.int x7_2), some (.int (x7_3 + (1 : Int32))), z5_4, z5_5, z5_6]) (S' := []) (w' := w5) rfl ?_
      exact ih _ _ _ _ _ hs hE
set_option maxHeartbeats 4000000 in
set_option maxRecDepth 100000 in
theorem tx_Mo_find_78 {d : Nat} {x78_1 : Int32} {E : MW → Prop} {Q : Int32 → MW → Prop} (n : Nat) : ∀ (x78_3 : Int32)  (z2 : Option Value) (z4 : Option Value) (z5 : Option Value) (z6 : Option Value) (w : MW), q_Mo_find_78 x78_1 E Q n x78_3 w → (∀  (v2 : Option Value) (v3 : Option Value) (v4 : Option Value) (v5 : Option Value) (v6 : Option Value) (w : MW), E  w → Tm (d + 4) 74 97 [some (.ref 127), some (.int x78_1), v2, v3, v4, v5, v6] [] w (RZ Q)) → Tm (d + 4) 74 78 [some (.ref 127), some (.int x78_1), z2, some (.int x78_3), z4, z5, z6] [] w (RZ Q) := by
  induction n with
  | zero => intro x78_3 z2 z4 z5 z6 w hs; rw [q_Mo_find_78.eq_1] at hs; exact hs.elim
  | succ n ih =>
    intro x78_3 z2 z4 z5 z6 w hs hE
    rw [q_Mo_find_78.eq_2] at hs
    refine tm_go 2 (pc' := 81) (L' := [some (.ref 127), some (.int x78_1), z2, some (.int x78_3), z4, z5, z6]) (S' := [.int 20, .int x78_3]) (w' := w) rfl ?_
    refine tm_i (p1 := 97) (p2 := 84) rfl (fun h8 => ?_) (fun h8 => ?_)
    · replace hs := hs.1 h8
      exact hE _ _ _ _ _ _ hs
    · replace hs := hs.2 h8
      refine tm_go 4 (pc' := 90) (L' := [some (.ref 127), some (.int x78_1), z2, some (.int x78_3), z4, z5, z6]) (S' := [.int (-1), .int x78_3, .ref 192]) (w' := w) rfl ?_
      obtain ⟨b9, hs⟩ := hs
      refine tm_k (pc' := 91) (L' := [some (.ref 127), some (.int x78_1), z2, some (.int x78_3), z4, z5, z6]) (S' := []) (w' := (sI w 192 x78_3.toInt.toNat (-1))) rfl b9 ?_
      refine tm_go 2 (pc' := 78) (L' := [some (.ref 127), some (.int x78_1), (ksl z2), some (.int (x78_3 + (1 : Int32))), z4, z5, z6]) (S' := []) (w' := (sI w 192 x78_3.toInt.toNat (-1))) rfl ?_
      exact ih _ _ _ _ _ _ hs hE
set_option maxHeartbeats 4000000 in
set_option maxRecDepth 100000 in
theorem tx_Mo_find_140 {d : Nat} {x102_1 : Int32} {y140_3 : Int32} {y140_4 : Int32} {ys140_0 : Int32} {z2 : Option Value} {z5 : Option Value} {z6 : Option Value} {w : MW} {A : Int32 → Int32 → MW → Prop} {E : Int32 → MW → Prop} {Q : Int32 → MW → Prop} (hs : q_Mo_find_140 x102_1 y140_3 y140_4 ys140_0 w A E Q) (hA : ∀ (x102_3 : Int32) (x102_4 : Int32)  (z2 : Option Value) (z5 : Option Value) (z6 : Option Value) (w : MW), A x102_3 x102_4 w → Tm (d + 4) 74 102 [some (.ref 127), some (.int x102_1), z2, some (.int x102_3), some (.int x102_4), z5, z6] [] w (RZ Q)) (hE : ∀ (e102_3 : Int32)  (v1 : Option Value) (v2 : Option Value) (v4 : Option Value) (v5 : Option Value) (v6 : Option Value) (w : MW), E e102_3 w → Tm (d + 4) 74 209 [some (.ref 127), v1, v2, some (.int e102_3), v4, v5, v6] [] w (RZ Q)) : Tm (d + 4) 74 140 [some (.ref 127), some (.int x102_1), z2, some (.int y140_3), some (.int y140_4), z5, z6] [.int ys140_0] w (RZ Q) := by
  unfold q_Mo_find_140 at hs
  refine tm_go 2 (pc' := 144) (L' := [some (.ref 127), some (.int x102_1), z2, some (.int y140_3), some (.int y140_4), some (.int ys140_0), z6]) (S' := [.int ys140_0]) (w' := w) rfl ?_
  refine tm_i (p1 := 203) (p2 := 147) rfl (fun h14 => ?_) (fun h14 => ?_)
  · replace hs := hs.1 h14
    refine tm_go 2 (pc' := 102) (L' := [some (.ref 127), some (.int x102_1), z2, some (.int y140_3), some (.int (y140_4 + (1 : Int32))), some (.int ys140_0), z6]) (S' := []) (w' := w) rfl ?_
    exact hA _ _ _ _ _ _ hs
  · replace hs := hs.2 h14
    refine tm_go 2 (pc' := 149) (L' := [some (.ref 127), some (.int x102_1), z2, some (.int y140_3), some (.int y140_4), some (.int ys140_0), z6]) (S' := [.int (-1), .int y140_3]) (w' := w) rfl ?_
    refine tm_i (p1 := 200) (p2 := 152) rfl (fun h15 => ?_) (fun h15 => ?_)
    · replace hs := hs.1 h15
      refine tm_go 4 (pc' := 102) (L' := [some (.ref 127), some (.int x102_1), (ksl z2), some (.int y140_4), some (.int (y140_4 + (1 : Int32))), some (.int ys140_0), z6]) (S' := []) (w' := w) rfl ?_
      exact hA _ _ _ _ _ _ hs
    · replace hs := hs.2 h15
      refine tm_go 3 (pc' := 158) (L' := [some (.ref 127), some (.int x102_1), z2, some (.int y140_3), some (.int y140_4), some (.int ys140_0), z6]) (S' := [.int y140_4, .ref 188]) (w' := w) rfl ?_
      obtain ⟨b16, hs⟩ := hs
      refine tm_k (pc' := 159) (L' := [some (.ref 127), some (.int x102_1), z2, some (.int y140_3), some (.int y140_4), some (.int ys140_0), z6]) (S' := [.int (w.1 188 y140_4.toInt.toNat)]) (w' := w) rfl b16 ?_
      refine tm_go 3 (pc' := 164) (L' := [some (.ref 127), some (.int x102_1), z2, some (.int y140_3), some (.int y140_4), some (.int ys140_0), z6]) (S' := [.int y140_3, .ref 188, .int (w.1 188 y140_4.toInt.toNat)]) (w' := w) rfl ?_
      obtain ⟨b17, hs⟩ := hs
      refine tm_k (pc' := 165) (L' := [some (.ref 127), some (.int x102_1), z2, some (.int y140_3), some (.int y140_4), some (.int ys140_0), z6]) (S' := [.int (w.1 188 y140_3.toInt.toNat), .int (w.1 188 y140_4.toInt.toNat)]) (w' := w) rfl b17 ?_
      refine tm_i (p1 := 200) (p2 := 168) rfl (fun h18 => ?_) (fun h18 => ?_)
      · replace hs := hs.1 h18
        refine tm_go 4 (pc' := 102) (L' := [some (.ref 127), some (.int x102_1), (ksl z2), some (.int y140_4), some (.int (y140_4 + (1 : Int32))), some (.int ys140_0), z6]) (S' := []) (w' := w) rfl ?_
        exact hA _ _ _ _ _ _ hs
      · replace hs := hs.2 h18
        refine tm_go 3 (pc' := 174) (L' := [some (.ref 127), some (.int x102_1), z2, some (.int y140_3), some (.int y140_4), some (.int ys140_0), z6]) (S' := [.int y140_4, .ref 188]) (w' := w) rfl ?_
        obtain ⟨b19, hs⟩ := hs
        refine tm_k (pc' := 175) (L' := [some (.ref 127), some (.int x102_1), z2, some (.int y140_3), some (.int y140_4), some (.int ys140_0), z6]) (S' := [.int (w.1 188 y140_4.toInt.toNat)]) (w' := w) rfl b19 ?_
        refine tm_go 3 (pc' := 180) (L' := [some (.ref 127), some (.int x102_1), z2, some (.int y140_3), some (.int y140_4), some (.int ys140_0), z6]) (S' := [.int y140_3, .ref 188, .int (w.1 188 y140_4.toInt.toNat)]) (w' := w) rfl ?_
        obtain ⟨b20, hs⟩ := hs
        refine tm_k (pc' := 181) (L' := [some (.ref 127), some (.int x102_1), z2, some (.int y140_3), some (.int y140_4), some (.int ys140_0), z6]) (S' := [.int (w.1 188 y140_3.toInt.toNat), .int (w.1 188 y140_4.toInt.toNat)]) (w' := w) rfl b20 ?_
        refine tm_i (p1 := 203) (p2 := 184) rfl (fun h21 => ?_) (fun h21 => ?_)
        · replace hs := hs.1 h21
          refine tm_go 2 (pc' := 102) (L' := [some (.ref 127), some (.int x102_1), z2, some (.int y140_3), some (.int (y140_4 + (1 : Int32))), some (.int ys140_0), z6]) (S' := []) (w' := w) rfl ?_
          exact hA _ _ _ _ _ _ hs
        · replace hs := hs.2 h21
          refine tm_go 3 (pc' := 190) (L' := [some (.ref 127), some (.int x102_1), z2, some (.int y140_3), some (.int y140_4), some (.int ys140_0), z6]) (S' := [.int y140_4, .ref 189]) (w' := w) rfl ?_
          obtain ⟨b22, hs⟩ := hs
          refine tm_k (pc' := 191) (L' := [some (.ref 127), some (.int x102_1), z2, some (.int y140_3), some (.int y140_4), some (.int ys140_0), z6]) (S' := [.int (w.1 189 y140_4.toInt.toNat)]) (w' := w) rfl b22 ?_
          refine tm_go 3 (pc' := 196) (L' := [some (.ref 127), some (.int x102_1), z2, some (.int y140_3), some (.int y140_4), some (.int ys140_0), z6]) (S' := [.int y140_3, .ref 189, .int (w.1 189 y140_4.toInt.toNat)]) (w' := w) rfl ?_
          obtain ⟨b23, hs⟩ := hs
          refine tm_k (pc' := 197) (L' := [some (.ref 127), some (.int x102_1), z2, some (.int y140_3), some (.int y140_4), some (.int ys140_0), z6]) (S' := [.int (w.1 189 y140_3.toInt.toNat), .int (w.1 189 y140_4.toInt.toNat)]) (w' := w) rfl b23 ?_
          refine tm_i (p1 := 203) (p2 := 200) rfl (fun h24 => ?_) (fun h24 => ?_)
          · replace hs := hs.1 h24
            refine tm_go 2 (pc' := 102) (L' := [some (.ref 127), some (.int x102_1), z2, some (.int y140_3), some (.int (y140_4 + (1 : Int32))), some (.int ys140_0), z6]) (S' := []) (w' := w) rfl ?_
            exact hA _ _ _ _ _ _ hs
          · replace hs := hs.2 h24
            refine tm_go 4 (pc' := 102) (L' := [some (.ref 127), some (.int x102_1), (ksl z2), some (.int y140_4), some (.int (y140_4 + (1 : Int32))), some (.int ys140_0), z6]) (S' := []) (w' := w) rfl ?_
            exact hA _ _ _ _ _ _ hs
set_option maxHeartbeats 4000000 in
set_option maxRecDepth 100000 in
theorem tx_Mo_find_102 {d : Nat} {x102_1 : Int32} {E : Int32 → MW → Prop} {Q : Int32 → MW → Prop} (n : Nat) : ∀ (x102_3 : Int32) (x102_4 : Int32)  (z2 : Option Value) (z5 : Option Value) (z6 : Option Value) (w : MW), q_Mo_find_102 x102_1 E Q n x102_3 x102_4 w → (∀ (e102_3 : Int32)  (v1 : Option Value) (v2 : Option Value) (v4 : Option Value) (v5 : Option Value) (v6 : Option Value) (w : MW), E e102_3 w → Tm (d + 4) 74 209 [some (.ref 127), v1, v2, some (.int e102_3), v4, v5, v6] [] w (RZ Q)) → Tm (d + 4) 74 102 [some (.ref 127), some (.int x102_1), z2, some (.int x102_3), some (.int x102_4), z5, z6] [] w (RZ Q) := by
  induction n with
  | zero => intro x102_3 x102_4 z2 z5 z6 w hs; rw [q_Mo_find_102.eq_1] at hs; exact hs.elim
  | succ n ih =>
    intro x102_3 x102_4 z2 z5 z6 w hs hE
    rw [q_Mo_find_102.eq_2] at hs
    refine tm_go 5 (pc' := 110) (L' := [some (.ref 127), some (.int x102_1), z2, some (.int x102_3), some (.int x102_4), z5, z6]) (S' := [.int ((2 : Int32) * (w.1 127 11)), .int x102_4]) (w' := w) rfl ?_
    refine tm_i (p1 := 209) (p2 := 113) rfl (fun h11 => ?_) (fun h11 => ?_)
    · replace hs := hs.1 h11
      exact hE _ _ _ _ _ _ _ hs
    · replace hs := hs.2 h11
      refine tm_go 3 (pc' := 119) (L' := [some (.ref 127), some (.int x102_1), z2, some (.int x102_3), some (.int x102_4), z5, z6]) (S' := [.int x102_4, .ref 170]) (w' := w) rfl ?_
      obtain ⟨b12, hs⟩ := hs
      refine tm_k (pc' := 120) (L' := [some (.ref 127), some (.int x102_1), z2, some (.int x102_3), some (.int x102_4), z5, z6]) (S' := [.int (w.1 170 x102_4.toInt.toNat)]) (w' := w) rfl b12 ?_
      refine tm_go 1 (pc' := 121) (L' := [some (.ref 127), some (.int x102_1), z2, some (.int x102_3), some (.int x102_4), z5, z6]) (S' := [.int x102_1, .int (w.1 170 x102_4.toInt.toNat)]) (w' := w) rfl ?_
      refine tm_i (p1 := 139) (p2 := 124) rfl (fun h13 => ?_) (fun h13 => ?_)
      · replace hs := hs.1 h13
        refine tm_go 1 (pc' := 140) (L' := [some (.ref 127), some (.int x102_1), z2, some (.int x102_3), some (.int x102_4), z5, z6]) (S' := [.int 0]) (w' := w) rfl ?_
        exact tx_Mo_find_140 hs (fun q0 q1 q2 q3 q4 q5 hs => ih q0 q1 q2 q3 q4 q5 hs hE) hE
      · replace hs := hs.2 h13
        refine tm_go 3 (pc' := 130) (L' := [some (.ref 127), some (.int x102_1), z2, some (.int x102_3), some (.int x102_4), z5, z6]) (S' := [.int x102_4, .ref 188]) (w' := w) rfl ?_
        obtain ⟨b25, hs⟩ := hs
        refine tm_k (pc' := 131) (L' := [some (.ref 127), some (.int x102_1), z2, some (.int x102_3), some (.int x102_4), z5, z6]) (S' := [.int (w.1 188 x102_4.toInt.toNat)]) (w' := w) rfl b25 ?_
        refine tm_go 1 (pc' := 132) (L' := [some (.ref 127), some (.int x102_1), z2, some (.int x102_3), some (.int x102_4), z5, z6]) (S' := [.int (-1), .int (w.1 188 x102_4.toInt.toNat)]) (w' := w) rfl ?_
        refine tm_i (p1 := 139) (p2 := 135) rfl (fun h26 => ?_) (fun h26 => ?_)
        · replace hs := hs.1 h26
          refine tm_go 1 (pc' := 140) (L' := [some (.ref 127), some (.int x102_1), z2, some (.int x102_3), some (.int x102_4), z5, z6]) (S' := [.int 0]) (w' := w) rfl ?_
          exact tx_Mo_find_140 hs (fun q0 q1 q2 q3 q4 q5 hs => ih q0 q1 q2 q3 q4 q5 hs hE) hE
        · replace hs := hs.2 h26
          refine tm_go 2 (pc' := 140) (L' := [some (.ref 127), some (.int x102_1), z2, some (.int x102_3), some (.int x102_4), z5, z6]) (S' := [.int 1]) (w' := w) rfl ?_
          exact tx_Mo_find_140 hs (fun q0 q1 q2 q3 q4 q5 hs => ih q0 q1 q2 q3 q4 q5 hs hE) hE
set_option maxHeartbeats 4000000 in
set_option maxRecDepth 100000 in
theorem tx_Mo_find_257 {d : Nat} {x257_3 : Int32} {x257_4 : Int32} {E : Int32 → MW → Prop} {Q : Int32 → MW → Prop} (n : Nat) : ∀ (x257_5 : Int32) (x257_6 : Int32)  (z1 : Option Value) (z2 : Option Value) (w : MW), q_Mo_find_257 x257_3 x257_4 E Q n x257_5 x257_6 w → (∀ (e257_5 : Int32)  (v1 : Option Value) (v2 : Option Value) (v4 : Option Value) (v6 : Option Value) (w : MW), E e257_5 w → Tm (d + 4) 74 332 [some (.ref 127), v1, v2, some (.int x257_3), v4, some (.int e257_5), v6] [] w (RZ Q)) → Tm (d + 4) 74 257 [some (.ref 127), z1, z2, some (.int x257_3), some (.int x257_4), some (.int x257_5), some (.int x257_6)] [] w (RZ Q) := by
  induction n with
  | zero => intro x257_5 x257_6 z1 z2 w hs; rw [q_Mo_find_257.eq_1] at hs; exact hs.elim
  | succ n ih =>
    intro x257_5 x257_6 z1 z2 w hs hE
    rw [q_Mo_find_257.eq_2] at hs
    refine tm_go 5 (pc' := 265) (L' := [some (.ref 127), z1, z2, some (.int x257_3), some (.int x257_4), some (.int x257_5), some (.int x257_6)]) (S' := [.int ((2 : Int32) * (w.1 127 11)), .int x257_6]) (w' := w) rfl ?_
    refine tm_i (p1 := 332) (p2 := 268) rfl (fun h32 => ?_) (fun h32 => ?_)
    · replace hs := hs.1 h32
      exact hE _ _ _ _ _ _ hs
    · replace hs := hs.2 h32
      refine tm_go 2 (pc' := 271) (L' := [some (.ref 127), z1, z2, some (.int x257_3), some (.int x257_4), some (.int x257_5), some (.int x257_6)]) (S' := [.int (-1), .int x257_5]) (w' := w) rfl ?_
      refine tm_i (p1 := 332) (p2 := 274) rfl (fun h33 => ?_) (fun h33 => ?_)
      · replace hs := hs.1 h33
        exact hE _ _ _ _ _ _ hs
      · replace hs := hs.2 h33
        refine tm_go 1 (pc' := 276) (L' := [some (.ref 127), z1, z2, some (.int x257_3), some (.int x257_4), some (.int x257_5), some (.int x257_6)]) (S' := [.int x257_4]) (w' := w) rfl ?_
        refine tm_i (p1 := 332) (p2 := 279) rfl (fun h34 => ?_) (fun h34 => ?_)
        · replace hs := hs.1 h34
          exact hE _ _ _ _ _ _ hs
        · replace hs := hs.2 h34
          refine tm_go 3 (pc' := 285) (L' := [some (.ref 127), z1, z2, some (.int x257_3), some (.int x257_4), some (.int x257_5), some (.int x257_6)]) (S' := [.int x257_6, .ref 188]) (w' := w) rfl ?_
          obtain ⟨b35, hs⟩ := hs
          refine tm_k (pc' := 286) (L' := [some (.ref 127), z1, z2, some (.int x257_3), some (.int x257_4), some (.int x257_5), some (.int x257_6)]) (S' := [.int (w.1 188 x257_6.toInt.toNat)]) (w' := w) rfl b35 ?_
          refine tm_go 1 (pc' := 288) (L' := [some (.ref 127), z1, z2, some (.int x257_3), some (.int x257_4), some (.int x257_5), some (.int x257_6)]) (S' := [.int x257_4, .int (w.1 188 x257_6.toInt.toNat)]) (w' := w) rfl ?_
          refine tm_i (p1 := 326) (p2 := 291) rfl (fun h36 => ?_) (fun h36 => ?_)
          · replace hs := hs.1 h36
            refine tm_go 2 (pc' := 257) (L' := [some (.ref 127), z1, z2, some (.int x257_3), some (.int x257_4), some (.int x257_5), some (.int (x257_6 + (1 : Int32)))]) (S' := []) (w' := w) rfl ?_
            exact ih _ _ _ _ _ hs hE
          · replace hs := hs.2 h36
            refine tm_go 3 (pc' := 297) (L' := [some (.ref 127), z1, z2, some (.int x257_3), some (.int x257_4), some (.int x257_5), some (.int x257_6)]) (S' := [.int x257_6, .ref 189]) (w' := w) rfl ?_
            obtain ⟨b37, hs⟩ := hs
            refine tm_k (pc' := 298) (L' := [some (.ref 127), z1, z2, some (.int x257_3), some (.int x257_4), some (.int x257_5), some (.int x257_6)]) (S' := [.int (w.1 189 x257_6.toInt.toNat)]) (w' := w) rfl b37 ?_
            refine tm_go 3 (pc' := 303) (L' := [some (.ref 127), z1, z2, some (.int x257_3), some (.int x257_4), some (.int x257_5), some (.int x257_6)]) (S' := [.int x257_3, .ref 189, .int (w.1 189 x257_6.toInt.toNat)]) (w' := w) rfl ?_
            obtain ⟨b38, hs⟩ := hs
            refine tm_k (pc' := 304) (L' := [some (.ref 127), z1, z2, some (.int x257_3), some (.int x257_4), some (.int x257_5), some (.int x257_6)]) (S' := [.int (w.1 189 x257_3.toInt.toNat), .int (w.1 189 x257_6.toInt.toNat)]) (w' := w) rfl b38 ?_
            refine tm_go 2 (pc' := 306) (L' := [some (.ref 127), z1, z2, some (.int x257_3), some (.int x257_4), some (.int x257_5), some (.int x257_6)]) (S' := [.int ((w.1 189 x257_3.toInt.toNat) - (1 : Int32)), .int (w.1 189 x257_6.toInt.toNat)]) (w' := w) rfl ?_
            refine tm_i (p1 := 326) (p2 := 309) rfl (fun h39 => ?_) (fun h39 => ?_)
            · replace hs := hs.1 h39
              refine tm_go 2 (pc' := 257) (L' := [some (.ref 127), z1, z2, some (.int x257_3), some (.int x257_4), some (.int x257_5), some (.int (x257_6 + (1 : Int32)))]) (S' := []) (w' := w) rfl ?_
              exact ih _ _ _ _ _ hs hE
            · replace hs := hs.2 h39
              refine tm_go 5 (pc' := 315) (L' := [some (.ref 127), z1, z2, some (.int x257_3), some (.int x257_4), some (.int x257_5), some (.int x257_6)]) (S' := [.int x257_6, .int (x257_3 ^^^ (1 : Int32)), .ref 127]) (w' := w) rfl ?_
              refine tm_c rfl (Nat.le_of_ble_eq_true rfl) (dm_Mo_needOf (d := d + 1) hs) (fun v w40 hq => ?_)
              obtain ⟨r40, rfl, hs⟩ := hq
              refine tm_go 1 (pc' := 319) (L' := [some (.ref 127), z1, z2, some (.int x257_3), some (.int x257_4), some (.int x257_5), some (.int x257_6)]) (S' := [.int (-1), .int r40]) (w' := w40) rfl ?_
              refine tm_i (p1 := 326) (p2 := 322) rfl (fun h41 => ?_) (fun h41 => ?_)
              · replace hs := hs.1 h41
                refine tm_go 2 (pc' := 257) (L' := [some (.ref 127), z1, z2, some (.int x257_3), some (.int x257_4), some (.int x257_5), some (.int (x257_6 + (1 : Int32)))]) (S' := []) (w' := w40) rfl ?_
                exact ih _ _ _ _ _ hs hE
              · replace hs := hs.2 h41
                refine tm_go 4 (pc' := 257) (L' := [some (.ref 127), z1, z2, some (.int x257_3), some (.int x257_4), some (.int x257_6), some (.int (x257_6 + (1 : Int32)))]) (S' := []) (w' := w40) rfl ?_
                exact ih _ _ _ _ _ hs hE
set_option maxHeartbeats 4000000 in
set_option maxRecDepth 100000 in
theorem tx_Mo_find_209 {d : Nat} {E : MW → Prop} {Q : Int32 → MW → Prop} (n : Nat) : ∀ (x209_3 : Int32)  (z1 : Option Value) (z2 : Option Value) (z4 : Option Value) (z5 : Option Value) (z6 : Option Value) (w : MW), q_Mo_find_209  E Q n x209_3 w → (∀  (v1 : Option Value) (v2 : Option Value) (v3 : Option Value) (v4 : Option Value) (v5 : Option Value) (v6 : Option Value) (w : MW), E  w → Tm (d + 4) 74 365 [some (.ref 127), v1, v2, v3, v4, v5, v6] [] w (RZ Q)) → Tm (d + 4) 74 209 [some (.ref 127), z1, z2, some (.int x209_3), z4, z5, z6] [] w (RZ Q) := by
  induction n with
  | zero => intro x209_3 z1 z2 z4 z5 z6 w hs; rw [q_Mo_find_209.eq_1] at hs; exact hs.elim
  | succ n ih =>
    intro x209_3 z1 z2 z4 z5 z6 w hs hE
    rw [q_Mo_find_209.eq_2] at hs
    refine tm_go 2 (pc' := 211) (L' := [some (.ref 127), z1, z2, some (.int x209_3), z4, z5, z6]) (S' := [.int (-1), .int x209_3]) (w' := w) rfl ?_
    refine tm_i (p1 := 365) (p2 := 214) rfl (fun h28 => ?_) (fun h28 => ?_)
    · replace hs := hs.1 h28
      exact hE _ _ _ _ _ _ _ hs
    · replace hs := hs.2 h28
      refine tm_go 5 (pc' := 223) (L' := [some (.ref 127), z1, z2, some (.int x209_3), z4, z5, z6]) (S' := [.int x209_3, .int (w.1 127 39), .ref 191]) (w' := w) rfl ?_
      obtain ⟨b29, hs⟩ := hs
      refine tm_k (pc' := 224) (L' := [some (.ref 127), z1, z2, some (.int x209_3), z4, z5, z6]) (S' := []) (w' := (sI w 191 ((w.1 127 39).toInt.toNat) x209_3)) rfl b29 ?_
      refine tm_go 9 (pc' := 239) (L' := [some (.ref 127), z1, z2, some (.int x209_3), z4, z5, z6]) (S' := [.int x209_3, .ref 188]) (w' := (sI (sI w 191 ((w.1 127 39).toInt.toNat) x209_3) 127 39 ((w.1 127 39) + (1 : Int32)))) rfl ?_
      obtain ⟨b30, hs⟩ := hs
      refine tm_k (pc' := 240) (L' := [some (.ref 127), z1, z2, some (.int x209_3), z4, z5, z6]) (S' := [.int (w.1 188 x209_3.toInt.toNat)]) (w' := (sI (sI w 191 ((w.1 127 39).toInt.toNat) x209_3) 127 39 ((w.1 127 39) + (1 : Int32)))) rfl b30 ?_
      refine tm_go 5 (pc' := 247) (L' := [some (.ref 127), z1, z2, some (.int x209_3), z4, z5, z6]) (S' := [.int (x209_3 / (2 : Int32)), .ref 169, .int (w.1 188 x209_3.toInt.toNat)]) (w' := (sI (sI w 191 ((w.1 127 39).toInt.toNat) x209_3) 127 39 ((w.1 127 39) + (1 : Int32)))) rfl ?_
      obtain ⟨b31, hs⟩ := hs
      refine tm_k (pc' := 248) (L' := [some (.ref 127), z1, z2, some (.int x209_3), z4, z5, z6]) (S' := [.int (w.1 169 ((x209_3 / (2 : Int32)).toInt.toNat)), .int (w.1 188 x209_3.toInt.toNat)]) (w' := (sI (sI w 191 ((w.1 127 39).toInt.toNat) x209_3) 127 39 ((w.1 127 39) + (1 : Int32)))) rfl b31 ?_
      refine tm_go 6 (pc' := 257) (L' := [some (.ref 127), z1, z2, some (.int x209_3), some (.int ((w.1 188 x209_3.toInt.toNat) - (w.1 169 ((x209_3 / (2 : Int32)).toInt.toNat)))), some (.int (-1)), some (.int 0)]) (S' := []) (w' := (sI (sI w 191 ((w.1 127 39).toInt.toNat) x209_3) 127 39 ((w.1 127 39) + (1 : Int32)))) rfl ?_
      refine tx_Mo_find_257 FU _ _ _ _ _ hs (fun e257_5_42 z42_1 z42_2 z42_4 z42_6 w42 hs => ?_)
      refine tm_go 2 (pc' := 335) (L' := [some (.ref 127), z42_1, z42_2, some (.int x209_3), z42_4, some (.int e257_5_42), z42_6]) (S' := [.int (-1), .int e257_5_42]) (w' := w42) rfl ?_
      refine tm_i (p1 := 359) (p2 := 338) rfl (fun h43 => ?_) (fun h43 => ?_)
      · replace hs := hs.1 h43
        refine tm_go 3 (pc' := 209) (L' := [some (.ref 127), z42_1, (ksl z42_2), some (.int e257_5_42), z42_4, some (.int e257_5_42), z42_6]) (S' := []) (w' := w42) rfl ?_
        exact ih _ _ _ _ _ _ _ hs hE
      · replace hs := hs.2 h43
        refine tm_go 5 (pc' := 348) (L' := [some (.ref 127), z42_1, z42_2, some (.int x209_3), z42_4, some (.int e257_5_42), z42_6]) (S' := [.int e257_5_42, .ref 170, .ref 192]) (w' := w42) rfl ?_
        obtain ⟨b44, hs⟩ := hs
        refine tm_k (pc' := 349) (L' := [some (.ref 127), z42_1, z42_2, some (.int x209_3), z42_4, some (.int e257_5_42), z42_6]) (S' := [.int (w42.1 170 e257_5_42.toInt.toNat), .ref 192]) (w' := w42) rfl b44 ?_
        refine tm_go 5 (pc' := 355) (L' := [some (.ref 127), z42_1, z42_2, some (.int x209_3), z42_4, some (.int e257_5_42), z42_6]) (S' := [.int e257_5_42, .int (x209_3 ^^^ (1 : Int32)), .ref 127, .int (w42.1 170 e257_5_42.toInt.toNat), .ref 192]) (w' := w42) rfl ?_
        refine tm_c rfl (Nat.le_of_ble_eq_true rfl) (dm_Mo_needOf (d := d + 1) hs) (fun v w45 hq => ?_)
        obtain ⟨r45, rfl, hs⟩ := hq
        obtain ⟨b46, hs⟩ := hs
        refine tm_k (pc' := 359) (L' := [some (.ref 127), z42_1, z42_2, some (.int x209_3), z42_4, some (.int e257_5_42), z42_6]) (S' := []) (w' := (sI w45 192 ((w42.1 170 e257_5_42.toInt.toNat).toInt.toNat) r45)) rfl b46 ?_
        refine tm_go 3 (pc' := 209) (L' := [some (.ref 127), z42_1, (ksl z42_2), some (.int e257_5_42), z42_4, some (.int e257_5_42), z42_6]) (S' := []) (w' := (sI w45 192 ((w42.1 170 e257_5_42.toInt.toNat).toInt.toNat) r45)) rfl ?_
        exact ih _ _ _ _ _ _ _ hs hE
set_option maxHeartbeats 4000000 in
set_option maxRecDepth 100000 in
theorem dm_Mo_find {d : Nat} {w : MW} {a0 : Int32} {b0 : Int32} {Q : Int32 → MW → Prop} (hs : p_Mo_find w a0 b0 Q) : Tc (d + 4) 74 [.ref 127, .int a0, .int b0] w (RZ Q) := by
  unfold p_Mo_find at hs
  refine tm_go 5 (pc' := 7) (L' := [some (.ref 127), some (.int a0), some (.int b0), some (.int 0), none, none, none]) (S' := []) (w' := (sJ w 127 40 0)) rfl ?_
  refine tx_Mo_find_7 FU _ _ _ _ _ hs (fun  z6_3 z6_4 z6_5 z6_6 w6 hs => ?_)
  refine tm_go 2 (pc' := 68) (L' := [some (.ref 127), some (.int a0), some (.int b0), z6_3, z6_4, z6_5, z6_6]) (S' := [.int b0, .ref 127]) (w' := w6) rfl ?_
  refine tm_c rfl (Nat.le_of_ble_eq_true rfl) (dm_Mo_measure (d := d + 0) hs) (fun v w7 hq => ?_)
  obtain ⟨rfl, hs⟩ := hq
  refine tm_go 5 (pc' := 78) (L' := [some (.ref 127), some (.int a0), some (.int b0), some (.int 0), z6_4, z6_5, z6_6]) (S' := []) (w' := (sI w7 127 39 0)) rfl ?_
  refine tx_Mo_find_78 FU _ _ _ _ _ _ hs (fun  z10_2 z10_3 z10_4 z10_5 z10_6 w10 hs => ?_)
  refine tm_go 4 (pc' := 102) (L' := [some (.ref 127), some (.int a0), (ksl z10_2), some (.int (-1)), some (.int 0), z10_5, z10_6]) (S' := []) (w' := w10) rfl ?_
  refine tx_Mo_find_102 FU _ _ _ _ _ _ hs (fun e102_3_27 z27_1 z27_2 z27_4 z27_5 z27_6 w27 hs => ?_)
  refine tx_Mo_find_209 FU _ _ _ _ _ _ _ hs (fun  z47_1 z47_2 z47_3 z47_4 z47_5 z47_6 w47 hs => ?_)
  refine tm_go 2 (pc' := 369) (L' := [some (.ref 127), z47_1, z47_2, z47_3, z47_4, z47_5, z47_6]) (S' := [.int (w47.1 127 39)]) (w' := w47) rfl ?_
  refine tm_i (p1 := 376) (p2 := 372) rfl (fun h48 => ?_) (fun h48 => ?_)
  · replace hs := hs.1 h48
    refine tm_go 1 (pc' := 377) (L' := [some (.ref 127), z47_1, z47_2, z47_3, z47_4, z47_5, z47_6]) (S' := [.int 0]) (w' := w47) rfl ?_
    exact tm_r rfl ⟨_, rfl, by decide, hs⟩
  · replace hs := hs.2 h48
    refine tm_go 2 (pc' := 377) (L' := [some (.ref 127), z47_1, z47_2, z47_3, z47_4, z47_5, z47_6]) (S' := [.int 1]) (w' := w47) rfl ?_
    exact tm_r rfl ⟨_, rfl, by decide, hs⟩
set_option maxHeartbeats 4000000 in
set_option maxRecDepth 100000 in
theorem tx_Mo_openWay_2 {d : Nat} {x2_1 : Int32} {x2_2 : Int32} {E : MW → Prop} {Q : Int32 → MW → Prop} (n : Nat) : ∀ (x2_3 : Int32)   (w : MW), q_Mo_openWay_2 x2_1 x2_2 E Q n x2_3 w → (∀  (v0 : Option Value) (v1 : Option Value) (v2 : Option Value) (v3 : Option Value) (w : MW), E  w → Tm (d + 0) 75 38 [v0, v1, v2, v3] [] w (RI Q)) → Tm (d + 0) 75 2 [some (.ref 127), some (.int x2_1), some (.int x2_2), some (.int x2_3)] [] w (RI Q) := by
  induction n with
  | zero => intro x2_3  w hs; rw [q_Mo_openWay_2.eq_1] at hs; exact hs.elim
  | succ n ih =>
    intro x2_3  w hs hE
    rw [q_Mo_openWay_2.eq_2] at hs
    refine tm_go 3 (pc' := 7) (L' := [some (.ref 127), some (.int x2_1), some (.int x2_2), some (.int x2_3)]) (S' := [.int (w.1 127 26), .int x2_3]) (w' := w) rfl ?_
    refine tm_i (p1 := 38) (p2 := 10) rfl (fun h1 => ?_) (fun h1 => ?_)
    · replace hs := hs.1 h1
      exact hE _ _ _ _ _ hs
    · replace hs := hs.2 h1
      refine tm_go 3 (pc' := 15) (L' := [some (.ref 127), some (.int x2_1), some (.int x2_2), some (.int x2_3)]) (S' := [.int x2_3, .ref 181]) (w' := w) rfl ?_
      obtain ⟨b2, hs⟩ := hs
      refine tm_k (pc' := 16) (L' := [some (.ref 127), some (.int x2_1), some (.int x2_2), some (.int x2_3)]) (S' := [.int (w.1 181 x2_3.toInt.toNat)]) (w' := w) rfl b2 ?_
      refine tm_go 1 (pc' := 17) (L' := [some (.ref 127), some (.int x2_1), some (.int x2_2), some (.int x2_3)]) (S' := [.int x2_1, .int (w.1 181 x2_3.toInt.toNat)]) (w' := w) rfl ?_
      refine tm_i (p1 := 32) (p2 := 20) rfl (fun h3 => ?_) (fun h3 => ?_)
      · replace hs := hs.1 h3
        refine tm_go 2 (pc' := 2) (L' := [some (.ref 127), some (.int x2_1), some (.int x2_2), some (.int (x2_3 + (1 : Int32)))]) (S' := []) (w' := w) rfl ?_
        exact ih _ _ hs hE
      · replace hs := hs.2 h3
        refine tm_go 3 (pc' := 25) (L' := [some (.ref 127), some (.int x2_1), some (.int x2_2), some (.int x2_3)]) (S' := [.int x2_3, .ref 182]) (w' := w) rfl ?_
        obtain ⟨b4, hs⟩ := hs
        refine tm_k (pc' := 26) (L' := [some (.ref 127), some (.int x2_1), some (.int x2_2), some (.int x2_3)]) (S' := [.int (w.1 182 x2_3.toInt.toNat)]) (w' := w) rfl b4 ?_
        refine tm_go 1 (pc' := 27) (L' := [some (.ref 127), some (.int x2_1), some (.int x2_2), some (.int x2_3)]) (S' := [.int x2_2, .int (w.1 182 x2_3.toInt.toNat)]) (w' := w) rfl ?_
        refine tm_i (p1 := 32) (p2 := 30) rfl (fun h5 => ?_) (fun h5 => ?_)
        · replace hs := hs.1 h5
          refine tm_go 2 (pc' := 2) (L' := [some (.ref 127), some (.int x2_1), some (.int x2_2), some (.int (x2_3 + (1 : Int32)))]) (S' := []) (w' := w) rfl ?_
          exact ih _ _ hs hE
        · replace hs := hs.2 h5
          refine tm_go 1 (pc' := 31) (L' := [some (.ref 127), some (.int x2_1), some (.int x2_2), some (.int x2_3)]) (S' := [.int x2_3]) (w' := w) rfl ?_
          exact tm_r rfl ⟨_, rfl, hs⟩
set_option maxHeartbeats 4000000 in
set_option maxRecDepth 100000 in
theorem dm_Mo_openWay {d : Nat} {w : MW} {a0 : Int32} {b0 : Int32} {Q : Int32 → MW → Prop} (hs : p_Mo_openWay w a0 b0 Q) : Tc (d + 0) 75 [.ref 127, .int a0, .int b0] w (RI Q) := by
  unfold p_Mo_openWay at hs
  refine tm_go 2 (pc' := 2) (L' := [some (.ref 127), some (.int a0), some (.int b0), some (.int 0)]) (S' := []) (w' := w) rfl ?_
  refine tx_Mo_openWay_2 FU _ _ hs (fun  z6_0 z6_1 z6_2 z6_3 w6 hs => ?_)
  refine tm_go 1 (pc' := 39) (L' := [z6_0, z6_1, z6_2, z6_3]) (S' := [.int (-1)]) (w' := w6) rfl ?_
  exact tm_r rfl ⟨_, rfl, hs⟩
set_option maxHeartbeats 4000000 in
set_option maxRecDepth 100000 in
theorem tx_Mo_open_54 {d : Nat} {x54_1 : Int32} {x54_2 : Int32} {x54_3 : Int32} {x54_4 : Int32} {E : Int32 → MW → Prop} {Q : Int32 → MW → Prop} (n : Nat) : ∀ (x54_5 : Int32) (x54_6 : Int32)   (w : MW), q_Mo_open_54 x54_1 x54_2 x54_3 x54_4 E Q n x54_5 x54_6 w → (∀ (e54_5 : Int32)  (v6 : Option Value) (w : MW), E e54_5 w → Tm (d + 5) 76 104 [some (.ref 127), some (.int x54_1), some (.int x54_2), some (.int x54_3), some (.int x54_4), some (.int e54_5), v6] [] w (RI Q)) → Tm (d + 5) 76 54 [some (.ref 127), some (.int x54_1), some (.int x54_2), some (.int x54_3), some (.int x54_4), some (.int x54_5), some (.int x54_6)] [] w (RI Q) := by
  induction n with
  | zero => intro x54_5 x54_6  w hs; rw [q_Mo_open_54.eq_1] at hs; exact hs.elim
  | succ n ih =>
    intro x54_5 x54_6  w hs hE
    rw [q_Mo_open_54.eq_2] at hs
    refine tm_go 3 (pc' := 60) (L' := [some (.ref 127), some (.int x54_1), some (.int x54_2), some (.int x54_3), some (.int x54_4), some (.int x54_5), some (.int x54_6)]) (S' := [.int (w.1 127 39), .int x54_6]) (w' := w) rfl ?_
    refine tm_i (p1 := 104) (p2 := 63) rfl (fun h9 => ?_) (fun h9 => ?_)
    · replace hs := hs.1 h9
      exact hE _ _ _ hs
    · replace hs := hs.2 h9
      refine tm_go 1 (pc' := 65) (L' := [some (.ref 127), some (.int x54_1), some (.int x54_2), some (.int x54_3), some (.int x54_4), some (.int x54_5), some (.int x54_6)]) (S' := [.int x54_5]) (w' := w) rfl ?_
      refine tm_i (p1 := 95) (p2 := 68) rfl (fun h10 => ?_) (fun h10 => ?_)
      · replace hs := hs.1 h10
        refine tm_go 4 (pc' := 54) (L' := [some (.ref 127), some (.int x54_1), some (.int x54_2), some (.int x54_3), some (.int x54_4), some (.int 0), some (.int (x54_6 + (1 : Int32)))]) (S' := []) (w' := w) rfl ?_
        exact ih _ _ _ hs hE
      · replace hs := hs.2 h10
        refine tm_go 7 (pc' := 81) (L' := [some (.ref 127), some (.int x54_1), some (.int x54_2), some (.int x54_3), some (.int x54_4), some (.int x54_5), some (.int x54_6)]) (S' := [.int x54_6, .ref 191, .int (w.1 127 4), .int x54_4, .ref 127]) (w' := w) rfl ?_
        obtain ⟨b11, hs⟩ := hs
        refine tm_k (pc' := 82) (L' := [some (.ref 127), some (.int x54_1), some (.int x54_2), some (.int x54_3), some (.int x54_4), some (.int x54_5), some (.int x54_6)]) (S' := [.int (w.1 191 x54_6.toInt.toNat), .int (w.1 127 4), .int x54_4, .ref 127]) (w' := w) rfl b11 ?_
        refine tm_go 3 (pc' := 85) (L' := [some (.ref 127), some (.int x54_1), some (.int x54_2), some (.int x54_3), some (.int x54_4), some (.int x54_5), some (.int x54_6)]) (S' := [.int ((w.1 127 4) + ((w.1 191 x54_6.toInt.toNat) / (2 : Int32))), .int x54_4, .ref 127]) (w' := w) rfl ?_
        refine tm_c rfl (Nat.le_of_ble_eq_true rfl) (dm_Mo_mayCome (d := d + 2) hs) (fun v w12 hq => ?_)
        obtain ⟨r12, rfl, hz12, hs⟩ := hq
        refine tm_i (p1 := 95) (p2 := 91) rfl (fun h13 => ?_) (fun h13 => ?_)
        · replace hs := hs.1 h13
          refine tm_go 4 (pc' := 54) (L' := [some (.ref 127), some (.int x54_1), some (.int x54_2), some (.int x54_3), some (.int x54_4), some (.int 0), some (.int (x54_6 + (1 : Int32)))]) (S' := []) (w' := w12) rfl ?_
          exact ih _ _ _ hs hE
        · replace hs := hs.2 h13
          refine tm_go 5 (pc' := 54) (L' := [some (.ref 127), some (.int x54_1), some (.int x54_2), some (.int x54_3), some (.int x54_4), some (.int 1), some (.int (x54_6 + (1 : Int32)))]) (S' := []) (w' := w12) rfl ?_
          exact ih _ _ _ hs hE
set_option maxHeartbeats 4000000 in
set_option maxRecDepth 100000 in
theorem tx_Mo_open_127 {d : Nat} {x127_1 : Int32} {x127_2 : Int32} {x127_3 : Int32} {x127_4 : Int32} {E : MW → Prop} {Q : Int32 → MW → Prop} (n : Nat) : ∀ (x127_6 : Int32)  (z5 : Option Value) (w : MW), q_Mo_open_127 x127_1 x127_2 x127_3 x127_4 E Q n x127_6 w → (∀  (v5 : Option Value) (v6 : Option Value) (w : MW), E  w → Tm (d + 5) 76 163 [some (.ref 127), some (.int x127_1), some (.int x127_2), some (.int x127_3), some (.int x127_4), v5, v6] [] w (RI Q)) → Tm (d + 5) 76 127 [some (.ref 127), some (.int x127_1), some (.int x127_2), some (.int x127_3), some (.int x127_4), z5, some (.int x127_6)] [] w (RI Q) := by
  induction n with
  | zero => intro x127_6 z5 w hs; rw [q_Mo_open_127.eq_1] at hs; exact hs.elim
  | succ n ih =>
    intro x127_6 z5 w hs hE
    rw [q_Mo_open_127.eq_2] at hs
    refine tm_go 3 (pc' := 133) (L' := [some (.ref 127), some (.int x127_1), some (.int x127_2), some (.int x127_3), some (.int x127_4), z5, some (.int x127_6)]) (S' := [.int (w.1 127 39), .int x127_6]) (w' := w) rfl ?_
    refine tm_i (p1 := 163) (p2 := 136) rfl (fun h18 => ?_) (fun h18 => ?_)
    · replace hs := hs.1 h18
      exact hE _ _ _ hs
    · replace hs := hs.2 h18
      refine tm_go 7 (pc' := 150) (L' := [some (.ref 127), some (.int x127_1), some (.int x127_2), some (.int x127_3), some (.int x127_4), z5, some (.int x127_6)]) (S' := [.int x127_6, .ref 191, .int (w.1 127 4), .ref 194]) (w' := w) rfl ?_
      obtain ⟨b19, hs⟩ := hs
      refine tm_k (pc' := 151) (L' := [some (.ref 127), some (.int x127_1), some (.int x127_2), some (.int x127_3), some (.int x127_4), z5, some (.int x127_6)]) (S' := [.int (w.1 191 x127_6.toInt.toNat), .int (w.1 127 4), .ref 194]) (w' := w) rfl b19 ?_
      refine tm_go 4 (pc' := 156) (L' := [some (.ref 127), some (.int x127_1), some (.int x127_2), some (.int x127_3), some (.int x127_4), z5, some (.int x127_6)]) (S' := [.int x127_4, .int ((w.1 127 4) + ((w.1 191 x127_6.toInt.toNat) / (2 : Int32))), .ref 194]) (w' := w) rfl ?_
      obtain ⟨b20, hs⟩ := hs
      refine tm_k (pc' := 157) (L' := [some (.ref 127), some (.int x127_1), some (.int x127_2), some (.int x127_3), some (.int x127_4), z5, some (.int x127_6)]) (S' := []) (w' := (sI w 194 (((w.1 127 4) + ((w.1 191 x127_6.toInt.toNat) / (2 : Int32))).toInt.toNat) x127_4)) rfl b20 ?_
      refine tm_go 2 (pc' := 127) (L' := [some (.ref 127), some (.int x127_1), some (.int x127_2), some (.int x127_3), some (.int x127_4), (ksl z5), some (.int (x127_6 + (1 : Int32)))]) (S' := []) (w' := (sI w 194 (((w.1 127 4) + ((w.1 191 x127_6.toInt.toNat) / (2 : Int32))).toInt.toNat) x127_4)) rfl ?_
      exact ih _ _ _ hs hE
set_option maxHeartbeats 4000000 in
set_option maxRecDepth 100000 in
theorem tx_Mo_open_166 {d : Nat} {x166_1 : Int32} {x166_2 : Int32} {x166_3 : Int32} {x166_4 : Int32} {E : MW → Prop} {Q : Int32 → MW → Prop} (n : Nat) : ∀ (x166_6 : Int32)  (z5 : Option Value) (w : MW), q_Mo_open_166 x166_1 x166_2 x166_3 x166_4 E Q n x166_6 w → (∀  (v5 : Option Value) (v6 : Option Value) (w : MW), E  w → Tm (d + 5) 76 241 [some (.ref 127), some (.int x166_1), some (.int x166_2), some (.int x166_3), some (.int x166_4), v5, v6] [] w (RI Q)) → Tm (d + 5) 76 166 [some (.ref 127), some (.int x166_1), some (.int x166_2), some (.int x166_3), some (.int x166_4), z5, some (.int x166_6)] [] w (RI Q) := by
  induction n with
  | zero => intro x166_6 z5 w hs; rw [q_Mo_open_166.eq_1] at hs; exact hs.elim
  | succ n ih =>
    intro x166_6 z5 w hs hE
    rw [q_Mo_open_166.eq_2] at hs
    refine tm_go 3 (pc' := 172) (L' := [some (.ref 127), some (.int x166_1), some (.int x166_2), some (.int x166_3), some (.int x166_4), z5, some (.int x166_6)]) (S' := [.int (w.1 127 4), .int x166_6]) (w' := w) rfl ?_
    refine tm_i (p1 := 241) (p2 := 175) rfl (fun h22 => ?_) (fun h22 => ?_)
    · replace hs := hs.1 h22
      exact hE _ _ _ hs
    · replace hs := hs.2 h22
      refine tm_go 6 (pc' := 187) (L' := [some (.ref 127), some (.int x166_1), some (.int x166_2), some (.int x166_3), some (.int x166_4), z5, some (.int x166_6)]) (S' := [.int x166_6, .ref 167, .int x166_6, .ref 190]) (w' := w) rfl ?_
      obtain ⟨b23, hs⟩ := hs
      refine tm_k (pc' := 188) (L' := [some (.ref 127), some (.int x166_1), some (.int x166_2), some (.int x166_3), some (.int x166_4), z5, some (.int x166_6)]) (S' := [.int (w.1 167 x166_6.toInt.toNat), .int x166_6, .ref 190]) (w' := w) rfl b23 ?_
      obtain ⟨b24, hs⟩ := hs
      refine tm_k (pc' := 189) (L' := [some (.ref 127), some (.int x166_1), some (.int x166_2), some (.int x166_3), some (.int x166_4), z5, some (.int x166_6)]) (S' := []) (w' := (sI w 190 x166_6.toInt.toNat (w.1 167 x166_6.toInt.toNat))) rfl b24 ?_
      refine tm_go 6 (pc' := 201) (L' := [some (.ref 127), some (.int x166_1), some (.int x166_2), some (.int x166_3), some (.int x166_4), z5, some (.int x166_6)]) (S' := [.int x166_6, .ref 163, .int x166_6, .ref 167]) (w' := (sI w 190 x166_6.toInt.toNat (w.1 167 x166_6.toInt.toNat))) rfl ?_
      obtain ⟨b25, hs⟩ := hs
      refine tm_k (pc' := 202) (L' := [some (.ref 127), some (.int x166_1), some (.int x166_2), some (.int x166_3), some (.int x166_4), z5, some (.int x166_6)]) (S' := [.int (w.1 163 x166_6.toInt.toNat), .int x166_6, .ref 167]) (w' := (sI w 190 x166_6.toInt.toNat (w.1 167 x166_6.toInt.toNat))) rfl b25 ?_
      refine tm_go 1 (pc' := 203) (L' := [some (.ref 127), some (.int x166_1), some (.int x166_2), some (.int x166_3), some (.int x166_4), z5, some (.int x166_6)]) (S' := [.int 2, .int (w.1 163 x166_6.toInt.toNat), .int x166_6, .ref 167]) (w' := (sI w 190 x166_6.toInt.toNat (w.1 167 x166_6.toInt.toNat))) rfl ?_
      refine tm_i (p1 := 227) (p2 := 206) rfl (fun h26 => ?_) (fun h26 => ?_)
      · replace hs := hs.1 h26
        refine tm_go 3 (pc' := 233) (L' := [some (.ref 127), some (.int x166_1), some (.int x166_2), some (.int x166_3), some (.int x166_4), z5, some (.int x166_6)]) (S' := [.int x166_6, .ref 167, .int x166_6, .ref 167]) (w' := (sI w 190 x166_6.toInt.toNat (w.1 167 x166_6.toInt.toNat))) rfl ?_
        obtain ⟨b27, hs⟩ := hs
        refine tm_k (pc' := 234) (L' := [some (.ref 127), some (.int x166_1), some (.int x166_2), some (.int x166_3), some (.int x166_4), z5, some (.int x166_6)]) (S' := [.int (w.1 167 x166_6.toInt.toNat), .int x166_6, .ref 167]) (w' := (sI w 190 x166_6.toInt.toNat (w.1 167 x166_6.toInt.toNat))) rfl b27 ?_
        obtain ⟨b28, hs⟩ := hs
        refine tm_k (pc' := 235) (L' := [some (.ref 127), some (.int x166_1), some (.int x166_2), some (.int x166_3), some (.int x166_4), z5, some (.int x166_6)]) (S' := []) (w' := (sI (sI w 190 x166_6.toInt.toNat (w.1 167 x166_6.toInt.toNat)) 167 x166_6.toInt.toNat (w.1 167 x166_6.toInt.toNat))) rfl b28 ?_
        refine tm_go 2 (pc' := 166) (L' := [some (.ref 127), some (.int x166_1), some (.int x166_2), some (.int x166_3), some (.int x166_4), (ksl z5), some (.int (x166_6 + (1 : Int32)))]) (S' := []) (w' := (sI (sI w 190 x166_6.toInt.toNat (w.1 167 x166_6.toInt.toNat)) 167 x166_6.toInt.toNat (w.1 167 x166_6.toInt.toNat))) rfl ?_
        exact ih _ _ _ hs hE
      · replace hs := hs.2 h26
        refine tm_go 3 (pc' := 212) (L' := [some (.ref 127), some (.int x166_1), some (.int x166_2), some (.int x166_3), some (.int x166_4), z5, some (.int x166_6)]) (S' := [.int x166_6, .ref 192, .int x166_6, .ref 167]) (w' := (sI w 190 x166_6.toInt.toNat (w.1 167 x166_6.toInt.toNat))) rfl ?_
        obtain ⟨b29, hs⟩ := hs
        refine tm_k (pc' := 213) (L' := [some (.ref 127), some (.int x166_1), some (.int x166_2), some (.int x166_3), some (.int x166_4), z5, some (.int x166_6)]) (S' := [.int (w.1 192 x166_6.toInt.toNat), .int x166_6, .ref 167]) (w' := (sI w 190 x166_6.toInt.toNat (w.1 167 x166_6.toInt.toNat))) rfl b29 ?_
        refine tm_go 1 (pc' := 214) (L' := [some (.ref 127), some (.int x166_1), some (.int x166_2), some (.int x166_3), some (.int x166_4), z5, some (.int x166_6)]) (S' := [.int (-1), .int (w.1 192 x166_6.toInt.toNat), .int x166_6, .ref 167]) (w' := (sI w 190 x166_6.toInt.toNat (w.1 167 x166_6.toInt.toNat))) rfl ?_
        refine tm_i (p1 := 227) (p2 := 217) rfl (fun h30 => ?_) (fun h30 => ?_)
        · replace hs := hs.1 h30
          refine tm_go 3 (pc' := 233) (L' := [some (.ref 127), some (.int x166_1), some (.int x166_2), some (.int x166_3), some (.int x166_4), z5, some (.int x166_6)]) (S' := [.int x166_6, .ref 167, .int x166_6, .ref 167]) (w' := (sI w 190 x166_6.toInt.toNat (w.1 167 x166_6.toInt.toNat))) rfl ?_
          obtain ⟨b31, hs⟩ := hs
          refine tm_k (pc' := 234) (L' := [some (.ref 127), some (.int x166_1), some (.int x166_2), some (.int x166_3), some (.int x166_4), z5, some (.int x166_6)]) (S' := [.int (w.1 167 x166_6.toInt.toNat), .int x166_6, .ref 167]) (w' := (sI w 190 x166_6.toInt.toNat (w.1 167 x166_6.toInt.toNat))) rfl b31 ?_
          obtain ⟨b32, hs⟩ := hs
          refine tm_k (pc' := 235) (L' := [some (.ref 127), some (.int x166_1), some (.int x166_2), some (.int x166_3), some (.int x166_4), z5, some (.int x166_6)]) (S' := []) (w' := (sI (sI w 190 x166_6.toInt.toNat (w.1 167 x166_6.toInt.toNat)) 167 x166_6.toInt.toNat (w.1 167 x166_6.toInt.toNat))) rfl b32 ?_
          refine tm_go 2 (pc' := 166) (L' := [some (.ref 127), some (.int x166_1), some (.int x166_2), some (.int x166_3), some (.int x166_4), (ksl z5), some (.int (x166_6 + (1 : Int32)))]) (S' := []) (w' := (sI (sI w 190 x166_6.toInt.toNat (w.1 167 x166_6.toInt.toNat)) 167 x166_6.toInt.toNat (w.1 167 x166_6.toInt.toNat))) rfl ?_
          exact ih _ _ _ hs hE
        · replace hs := hs.2 h30
          refine tm_go 3 (pc' := 223) (L' := [some (.ref 127), some (.int x166_1), some (.int x166_2), some (.int x166_3), some (.int x166_4), z5, some (.int x166_6)]) (S' := [.int x166_6, .ref 192, .int x166_6, .ref 167]) (w' := (sI w 190 x166_6.toInt.toNat (w.1 167 x166_6.toInt.toNat))) rfl ?_
          obtain ⟨b33, hs⟩ := hs
          refine tm_k (pc' := 224) (L' := [some (.ref 127), some (.int x166_1), some (.int x166_2), some (.int x166_3), some (.int x166_4), z5, some (.int x166_6)]) (S' := [.int (w.1 192 x166_6.toInt.toNat), .int x166_6, .ref 167]) (w' := (sI w 190 x166_6.toInt.toNat (w.1 167 x166_6.toInt.toNat))) rfl b33 ?_
          refine tm_go 1 (pc' := 234) (L' := [some (.ref 127), some (.int x166_1), some (.int x166_2), some (.int x166_3), some (.int x166_4), z5, some (.int x166_6)]) (S' := [.int (w.1 192 x166_6.toInt.toNat), .int x166_6, .ref 167]) (w' := (sI w 190 x166_6.toInt.toNat (w.1 167 x166_6.toInt.toNat))) rfl ?_
          obtain ⟨b34, hs⟩ := hs
          refine tm_k (pc' := 235) (L' := [some (.ref 127), some (.int x166_1), some (.int x166_2), some (.int x166_3), some (.int x166_4), z5, some (.int x166_6)]) (S' := []) (w' := (sI (sI w 190 x166_6.toInt.toNat (w.1 167 x166_6.toInt.toNat)) 167 x166_6.toInt.toNat (w.1 192 x166_6.toInt.toNat))) rfl b34 ?_
          refine tm_go 2 (pc' := 166) (L' := [some (.ref 127), some (.int x166_1), some (.int x166_2), some (.int x166_3), some (.int x166_4), (ksl z5), some (.int (x166_6 + (1 : Int32)))]) (S' := []) (w' := (sI (sI w 190 x166_6.toInt.toNat (w.1 167 x166_6.toInt.toNat)) 167 x166_6.toInt.toNat (w.1 192 x166_6.toInt.toNat))) rfl ?_
          exact ih _ _ _ hs hE
set_option maxHeartbeats 4000000 in
set_option maxRecDepth 100000 in
theorem tx_Mo_open_340 {d : Nat} {E : MW → Prop} {Q : Int32 → MW → Prop} (n : Nat) : ∀ (x340_6 : Int32)  (z1 : Option Value) (z2 : Option Value) (z3 : Option Value) (z4 : Option Value) (z5 : Option Value) (w : MW), q_Mo_open_340  E Q n x340_6 w → (∀  (v1 : Option Value) (v2 : Option Value) (v3 : Option Value) (v4 : Option Value) (v5 : Option Value) (v6 : Option Value) (w : MW), E  w → Tm (d + 5) 76 377 [some (.ref 127), v1, v2, v3, v4, v5, v6] [] w (RI Q)) → Tm (d + 5) 76 340 [some (.ref 127), z1, z2, z3, z4, z5, some (.int x340_6)] [] w (RI Q) := by
  induction n with
  | zero => intro x340_6 z1 z2 z3 z4 z5 w hs; rw [q_Mo_open_340.eq_1] at hs; exact hs.elim
  | succ n ih =>
    intro x340_6 z1 z2 z3 z4 z5 w hs hE
    rw [q_Mo_open_340.eq_2] at hs
    refine tm_go 3 (pc' := 346) (L' := [some (.ref 127), z1, z2, z3, z4, z5, some (.int x340_6)]) (S' := [.int (w.1 127 39), .int x340_6]) (w' := w) rfl ?_
    refine tm_i (p1 := 377) (p2 := 349) rfl (fun h43 => ?_) (fun h43 => ?_)
    · replace hs := hs.1 h43
      exact hE _ _ _ _ _ _ _ hs
    · replace hs := hs.2 h43
      refine tm_go 11 (pc' := 369) (L' := [some (.ref 127), z1, z2, z3, z4, z5, some (.int x340_6)]) (S' := [.int x340_6, .ref 191, .int (((24 : Int32) * (w.1 127 26)) + x340_6), .ref 186]) (w' := w) rfl ?_
      obtain ⟨b44, hs⟩ := hs
      refine tm_k (pc' := 370) (L' := [some (.ref 127), z1, z2, z3, z4, z5, some (.int x340_6)]) (S' := [.int (w.1 191 x340_6.toInt.toNat), .int (((24 : Int32) * (w.1 127 26)) + x340_6), .ref 186]) (w' := w) rfl b44 ?_
      obtain ⟨b45, hs⟩ := hs
      refine tm_k (pc' := 371) (L' := [some (.ref 127), z1, z2, z3, z4, z5, some (.int x340_6)]) (S' := []) (w' := (sI w 186 ((((24 : Int32) * (w.1 127 26)) + x340_6).toInt.toNat) (w.1 191 x340_6.toInt.toNat))) rfl b45 ?_
      refine tm_go 2 (pc' := 340) (L' := [some (.ref 127), z1, z2, z3, z4, (ksl z5), some (.int (x340_6 + (1 : Int32)))]) (S' := []) (w' := (sI w 186 ((((24 : Int32) * (w.1 127 26)) + x340_6).toInt.toNat) (w.1 191 x340_6.toInt.toNat))) rfl ?_
      exact ih _ _ _ _ _ _ _ hs hE
set_option maxHeartbeats 4000000 in
set_option maxRecDepth 100000 in
theorem tx_Mo_open_380 {d : Nat} {E : MW → Prop} {Q : Int32 → MW → Prop} (n : Nat) : ∀ (x380_6 : Int32)  (z1 : Option Value) (z2 : Option Value) (z3 : Option Value) (z4 : Option Value) (z5 : Option Value) (w : MW), q_Mo_open_380  E Q n x380_6 w → (∀  (v1 : Option Value) (v2 : Option Value) (v3 : Option Value) (v4 : Option Value) (v5 : Option Value) (v6 : Option Value) (w : MW), E  w → Tm (d + 5) 76 428 [some (.ref 127), v1, v2, v3, v4, v5, v6] [] w (RI Q)) → Tm (d + 5) 76 380 [some (.ref 127), z1, z2, z3, z4, z5, some (.int x380_6)] [] w (RI Q) := by
  induction n with
  | zero => intro x380_6 z1 z2 z3 z4 z5 w hs; rw [q_Mo_open_380.eq_1] at hs; exact hs.elim
  | succ n ih =>
    intro x380_6 z1 z2 z3 z4 z5 w hs hE
    rw [q_Mo_open_380.eq_2] at hs
    refine tm_go 2 (pc' := 384) (L' := [some (.ref 127), z1, z2, z3, z4, z5, some (.int x380_6)]) (S' := [.int 20, .int x380_6]) (w' := w) rfl ?_
    refine tm_i (p1 := 428) (p2 := 387) rfl (fun h47 => ?_) (fun h47 => ?_)
    · replace hs := hs.1 h47
      exact hE _ _ _ _ _ _ _ hs
    · replace hs := hs.2 h47
      refine tm_go 11 (pc' := 407) (L' := [some (.ref 127), z1, z2, z3, z4, z5, some (.int x380_6)]) (S' := [.int (w.1 127 4), .int x380_6, .int (((20 : Int32) * (w.1 127 26)) + x380_6), .ref 187]) (w' := w) rfl ?_
      refine tm_i (p1 := 420) (p2 := 410) rfl (fun h48 => ?_) (fun h48 => ?_)
      · replace hs := hs.1 h48
        refine tm_go 1 (pc' := 421) (L' := [some (.ref 127), z1, z2, z3, z4, z5, some (.int x380_6)]) (S' := [.int (-1), .int (((20 : Int32) * (w.1 127 26)) + x380_6), .ref 187]) (w' := w) rfl ?_
        obtain ⟨b49, hs⟩ := hs
        refine tm_k (pc' := 422) (L' := [some (.ref 127), z1, z2, z3, z4, z5, some (.int x380_6)]) (S' := []) (w' := (sI w 187 ((((20 : Int32) * (w.1 127 26)) + x380_6).toInt.toNat) (-1))) rfl b49 ?_
        refine tm_go 2 (pc' := 380) (L' := [some (.ref 127), z1, z2, z3, z4, (ksl z5), some (.int (x380_6 + (1 : Int32)))]) (S' := []) (w' := (sI w 187 ((((20 : Int32) * (w.1 127 26)) + x380_6).toInt.toNat) (-1))) rfl ?_
        exact ih _ _ _ _ _ _ _ hs hE
      · replace hs := hs.2 h48
        refine tm_go 3 (pc' := 416) (L' := [some (.ref 127), z1, z2, z3, z4, z5, some (.int x380_6)]) (S' := [.int x380_6, .ref 192, .int (((20 : Int32) * (w.1 127 26)) + x380_6), .ref 187]) (w' := w) rfl ?_
        obtain ⟨b50, hs⟩ := hs
        refine tm_k (pc' := 417) (L' := [some (.ref 127), z1, z2, z3, z4, z5, some (.int x380_6)]) (S' := [.int (w.1 192 x380_6.toInt.toNat), .int (((20 : Int32) * (w.1 127 26)) + x380_6), .ref 187]) (w' := w) rfl b50 ?_
        refine tm_go 1 (pc' := 421) (L' := [some (.ref 127), z1, z2, z3, z4, z5, some (.int x380_6)]) (S' := [.int (w.1 192 x380_6.toInt.toNat), .int (((20 : Int32) * (w.1 127 26)) + x380_6), .ref 187]) (w' := w) rfl ?_
        obtain ⟨b51, hs⟩ := hs
        refine tm_k (pc' := 422) (L' := [some (.ref 127), z1, z2, z3, z4, z5, some (.int x380_6)]) (S' := []) (w' := (sI w 187 ((((20 : Int32) * (w.1 127 26)) + x380_6).toInt.toNat) (w.1 192 x380_6.toInt.toNat))) rfl b51 ?_
        refine tm_go 2 (pc' := 380) (L' := [some (.ref 127), z1, z2, z3, z4, (ksl z5), some (.int (x380_6 + (1 : Int32)))]) (S' := []) (w' := (sI w 187 ((((20 : Int32) * (w.1 127 26)) + x380_6).toInt.toNat) (w.1 192 x380_6.toInt.toNat))) rfl ?_
        exact ih _ _ _ _ _ _ _ hs hE
set_option maxHeartbeats 4000000 in
set_option maxRecDepth 100000 in
theorem tx_Mo_open_251 {d : Nat} {E : MW → Prop} {Q : Int32 → MW → Prop} (n : Nat) : ∀ (x251_6 : Int32)  (z1 : Option Value) (z2 : Option Value) (z3 : Option Value) (z4 : Option Value) (z5 : Option Value) (w : MW), q_Mo_open_251  E Q n x251_6 w → (∀  (v0 : Option Value) (v1 : Option Value) (v2 : Option Value) (v3 : Option Value) (v4 : Option Value) (v5 : Option Value) (v6 : Option Value) (w : MW), E  w → Tm (d + 5) 76 280 [v0, v1, v2, v3, v4, v5, v6] [] w (RI Q)) → Tm (d + 5) 76 251 [some (.ref 127), z1, z2, z3, z4, z5, some (.int x251_6)] [] w (RI Q) := by
  induction n with
  | zero => intro x251_6 z1 z2 z3 z4 z5 w hs; rw [q_Mo_open_251.eq_1] at hs; exact hs.elim
  | succ n ih =>
    intro x251_6 z1 z2 z3 z4 z5 w hs hE
    rw [q_Mo_open_251.eq_2] at hs
    refine tm_go 3 (pc' := 257) (L' := [some (.ref 127), z1, z2, z3, z4, z5, some (.int x251_6)]) (S' := [.int (w.1 127 4), .int x251_6]) (w' := w) rfl ?_
    refine tm_i (p1 := 280) (p2 := 260) rfl (fun h53 => ?_) (fun h53 => ?_)
    · replace hs := hs.1 h53
      exact hE _ _ _ _ _ _ _ _ hs
    · replace hs := hs.2 h53
      refine tm_go 6 (pc' := 272) (L' := [some (.ref 127), z1, z2, z3, z4, z5, some (.int x251_6)]) (S' := [.int x251_6, .ref 190, .int x251_6, .ref 167]) (w' := w) rfl ?_
      obtain ⟨b54, hs⟩ := hs
      refine tm_k (pc' := 273) (L' := [some (.ref 127), z1, z2, z3, z4, z5, some (.int x251_6)]) (S' := [.int (w.1 190 x251_6.toInt.toNat), .int x251_6, .ref 167]) (w' := w) rfl b54 ?_
      obtain ⟨b55, hs⟩ := hs
      refine tm_k (pc' := 274) (L' := [some (.ref 127), z1, z2, z3, z4, z5, some (.int x251_6)]) (S' := []) (w' := (sI w 167 x251_6.toInt.toNat (w.1 190 x251_6.toInt.toNat))) rfl b55 ?_
      refine tm_go 2 (pc' := 251) (L' := [some (.ref 127), z1, z2, z3, z4, (ksl z5), some (.int (x251_6 + (1 : Int32)))]) (S' := []) (w' := (sI w 167 x251_6.toInt.toNat (w.1 190 x251_6.toInt.toNat))) rfl ?_
      exact ih _ _ _ _ _ _ _ hs hE
set_option maxHeartbeats 4000000 in
set_option maxRecDepth 100000 in
theorem dm_Mo_open {d : Nat} {w : MW} {a0 : Int32} {b0 : Int32} {c0 : Int32} {Q : Int32 → MW → Prop} (hs : p_Mo_open w a0 b0 c0 Q) : Tc (d + 5) 76 [.ref 127, .int a0, .int b0, .int c0] w (RI Q) := by
  unfold p_Mo_open at hs
  refine tm_go 3 (pc' := 3) (L' := [some (.ref 127), some (.int a0), some (.int b0), some (.int c0), none, none, none]) (S' := [.int b0, .int a0, .ref 127]) (w' := w) rfl ?_
  refine tm_c rfl (Nat.le_of_ble_eq_true rfl) (dm_Mo_openWay (d := d + 4) hs) (fun v w1 hq => ?_)
  obtain ⟨r1, rfl, hs⟩ := hq
  refine tm_go 1 (pc' := 7) (L' := [some (.ref 127), some (.int a0), some (.int b0), some (.int c0), none, none, none]) (S' := [.int (-1), .int r1]) (w' := w1) rfl ?_
  refine tm_i (p1 := 12) (p2 := 10) rfl (fun h2 => ?_) (fun h2 => ?_)
  · replace hs := hs.1 h2
    refine tm_go 3 (pc' := 17) (L' := [some (.ref 127), some (.int a0), some (.int b0), some (.int c0), none, none, none]) (S' := [.int a0, .ref 165]) (w' := w1) rfl ?_
    obtain ⟨b3, hs⟩ := hs
    refine tm_k (pc' := 18) (L' := [some (.ref 127), some (.int a0), some (.int b0), some (.int c0), none, none, none]) (S' := [.int (w1.1 165 a0.toInt.toNat)]) (w' := w1) rfl b3 ?_
    refine tm_i (p1 := 23) (p2 := 21) rfl (fun h4 => ?_) (fun h4 => ?_)
    · replace hs := hs.1 h4
      refine tm_go 3 (pc' := 26) (L' := [some (.ref 127), some (.int a0), some (.int b0), some (.int c0), none, none, none]) (S' := [.int b0, .int a0, .ref 127]) (w' := w1) rfl ?_
      refine tm_c rfl (Nat.le_of_ble_eq_true rfl) (dm_Mo_find (d := d + 0) hs) (fun v w5 hq => ?_)
      obtain ⟨r5, rfl, hz5, hs⟩ := hq
      refine tm_i (p1 := 34) (p2 := 32) rfl (fun h6 => ?_) (fun h6 => ?_)
      · replace hs := hs.1 h6
        refine tm_go 3 (pc' := 39) (L' := [some (.ref 127), some (.int a0), some (.int b0), some (.int c0), none, none, none]) (S' := [.int a0, .ref 166]) (w' := w5) rfl ?_
        obtain ⟨b7, hs⟩ := hs
        refine tm_k (pc' := 40) (L' := [some (.ref 127), some (.int a0), some (.int b0), some (.int c0), none, none, none]) (S' := [.int (w5.1 166 a0.toInt.toNat)]) (w' := w5) rfl b7 ?_
        refine tm_go 4 (pc' := 46) (L' := [some (.ref 127), some (.int a0), some (.int b0), some (.int c0), some (.int (w5.1 166 a0.toInt.toNat)), none, none]) (S' := [.int b0, .int (w5.1 166 a0.toInt.toNat), .ref 127]) (w' := w5) rfl ?_
        refine tm_c rfl (Nat.le_of_ble_eq_true rfl) (dm_Mo_mayCome (d := d + 2) hs) (fun v w8 hq => ?_)
        obtain ⟨r8, rfl, hz8, hs⟩ := hq
        refine tm_go 3 (pc' := 54) (L' := [some (.ref 127), some (.int a0), some (.int b0), some (.int c0), some (.int (w5.1 166 a0.toInt.toNat)), some (.int r8), some (.int 0)]) (S' := []) (w' := w8) rfl ?_
        refine tx_Mo_open_54 FU _ _ _ hs (fun e54_5_14 z14_6 w14 hs => ?_)
        refine tm_go 1 (pc' := 106) (L' := [some (.ref 127), some (.int a0), some (.int b0), some (.int c0), some (.int (w5.1 166 a0.toInt.toNat)), some (.int e54_5_14), z14_6]) (S' := [.int e54_5_14]) (w' := w14) rfl ?_
        refine tm_i (p1 := 112) (p2 := 109) rfl (fun h15 => ?_) (fun h15 => ?_)
        · replace hs := hs.1 h15
          refine tm_go 1 (pc' := 113) (L' := [some (.ref 127), some (.int a0), some (.int b0), some (.int c0), some (.int (w5.1 166 a0.toInt.toNat)), some (.int e54_5_14), z14_6]) (S' := [.ref 127]) (w' := w14) rfl ?_
          refine tm_c rfl (Nat.le_of_ble_eq_true rfl) (dm_Mo_look (d := d + 3) hs) (fun v w16 hq => ?_)
          obtain ⟨rfl, hs⟩ := hq
          refine tm_go 4 (pc' := 123) (L' := [some (.ref 127), some (.int a0), some (.int b0), some (.int c0), some (.int (w5.1 166 a0.toInt.toNat)), some (.int e54_5_14), z14_6]) (S' := [.int (w5.1 166 a0.toInt.toNat), .int b0, .ref 194]) (w' := w16) rfl ?_
          obtain ⟨b17, hs⟩ := hs
          refine tm_k (pc' := 124) (L' := [some (.ref 127), some (.int a0), some (.int b0), some (.int c0), some (.int (w5.1 166 a0.toInt.toNat)), some (.int e54_5_14), z14_6]) (S' := []) (w' := (sI w16 194 b0.toInt.toNat (w5.1 166 a0.toInt.toNat))) rfl b17 ?_
          refine tm_go 2 (pc' := 127) (L' := [some (.ref 127), some (.int a0), some (.int b0), some (.int c0), some (.int (w5.1 166 a0.toInt.toNat)), some (.int e54_5_14), some (.int 0)]) (S' := []) (w' := (sI w16 194 b0.toInt.toNat (w5.1 166 a0.toInt.toNat))) rfl ?_
          refine tx_Mo_open_127 FU _ _ _ hs (fun  z21_5 z21_6 w21 hs => ?_)
          refine tm_go 2 (pc' := 166) (L' := [some (.ref 127), some (.int a0), some (.int b0), some (.int c0), some (.int (w5.1 166 a0.toInt.toNat)), (ksl z21_5), some (.int 0)]) (S' := []) (w' := w21) rfl ?_
          refine tx_Mo_open_166 FU _ _ _ hs (fun  z35_5 z35_6 w35 hs => ?_)
          refine tm_go 1 (pc' := 242) (L' := [some (.ref 127), some (.int a0), some (.int b0), some (.int c0), some (.int (w5.1 166 a0.toInt.toNat)), z35_5, z35_6]) (S' := [.ref 127]) (w' := w35) rfl ?_
          refine tm_c rfl (Nat.le_of_ble_eq_true rfl) (dm_Mo_isSafe (d := d + 1) hs) (fun v w36 hq => ?_)
          obtain ⟨r36, rfl, hz36, hs⟩ := hq
          refine tm_i (p1 := 283) (p2 := 248) rfl (fun h37 => ?_) (fun h37 => ?_)
          · replace hs := hs.1 h37
            refine tm_go 5 (pc' := 292) (L' := [some (.ref 127), some (.int a0), some (.int b0), some (.int c0), some (.int (w5.1 166 a0.toInt.toNat)), z35_5, z35_6]) (S' := [.int a0, .int (w36.1 127 26), .ref 181]) (w' := w36) rfl ?_
            obtain ⟨b38, hs⟩ := hs
            refine tm_k (pc' := 293) (L' := [some (.ref 127), some (.int a0), some (.int b0), some (.int c0), some (.int (w5.1 166 a0.toInt.toNat)), z35_5, z35_6]) (S' := []) (w' := (sI w36 181 ((w36.1 127 26).toInt.toNat) a0)) rfl b38 ?_
            refine tm_go 5 (pc' := 302) (L' := [some (.ref 127), some (.int a0), some (.int b0), some (.int c0), some (.int (w5.1 166 a0.toInt.toNat)), z35_5, z35_6]) (S' := [.int b0, .int (w36.1 127 26), .ref 182]) (w' := (sI w36 181 ((w36.1 127 26).toInt.toNat) a0)) rfl ?_
            obtain ⟨b39, hs⟩ := hs
            refine tm_k (pc' := 303) (L' := [some (.ref 127), some (.int a0), some (.int b0), some (.int c0), some (.int (w5.1 166 a0.toInt.toNat)), z35_5, z35_6]) (S' := []) (w' := (sI (sI w36 181 ((w36.1 127 26).toInt.toNat) a0) 182 ((w36.1 127 26).toInt.toNat) b0)) rfl b39 ?_
            refine tm_go 5 (pc' := 313) (L' := [some (.ref 127), some (.int a0), some (.int b0), some (.int c0), some (.int (w5.1 166 a0.toInt.toNat)), z35_5, z35_6]) (S' := [.int (w5.1 166 a0.toInt.toNat), .int (w36.1 127 26), .ref 183]) (w' := (sI (sI w36 181 ((w36.1 127 26).toInt.toNat) a0) 182 ((w36.1 127 26).toInt.toNat) b0)) rfl ?_
            obtain ⟨b40, hs⟩ := hs
            refine tm_k (pc' := 314) (L' := [some (.ref 127), some (.int a0), some (.int b0), some (.int c0), some (.int (w5.1 166 a0.toInt.toNat)), z35_5, z35_6]) (S' := []) (w' := (sI (sI (sI w36 181 ((w36.1 127 26).toInt.toNat) a0) 182 ((w36.1 127 26).toInt.toNat) b0) 183 ((w36.1 127 26).toInt.toNat) (w5.1 166 a0.toInt.toNat))) rfl b40 ?_
            refine tm_go 5 (pc' := 323) (L' := [some (.ref 127), some (.int a0), some (.int b0), some (.int c0), some (.int (w5.1 166 a0.toInt.toNat)), z35_5, z35_6]) (S' := [.int c0, .int (w36.1 127 26), .ref 184]) (w' := (sI (sI (sI w36 181 ((w36.1 127 26).toInt.toNat) a0) 182 ((w36.1 127 26).toInt.toNat) b0) 183 ((w36.1 127 26).toInt.toNat) (w5.1 166 a0.toInt.toNat))) rfl ?_
            obtain ⟨b41, hs⟩ := hs
            refine tm_k (pc' := 324) (L' := [some (.ref 127), some (.int a0), some (.int b0), some (.int c0), some (.int (w5.1 166 a0.toInt.toNat)), z35_5, z35_6]) (S' := []) (w' := (sI (sI (sI (sI w36 181 ((w36.1 127 26).toInt.toNat) a0) 182 ((w36.1 127 26).toInt.toNat) b0) 183 ((w36.1 127 26).toInt.toNat) (w5.1 166 a0.toInt.toNat)) 184 ((w36.1 127 26).toInt.toNat) c0)) rfl b41 ?_
            refine tm_go 6 (pc' := 336) (L' := [some (.ref 127), some (.int a0), some (.int b0), some (.int c0), some (.int (w5.1 166 a0.toInt.toNat)), z35_5, z35_6]) (S' := [.int (w36.1 127 39), .int (w36.1 127 26), .ref 185]) (w' := (sI (sI (sI (sI w36 181 ((w36.1 127 26).toInt.toNat) a0) 182 ((w36.1 127 26).toInt.toNat) b0) 183 ((w36.1 127 26).toInt.toNat) (w5.1 166 a0.toInt.toNat)) 184 ((w36.1 127 26).toInt.toNat) c0)) rfl ?_
            obtain ⟨b42, hs⟩ := hs
            refine tm_k (pc' := 337) (L' := [some (.ref 127), some (.int a0), some (.int b0), some (.int c0), some (.int (w5.1 166 a0.toInt.toNat)), z35_5, z35_6]) (S' := []) (w' := (sI (sI (sI (sI (sI w36 181 ((w36.1 127 26).toInt.toNat) a0) 182 ((w36.1 127 26).toInt.toNat) b0) 183 ((w36.1 127 26).toInt.toNat) (w5.1 166 a0.toInt.toNat)) 184 ((w36.1 127 26).toInt.toNat) c0) 185 ((w36.1 127 26).toInt.toNat) (w36.1 127 39))) rfl b42 ?_
            refine tm_go 2 (pc' := 340) (L' := [some (.ref 127), some (.int a0), some (.int b0), some (.int c0), some (.int (w5.1 166 a0.toInt.toNat)), (ksl z35_5), some (.int 0)]) (S' := []) (w' := (sI (sI (sI (sI (sI w36 181 ((w36.1 127 26).toInt.toNat) a0) 182 ((w36.1 127 26).toInt.toNat) b0) 183 ((w36.1 127 26).toInt.toNat) (w5.1 166 a0.toInt.toNat)) 184 ((w36.1 127 26).toInt.toNat) c0) 185 ((w36.1 127 26).toInt.toNat) (w36.1 127 39))) rfl ?_
            refine tx_Mo_open_340 FU _ _ _ _ _ _ _ hs (fun  z46_1 z46_2 z46_3 z46_4 z46_5 z46_6 w46 hs => ?_)
            refine tm_go 2 (pc' := 380) (L' := [some (.ref 127), z46_1, z46_2, z46_3, z46_4, (ksl z46_5), some (.int 0)]) (S' := []) (w' := w46) rfl ?_
            refine tx_Mo_open_380 FU _ _ _ _ _ _ _ hs (fun  z52_1 z52_2 z52_3 z52_4 z52_5 z52_6 w52 hs => ?_)
            refine tm_go 7 (pc' := 439) (L' := [some (.ref 127), z52_1, z52_2, z52_3, z52_4, z52_5, z52_6]) (S' := [.int 0]) (w' := (sI w52 127 26 ((w52.1 127 26) + (1 : Int32)))) rfl ?_
            exact tm_r rfl ⟨_, rfl, hs⟩
          · replace hs := hs.2 h37
            refine tm_go 2 (pc' := 251) (L' := [some (.ref 127), some (.int a0), some (.int b0), some (.int c0), some (.int (w5.1 166 a0.toInt.toNat)), (ksl z35_5), some (.int 0)]) (S' := []) (w' := w36) rfl ?_
            refine tx_Mo_open_251 FU _ _ _ _ _ _ _ hs (fun  z56_0 z56_1 z56_2 z56_3 z56_4 z56_5 z56_6 w56 hs => ?_)
            refine tm_go 1 (pc' := 282) (L' := [z56_0, z56_1, z56_2, z56_3, z56_4, z56_5, z56_6]) (S' := [.int 7]) (w' := w56) rfl ?_
            exact tm_r rfl ⟨_, rfl, hs⟩
        · replace hs := hs.2 h15
          refine tm_go 1 (pc' := 111) (L' := [some (.ref 127), some (.int a0), some (.int b0), some (.int c0), some (.int (w5.1 166 a0.toInt.toNat)), some (.int e54_5_14), z14_6]) (S' := [.int 6]) (w' := w14) rfl ?_
          exact tm_r rfl ⟨_, rfl, hs⟩
      · replace hs := hs.2 h6
        refine tm_go 1 (pc' := 33) (L' := [some (.ref 127), some (.int a0), some (.int b0), some (.int c0), none, none, none]) (S' := [.int 5]) (w' := w5) rfl ?_
        exact tm_r rfl ⟨_, rfl, hs⟩
    · replace hs := hs.2 h4
      refine tm_go 1 (pc' := 22) (L' := [some (.ref 127), some (.int a0), some (.int b0), some (.int c0), none, none, none]) (S' := [.int 4]) (w' := w1) rfl ?_
      exact tm_r rfl ⟨_, rfl, hs⟩
  · replace hs := hs.2 h2
    refine tm_go 1 (pc' := 11) (L' := [some (.ref 127), some (.int a0), some (.int b0), some (.int c0), none, none, none]) (S' := [.int 3]) (w' := w1) rfl ?_
    exact tm_r rfl ⟨_, rfl, hs⟩
set_option maxHeartbeats 4000000 in
set_option maxRecDepth 100000 in
theorem tx_Mr_hasAct_16 {d : Nat} {x16_2 : Int32} {x16_3 : Int32} {E : Int32 → MW → Prop} {Q : Int32 → MW → Prop} (n : Nat) : ∀ (x16_4 : Int32) (x16_5 : Int32)  (z1 : Option Value) (w : MW), q_Mr_hasAct_16 x16_2 x16_3 E Q n x16_4 x16_5 w → (∀ (e16_4 : Int32)  (v0 : Option Value) (v1 : Option Value) (v2 : Option Value) (v3 : Option Value) (v5 : Option Value) (w : MW), E e16_4 w → Tm (d + 0) 299 61 [v0, v1, v2, v3, some (.int e16_4), v5] [] w (RZ Q)) → Tm (d + 0) 299 16 [some (.ref 147), z1, some (.int x16_2), some (.int x16_3), some (.int x16_4), some (.int x16_5)] [] w (RZ Q) := by
  induction n with
  | zero => intro x16_4 x16_5 z1 w hs; rw [q_Mr_hasAct_16.eq_1] at hs; exact hs.elim
  | succ n ih =>
    intro x16_4 x16_5 z1 w hs hE
    rw [q_Mr_hasAct_16.eq_2] at hs
    refine tm_go 4 (pc' := 23) (L' := [some (.ref 147), z1, some (.int x16_2), some (.int x16_3), some (.int x16_4), some (.int x16_5)]) (S' := [.int x16_3, .ref 155, .int x16_5]) (w' := w) rfl ?_
    obtain ⟨b1, hs⟩ := hs
    refine tm_k (pc' := 24) (L' := [some (.ref 147), z1, some (.int x16_2), some (.int x16_3), some (.int x16_4), some (.int x16_5)]) (S' := [.int (w.1 155 x16_3.toInt.toNat), .int x16_5]) (w' := w) rfl b1 ?_
    refine tm_i (p1 := 61) (p2 := 27) rfl (fun h2 => ?_) (fun h2 => ?_)
    · replace hs := hs.1 h2
      exact hE _ _ _ _ _ _ _ hs
    · replace hs := hs.2 h2
      refine tm_go 1 (pc' := 29) (L' := [some (.ref 147), z1, some (.int x16_2), some (.int x16_3), some (.int x16_4), some (.int x16_5)]) (S' := [.int x16_4]) (w' := w) rfl ?_
      refine tm_i (p1 := 48) (p2 := 32) rfl (fun h3 => ?_) (fun h3 => ?_)
      · replace hs := hs.1 h3
        refine tm_go 5 (pc' := 16) (L' := [some (.ref 147), z1, some (.int x16_2), some (.int x16_3), some (.int 1), some (.int (x16_5 + (1 : Int32)))]) (S' := []) (w' := w) rfl ?_
        exact ih _ _ _ _ hs hE
      · replace hs := hs.2 h3
        refine tm_go 7 (pc' := 43) (L' := [some (.ref 147), z1, some (.int x16_2), some (.int x16_3), some (.int x16_4), some (.int x16_5)]) (S' := [.int (((8 : Int32) * x16_3) + x16_5), .ref 156]) (w' := w) rfl ?_
        obtain ⟨b4, hs⟩ := hs
        refine tm_k (pc' := 44) (L' := [some (.ref 147), z1, some (.int x16_2), some (.int x16_3), some (.int x16_4), some (.int x16_5)]) (S' := [.int (w.1 156 ((((8 : Int32) * x16_3) + x16_5).toInt.toNat))]) (w' := w) rfl b4 ?_
        refine tm_go 1 (pc' := 45) (L' := [some (.ref 147), z1, some (.int x16_2), some (.int x16_3), some (.int x16_4), some (.int x16_5)]) (S' := [.int x16_2, .int (w.1 156 ((((8 : Int32) * x16_3) + x16_5).toInt.toNat))]) (w' := w) rfl ?_
        refine tm_i (p1 := 52) (p2 := 48) rfl (fun h5 => ?_) (fun h5 => ?_)
        · replace hs := hs.1 h5
          refine tm_go 4 (pc' := 16) (L' := [some (.ref 147), z1, some (.int x16_2), some (.int x16_3), some (.int 0), some (.int (x16_5 + (1 : Int32)))]) (S' := []) (w' := w) rfl ?_
          exact ih _ _ _ _ hs hE
        · replace hs := hs.2 h5
          refine tm_go 5 (pc' := 16) (L' := [some (.ref 147), z1, some (.int x16_2), some (.int x16_3), some (.int 1), some (.int (x16_5 + (1 : Int32)))]) (S' := []) (w' := w) rfl ?_
          exact ih _ _ _ _ hs hE
set_option maxHeartbeats 4000000 in
set_option maxRecDepth 100000 in
theorem dm_Mr_hasAct {d : Nat} {w : MW} {a0 : Int32} {b0 : Int32} {Q : Int32 → MW → Prop} (hs : p_Mr_hasAct w a0 b0 Q) : Tc (d + 0) 299 [.ref 147, .int a0, .int b0] w (RZ Q) := by
  unfold p_Mr_hasAct at hs
  refine tm_go 11 (pc' := 16) (L' := [some (.ref 147), some (.int a0), some (.int b0), some (.int (((40 : Int32) * (w.1 147 12)) + a0)), some (.int 0), some (.int 0)]) (S' := []) (w' := w) rfl ?_
  refine tx_Mr_hasAct_16 FU _ _ _ _ hs (fun e16_4_6 z6_0 z6_1 z6_2 z6_3 z6_5 w6 hs => ?_)
  refine tm_go 1 (pc' := 63) (L' := [z6_0, z6_1, z6_2, z6_3, some (.int e16_4_6), z6_5]) (S' := [.int e16_4_6]) (w' := w6) rfl ?_
  obtain ⟨b7, hs⟩ := hs
  exact tm_rk rfl b7 ⟨_, rfl, b7, hs⟩
