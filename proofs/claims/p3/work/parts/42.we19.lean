set_option maxHeartbeats 4000000 in
set_option maxRecDepth 100000 in
theorem tx_Mo_goRamp_127 {d : Nat} {y127_1 : Int32} {y127_4 : Int32} {ys127_0 : Int64} {ys127_1 : Int64} {z2 : Option Value} {z3 : Option Value} {z5 : Option Value} {z6 : Option Value} {z7 : Option Value} {z8 : Option Value} {w : MW} {Q : Int32 → MW → Prop} (hs : q_Mo_goRamp_127 y127_1 y127_4 ys127_0 ys127_1 w Q) : Tm (d + 1) 114 127 [some (.ref 127), some (.int y127_1), z2, z3, some (.int y127_4), z5, z6, z7, z8] [.long ys127_0, .long ys127_1] w (RI Q) := by
  unfold q_Mo_goRamp_127 at hs
  refine tm_go 8 (pc' := 141) (L' := [some (.ref 127), some (.int y127_1), z2, z3, some (.int y127_4), z5, (ksl z6), some (.long (ys127_1 - ys127_0)), none]) (S' := [.int y127_1, .ref 217, .int y127_4, .ref 206]) (w' := w) rfl ?_
  obtain ⟨b19, hs⟩ := hs
  refine tm_k (pc' := 142) (L' := [some (.ref 127), some (.int y127_1), z2, z3, some (.int y127_4), z5, (ksl z6), some (.long (ys127_1 - ys127_0)), none]) (S' := [.long (w.2.1 217 y127_1.toInt.toNat), .int y127_4, .ref 206]) (w' := w) rfl b19 ?_
  refine tm_go 2 (pc' := 145) (L' := [some (.ref 127), some (.int y127_1), z2, z3, some (.int y127_4), z5, (ksl z6), some (.long (ys127_1 - ys127_0)), none]) (S' := [.long ((w.2.1 217 y127_1.toInt.toNat) + (ys127_1 - ys127_0)), .int y127_4, .ref 206]) (w' := w) rfl ?_
  obtain ⟨b20, hs⟩ := hs
  refine tm_k (pc' := 146) (L' := [some (.ref 127), some (.int y127_1), z2, z3, some (.int y127_4), z5, (ksl z6), some (.long (ys127_1 - ys127_0)), none]) (S' := []) (w' := (sJ w 206 y127_4.toInt.toNat ((w.2.1 217 y127_1.toInt.toNat) + (ys127_1 - ys127_0)))) rfl b20 ?_
  refine tm_go 1 (pc' := 147) (L' := [some (.ref 127), some (.int y127_1), z2, z3, some (.int y127_4), z5, (ksl z6), some (.long (ys127_1 - ys127_0)), none]) (S' := [.int 0]) (w' := (sJ w 206 y127_4.toInt.toNat ((w.2.1 217 y127_1.toInt.toNat) + (ys127_1 - ys127_0)))) rfl ?_
  exact tm_r rfl ⟨_, rfl, hs⟩
set_option maxHeartbeats 4000000 in
set_option maxRecDepth 100000 in
theorem dm_Mo_goRamp {d : Nat} {w : MW} {a0 : Int32} {Q : Int32 → MW → Prop} (hs : p_Mo_goRamp w a0 Q) : Tc (d + 1) 114 [.ref 127, .int a0] w (RI Q) := by
  unfold p_Mo_goRamp at hs
  refine tm_go 5 (pc' := 9) (L' := [some (.ref 127), some (.int a0), none, none, none, none, none, none, none]) (S' := [.int a0, .ref 214, .int (w.1 127 74)]) (w' := w) rfl ?_
  obtain ⟨b1, hs⟩ := hs
  refine tm_k (pc' := 10) (L' := [some (.ref 127), some (.int a0), none, none, none, none, none, none, none]) (S' := [.int (w.1 214 a0.toInt.toNat), .int (w.1 127 74)]) (w' := w) rfl b1 ?_
  refine tm_go 11 (pc' := 29) (L' := [some (.ref 127), some (.int a0), some (.long (Int32.toInt64 ((w.1 127 74) - (w.1 214 a0.toInt.toNat)))), none, none, none, none, none, none]) (S' := [.int a0, .ref 207, .ref 129, .ref 132]) (w' := w) rfl ?_
  obtain ⟨b2, hs⟩ := hs
  refine tm_k (pc' := 30) (L' := [some (.ref 127), some (.int a0), some (.long (Int32.toInt64 ((w.1 127 74) - (w.1 214 a0.toInt.toNat)))), none, none, none, none, none, none]) (S' := [.int (w.1 207 a0.toInt.toNat), .ref 129, .ref 132]) (w' := w) rfl b2 ?_
  refine tm_c rfl (Nat.le_of_ble_eq_true rfl) (dm_Tx_node1 (d := d + 0) hs) (fun v w3 hq => ?_)
  obtain ⟨r3, rfl, hs⟩ := hq
  obtain ⟨b4, hs⟩ := hs
  refine tm_k (pc' := 34) (L' := [some (.ref 127), some (.int a0), some (.long (Int32.toInt64 ((w.1 127 74) - (w.1 214 a0.toInt.toNat)))), none, none, none, none, none, none]) (S' := [.long (w3.2.1 132 r3.toInt.toNat)]) (w' := w3) rfl b4 ?_
  refine tm_go 5 (pc' := 42) (L' := [some (.ref 127), some (.int a0), some (.long (Int32.toInt64 ((w.1 127 74) - (w.1 214 a0.toInt.toNat)))), none, some (.int (Int64.toInt32 (w3.2.1 132 r3.toInt.toNat))), none, none, none, none]) (S' := [.int a0, .ref 211]) (w' := w3) rfl ?_
  obtain ⟨b5, hs⟩ := hs
  refine tm_k (pc' := 43) (L' := [some (.ref 127), some (.int a0), some (.long (Int32.toInt64 ((w.1 127 74) - (w.1 214 a0.toInt.toNat)))), none, some (.int (Int64.toInt32 (w3.2.1 132 r3.toInt.toNat))), none, none, none, none]) (S' := [.int (w3.1 211 a0.toInt.toNat)]) (w' := w3) rfl b5 ?_
  refine tm_i (p1 := 57) (p2 := 46) rfl (fun h6 => ?_) (fun h6 => ?_)
  · replace hs := hs.1 h6
    refine tm_go 6 (pc' := 68) (L' := [some (.ref 127), some (.int a0), some (.long (Int32.toInt64 ((w.1 127 74) - (w.1 214 a0.toInt.toNat)))), none, some (.int (Int64.toInt32 (w3.2.1 132 r3.toInt.toNat))), none, none, none, none]) (S' := [.int a0, .ref 216, .int (Int64.toInt32 (w3.2.1 132 r3.toInt.toNat)), .ref 206]) (w' := w3) rfl ?_
    obtain ⟨b7, hs⟩ := hs
    refine tm_k (pc' := 69) (L' := [some (.ref 127), some (.int a0), some (.long (Int32.toInt64 ((w.1 127 74) - (w.1 214 a0.toInt.toNat)))), none, some (.int (Int64.toInt32 (w3.2.1 132 r3.toInt.toNat))), none, none, none, none]) (S' := [.long (w3.2.1 216 a0.toInt.toNat), .int (Int64.toInt32 (w3.2.1 132 r3.toInt.toNat)), .ref 206]) (w' := w3) rfl b7 ?_
    obtain ⟨b8, hs⟩ := hs
    refine tm_k (pc' := 70) (L' := [some (.ref 127), some (.int a0), some (.long (Int32.toInt64 ((w.1 127 74) - (w.1 214 a0.toInt.toNat)))), none, some (.int (Int64.toInt32 (w3.2.1 132 r3.toInt.toNat))), none, none, none, none]) (S' := []) (w' := (sJ w3 206 ((Int64.toInt32 (w3.2.1 132 r3.toInt.toNat)).toInt.toNat) (w3.2.1 216 a0.toInt.toNat))) rfl b8 ?_
    refine tm_go 1 (pc' := 71) (L' := [some (.ref 127), some (.int a0), some (.long (Int32.toInt64 ((w.1 127 74) - (w.1 214 a0.toInt.toNat)))), none, some (.int (Int64.toInt32 (w3.2.1 132 r3.toInt.toNat))), none, none, none, none]) (S' := [.int 1]) (w' := (sJ w3 206 ((Int64.toInt32 (w3.2.1 132 r3.toInt.toNat)).toInt.toNat) (w3.2.1 216 a0.toInt.toNat))) rfl ?_
    exact tm_r rfl ⟨_, rfl, hs⟩
  · replace hs := hs.2 h6
    refine tm_go 4 (pc' := 52) (L' := [some (.ref 127), some (.int a0), some (.long (Int32.toInt64 ((w.1 127 74) - (w.1 214 a0.toInt.toNat)))), none, some (.int (Int64.toInt32 (w3.2.1 132 r3.toInt.toNat))), none, none, none, none]) (S' := [.int a0, .ref 215, .long (Int32.toInt64 ((w.1 127 74) - (w.1 214 a0.toInt.toNat)))]) (w' := w3) rfl ?_
    obtain ⟨b9, hs⟩ := hs
    refine tm_k (pc' := 53) (L' := [some (.ref 127), some (.int a0), some (.long (Int32.toInt64 ((w.1 127 74) - (w.1 214 a0.toInt.toNat)))), none, some (.int (Int64.toInt32 (w3.2.1 132 r3.toInt.toNat))), none, none, none, none]) (S' := [.long (w3.2.1 215 a0.toInt.toNat), .long (Int32.toInt64 ((w.1 127 74) - (w.1 214 a0.toInt.toNat)))]) (w' := w3) rfl b9 ?_
    refine tm_go 1 (pc' := 54) (L' := [some (.ref 127), some (.int a0), some (.long (Int32.toInt64 ((w.1 127 74) - (w.1 214 a0.toInt.toNat)))), none, some (.int (Int64.toInt32 (w3.2.1 132 r3.toInt.toNat))), none, none, none, none]) (S' := [.int (lg_cmp (Int32.toInt64 ((w.1 127 74) - (w.1 214 a0.toInt.toNat))) (w3.2.1 215 a0.toInt.toNat))]) (w' := w3) rfl ?_
    refine tm_i (p1 := 72) (p2 := 57) rfl (fun h10 => ?_) (fun h10 => ?_)
    · replace hs := hs.1 h10
      refine tm_go 3 (pc' := 75) (L' := [some (.ref 127), some (.int a0), some (.long (Int32.toInt64 ((w.1 127 74) - (w.1 214 a0.toInt.toNat)))), none, some (.int (Int64.toInt32 (w3.2.1 132 r3.toInt.toNat))), none, none, none, none]) (S' := [.int (lg_cmp (Int32.toInt64 ((w.1 127 74) - (w.1 214 a0.toInt.toNat))) (0 : Int64))]) (w' := w3) rfl ?_
      refine tm_i (p1 := 146) (p2 := 78) rfl (fun h11 => ?_) (fun h11 => ?_)
      · replace hs := hs.1 h11
        refine tm_go 1 (pc' := 147) (L' := [some (.ref 127), some (.int a0), some (.long (Int32.toInt64 ((w.1 127 74) - (w.1 214 a0.toInt.toNat)))), none, some (.int (Int64.toInt32 (w3.2.1 132 r3.toInt.toNat))), none, none, none, none]) (S' := [.int 0]) (w' := w3) rfl ?_
        exact tm_r rfl ⟨_, rfl, hs⟩
      · replace hs := hs.2 h11
        refine tm_go 3 (pc' := 83) (L' := [some (.ref 127), some (.int a0), some (.long (Int32.toInt64 ((w.1 127 74) - (w.1 214 a0.toInt.toNat)))), none, some (.int (Int64.toInt32 (w3.2.1 132 r3.toInt.toNat))), none, none, none, none]) (S' := [.int a0, .ref 216]) (w' := w3) rfl ?_
        obtain ⟨b12, hs⟩ := hs
        refine tm_k (pc' := 84) (L' := [some (.ref 127), some (.int a0), some (.long (Int32.toInt64 ((w.1 127 74) - (w.1 214 a0.toInt.toNat)))), none, some (.int (Int64.toInt32 (w3.2.1 132 r3.toInt.toNat))), none, none, none, none]) (S' := [.long (w3.2.1 216 a0.toInt.toNat)]) (w' := w3) rfl b12 ?_
        refine tm_go 3 (pc' := 89) (L' := [some (.ref 127), some (.int a0), some (.long (Int32.toInt64 ((w.1 127 74) - (w.1 214 a0.toInt.toNat)))), none, some (.int (Int64.toInt32 (w3.2.1 132 r3.toInt.toNat))), none, none, none, none]) (S' := [.int a0, .ref 217, .long (w3.2.1 216 a0.toInt.toNat)]) (w' := w3) rfl ?_
        obtain ⟨b13, hs⟩ := hs
        refine tm_k (pc' := 90) (L' := [some (.ref 127), some (.int a0), some (.long (Int32.toInt64 ((w.1 127 74) - (w.1 214 a0.toInt.toNat)))), none, some (.int (Int64.toInt32 (w3.2.1 132 r3.toInt.toNat))), none, none, none, none]) (S' := [.long (w3.2.1 217 a0.toInt.toNat), .long (w3.2.1 216 a0.toInt.toNat)]) (w' := w3) rfl b13 ?_
        refine tm_go 8 (pc' := 102) (L' := [some (.ref 127), some (.int a0), some (.long (Int32.toInt64 ((w.1 127 74) - (w.1 214 a0.toInt.toNat)))), none, some (.int (Int64.toInt32 (w3.2.1 132 r3.toInt.toNat))), some (.long (((w3.2.1 216 a0.toInt.toNat) - (w3.2.1 217 a0.toInt.toNat)) * (Int32.toInt64 ((w.1 127 74) - (w.1 214 a0.toInt.toNat))))), none, none, none]) (S' := [.int a0, .ref 215, .long (((w3.2.1 216 a0.toInt.toNat) - (w3.2.1 217 a0.toInt.toNat)) * (Int32.toInt64 ((w.1 127 74) - (w.1 214 a0.toInt.toNat))))]) (w' := w3) rfl ?_
        obtain ⟨b14, hs⟩ := hs
        refine tm_k (pc' := 103) (L' := [some (.ref 127), some (.int a0), some (.long (Int32.toInt64 ((w.1 127 74) - (w.1 214 a0.toInt.toNat)))), none, some (.int (Int64.toInt32 (w3.2.1 132 r3.toInt.toNat))), some (.long (((w3.2.1 216 a0.toInt.toNat) - (w3.2.1 217 a0.toInt.toNat)) * (Int32.toInt64 ((w.1 127 74) - (w.1 214 a0.toInt.toNat))))), none, none, none]) (S' := [.long (w3.2.1 215 a0.toInt.toNat), .long (((w3.2.1 216 a0.toInt.toNat) - (w3.2.1 217 a0.toInt.toNat)) * (Int32.toInt64 ((w.1 127 74) - (w.1 214 a0.toInt.toNat))))]) (w' := w3) rfl b14 ?_
        obtain ⟨b15, hs⟩ := hs
        refine tm_k (pc' := 104) (L' := [some (.ref 127), some (.int a0), some (.long (Int32.toInt64 ((w.1 127 74) - (w.1 214 a0.toInt.toNat)))), none, some (.int (Int64.toInt32 (w3.2.1 132 r3.toInt.toNat))), some (.long (((w3.2.1 216 a0.toInt.toNat) - (w3.2.1 217 a0.toInt.toNat)) * (Int32.toInt64 ((w.1 127 74) - (w.1 214 a0.toInt.toNat))))), none, none, none]) (S' := [.long ((((w3.2.1 216 a0.toInt.toNat) - (w3.2.1 217 a0.toInt.toNat)) * (Int32.toInt64 ((w.1 127 74) - (w.1 214 a0.toInt.toNat)))) / (w3.2.1 215 a0.toInt.toNat))]) (w' := w3) rfl b15 ?_
        refine tm_go 6 (pc' := 115) (L' := [some (.ref 127), some (.int a0), some (.long (Int32.toInt64 ((w.1 127 74) - (w.1 214 a0.toInt.toNat)))), none, some (.int (Int64.toInt32 (w3.2.1 132 r3.toInt.toNat))), some (.long (((w3.2.1 216 a0.toInt.toNat) - (w3.2.1 217 a0.toInt.toNat)) * (Int32.toInt64 ((w.1 127 74) - (w.1 214 a0.toInt.toNat))))), none, some (.long ((((w3.2.1 216 a0.toInt.toNat) - (w3.2.1 217 a0.toInt.toNat)) * (Int32.toInt64 ((w.1 127 74) - (w.1 214 a0.toInt.toNat)))) / (w3.2.1 215 a0.toInt.toNat))), none]) (S' := [.int a0, .ref 215, .long (((w3.2.1 216 a0.toInt.toNat) - (w3.2.1 217 a0.toInt.toNat)) * (Int32.toInt64 ((w.1 127 74) - (w.1 214 a0.toInt.toNat)))), .long ((((w3.2.1 216 a0.toInt.toNat) - (w3.2.1 217 a0.toInt.toNat)) * (Int32.toInt64 ((w.1 127 74) - (w.1 214 a0.toInt.toNat)))) / (w3.2.1 215 a0.toInt.toNat))]) (w' := w3) rfl ?_
        obtain ⟨b16, hs⟩ := hs
        refine tm_k (pc' := 116) (L' := [some (.ref 127), some (.int a0), some (.long (Int32.toInt64 ((w.1 127 74) - (w.1 214 a0.toInt.toNat)))), none, some (.int (Int64.toInt32 (w3.2.1 132 r3.toInt.toNat))), some (.long (((w3.2.1 216 a0.toInt.toNat) - (w3.2.1 217 a0.toInt.toNat)) * (Int32.toInt64 ((w.1 127 74) - (w.1 214 a0.toInt.toNat))))), none, some (.long ((((w3.2.1 216 a0.toInt.toNat) - (w3.2.1 217 a0.toInt.toNat)) * (Int32.toInt64 ((w.1 127 74) - (w.1 214 a0.toInt.toNat)))) / (w3.2.1 215 a0.toInt.toNat))), none]) (S' := [.long (w3.2.1 215 a0.toInt.toNat), .long (((w3.2.1 216 a0.toInt.toNat) - (w3.2.1 217 a0.toInt.toNat)) * (Int32.toInt64 ((w.1 127 74) - (w.1 214 a0.toInt.toNat)))), .long ((((w3.2.1 216 a0.toInt.toNat) - (w3.2.1 217 a0.toInt.toNat)) * (Int32.toInt64 ((w.1 127 74) - (w.1 214 a0.toInt.toNat)))) / (w3.2.1 215 a0.toInt.toNat))]) (w' := w3) rfl b16 ?_
        obtain ⟨b17, hs⟩ := hs
        refine tm_k (pc' := 117) (L' := [some (.ref 127), some (.int a0), some (.long (Int32.toInt64 ((w.1 127 74) - (w.1 214 a0.toInt.toNat)))), none, some (.int (Int64.toInt32 (w3.2.1 132 r3.toInt.toNat))), some (.long (((w3.2.1 216 a0.toInt.toNat) - (w3.2.1 217 a0.toInt.toNat)) * (Int32.toInt64 ((w.1 127 74) - (w.1 214 a0.toInt.toNat))))), none, some (.long ((((w3.2.1 216 a0.toInt.toNat) - (w3.2.1 217 a0.toInt.toNat)) * (Int32.toInt64 ((w.1 127 74) - (w.1 214 a0.toInt.toNat)))) / (w3.2.1 215 a0.toInt.toNat))), none]) (S' := [.long ((((w3.2.1 216 a0.toInt.toNat) - (w3.2.1 217 a0.toInt.toNat)) * (Int32.toInt64 ((w.1 127 74) - (w.1 214 a0.toInt.toNat)))) - (((w3.2.1 216 a0.toInt.toNat) - (w3.2.1 217 a0.toInt.toNat)) * (Int32.toInt64 ((w.1 127 74) - (w.1 214 a0.toInt.toNat)))) / (w3.2.1 215 a0.toInt.toNat) * (w3.2.1 215 a0.toInt.toNat)), .long ((((w3.2.1 216 a0.toInt.toNat) - (w3.2.1 217 a0.toInt.toNat)) * (Int32.toInt64 ((w.1 127 74) - (w.1 214 a0.toInt.toNat)))) / (w3.2.1 215 a0.toInt.toNat))]) (w' := w3) rfl b17 ?_
        refine tm_go 2 (pc' := 119) (L' := [some (.ref 127), some (.int a0), some (.long (Int32.toInt64 ((w.1 127 74) - (w.1 214 a0.toInt.toNat)))), none, some (.int (Int64.toInt32 (w3.2.1 132 r3.toInt.toNat))), some (.long (((w3.2.1 216 a0.toInt.toNat) - (w3.2.1 217 a0.toInt.toNat)) * (Int32.toInt64 ((w.1 127 74) - (w.1 214 a0.toInt.toNat))))), none, some (.long ((((w3.2.1 216 a0.toInt.toNat) - (w3.2.1 217 a0.toInt.toNat)) * (Int32.toInt64 ((w.1 127 74) - (w.1 214 a0.toInt.toNat)))) / (w3.2.1 215 a0.toInt.toNat))), none]) (S' := [.int (lg_cmp ((((w3.2.1 216 a0.toInt.toNat) - (w3.2.1 217 a0.toInt.toNat)) * (Int32.toInt64 ((w.1 127 74) - (w.1 214 a0.toInt.toNat)))) - (((w3.2.1 216 a0.toInt.toNat) - (w3.2.1 217 a0.toInt.toNat)) * (Int32.toInt64 ((w.1 127 74) - (w.1 214 a0.toInt.toNat)))) / (w3.2.1 215 a0.toInt.toNat) * (w3.2.1 215 a0.toInt.toNat)) (0 : Int64)), .long ((((w3.2.1 216 a0.toInt.toNat) - (w3.2.1 217 a0.toInt.toNat)) * (Int32.toInt64 ((w.1 127 74) - (w.1 214 a0.toInt.toNat)))) / (w3.2.1 215 a0.toInt.toNat))]) (w' := w3) rfl ?_
        refine tm_i (p1 := 126) (p2 := 122) rfl (fun h18 => ?_) (fun h18 => ?_)
        · replace hs := hs.1 h18
          refine tm_go 1 (pc' := 127) (L' := [some (.ref 127), some (.int a0), some (.long (Int32.toInt64 ((w.1 127 74) - (w.1 214 a0.toInt.toNat)))), none, some (.int (Int64.toInt32 (w3.2.1 132 r3.toInt.toNat))), some (.long (((w3.2.1 216 a0.toInt.toNat) - (w3.2.1 217 a0.toInt.toNat)) * (Int32.toInt64 ((w.1 127 74) - (w.1 214 a0.toInt.toNat))))), none, some (.long ((((w3.2.1 216 a0.toInt.toNat) - (w3.2.1 217 a0.toInt.toNat)) * (Int32.toInt64 ((w.1 127 74) - (w.1 214 a0.toInt.toNat)))) / (w3.2.1 215 a0.toInt.toNat))), none]) (S' := [.long 0, .long ((((w3.2.1 216 a0.toInt.toNat) - (w3.2.1 217 a0.toInt.toNat)) * (Int32.toInt64 ((w.1 127 74) - (w.1 214 a0.toInt.toNat)))) / (w3.2.1 215 a0.toInt.toNat))]) (w' := w3) rfl ?_
          exact tx_Mo_goRamp_127 hs 
        · replace hs := hs.2 h18
          refine tm_go 2 (pc' := 127) (L' := [some (.ref 127), some (.int a0), some (.long (Int32.toInt64 ((w.1 127 74) - (w.1 214 a0.toInt.toNat)))), none, some (.int (Int64.toInt32 (w3.2.1 132 r3.toInt.toNat))), some (.long (((w3.2.1 216 a0.toInt.toNat) - (w3.2.1 217 a0.toInt.toNat)) * (Int32.toInt64 ((w.1 127 74) - (w.1 214 a0.toInt.toNat))))), none, some (.long ((((w3.2.1 216 a0.toInt.toNat) - (w3.2.1 217 a0.toInt.toNat)) * (Int32.toInt64 ((w.1 127 74) - (w.1 214 a0.toInt.toNat)))) / (w3.2.1 215 a0.toInt.toNat))), none]) (S' := [.long 1, .long ((((w3.2.1 216 a0.toInt.toNat) - (w3.2.1 217 a0.toInt.toNat)) * (Int32.toInt64 ((w.1 127 74) - (w.1 214 a0.toInt.toNat)))) / (w3.2.1 215 a0.toInt.toNat))]) (w' := w3) rfl ?_
          exact tx_Mo_goRamp_127 hs 
    · replace hs := hs.2 h10
      refine tm_go 6 (pc' := 68) (L' := [some (.ref 127), some (.int a0), some (.long (Int32.toInt64 ((w.1 127 74) - (w.1 214 a0.toInt.toNat)))), none, some (.int (Int64.toInt32 (w3.2.1 132 r3.toInt.toNat))), none, none, none, none]) (S' := [.int a0, .ref 216, .int (Int64.toInt32 (w3.2.1 132 r3.toInt.toNat)), .ref 206]) (w' := w3) rfl ?_
      obtain ⟨b21, hs⟩ := hs
      refine tm_k (pc' := 69) (L' := [some (.ref 127), some (.int a0), some (.long (Int32.toInt64 ((w.1 127 74) - (w.1 214 a0.toInt.toNat)))), none, some (.int (Int64.toInt32 (w3.2.1 132 r3.toInt.toNat))), none, none, none, none]) (S' := [.long (w3.2.1 216 a0.toInt.toNat), .int (Int64.toInt32 (w3.2.1 132 r3.toInt.toNat)), .ref 206]) (w' := w3) rfl b21 ?_
      obtain ⟨b22, hs⟩ := hs
      refine tm_k (pc' := 70) (L' := [some (.ref 127), some (.int a0), some (.long (Int32.toInt64 ((w.1 127 74) - (w.1 214 a0.toInt.toNat)))), none, some (.int (Int64.toInt32 (w3.2.1 132 r3.toInt.toNat))), none, none, none, none]) (S' := []) (w' := (sJ w3 206 ((Int64.toInt32 (w3.2.1 132 r3.toInt.toNat)).toInt.toNat) (w3.2.1 216 a0.toInt.toNat))) rfl b22 ?_
      refine tm_go 1 (pc' := 71) (L' := [some (.ref 127), some (.int a0), some (.long (Int32.toInt64 ((w.1 127 74) - (w.1 214 a0.toInt.toNat)))), none, some (.int (Int64.toInt32 (w3.2.1 132 r3.toInt.toNat))), none, none, none, none]) (S' := [.int 1]) (w' := (sJ w3 206 ((Int64.toInt32 (w3.2.1 132 r3.toInt.toNat)).toInt.toNat) (w3.2.1 216 a0.toInt.toNat))) rfl ?_
      exact tm_r rfl ⟨_, rfl, hs⟩
set_option maxHeartbeats 4000000 in
set_option maxRecDepth 100000 in
theorem dm_Mo_goUntil {d : Nat} {w : MW} {a0 : Int32} {Q : Int32 → MW → Prop} (hs : p_Mo_goUntil w a0 Q) : Tc (d + 402) 112 [.ref 127, .int a0] w (RI Q) := by
  unfold p_Mo_goUntil at hs
  refine tm_go 3 (pc' := 5) (L' := [some (.ref 127), some (.int a0), none, none]) (S' := [.int a0, .ref 211]) (w' := w) rfl ?_
  obtain ⟨b1, hs⟩ := hs
  refine tm_k (pc' := 6) (L' := [some (.ref 127), some (.int a0), none, none]) (S' := [.int (w.1 211 a0.toInt.toNat)]) (w' := w) rfl b1 ?_
  refine tm_i (p1 := 67) (p2 := 9) rfl (fun h2 => ?_) (fun h2 => ?_)
  · replace hs := hs.1 h2
    refine tm_go 3 (pc' := 72) (L' := [some (.ref 127), some (.int a0), none, none]) (S' := [.int a0, .ref 211]) (w' := w) rfl ?_
    obtain ⟨b3, hs⟩ := hs
    refine tm_k (pc' := 73) (L' := [some (.ref 127), some (.int a0), none, none]) (S' := [.int (w.1 211 a0.toInt.toNat)]) (w' := w) rfl b3 ?_
    refine tm_i (p1 := 80) (p2 := 76) rfl (fun h4 => ?_) (fun h4 => ?_)
    · replace hs := hs.1 h4
      refine tm_go 1 (pc' := 81) (L' := [some (.ref 127), some (.int a0), none, none]) (S' := [.int 0]) (w' := w) rfl ?_
      exact tm_r rfl ⟨_, rfl, hs⟩
    · replace hs := hs.2 h4
      refine tm_go 2 (pc' := 81) (L' := [some (.ref 127), some (.int a0), none, none]) (S' := [.int 1]) (w' := w) rfl ?_
      exact tm_r rfl ⟨_, rfl, hs⟩
  · replace hs := hs.2 h2
    refine tm_go 3 (pc' := 14) (L' := [some (.ref 127), some (.int a0), none, none]) (S' := [.int a0, .ref 214]) (w' := w) rfl ?_
    obtain ⟨b5, hs⟩ := hs
    refine tm_k (pc' := 15) (L' := [some (.ref 127), some (.int a0), none, none]) (S' := [.int (w.1 214 a0.toInt.toNat)]) (w' := w) rfl b5 ?_
    refine tm_go 2 (pc' := 19) (L' := [some (.ref 127), some (.int a0), none, none]) (S' := [.int (w.1 127 74), .int (w.1 214 a0.toInt.toNat)]) (w' := w) rfl ?_
    refine tm_i (p1 := 67) (p2 := 22) rfl (fun h6 => ?_) (fun h6 => ?_)
    · replace hs := hs.1 h6
      refine tm_go 3 (pc' := 72) (L' := [some (.ref 127), some (.int a0), none, none]) (S' := [.int a0, .ref 211]) (w' := w) rfl ?_
      obtain ⟨b7, hs⟩ := hs
      refine tm_k (pc' := 73) (L' := [some (.ref 127), some (.int a0), none, none]) (S' := [.int (w.1 211 a0.toInt.toNat)]) (w' := w) rfl b7 ?_
      refine tm_i (p1 := 80) (p2 := 76) rfl (fun h8 => ?_) (fun h8 => ?_)
      · replace hs := hs.1 h8
        refine tm_go 1 (pc' := 81) (L' := [some (.ref 127), some (.int a0), none, none]) (S' := [.int 0]) (w' := w) rfl ?_
        exact tm_r rfl ⟨_, rfl, hs⟩
      · replace hs := hs.2 h8
        refine tm_go 2 (pc' := 81) (L' := [some (.ref 127), some (.int a0), none, none]) (S' := [.int 1]) (w' := w) rfl ?_
        exact tm_r rfl ⟨_, rfl, hs⟩
    · replace hs := hs.2 h6
      refine tm_go 6 (pc' := 32) (L' := [some (.ref 127), some (.int a0), none, none]) (S' := [.int a0, .ref 207, .ref 129, .ref 127]) (w' := w) rfl ?_
      obtain ⟨b9, hs⟩ := hs
      refine tm_k (pc' := 33) (L' := [some (.ref 127), some (.int a0), none, none]) (S' := [.int (w.1 207 a0.toInt.toNat), .ref 129, .ref 127]) (w' := w) rfl b9 ?_
      refine tm_go 1 (pc' := 34) (L' := [some (.ref 127), some (.int a0), none, none]) (S' := [.int 0, .int (w.1 207 a0.toInt.toNat), .ref 129, .ref 127]) (w' := w) rfl ?_
      refine tm_c rfl (Nat.le_of_ble_eq_true rfl) (dm_Tx_kid (d := d + 400) hs) (fun v w10 hq => ?_)
      obtain ⟨r10, rfl, hs⟩ := hq
      refine tm_c rfl (Nat.le_of_ble_eq_true rfl) (dm_Mo_reckon (d := d + 0) hs) (fun v w11 hq => ?_)
      obtain ⟨r11, rfl, hs⟩ := hq
      refine tm_go 2 (pc' := 42) (L' := [some (.ref 127), some (.int a0), some (.long r11), none]) (S' := [.ref 127]) (w' := w11) rfl ?_
      refine tm_c rfl (Nat.le_of_ble_eq_true rfl) (dm_Mo_isBad (d := d + 400) hs) (fun v w12 hq => ?_)
      obtain ⟨r12, rfl, hz12, hs⟩ := hq
      refine tm_i (p1 := 50) (p2 := 48) rfl (fun h13 => ?_) (fun h13 => ?_)
      · replace hs := hs.1 h13
        refine tm_go 6 (pc' := 58) (L' := [some (.ref 127), some (.int a0), some (.long r11), none]) (S' := [.int (lg_cmp r11 (0 : Int64)), .int a0, .ref 211]) (w' := w12) rfl ?_
        refine tm_i (p1 := 65) (p2 := 61) rfl (fun h14 => ?_) (fun h14 => ?_)
        · replace hs := hs.1 h14
          refine tm_go 1 (pc' := 66) (L' := [some (.ref 127), some (.int a0), some (.long r11), none]) (S' := [.int 0, .int a0, .ref 211]) (w' := w12) rfl ?_
          obtain ⟨b15, hs⟩ := hs
          refine tm_k (pc' := 67) (L' := [some (.ref 127), some (.int a0), some (.long r11), none]) (S' := []) (w' := (sI w12 211 a0.toInt.toNat (vp_nar .boolean (0 : Int32)))) rfl b15 ?_
          refine tm_go 3 (pc' := 72) (L' := [some (.ref 127), some (.int a0), some (.long r11), none]) (S' := [.int a0, .ref 211]) (w' := (sI w12 211 a0.toInt.toNat (vp_nar .boolean (0 : Int32)))) rfl ?_
          obtain ⟨b16, hs⟩ := hs
          refine tm_k (pc' := 73) (L' := [some (.ref 127), some (.int a0), some (.long r11), none]) (S' := [.int ((sI w12 211 a0.toInt.toNat (vp_nar .boolean (0 : Int32))).1 211 a0.toInt.toNat)]) (w' := (sI w12 211 a0.toInt.toNat (vp_nar .boolean (0 : Int32)))) rfl b16 ?_
          refine tm_i (p1 := 80) (p2 := 76) rfl (fun h17 => ?_) (fun h17 => ?_)
          · replace hs := hs.1 h17
            refine tm_go 1 (pc' := 81) (L' := [some (.ref 127), some (.int a0), some (.long r11), none]) (S' := [.int 0]) (w' := (sI w12 211 a0.toInt.toNat (vp_nar .boolean (0 : Int32)))) rfl ?_
            exact tm_r rfl ⟨_, rfl, hs⟩
          · replace hs := hs.2 h17
            refine tm_go 2 (pc' := 81) (L' := [some (.ref 127), some (.int a0), some (.long r11), none]) (S' := [.int 1]) (w' := (sI w12 211 a0.toInt.toNat (vp_nar .boolean (0 : Int32)))) rfl ?_
            exact tm_r rfl ⟨_, rfl, hs⟩
        · replace hs := hs.2 h14
          refine tm_go 2 (pc' := 66) (L' := [some (.ref 127), some (.int a0), some (.long r11), none]) (S' := [.int 1, .int a0, .ref 211]) (w' := w12) rfl ?_
          obtain ⟨b18, hs⟩ := hs
          refine tm_k (pc' := 67) (L' := [some (.ref 127), some (.int a0), some (.long r11), none]) (S' := []) (w' := (sI w12 211 a0.toInt.toNat (vp_nar .boolean (1 : Int32)))) rfl b18 ?_
          refine tm_go 3 (pc' := 72) (L' := [some (.ref 127), some (.int a0), some (.long r11), none]) (S' := [.int a0, .ref 211]) (w' := (sI w12 211 a0.toInt.toNat (vp_nar .boolean (1 : Int32)))) rfl ?_
          obtain ⟨b19, hs⟩ := hs
          refine tm_k (pc' := 73) (L' := [some (.ref 127), some (.int a0), some (.long r11), none]) (S' := [.int ((sI w12 211 a0.toInt.toNat (vp_nar .boolean (1 : Int32))).1 211 a0.toInt.toNat)]) (w' := (sI w12 211 a0.toInt.toNat (vp_nar .boolean (1 : Int32)))) rfl b19 ?_
          refine tm_i (p1 := 80) (p2 := 76) rfl (fun h20 => ?_) (fun h20 => ?_)
          · replace hs := hs.1 h20
            refine tm_go 1 (pc' := 81) (L' := [some (.ref 127), some (.int a0), some (.long r11), none]) (S' := [.int 0]) (w' := (sI w12 211 a0.toInt.toNat (vp_nar .boolean (1 : Int32)))) rfl ?_
            exact tm_r rfl ⟨_, rfl, hs⟩
          · replace hs := hs.2 h20
            refine tm_go 2 (pc' := 81) (L' := [some (.ref 127), some (.int a0), some (.long r11), none]) (S' := [.int 1]) (w' := (sI w12 211 a0.toInt.toNat (vp_nar .boolean (1 : Int32)))) rfl ?_
            exact tm_r rfl ⟨_, rfl, hs⟩
      · replace hs := hs.2 h13
        refine tm_go 1 (pc' := 49) (L' := [some (.ref 127), some (.int a0), some (.long r11), none]) (S' := [.int 2]) (w' := w12) rfl ?_
        exact tm_r rfl ⟨_, rfl, hs⟩
set_option maxHeartbeats 4000000 in
set_option maxRecDepth 100000 in
theorem tx_Mo_go_207 {d : Nat} {r_Mo_go : MW → Int32 → (Int32 → MW → Prop) → Prop} {r_Mo_goPar : MW → Int32 → (Int32 → MW → Prop) → Prop} (hr_Mo_go : ∀ (w : MW) (a0 : Int32) (Q : Int32 → MW → Prop), r_Mo_go w a0 Q → Tc (d + 404) 111 [.ref 127, .int a0] w (RI Q)) (hr_Mo_goPar : ∀ (w : MW) (a0 : Int32) (Q : Int32 → MW → Prop), r_Mo_goPar w a0 Q → Tc (d + 404) 113 [.ref 127, .int a0] w (RI Q)) {x207_1 : Int32} {E : MW → Prop} {Q : Int32 → MW → Prop} (n : Nat) : ∀  (z2 : Option Value) (w : MW), q_Mo_go_207 r_Mo_go r_Mo_goPar x207_1 E Q n  w → (∀  (v0 : Option Value) (v1 : Option Value) (v2 : Option Value) (w : MW), E  w → Tm (d + 405) 111 261 [v0, v1, v2] [] w (RI Q)) → Tm (d + 405) 111 207 [some (.ref 127), some (.int x207_1), z2] [] w (RI Q) := by
  induction n with
  | zero => intro  z2 w hs; rw [q_Mo_go_207.eq_1] at hs; exact hs.elim
  | succ n ih =>
    intro  z2 w hs hE
    rw [q_Mo_go_207.eq_2] at hs
    refine tm_go 3 (pc' := 212) (L' := [some (.ref 127), some (.int x207_1), z2]) (S' := [.int x207_1, .ref 215]) (w' := w) rfl ?_
    obtain ⟨b20, hs⟩ := hs
    refine tm_k (pc' := 213) (L' := [some (.ref 127), some (.int x207_1), z2]) (S' := [.long (w.2.1 215 x207_1.toInt.toNat)]) (w' := w) rfl b20 ?_
    refine tm_go 2 (pc' := 215) (L' := [some (.ref 127), some (.int x207_1), z2]) (S' := [.int (lg_cmp (w.2.1 215 x207_1.toInt.toNat) (1 : Int64))]) (w' := w) rfl ?_
    refine tm_i (p1 := 261) (p2 := 218) rfl (fun h21 => ?_) (fun h21 => ?_)
    · replace hs := hs.1 h21
      exact hE _ _ _ _ hs
    · replace hs := hs.2 h21
      refine tm_go 4 (pc' := 224) (L' := [some (.ref 127), some (.int x207_1), z2]) (S' := [.int x207_1, .ref 208, .ref 127]) (w' := w) rfl ?_
      obtain ⟨b22, hs⟩ := hs
      refine tm_k (pc' := 225) (L' := [some (.ref 127), some (.int x207_1), z2]) (S' := [.int (w.1 208 x207_1.toInt.toNat), .ref 127]) (w' := w) rfl b22 ?_
      refine tm_c rfl (Nat.le_of_ble_eq_true rfl) (hr_Mo_go _ _ _ hs) (fun v w23 hq => ?_)
      obtain ⟨r23, rfl, hs⟩ := hq
      refine tm_go 3 (pc' := 231) (L' := [some (.ref 127), some (.int x207_1), some (.int r23)]) (S' := [.int 1, .int r23]) (w' := w23) rfl ?_
      refine tm_i (p1 := 236) (p2 := 234) rfl (fun h24 => ?_) (fun h24 => ?_)
      · replace hs := hs.1 h24
        refine tm_go 4 (pc' := 242) (L' := [some (.ref 127), some (.int x207_1), some (.int r23)]) (S' := [.int x207_1, .ref 215, .int x207_1, .ref 215]) (w' := w23) rfl ?_
        obtain ⟨b25, hs⟩ := hs
        refine tm_k (pc' := 243) (L' := [some (.ref 127), some (.int x207_1), some (.int r23)]) (S' := [.long (w23.2.1 215 x207_1.toInt.toNat), .int x207_1, .ref 215]) (w' := w23) rfl b25 ?_
        refine tm_go 2 (pc' := 245) (L' := [some (.ref 127), some (.int x207_1), some (.int r23)]) (S' := [.long ((w23.2.1 215 x207_1.toInt.toNat) - (1 : Int64)), .int x207_1, .ref 215]) (w' := w23) rfl ?_
        obtain ⟨b26, hs⟩ := hs
        refine tm_k (pc' := 246) (L' := [some (.ref 127), some (.int x207_1), some (.int r23)]) (S' := []) (w' := (sJ w23 215 x207_1.toInt.toNat ((w23.2.1 215 x207_1.toInt.toNat) - (1 : Int64)))) rfl b26 ?_
        refine tm_go 5 (pc' := 255) (L' := [some (.ref 127), some (.int x207_1), some (.int r23)]) (S' := [.int x207_1, .ref 208, .ref 210]) (w' := (sJ w23 215 x207_1.toInt.toNat ((w23.2.1 215 x207_1.toInt.toNat) - (1 : Int64)))) rfl ?_
        obtain ⟨b27, hs⟩ := hs
        refine tm_k (pc' := 256) (L' := [some (.ref 127), some (.int x207_1), some (.int r23)]) (S' := [.int (w23.1 208 x207_1.toInt.toNat), .ref 210]) (w' := (sJ w23 215 x207_1.toInt.toNat ((w23.2.1 215 x207_1.toInt.toNat) - (1 : Int64)))) rfl b27 ?_
        refine tm_go 1 (pc' := 257) (L' := [some (.ref 127), some (.int x207_1), some (.int r23)]) (S' := [.int 0, .int (w23.1 208 x207_1.toInt.toNat), .ref 210]) (w' := (sJ w23 215 x207_1.toInt.toNat ((w23.2.1 215 x207_1.toInt.toNat) - (1 : Int64)))) rfl ?_
        obtain ⟨b28, hs⟩ := hs
        refine tm_k (pc' := 258) (L' := [some (.ref 127), some (.int x207_1), some (.int r23)]) (S' := []) (w' := (sI (sJ w23 215 x207_1.toInt.toNat ((w23.2.1 215 x207_1.toInt.toNat) - (1 : Int64))) 210 ((w23.1 208 x207_1.toInt.toNat).toInt.toNat) (vp_nar .boolean (0 : Int32)))) rfl b28 ?_
        refine tm_go 1 (pc' := 207) (L' := [some (.ref 127), some (.int x207_1), some (.int r23)]) (S' := []) (w' := (sI (sJ w23 215 x207_1.toInt.toNat ((w23.2.1 215 x207_1.toInt.toNat) - (1 : Int64))) 210 ((w23.1 208 x207_1.toInt.toNat).toInt.toNat) (vp_nar .boolean (0 : Int32)))) rfl ?_
        exact ih _ _ hs hE
      · replace hs := hs.2 h24
        refine tm_go 1 (pc' := 235) (L' := [some (.ref 127), some (.int x207_1), some (.int r23)]) (S' := [.int r23]) (w' := w23) rfl ?_
        exact tm_r rfl ⟨_, rfl, hs⟩
set_option maxHeartbeats 4000000 in
set_option maxRecDepth 100000 in
theorem tx_Mo_go_92 {d : Nat} {r_Mo_go : MW → Int32 → (Int32 → MW → Prop) → Prop} {r_Mo_goPar : MW → Int32 → (Int32 → MW → Prop) → Prop} (hr_Mo_go : ∀ (w : MW) (a0 : Int32) (Q : Int32 → MW → Prop), r_Mo_go w a0 Q → Tc (d + 404) 111 [.ref 127, .int a0] w (RI Q)) (hr_Mo_goPar : ∀ (w : MW) (a0 : Int32) (Q : Int32 → MW → Prop), r_Mo_goPar w a0 Q → Tc (d + 404) 113 [.ref 127, .int a0] w (RI Q)) {x92_1 : Int32} {E : MW → Prop} {Q : Int32 → MW → Prop} (n : Nat) : ∀  (z2 : Option Value) (w : MW), q_Mo_go_92 r_Mo_go r_Mo_goPar x92_1 E Q n  w → (∀  (v0 : Option Value) (v1 : Option Value) (v2 : Option Value) (w : MW), E  w → Tm (d + 405) 111 140 [v0, v1, v2] [] w (RI Q)) → Tm (d + 405) 111 92 [some (.ref 127), some (.int x92_1), z2] [] w (RI Q) := by
  induction n with
  | zero => intro  z2 w hs; rw [q_Mo_go_92.eq_1] at hs; exact hs.elim
  | succ n ih =>
    intro  z2 w hs hE
    rw [q_Mo_go_92.eq_2] at hs
    refine tm_go 3 (pc' := 97) (L' := [some (.ref 127), some (.int x92_1), z2]) (S' := [.int x92_1, .ref 213]) (w' := w) rfl ?_
    obtain ⟨b47, hs⟩ := hs
    refine tm_k (pc' := 98) (L' := [some (.ref 127), some (.int x92_1), z2]) (S' := [.int (w.1 213 x92_1.toInt.toNat)]) (w' := w) rfl b47 ?_
    refine tm_go 1 (pc' := 99) (L' := [some (.ref 127), some (.int x92_1), z2]) (S' := [.int (-1), .int (w.1 213 x92_1.toInt.toNat)]) (w' := w) rfl ?_
    refine tm_i (p1 := 140) (p2 := 102) rfl (fun h48 => ?_) (fun h48 => ?_)
    · replace hs := hs.1 h48
      exact hE _ _ _ _ hs
    · replace hs := hs.2 h48
      refine tm_go 4 (pc' := 108) (L' := [some (.ref 127), some (.int x92_1), z2]) (S' := [.int x92_1, .ref 213, .ref 127]) (w' := w) rfl ?_
      obtain ⟨b49, hs⟩ := hs
      refine tm_k (pc' := 109) (L' := [some (.ref 127), some (.int x92_1), z2]) (S' := [.int (w.1 213 x92_1.toInt.toNat), .ref 127]) (w' := w) rfl b49 ?_
      refine tm_c rfl (Nat.le_of_ble_eq_true rfl) (hr_Mo_go _ _ _ hs) (fun v w50 hq => ?_)
      obtain ⟨r50, rfl, hs⟩ := hq
      refine tm_go 3 (pc' := 115) (L' := [some (.ref 127), some (.int x92_1), some (.int r50)]) (S' := [.int 1, .int r50]) (w' := w50) rfl ?_
      refine tm_i (p1 := 120) (p2 := 118) rfl (fun h51 => ?_) (fun h51 => ?_)
      · replace hs := hs.1 h51
        refine tm_go 8 (pc' := 134) (L' := [some (.ref 127), some (.int x92_1), some (.int r50)]) (S' := [.int x92_1, .ref 213, .ref 209, .int x92_1, .ref 213]) (w' := w50) rfl ?_
        obtain ⟨b52, hs⟩ := hs
        refine tm_k (pc' := 135) (L' := [some (.ref 127), some (.int x92_1), some (.int r50)]) (S' := [.int (w50.1 213 x92_1.toInt.toNat), .ref 209, .int x92_1, .ref 213]) (w' := w50) rfl b52 ?_
        obtain ⟨b53, hs⟩ := hs
        refine tm_k (pc' := 136) (L' := [some (.ref 127), some (.int x92_1), some (.int r50)]) (S' := [.int (w50.1 209 ((w50.1 213 x92_1.toInt.toNat).toInt.toNat)), .int x92_1, .ref 213]) (w' := w50) rfl b53 ?_
        obtain ⟨b54, hs⟩ := hs
        refine tm_k (pc' := 137) (L' := [some (.ref 127), some (.int x92_1), some (.int r50)]) (S' := []) (w' := (sI w50 213 x92_1.toInt.toNat (w50.1 209 ((w50.1 213 x92_1.toInt.toNat).toInt.toNat)))) rfl b54 ?_
        refine tm_go 1 (pc' := 92) (L' := [some (.ref 127), some (.int x92_1), some (.int r50)]) (S' := []) (w' := (sI w50 213 x92_1.toInt.toNat (w50.1 209 ((w50.1 213 x92_1.toInt.toNat).toInt.toNat)))) rfl ?_
        exact ih _ _ hs hE
      · replace hs := hs.2 h51
        refine tm_go 1 (pc' := 119) (L' := [some (.ref 127), some (.int x92_1), some (.int r50)]) (S' := [.int r50]) (w' := w50) rfl ?_
        exact tm_r rfl ⟨_, rfl, hs⟩
set_option maxHeartbeats 4000000 in
set_option maxRecDepth 100000 in
theorem tx_Mo_go_19 {d : Nat} {r_Mo_go : MW → Int32 → (Int32 → MW → Prop) → Prop} {r_Mo_goPar : MW → Int32 → (Int32 → MW → Prop) → Prop} (hr_Mo_go : ∀ (w : MW) (a0 : Int32) (Q : Int32 → MW → Prop), r_Mo_go w a0 Q → Tc (d + 404) 111 [.ref 127, .int a0] w (RI Q)) (hr_Mo_goPar : ∀ (w : MW) (a0 : Int32) (Q : Int32 → MW → Prop), r_Mo_goPar w a0 Q → Tc (d + 404) 113 [.ref 127, .int a0] w (RI Q)) {y19_1 : Int32} {z2 : Option Value} {w : MW} {Q : Int32 → MW → Prop} (hs : q_Mo_go_19 r_Mo_go r_Mo_goPar y19_1 w Q) : Tm (d + 405) 111 19 [some (.ref 127), some (.int y19_1), z2] [] w (RI Q) := by
  unfold q_Mo_go_19 at hs
  refine tm_go 2 (pc' := 21) (L' := [some (.ref 127), some (.int y19_1), z2]) (S' := [.int y19_1, .ref 127]) (w' := w) rfl ?_
  refine tm_c rfl (Nat.le_of_ble_eq_true rfl) (dm_Mo_kind (d := d + 403) hs) (fun v w3 hq => ?_)
  obtain ⟨r3, rfl, hs⟩ := hq
  by_cases h4 : r3.toInt = 11
  · replace hs := hs.1 h4
    refine tm_tab (dflt := 286) (lo := 11) (ts := [142, 170, 263, 176, 182, 207, 182, 269, 182, 284, 286, 286, 92]) rfl (by rw [h4]; decide) (t := 142) (by rw [h4]; rfl) ?_
    refine tm_go 5 (pc' := 151) (L' := [some (.ref 127), some (.int y19_1), z2]) (S' := [.int y19_1, .ref 214, .int (w3.1 127 74)]) (w' := w3) rfl ?_
    obtain ⟨b5, hs⟩ := hs
    refine tm_k (pc' := 152) (L' := [some (.ref 127), some (.int y19_1), z2]) (S' := [.int (w3.1 214 y19_1.toInt.toNat), .int (w3.1 127 74)]) (w' := w3) rfl b5 ?_
    refine tm_go 5 (pc' := 159) (L' := [some (.ref 127), some (.int y19_1), z2]) (S' := [.int y19_1, .ref 215, .long (Int32.toInt64 ((w3.1 127 74) - (w3.1 214 y19_1.toInt.toNat)))]) (w' := w3) rfl ?_
    obtain ⟨b6, hs⟩ := hs
    refine tm_k (pc' := 160) (L' := [some (.ref 127), some (.int y19_1), z2]) (S' := [.long (w3.2.1 215 y19_1.toInt.toNat), .long (Int32.toInt64 ((w3.1 127 74) - (w3.1 214 y19_1.toInt.toNat)))]) (w' := w3) rfl b6 ?_
    refine tm_go 1 (pc' := 161) (L' := [some (.ref 127), some (.int y19_1), z2]) (S' := [.int (lg_cmp (Int32.toInt64 ((w3.1 127 74) - (w3.1 214 y19_1.toInt.toNat))) (w3.2.1 215 y19_1.toInt.toNat))]) (w' := w3) rfl ?_
    refine tm_i (p1 := 168) (p2 := 164) rfl (fun h7 => ?_) (fun h7 => ?_)
    · replace hs := hs.1 h7
      refine tm_go 1 (pc' := 169) (L' := [some (.ref 127), some (.int y19_1), z2]) (S' := [.int 0]) (w' := w3) rfl ?_
      exact tm_r rfl ⟨_, rfl, hs⟩
    · replace hs := hs.2 h7
      refine tm_go 2 (pc' := 169) (L' := [some (.ref 127), some (.int y19_1), z2]) (S' := [.int 1]) (w' := w3) rfl ?_
      exact tm_r rfl ⟨_, rfl, hs⟩
  · replace hs := hs.2 h4
    by_cases h8 : r3.toInt = 12
    · replace hs := hs.1 h8
      refine tm_tab (dflt := 286) (lo := 11) (ts := [142, 170, 263, 176, 182, 207, 182, 269, 182, 284, 286, 286, 92]) rfl (by rw [h8]; decide) (t := 170) (by rw [h8]; rfl) ?_
      refine tm_go 2 (pc' := 172) (L' := [some (.ref 127), some (.int y19_1), z2]) (S' := [.int y19_1, .ref 127]) (w' := w3) rfl ?_
      refine tm_c rfl (Nat.le_of_ble_eq_true rfl) (dm_Mo_goUntil (d := d + 2) hs) (fun v w9 hq => ?_)
      obtain ⟨r9, rfl, hs⟩ := hq
      exact tm_r rfl ⟨_, rfl, hs⟩
    · replace hs := hs.2 h8
      by_cases h10 : r3.toInt = 13
      · replace hs := hs.1 h10
        refine tm_tab (dflt := 286) (lo := 11) (ts := [142, 170, 263, 176, 182, 207, 182, 269, 182, 284, 286, 286, 92]) rfl (by rw [h10]; decide) (t := 263) (by rw [h10]; rfl) ?_
        refine tm_go 2 (pc' := 265) (L' := [some (.ref 127), some (.int y19_1), z2]) (S' := [.int y19_1, .ref 127]) (w' := w3) rfl ?_
        refine tm_c rfl (Nat.le_of_ble_eq_true rfl) (dm_Mo_goRamp (d := d + 403) hs) (fun v w11 hq => ?_)
        obtain ⟨r11, rfl, hs⟩ := hq
        exact tm_r rfl ⟨_, rfl, hs⟩
      · replace hs := hs.2 h10
        by_cases h12 : r3.toInt = 14
        · replace hs := hs.1 h12
          refine tm_tab (dflt := 286) (lo := 11) (ts := [142, 170, 263, 176, 182, 207, 182, 269, 182, 284, 286, 286, 92]) rfl (by rw [h12]; decide) (t := 176) (by rw [h12]; rfl) ?_
          refine tm_go 2 (pc' := 178) (L' := [some (.ref 127), some (.int y19_1), z2]) (S' := [.int y19_1, .ref 127]) (w' := w3) rfl ?_
          refine tm_c rfl (Nat.le_of_ble_eq_true rfl) (hr_Mo_goPar _ _ _ hs) (fun v w13 hq => ?_)
          obtain ⟨r13, rfl, hs⟩ := hq
          exact tm_r rfl ⟨_, rfl, hs⟩
        · replace hs := hs.2 h12
          by_cases h14 : r3.toInt = 15
          · replace hs := hs.1 h14
            refine tm_tab (dflt := 286) (lo := 11) (ts := [142, 170, 263, 176, 182, 207, 182, 269, 182, 284, 286, 286, 92]) rfl (by rw [h14]; decide) (t := 182) (by rw [h14]; rfl) ?_
            refine tm_go 3 (pc' := 187) (L' := [some (.ref 127), some (.int y19_1), z2]) (S' := [.int y19_1, .ref 213]) (w' := w3) rfl ?_
            obtain ⟨b15, hs⟩ := hs
            refine tm_k (pc' := 188) (L' := [some (.ref 127), some (.int y19_1), z2]) (S' := [.int (w3.1 213 y19_1.toInt.toNat)]) (w' := w3) rfl b15 ?_
            refine tm_go 1 (pc' := 189) (L' := [some (.ref 127), some (.int y19_1), z2]) (S' := [.int (-1), .int (w3.1 213 y19_1.toInt.toNat)]) (w' := w3) rfl ?_
            refine tm_i (p1 := 196) (p2 := 192) rfl (fun h16 => ?_) (fun h16 => ?_)
            · replace hs := hs.1 h16
              refine tm_go 4 (pc' := 202) (L' := [some (.ref 127), some (.int y19_1), z2]) (S' := [.int y19_1, .ref 213, .ref 127]) (w' := w3) rfl ?_
              obtain ⟨b17, hs⟩ := hs
              refine tm_k (pc' := 203) (L' := [some (.ref 127), some (.int y19_1), z2]) (S' := [.int (w3.1 213 y19_1.toInt.toNat), .ref 127]) (w' := w3) rfl b17 ?_
              refine tm_c rfl (Nat.le_of_ble_eq_true rfl) (hr_Mo_go _ _ _ hs) (fun v w18 hq => ?_)
              obtain ⟨r18, rfl, hs⟩ := hq
              exact tm_r rfl ⟨_, rfl, hs⟩
            · replace hs := hs.2 h16
              refine tm_go 2 (pc' := 206) (L' := [some (.ref 127), some (.int y19_1), z2]) (S' := [.int 1]) (w' := w3) rfl ?_
              exact tm_r rfl ⟨_, rfl, hs⟩
          · replace hs := hs.2 h14
            by_cases h19 : r3.toInt = 16
            · replace hs := hs.1 h19
              refine tm_tab (dflt := 286) (lo := 11) (ts := [142, 170, 263, 176, 182, 207, 182, 269, 182, 284, 286, 286, 92]) rfl (by rw [h19]; decide) (t := 207) (by rw [h19]; rfl) ?_
              refine tx_Mo_go_207 hr_Mo_go hr_Mo_goPar FU _ _ hs (fun  z29_0 z29_1 z29_2 w29 hs => ?_)
              refine tm_go 1 (pc' := 262) (L' := [z29_0, z29_1, z29_2]) (S' := [.int 1]) (w' := w29) rfl ?_
              exact tm_r rfl ⟨_, rfl, hs⟩
            · replace hs := hs.2 h19
              by_cases h30 : r3.toInt = 17
              · replace hs := hs.1 h30
                refine tm_tab (dflt := 286) (lo := 11) (ts := [142, 170, 263, 176, 182, 207, 182, 269, 182, 284, 286, 286, 92]) rfl (by rw [h30]; decide) (t := 182) (by rw [h30]; rfl) ?_
                refine tm_go 3 (pc' := 187) (L' := [some (.ref 127), some (.int y19_1), z2]) (S' := [.int y19_1, .ref 213]) (w' := w3) rfl ?_
                obtain ⟨b31, hs⟩ := hs
                refine tm_k (pc' := 188) (L' := [some (.ref 127), some (.int y19_1), z2]) (S' := [.int (w3.1 213 y19_1.toInt.toNat)]) (w' := w3) rfl b31 ?_
                refine tm_go 1 (pc' := 189) (L' := [some (.ref 127), some (.int y19_1), z2]) (S' := [.int (-1), .int (w3.1 213 y19_1.toInt.toNat)]) (w' := w3) rfl ?_
                refine tm_i (p1 := 196) (p2 := 192) rfl (fun h32 => ?_) (fun h32 => ?_)
                · replace hs := hs.1 h32
                  refine tm_go 4 (pc' := 202) (L' := [some (.ref 127), some (.int y19_1), z2]) (S' := [.int y19_1, .ref 213, .ref 127]) (w' := w3) rfl ?_
                  obtain ⟨b33, hs⟩ := hs
                  refine tm_k (pc' := 203) (L' := [some (.ref 127), some (.int y19_1), z2]) (S' := [.int (w3.1 213 y19_1.toInt.toNat), .ref 127]) (w' := w3) rfl b33 ?_
                  refine tm_c rfl (Nat.le_of_ble_eq_true rfl) (hr_Mo_go _ _ _ hs) (fun v w34 hq => ?_)
                  obtain ⟨r34, rfl, hs⟩ := hq
                  exact tm_r rfl ⟨_, rfl, hs⟩
                · replace hs := hs.2 h32
                  refine tm_go 2 (pc' := 206) (L' := [some (.ref 127), some (.int y19_1), z2]) (S' := [.int 1]) (w' := w3) rfl ?_
                  exact tm_r rfl ⟨_, rfl, hs⟩
              · replace hs := hs.2 h30
                by_cases h35 : r3.toInt = 18
                · replace hs := hs.1 h35
                  refine tm_tab (dflt := 286) (lo := 11) (ts := [142, 170, 263, 176, 182, 207, 182, 269, 182, 284, 286, 286, 92]) rfl (by rw [h35]; decide) (t := 269) (by rw [h35]; rfl) ?_
                  refine tm_go 3 (pc' := 274) (L' := [some (.ref 127), some (.int y19_1), z2]) (S' := [.int y19_1, .ref 211]) (w' := w3) rfl ?_
                  obtain ⟨b36, hs⟩ := hs
                  refine tm_k (pc' := 275) (L' := [some (.ref 127), some (.int y19_1), z2]) (S' := [.int (w3.1 211 y19_1.toInt.toNat)]) (w' := w3) rfl b36 ?_
                  refine tm_i (p1 := 282) (p2 := 278) rfl (fun h37 => ?_) (fun h37 => ?_)
                  · replace hs := hs.1 h37
                    refine tm_go 1 (pc' := 283) (L' := [some (.ref 127), some (.int y19_1), z2]) (S' := [.int 0]) (w' := w3) rfl ?_
                    exact tm_r rfl ⟨_, rfl, hs⟩
                  · replace hs := hs.2 h37
                    refine tm_go 2 (pc' := 283) (L' := [some (.ref 127), some (.int y19_1), z2]) (S' := [.int 1]) (w' := w3) rfl ?_
                    exact tm_r rfl ⟨_, rfl, hs⟩
                · replace hs := hs.2 h35
                  by_cases h38 : r3.toInt = 19
                  · replace hs := hs.1 h38
                    refine tm_tab (dflt := 286) (lo := 11) (ts := [142, 170, 263, 176, 182, 207, 182, 269, 182, 284, 286, 286, 92]) rfl (by rw [h38]; decide) (t := 182) (by rw [h38]; rfl) ?_
                    refine tm_go 3 (pc' := 187) (L' := [some (.ref 127), some (.int y19_1), z2]) (S' := [.int y19_1, .ref 213]) (w' := w3) rfl ?_
                    obtain ⟨b39, hs⟩ := hs
                    refine tm_k (pc' := 188) (L' := [some (.ref 127), some (.int y19_1), z2]) (S' := [.int (w3.1 213 y19_1.toInt.toNat)]) (w' := w3) rfl b39 ?_
                    refine tm_go 1 (pc' := 189) (L' := [some (.ref 127), some (.int y19_1), z2]) (S' := [.int (-1), .int (w3.1 213 y19_1.toInt.toNat)]) (w' := w3) rfl ?_
                    refine tm_i (p1 := 196) (p2 := 192) rfl (fun h40 => ?_) (fun h40 => ?_)
                    · replace hs := hs.1 h40
                      refine tm_go 4 (pc' := 202) (L' := [some (.ref 127), some (.int y19_1), z2]) (S' := [.int y19_1, .ref 213, .ref 127]) (w' := w3) rfl ?_
                      obtain ⟨b41, hs⟩ := hs
                      refine tm_k (pc' := 203) (L' := [some (.ref 127), some (.int y19_1), z2]) (S' := [.int (w3.1 213 y19_1.toInt.toNat), .ref 127]) (w' := w3) rfl b41 ?_
                      refine tm_c rfl (Nat.le_of_ble_eq_true rfl) (hr_Mo_go _ _ _ hs) (fun v w42 hq => ?_)
                      obtain ⟨r42, rfl, hs⟩ := hq
                      exact tm_r rfl ⟨_, rfl, hs⟩
                    · replace hs := hs.2 h40
                      refine tm_go 2 (pc' := 206) (L' := [some (.ref 127), some (.int y19_1), z2]) (S' := [.int 1]) (w' := w3) rfl ?_
                      exact tm_r rfl ⟨_, rfl, hs⟩
                  · replace hs := hs.2 h38
                    by_cases h43 : r3.toInt = 20
                    · replace hs := hs.1 h43
                      refine tm_tab (dflt := 286) (lo := 11) (ts := [142, 170, 263, 176, 182, 207, 182, 269, 182, 284, 286, 286, 92]) rfl (by rw [h43]; decide) (t := 284) (by rw [h43]; rfl) ?_
                      refine tm_go 1 (pc' := 285) (L' := [some (.ref 127), some (.int y19_1), z2]) (S' := [.int 3]) (w' := w3) rfl ?_
                      exact tm_r rfl ⟨_, rfl, hs⟩
                    · replace hs := hs.2 h43
                      by_cases h44 : r3.toInt = 21
                      · replace hs := hs.1 h44
                        refine tm_tab (dflt := 286) (lo := 11) (ts := [142, 170, 263, 176, 182, 207, 182, 269, 182, 284, 286, 286, 92]) rfl (by rw [h44]; decide) (t := 286) (by rw [h44]; rfl) ?_
                        refine tm_go 1 (pc' := 287) (L' := [some (.ref 127), some (.int y19_1), z2]) (S' := [.int 1]) (w' := w3) rfl ?_
                        exact tm_r rfl ⟨_, rfl, hs⟩
                      · replace hs := hs.2 h44
                        by_cases h45 : r3.toInt = 22
                        · replace hs := hs.1 h45
                          refine tm_tab (dflt := 286) (lo := 11) (ts := [142, 170, 263, 176, 182, 207, 182, 269, 182, 284, 286, 286, 92]) rfl (by rw [h45]; decide) (t := 286) (by rw [h45]; rfl) ?_
                          refine tm_go 1 (pc' := 287) (L' := [some (.ref 127), some (.int y19_1), z2]) (S' := [.int 1]) (w' := w3) rfl ?_
                          exact tm_r rfl ⟨_, rfl, hs⟩
                        · replace hs := hs.2 h45
                          by_cases h46 : r3.toInt = 23
                          · replace hs := hs.1 h46
                            refine tm_tab (dflt := 286) (lo := 11) (ts := [142, 170, 263, 176, 182, 207, 182, 269, 182, 284, 286, 286, 92]) rfl (by rw [h46]; decide) (t := 92) (by rw [h46]; rfl) ?_
                            refine tx_Mo_go_92 hr_Mo_go hr_Mo_goPar FU _ _ hs (fun  z55_0 z55_1 z55_2 w55 hs => ?_)
                            refine tm_go 1 (pc' := 141) (L' := [z55_0, z55_1, z55_2]) (S' := [.int 1]) (w' := w55) rfl ?_
                            exact tm_r rfl ⟨_, rfl, hs⟩
                          · replace hs := hs.2 h46
                            refine tm_tad (dflt := 286) (lo := 11) (ts := [142, 170, 263, 176, 182, 207, 182, 269, 182, 284, 286, 286, 92]) rfl (by simp only [List.length_cons, List.length_nil]; omega) ?_
                            refine tm_go 1 (pc' := 287) (L' := [some (.ref 127), some (.int y19_1), z2]) (S' := [.int 1]) (w' := w3) rfl ?_
                            exact tm_r rfl ⟨_, rfl, hs⟩
set_option maxHeartbeats 4000000 in
set_option maxRecDepth 100000 in
theorem dmb_Mo_go {d : Nat} {r_Mo_go : MW → Int32 → (Int32 → MW → Prop) → Prop} {r_Mo_goPar : MW → Int32 → (Int32 → MW → Prop) → Prop} (hr_Mo_go : ∀ (w : MW) (a0 : Int32) (Q : Int32 → MW → Prop), r_Mo_go w a0 Q → Tc (d + 404) 111 [.ref 127, .int a0] w (RI Q)) (hr_Mo_goPar : ∀ (w : MW) (a0 : Int32) (Q : Int32 → MW → Prop), r_Mo_goPar w a0 Q → Tc (d + 404) 113 [.ref 127, .int a0] w (RI Q)) {w : MW} {a0 : Int32} {Q : Int32 → MW → Prop} (hs : pb_Mo_go r_Mo_go r_Mo_goPar w a0 Q) : Tc (d + 405) 111 [.ref 127, .int a0] w (RI Q) := by
  unfold pb_Mo_go at hs
  refine tm_go 3 (pc' := 5) (L' := [some (.ref 127), some (.int a0), none]) (S' := [.int a0, .ref 210]) (w' := w) rfl ?_
  obtain ⟨b1, hs⟩ := hs
  refine tm_k (pc' := 6) (L' := [some (.ref 127), some (.int a0), none]) (S' := [.int (w.1 210 a0.toInt.toNat)]) (w' := w) rfl b1 ?_
  refine tm_i (p1 := 19) (p2 := 9) rfl (fun h2 => ?_) (fun h2 => ?_)
  · replace hs := hs.1 h2
    exact tx_Mo_go_19 hr_Mo_go hr_Mo_goPar hs 
  · replace hs := hs.2 h2
    refine tm_go 2 (pc' := 11) (L' := [some (.ref 127), some (.int a0), none]) (S' := [.int a0, .ref 127]) (w' := w) rfl ?_
    refine tm_c rfl (Nat.le_of_ble_eq_true rfl) (dm_Mo_begin (d := d + 0) hs) (fun v w56 hq => ?_)
    obtain ⟨r56, rfl, hz56, hs⟩ := hq
    refine tm_i (p1 := 19) (p2 := 17) rfl (fun h57 => ?_) (fun h57 => ?_)
    · replace hs := hs.1 h57
      exact tx_Mo_go_19 hr_Mo_go hr_Mo_goPar hs 
    · replace hs := hs.2 h57
      refine tm_go 1 (pc' := 18) (L' := [some (.ref 127), some (.int a0), none]) (S' := [.int 2]) (w' := w56) rfl ?_
      exact tm_r rfl ⟨_, rfl, hs⟩
set_option maxHeartbeats 4000000 in
set_option maxRecDepth 100000 in
theorem tx_Mo_goPar_62 {d : Nat} {r_Mo_go : MW → Int32 → (Int32 → MW → Prop) → Prop} {r_Mo_goPar : MW → Int32 → (Int32 → MW → Prop) → Prop} (hr_Mo_go : ∀ (w : MW) (a0 : Int32) (Q : Int32 → MW → Prop), r_Mo_go w a0 Q → Tc (d + 404) 111 [.ref 127, .int a0] w (RI Q)) (hr_Mo_goPar : ∀ (w : MW) (a0 : Int32) (Q : Int32 → MW → Prop), r_Mo_goPar w a0 Q → Tc (d + 404) 113 [.ref 127, .int a0] w (RI Q)) {y62_2 : Int32} {y62_3 : Int32} {z1 : Option Value} {z4 : Option Value} {w : MW} {A : Int32 → Int32 → MW → Prop} {E : Int32 → MW → Prop} {Q : Int32 → MW → Prop} (hs : q_Mo_goPar_62 r_Mo_go r_Mo_goPar y62_2 y62_3 w A E Q) (hA : ∀ (x9_2 : Int32) (x9_3 : Int32)  (z1 : Option Value) (z4 : Option Value) (w : MW), A x9_2 x9_3 w → Tm (d + 405) 113 9 [some (.ref 127), z1, some (.int x9_2), some (.int x9_3), z4] [] w (RI Q)) (hE : ∀ (e9_2 : Int32)  (v0 : Option Value) (v1 : Option Value) (v3 : Option Value) (v4 : Option Value) (w : MW), E e9_2 w → Tm (d + 405) 113 91 [v0, v1, some (.int e9_2), v3, v4] [] w (RI Q)) : Tm (d + 405) 113 62 [some (.ref 127), z1, some (.int y62_2), some (.int y62_3), z4] [] w (RI Q) := by
  unfold q_Mo_goPar_62 at hs
  refine tm_go 1 (pc' := 63) (L' := [some (.ref 127), z1, some (.int y62_2), some (.int y62_3), z4]) (S' := [.int y62_2]) (w' := w) rfl ?_
  refine tm_i (p1 := 79) (p2 := 66) rfl (fun h5 => ?_) (fun h5 => ?_)
  · replace hs := hs.1 h5
    refine tm_go 5 (pc' := 86) (L' := [some (.ref 127), (ksl z1), some (.int 0), some (.int y62_3), z4]) (S' := [.int y62_3, .ref 209]) (w' := w) rfl ?_
    obtain ⟨b6, hs⟩ := hs
    refine tm_k (pc' := 87) (L' := [some (.ref 127), (ksl z1), some (.int 0), some (.int y62_3), z4]) (S' := [.int (w.1 209 y62_3.toInt.toNat)]) (w' := w) rfl b6 ?_
    refine tm_go 2 (pc' := 9) (L' := [some (.ref 127), (ksl z1), some (.int 0), some (.int (w.1 209 y62_3.toInt.toNat)), z4]) (S' := []) (w' := w) rfl ?_
    exact hA _ _ _ _ _ hs
  · replace hs := hs.2 h5
    refine tm_go 3 (pc' := 71) (L' := [some (.ref 127), z1, some (.int y62_2), some (.int y62_3), z4]) (S' := [.int y62_3, .ref 212]) (w' := w) rfl ?_
    obtain ⟨b7, hs⟩ := hs
    refine tm_k (pc' := 72) (L' := [some (.ref 127), z1, some (.int y62_2), some (.int y62_3), z4]) (S' := [.int (w.1 212 y62_3.toInt.toNat)]) (w' := w) rfl b7 ?_
    refine tm_i (p1 := 79) (p2 := 75) rfl (fun h8 => ?_) (fun h8 => ?_)
    · replace hs := hs.1 h8
      refine tm_go 5 (pc' := 86) (L' := [some (.ref 127), (ksl z1), some (.int 0), some (.int y62_3), z4]) (S' := [.int y62_3, .ref 209]) (w' := w) rfl ?_
      obtain ⟨b9, hs⟩ := hs
      refine tm_k (pc' := 87) (L' := [some (.ref 127), (ksl z1), some (.int 0), some (.int y62_3), z4]) (S' := [.int (w.1 209 y62_3.toInt.toNat)]) (w' := w) rfl b9 ?_
      refine tm_go 2 (pc' := 9) (L' := [some (.ref 127), (ksl z1), some (.int 0), some (.int (w.1 209 y62_3.toInt.toNat)), z4]) (S' := []) (w' := w) rfl ?_
      exact hA _ _ _ _ _ hs
    · replace hs := hs.2 h8
      refine tm_go 6 (pc' := 86) (L' := [some (.ref 127), (ksl z1), some (.int 1), some (.int y62_3), z4]) (S' := [.int y62_3, .ref 209]) (w' := w) rfl ?_
      obtain ⟨b10, hs⟩ := hs
      refine tm_k (pc' := 87) (L' := [some (.ref 127), (ksl z1), some (.int 1), some (.int y62_3), z4]) (S' := [.int (w.1 209 y62_3.toInt.toNat)]) (w' := w) rfl b10 ?_
      refine tm_go 2 (pc' := 9) (L' := [some (.ref 127), (ksl z1), some (.int 1), some (.int (w.1 209 y62_3.toInt.toNat)), z4]) (S' := []) (w' := w) rfl ?_
      exact hA _ _ _ _ _ hs
set_option maxHeartbeats 4000000 in
set_option maxRecDepth 100000 in
theorem tx_Mo_goPar_9 {d : Nat} {r_Mo_go : MW → Int32 → (Int32 → MW → Prop) → Prop} {r_Mo_goPar : MW → Int32 → (Int32 → MW → Prop) → Prop} (hr_Mo_go : ∀ (w : MW) (a0 : Int32) (Q : Int32 → MW → Prop), r_Mo_go w a0 Q → Tc (d + 404) 111 [.ref 127, .int a0] w (RI Q)) (hr_Mo_goPar : ∀ (w : MW) (a0 : Int32) (Q : Int32 → MW → Prop), r_Mo_goPar w a0 Q → Tc (d + 404) 113 [.ref 127, .int a0] w (RI Q)) {E : Int32 → MW → Prop} {Q : Int32 → MW → Prop} (n : Nat) : ∀ (x9_2 : Int32) (x9_3 : Int32)  (z1 : Option Value) (z4 : Option Value) (w : MW), q_Mo_goPar_9 r_Mo_go r_Mo_goPar  E Q n x9_2 x9_3 w → (∀ (e9_2 : Int32)  (v0 : Option Value) (v1 : Option Value) (v3 : Option Value) (v4 : Option Value) (w : MW), E e9_2 w → Tm (d + 405) 113 91 [v0, v1, some (.int e9_2), v3, v4] [] w (RI Q)) → Tm (d + 405) 113 9 [some (.ref 127), z1, some (.int x9_2), some (.int x9_3), z4] [] w (RI Q) := by
  induction n with
  | zero => intro x9_2 x9_3 z1 z4 w hs; rw [q_Mo_goPar_9.eq_1] at hs; exact hs.elim
  | succ n ih =>
    intro x9_2 x9_3 z1 z4 w hs hE
    rw [q_Mo_goPar_9.eq_2] at hs
    refine tm_go 2 (pc' := 11) (L' := [some (.ref 127), z1, some (.int x9_2), some (.int x9_3), z4]) (S' := [.int (-1), .int x9_3]) (w' := w) rfl ?_
    refine tm_i (p1 := 91) (p2 := 14) rfl (fun h2 => ?_) (fun h2 => ?_)
    · replace hs := hs.1 h2
      exact hE _ _ _ _ _ _ hs
    · replace hs := hs.2 h2
      refine tm_go 3 (pc' := 19) (L' := [some (.ref 127), z1, some (.int x9_2), some (.int x9_3), z4]) (S' := [.int x9_3, .ref 212]) (w' := w) rfl ?_
      obtain ⟨b3, hs⟩ := hs
      refine tm_k (pc' := 20) (L' := [some (.ref 127), z1, some (.int x9_2), some (.int x9_3), z4]) (S' := [.int (w.1 212 x9_3.toInt.toNat)]) (w' := w) rfl b3 ?_
      refine tm_i (p1 := 62) (p2 := 23) rfl (fun h4 => ?_) (fun h4 => ?_)
      · replace hs := hs.1 h4
        exact tx_Mo_goPar_62 hr_Mo_go hr_Mo_goPar hs (fun q0 q1 q2 q3 q4 hs => ih q0 q1 q2 q3 q4 hs hE) hE
      · replace hs := hs.2 h4
        refine tm_go 2 (pc' := 25) (L' := [some (.ref 127), z1, some (.int x9_2), some (.int x9_3), z4]) (S' := [.int x9_3, .ref 127]) (w' := w) rfl ?_
        refine tm_c rfl (Nat.le_of_ble_eq_true rfl) (hr_Mo_go _ _ _ hs) (fun v w11 hq => ?_)
        obtain ⟨r11, rfl, hs⟩ := hq
        refine tm_go 3 (pc' := 33) (L' := [some (.ref 127), z1, some (.int x9_2), some (.int x9_3), some (.int r11)]) (S' := [.int 2, .int r11]) (w' := w11) rfl ?_
        refine tm_i (p1 := 42) (p2 := 36) rfl (fun h12 => ?_) (fun h12 => ?_)
        · replace hs := hs.1 h12
          refine tm_go 1 (pc' := 44) (L' := [some (.ref 127), z1, some (.int x9_2), some (.int x9_3), some (.int r11)]) (S' := [.int r11]) (w' := w11) rfl ?_
          exact tm_r rfl ⟨_, rfl, hs⟩
        · replace hs := hs.2 h12
          refine tm_go 2 (pc' := 39) (L' := [some (.ref 127), z1, some (.int x9_2), some (.int x9_3), some (.int r11)]) (S' := [.int 3, .int r11]) (w' := w11) rfl ?_
          refine tm_i (p1 := 45) (p2 := 42) rfl (fun h13 => ?_) (fun h13 => ?_)
          · replace hs := hs.1 h13
            refine tm_go 5 (pc' := 53) (L' := [some (.ref 127), z1, some (.int x9_2), some (.int x9_3), some (.int r11)]) (S' := [.int 1, .int r11, .int x9_3, .ref 212]) (w' := w11) rfl ?_
            refine tm_i (p1 := 60) (p2 := 56) rfl (fun h14 => ?_) (fun h14 => ?_)
            · replace hs := hs.1 h14
              refine tm_go 1 (pc' := 61) (L' := [some (.ref 127), z1, some (.int x9_2), some (.int x9_3), some (.int r11)]) (S' := [.int 0, .int x9_3, .ref 212]) (w' := w11) rfl ?_
              obtain ⟨b15, hs⟩ := hs
              refine tm_k (pc' := 62) (L' := [some (.ref 127), z1, some (.int x9_2), some (.int x9_3), some (.int r11)]) (S' := []) (w' := (sI w11 212 x9_3.toInt.toNat (vp_nar .boolean (0 : Int32)))) rfl b15 ?_
              exact tx_Mo_goPar_62 hr_Mo_go hr_Mo_goPar hs (fun q0 q1 q2 q3 q4 hs => ih q0 q1 q2 q3 q4 hs hE) hE
            · replace hs := hs.2 h14
              refine tm_go 2 (pc' := 61) (L' := [some (.ref 127), z1, some (.int x9_2), some (.int x9_3), some (.int r11)]) (S' := [.int 1, .int x9_3, .ref 212]) (w' := w11) rfl ?_
              obtain ⟨b16, hs⟩ := hs
              refine tm_k (pc' := 62) (L' := [some (.ref 127), z1, some (.int x9_2), some (.int x9_3), some (.int r11)]) (S' := []) (w' := (sI w11 212 x9_3.toInt.toNat (vp_nar .boolean (1 : Int32)))) rfl b16 ?_
              exact tx_Mo_goPar_62 hr_Mo_go hr_Mo_goPar hs (fun q0 q1 q2 q3 q4 hs => ih q0 q1 q2 q3 q4 hs hE) hE
          · replace hs := hs.2 h13
            refine tm_go 1 (pc' := 44) (L' := [some (.ref 127), z1, some (.int x9_2), some (.int x9_3), some (.int r11)]) (S' := [.int r11]) (w' := w11) rfl ?_
            exact tm_r rfl ⟨_, rfl, hs⟩
set_option maxHeartbeats 4000000 in
set_option maxRecDepth 100000 in
theorem dmb_Mo_goPar {d : Nat} {r_Mo_go : MW → Int32 → (Int32 → MW → Prop) → Prop} {r_Mo_goPar : MW → Int32 → (Int32 → MW → Prop) → Prop} (hr_Mo_go : ∀ (w : MW) (a0 : Int32) (Q : Int32 → MW → Prop), r_Mo_go w a0 Q → Tc (d + 404) 111 [.ref 127, .int a0] w (RI Q)) (hr_Mo_goPar : ∀ (w : MW) (a0 : Int32) (Q : Int32 → MW → Prop), r_Mo_goPar w a0 Q → Tc (d + 404) 113 [.ref 127, .int a0] w (RI Q)) {w : MW} {a0 : Int32} {Q : Int32 → MW → Prop} (hs : pb_Mo_goPar r_Mo_go r_Mo_goPar w a0 Q) : Tc (d + 405) 113 [.ref 127, .int a0] w (RI Q) := by
  unfold pb_Mo_goPar at hs
  refine tm_go 5 (pc' := 7) (L' := [some (.ref 127), some (.int a0), some (.int 1), none, none]) (S' := [.int a0, .ref 208]) (w' := w) rfl ?_
  obtain ⟨b1, hs⟩ := hs
  refine tm_k (pc' := 8) (L' := [some (.ref 127), some (.int a0), some (.int 1), none, none]) (S' := [.int (w.1 208 a0.toInt.toNat)]) (w' := w) rfl b1 ?_
  refine tm_go 1 (pc' := 9) (L' := [some (.ref 127), some (.int a0), some (.int 1), some (.int (w.1 208 a0.toInt.toNat)), none]) (S' := []) (w' := w) rfl ?_
  refine tx_Mo_goPar_9 hr_Mo_go hr_Mo_goPar FU _ _ _ _ _ hs (fun e9_2_17 z17_0 z17_1 z17_3 z17_4 w17 hs => ?_)
  refine tm_go 1 (pc' := 92) (L' := [z17_0, z17_1, some (.int e9_2_17), z17_3, z17_4]) (S' := [.int e9_2_17]) (w' := w17) rfl ?_
  refine tm_i (p1 := 99) (p2 := 95) rfl (fun h18 => ?_) (fun h18 => ?_)
  · replace hs := hs.1 h18
    refine tm_go 1 (pc' := 100) (L' := [z17_0, z17_1, some (.int e9_2_17), z17_3, z17_4]) (S' := [.int 0]) (w' := w17) rfl ?_
    exact tm_r rfl ⟨_, rfl, hs⟩
  · replace hs := hs.2 h18
    refine tm_go 2 (pc' := 100) (L' := [z17_0, z17_1, some (.int e9_2_17), z17_3, z17_4]) (S' := [.int 1]) (w' := w17) rfl ?_
    exact tm_r rfl ⟨_, rfl, hs⟩
theorem da_Mo_go (n : Nat) : (∀ (w : MW) (a0 : Int32) (Q : Int32 → MW → Prop), pn_Mo_go n w a0 Q → Tc (n + 404) 111 [.ref 127, .int a0] w (RI Q)) ∧ (∀ (w : MW) (a0 : Int32) (Q : Int32 → MW → Prop), pn_Mo_goPar n w a0 Q → Tc (n + 404) 113 [.ref 127, .int a0] w (RI Q)) := by
  induction n with
  | zero => exact ⟨fun _ _ _ h => h.elim, fun _ _ _ h => h.elim⟩
  | succ n ih =>
    obtain ⟨h0, h1⟩ := ih
    exact ⟨fun _ _ _ h => (dmb_Mo_go (d := n) h0 h1 h).le (by omega), fun _ _ _ h => (dmb_Mo_goPar (d := n) h0 h1 h).le (by omega)⟩
theorem dm_Mo_go {d : Nat} {w : MW} {a0 : Int32} {Q : Int32 → MW → Prop} (hs : p_Mo_go w a0 Q) : Tc (d + 1414) 111 [.ref 127, .int a0] w (RI Q) := ((da_Mo_go 1010).1 _ _ _ hs).le (by omega)
theorem dm_Mo_goPar {d : Nat} {w : MW} {a0 : Int32} {Q : Int32 → MW → Prop} (hs : p_Mo_goPar w a0 Q) : Tc (d + 1414) 113 [.ref 127, .int a0] w (RI Q) := ((da_Mo_go 1010).2 _ _ _ hs).le (by omega)
set_option maxHeartbeats 4000000 in
set_option maxRecDepth 100000 in
theorem tx_Mo_limits_107 {d : Nat} {r_Mo_limits : MW → Int32 → (Int32 → MW → Prop) → Prop} (hr_Mo_limits : ∀ (w : MW) (a0 : Int32) (Q : Int32 → MW → Prop), r_Mo_limits w a0 Q → Tc (d + 401) 115 [.ref 127, .int a0] w (RZ Q)) {y107_1 : Int32} {y107_2 : Int32} {z3 : Option Value} {z4 : Option Value} {w : MW} {Q : Int32 → MW → Prop} (hs : q_Mo_limits_107 r_Mo_limits y107_1 y107_2 w Q) : Tm (d + 402) 115 107 [some (.ref 127), some (.int y107_1), some (.int y107_2), z3, z4] [] w (RZ Q) := by
  unfold q_Mo_limits_107 at hs
  refine tm_go 3 (pc' := 112) (L' := [some (.ref 127), some (.int y107_1), some (.int y107_2), z3, z4]) (S' := [.int y107_1, .ref 213]) (w' := w) rfl ?_
  obtain ⟨b7, hs⟩ := hs
  refine tm_k (pc' := 113) (L' := [some (.ref 127), some (.int y107_1), some (.int y107_2), z3, z4]) (S' := [.int (w.1 213 y107_1.toInt.toNat)]) (w' := w) rfl b7 ?_
  refine tm_go 1 (pc' := 114) (L' := [some (.ref 127), some (.int y107_1), some (.int y107_2), z3, z4]) (S' := [.int (-1), .int (w.1 213 y107_1.toInt.toNat)]) (w' := w) rfl ?_
  refine tm_i (p1 := 119) (p2 := 117) rfl (fun h8 => ?_) (fun h8 => ?_)
  · replace hs := hs.1 h8
    refine tm_go 2 (pc' := 122) (L' := [some (.ref 127), some (.int y107_1), some (.int y107_2), z3, z4]) (S' := [.int 17, .int y107_2]) (w' := w) rfl ?_
    refine tm_i (p1 := 216) (p2 := 125) rfl (fun h9 => ?_) (fun h9 => ?_)
    · replace hs := hs.1 h9
      refine tm_go 4 (pc' := 222) (L' := [some (.ref 127), some (.int y107_1), some (.int y107_2), z3, z4]) (S' := [.int y107_1, .ref 213, .ref 127]) (w' := w) rfl ?_
      obtain ⟨b10, hs⟩ := hs
      refine tm_k (pc' := 223) (L' := [some (.ref 127), some (.int y107_1), some (.int y107_2), z3, z4]) (S' := [.int (w.1 213 y107_1.toInt.toNat), .ref 127]) (w' := w) rfl b10 ?_
      refine tm_c rfl (Nat.le_of_ble_eq_true rfl) (hr_Mo_limits _ _ _ hs) (fun v w11 hq => ?_)
      obtain ⟨r11, rfl, hz11, hs⟩ := hq
      exact tm_rk rfl hz11 ⟨_, rfl, hz11, hs⟩
    · replace hs := hs.2 h9
      refine tm_go 3 (pc' := 130) (L' := [some (.ref 127), some (.int y107_1), some (.int y107_2), z3, z4]) (S' := [.int y107_1, .ref 213]) (w' := w) rfl ?_
      obtain ⟨b12, hs⟩ := hs
      refine tm_k (pc' := 131) (L' := [some (.ref 127), some (.int y107_1), some (.int y107_2), z3, z4]) (S' := [.int (w.1 213 y107_1.toInt.toNat)]) (w' := w) rfl b12 ?_
      refine tm_go 3 (pc' := 136) (L' := [some (.ref 127), some (.int y107_1), some (.int y107_2), z3, z4]) (S' := [.int y107_1, .ref 208, .int (w.1 213 y107_1.toInt.toNat)]) (w' := w) rfl ?_
      obtain ⟨b13, hs⟩ := hs
      refine tm_k (pc' := 137) (L' := [some (.ref 127), some (.int y107_1), some (.int y107_2), z3, z4]) (S' := [.int (w.1 208 y107_1.toInt.toNat), .int (w.1 213 y107_1.toInt.toNat)]) (w' := w) rfl b13 ?_
      refine tm_i (p1 := 216) (p2 := 140) rfl (fun h14 => ?_) (fun h14 => ?_)
      · replace hs := hs.1 h14
        refine tm_go 4 (pc' := 222) (L' := [some (.ref 127), some (.int y107_1), some (.int y107_2), z3, z4]) (S' := [.int y107_1, .ref 213, .ref 127]) (w' := w) rfl ?_
        obtain ⟨b15, hs⟩ := hs
        refine tm_k (pc' := 223) (L' := [some (.ref 127), some (.int y107_1), some (.int y107_2), z3, z4]) (S' := [.int (w.1 213 y107_1.toInt.toNat), .ref 127]) (w' := w) rfl b15 ?_
        refine tm_c rfl (Nat.le_of_ble_eq_true rfl) (hr_Mo_limits _ _ _ hs) (fun v w16 hq => ?_)
        obtain ⟨r16, rfl, hz16, hs⟩ := hq
        exact tm_rk rfl hz16 ⟨_, rfl, hz16, hs⟩
      · replace hs := hs.2 h14
        refine tm_go 6 (pc' := 150) (L' := [some (.ref 127), some (.int y107_1), some (.int y107_2), z3, z4]) (S' := [.int y107_1, .ref 207, .ref 129, .ref 127]) (w' := w) rfl ?_
        obtain ⟨b17, hs⟩ := hs
        refine tm_k (pc' := 151) (L' := [some (.ref 127), some (.int y107_1), some (.int y107_2), z3, z4]) (S' := [.int (w.1 207 y107_1.toInt.toNat), .ref 129, .ref 127]) (w' := w) rfl b17 ?_
        refine tm_go 1 (pc' := 152) (L' := [some (.ref 127), some (.int y107_1), some (.int y107_2), z3, z4]) (S' := [.int 0, .int (w.1 207 y107_1.toInt.toNat), .ref 129, .ref 127]) (w' := w) rfl ?_
        refine tm_c rfl (Nat.le_of_ble_eq_true rfl) (dm_Tx_kid (d := d + 400) hs) (fun v w18 hq => ?_)
        obtain ⟨r18, rfl, hs⟩ := hq
        refine tm_c rfl (Nat.le_of_ble_eq_true rfl) (dm_Mo_reckon (d := d + 0) hs) (fun v w19 hq => ?_)
        obtain ⟨r19, rfl, hs⟩ := hq
        refine tm_go 2 (pc' := 160) (L' := [some (.ref 127), some (.int y107_1), some (.int y107_2), some (.long r19), none]) (S' := [.ref 127]) (w' := w19) rfl ?_
        refine tm_c rfl (Nat.le_of_ble_eq_true rfl) (dm_Mo_isBad (d := d + 400) hs) (fun v w20 hq => ?_)
        obtain ⟨r20, rfl, hz20, hs⟩ := hq
        refine tm_i (p1 := 168) (p2 := 166) rfl (fun h21 => ?_) (fun h21 => ?_)
        · replace hs := hs.1 h21
          refine tm_go 3 (pc' := 171) (L' := [some (.ref 127), some (.int y107_1), some (.int y107_2), some (.long r19), none]) (S' := [.int (lg_cmp r19 (0 : Int64))]) (w' := w20) rfl ?_
          refine tm_i (p1 := 216) (p2 := 174) rfl (fun h22 => ?_) (fun h22 => ?_)
          · replace hs := hs.1 h22
            refine tm_go 4 (pc' := 222) (L' := [some (.ref 127), some (.int y107_1), some (.int y107_2), some (.long r19), none]) (S' := [.int y107_1, .ref 213, .ref 127]) (w' := w20) rfl ?_
            obtain ⟨b23, hs⟩ := hs
            refine tm_k (pc' := 223) (L' := [some (.ref 127), some (.int y107_1), some (.int y107_2), some (.long r19), none]) (S' := [.int (w20.1 213 y107_1.toInt.toNat), .ref 127]) (w' := w20) rfl b23 ?_
            refine tm_c rfl (Nat.le_of_ble_eq_true rfl) (hr_Mo_limits _ _ _ hs) (fun v w24 hq => ?_)
            obtain ⟨r24, rfl, hz24, hs⟩ := hq
            exact tm_rk rfl hz24 ⟨_, rfl, hz24, hs⟩
          · replace hs := hs.2 h22
            refine tm_go 4 (pc' := 180) (L' := [some (.ref 127), some (.int y107_1), some (.int y107_2), some (.long r19), none]) (S' := [.int y107_1, .ref 207, .ref 127]) (w' := w20) rfl ?_
            obtain ⟨b25, hs⟩ := hs
            refine tm_k (pc' := 181) (L' := [some (.ref 127), some (.int y107_1), some (.int y107_2), some (.long r19), none]) (S' := [.int (w20.1 207 y107_1.toInt.toNat), .ref 127]) (w' := w20) rfl b25 ?_
            refine tm_go 1 (pc' := 182) (L' := [some (.ref 127), some (.int y107_1), some (.int y107_2), some (.long r19), none]) (S' := [.int 3, .int (w20.1 207 y107_1.toInt.toNat), .ref 127]) (w' := w20) rfl ?_
            refine tm_c rfl (Nat.le_of_ble_eq_true rfl) (dm_Mo_raise (d := d + 401) hs) (fun v w26 hq => ?_)
            obtain ⟨rfl, hs⟩ := hq
            refine tm_go 8 (pc' := 199) (L' := [some (.ref 127), some (.int y107_1), some (.int y107_2), some (.long r19), none]) (S' := [.int y107_1, .ref 208, .ref 209, .int y107_1, .ref 213]) (w' := w26) rfl ?_
            obtain ⟨b27, hs⟩ := hs
            refine tm_k (pc' := 200) (L' := [some (.ref 127), some (.int y107_1), some (.int y107_2), some (.long r19), none]) (S' := [.int (w26.1 208 y107_1.toInt.toNat), .ref 209, .int y107_1, .ref 213]) (w' := w26) rfl b27 ?_
            obtain ⟨b28, hs⟩ := hs
            refine tm_k (pc' := 201) (L' := [some (.ref 127), some (.int y107_1), some (.int y107_2), some (.long r19), none]) (S' := [.int (w26.1 209 ((w26.1 208 y107_1.toInt.toNat).toInt.toNat)), .int y107_1, .ref 213]) (w' := w26) rfl b28 ?_
            obtain ⟨b29, hs⟩ := hs
            refine tm_k (pc' := 202) (L' := [some (.ref 127), some (.int y107_1), some (.int y107_2), some (.long r19), none]) (S' := []) (w' := (sI w26 213 y107_1.toInt.toNat (w26.1 209 ((w26.1 208 y107_1.toInt.toNat).toInt.toNat)))) rfl b29 ?_
            refine tm_go 5 (pc' := 211) (L' := [some (.ref 127), some (.int y107_1), some (.int y107_2), some (.long r19), none]) (S' := [.int y107_1, .ref 213, .ref 210]) (w' := (sI w26 213 y107_1.toInt.toNat (w26.1 209 ((w26.1 208 y107_1.toInt.toNat).toInt.toNat)))) rfl ?_
            obtain ⟨b30, hs⟩ := hs
            refine tm_k (pc' := 212) (L' := [some (.ref 127), some (.int y107_1), some (.int y107_2), some (.long r19), none]) (S' := [.int ((sI w26 213 y107_1.toInt.toNat (w26.1 209 ((w26.1 208 y107_1.toInt.toNat).toInt.toNat))).1 213 y107_1.toInt.toNat), .ref 210]) (w' := (sI w26 213 y107_1.toInt.toNat (w26.1 209 ((w26.1 208 y107_1.toInt.toNat).toInt.toNat)))) rfl b30 ?_
            refine tm_go 1 (pc' := 213) (L' := [some (.ref 127), some (.int y107_1), some (.int y107_2), some (.long r19), none]) (S' := [.int 0, .int ((sI w26 213 y107_1.toInt.toNat (w26.1 209 ((w26.1 208 y107_1.toInt.toNat).toInt.toNat))).1 213 y107_1.toInt.toNat), .ref 210]) (w' := (sI w26 213 y107_1.toInt.toNat (w26.1 209 ((w26.1 208 y107_1.toInt.toNat).toInt.toNat)))) rfl ?_
            obtain ⟨b31, hs⟩ := hs
            refine tm_k (pc' := 214) (L' := [some (.ref 127), some (.int y107_1), some (.int y107_2), some (.long r19), none]) (S' := []) (w' := (sI (sI w26 213 y107_1.toInt.toNat (w26.1 209 ((w26.1 208 y107_1.toInt.toNat).toInt.toNat))) 210 (((sI w26 213 y107_1.toInt.toNat (w26.1 209 ((w26.1 208 y107_1.toInt.toNat).toInt.toNat))).1 213 y107_1.toInt.toNat).toInt.toNat) (vp_nar .boolean (0 : Int32)))) rfl b31 ?_
            refine tm_go 1 (pc' := 215) (L' := [some (.ref 127), some (.int y107_1), some (.int y107_2), some (.long r19), none]) (S' := [.int 1]) (w' := (sI (sI w26 213 y107_1.toInt.toNat (w26.1 209 ((w26.1 208 y107_1.toInt.toNat).toInt.toNat))) 210 (((sI w26 213 y107_1.toInt.toNat (w26.1 209 ((w26.1 208 y107_1.toInt.toNat).toInt.toNat))).1 213 y107_1.toInt.toNat).toInt.toNat) (vp_nar .boolean (0 : Int32)))) rfl ?_
            exact tm_r rfl ⟨_, rfl, by decide, hs⟩
        · replace hs := hs.2 h21
          refine tm_go 1 (pc' := 167) (L' := [some (.ref 127), some (.int y107_1), some (.int y107_2), some (.long r19), none]) (S' := [.int 0]) (w' := w20) rfl ?_
          exact tm_r rfl ⟨_, rfl, by decide, hs⟩
  · replace hs := hs.2 h8
    refine tm_go 1 (pc' := 118) (L' := [some (.ref 127), some (.int y107_1), some (.int y107_2), z3, z4]) (S' := [.int 1]) (w' := w) rfl ?_
    exact tm_r rfl ⟨_, rfl, by decide, hs⟩
set_option maxHeartbeats 4000000 in
set_option maxRecDepth 100000 in
theorem tx_Mo_limits_30 {d : Nat} {r_Mo_limits : MW → Int32 → (Int32 → MW → Prop) → Prop} (hr_Mo_limits : ∀ (w : MW) (a0 : Int32) (Q : Int32 → MW → Prop), r_Mo_limits w a0 Q → Tc (d + 401) 115 [.ref 127, .int a0] w (RZ Q)) {E : MW → Prop} {Q : Int32 → MW → Prop} (n : Nat) : ∀ (x30_3 : Int32)  (z1 : Option Value) (z2 : Option Value) (z4 : Option Value) (w : MW), q_Mo_limits_30 r_Mo_limits  E Q n x30_3 w → (∀  (v0 : Option Value) (v1 : Option Value) (v2 : Option Value) (v3 : Option Value) (v4 : Option Value) (w : MW), E  w → Tm (d + 402) 115 64 [v0, v1, v2, v3, v4] [] w (RZ Q)) → Tm (d + 402) 115 30 [some (.ref 127), z1, z2, some (.int x30_3), z4] [] w (RZ Q) := by
  induction n with
  | zero => intro x30_3 z1 z2 z4 w hs; rw [q_Mo_limits_30.eq_1] at hs; exact hs.elim
  | succ n ih =>
    intro x30_3 z1 z2 z4 w hs hE
    rw [q_Mo_limits_30.eq_2] at hs
    refine tm_go 2 (pc' := 32) (L' := [some (.ref 127), z1, z2, some (.int x30_3), z4]) (S' := [.int (-1), .int x30_3]) (w' := w) rfl ?_
    refine tm_i (p1 := 64) (p2 := 35) rfl (fun h38 => ?_) (fun h38 => ?_)
    · replace hs := hs.1 h38
      exact hE _ _ _ _ _ _ hs
    · replace hs := hs.2 h38
      refine tm_go 3 (pc' := 40) (L' := [some (.ref 127), z1, z2, some (.int x30_3), z4]) (S' := [.int x30_3, .ref 212]) (w' := w) rfl ?_
      obtain ⟨b39, hs⟩ := hs
      refine tm_k (pc' := 41) (L' := [some (.ref 127), z1, z2, some (.int x30_3), z4]) (S' := [.int (w.1 212 x30_3.toInt.toNat)]) (w' := w) rfl b39 ?_
      refine tm_i (p1 := 54) (p2 := 44) rfl (fun h40 => ?_) (fun h40 => ?_)
      · replace hs := hs.1 h40
        refine tm_go 3 (pc' := 59) (L' := [some (.ref 127), z1, z2, some (.int x30_3), z4]) (S' := [.int x30_3, .ref 209]) (w' := w) rfl ?_
        obtain ⟨b41, hs⟩ := hs
        refine tm_k (pc' := 60) (L' := [some (.ref 127), z1, z2, some (.int x30_3), z4]) (S' := [.int (w.1 209 x30_3.toInt.toNat)]) (w' := w) rfl b41 ?_
        refine tm_go 2 (pc' := 30) (L' := [some (.ref 127), z1, (ksl z2), some (.int (w.1 209 x30_3.toInt.toNat)), z4]) (S' := []) (w' := w) rfl ?_
        exact ih _ _ _ _ _ hs hE
      · replace hs := hs.2 h40
        refine tm_go 2 (pc' := 46) (L' := [some (.ref 127), z1, z2, some (.int x30_3), z4]) (S' := [.int x30_3, .ref 127]) (w' := w) rfl ?_
        refine tm_c rfl (Nat.le_of_ble_eq_true rfl) (hr_Mo_limits _ _ _ hs) (fun v w42 hq => ?_)
        obtain ⟨r42, rfl, hz42, hs⟩ := hq
        refine tm_i (p1 := 54) (p2 := 52) rfl (fun h43 => ?_) (fun h43 => ?_)
        · replace hs := hs.1 h43
          refine tm_go 3 (pc' := 59) (L' := [some (.ref 127), z1, z2, some (.int x30_3), z4]) (S' := [.int x30_3, .ref 209]) (w' := w42) rfl ?_
          obtain ⟨b44, hs⟩ := hs
          refine tm_k (pc' := 60) (L' := [some (.ref 127), z1, z2, some (.int x30_3), z4]) (S' := [.int (w42.1 209 x30_3.toInt.toNat)]) (w' := w42) rfl b44 ?_
          refine tm_go 2 (pc' := 30) (L' := [some (.ref 127), z1, (ksl z2), some (.int (w42.1 209 x30_3.toInt.toNat)), z4]) (S' := []) (w' := w42) rfl ?_
          exact ih _ _ _ _ _ hs hE
        · replace hs := hs.2 h43
          refine tm_go 1 (pc' := 53) (L' := [some (.ref 127), z1, z2, some (.int x30_3), z4]) (S' := [.int 0]) (w' := w42) rfl ?_
          exact tm_r rfl ⟨_, rfl, by decide, hs⟩
set_option maxHeartbeats 4000000 in
set_option maxRecDepth 100000 in
theorem dmb_Mo_limits {d : Nat} {r_Mo_limits : MW → Int32 → (Int32 → MW → Prop) → Prop} (hr_Mo_limits : ∀ (w : MW) (a0 : Int32) (Q : Int32 → MW → Prop), r_Mo_limits w a0 Q → Tc (d + 401) 115 [.ref 127, .int a0] w (RZ Q)) {w : MW} {a0 : Int32} {Q : Int32 → MW → Prop} (hs : pb_Mo_limits r_Mo_limits w a0 Q) : Tc (d + 402) 115 [.ref 127, .int a0] w (RZ Q) := by
  unfold pb_Mo_limits at hs
  refine tm_go 3 (pc' := 5) (L' := [some (.ref 127), some (.int a0), none, none, none]) (S' := [.int a0, .ref 210]) (w' := w) rfl ?_
  obtain ⟨b1, hs⟩ := hs
  refine tm_k (pc' := 6) (L' := [some (.ref 127), some (.int a0), none, none, none]) (S' := [.int (w.1 210 a0.toInt.toNat)]) (w' := w) rfl b1 ?_
  refine tm_i (p1 := 11) (p2 := 9) rfl (fun h2 => ?_) (fun h2 => ?_)
  · replace hs := hs.1 h2
    refine tm_go 2 (pc' := 13) (L' := [some (.ref 127), some (.int a0), none, none, none]) (S' := [.int a0, .ref 127]) (w' := w) rfl ?_
    refine tm_c rfl (Nat.le_of_ble_eq_true rfl) (dm_Mo_kind (d := d + 400) hs) (fun v w3 hq => ?_)
    obtain ⟨r3, rfl, hs⟩ := hq
    refine tm_go 3 (pc' := 20) (L' := [some (.ref 127), some (.int a0), some (.int r3), none, none]) (S' := [.int 14, .int r3]) (w' := w3) rfl ?_
    refine tm_i (p1 := 66) (p2 := 23) rfl (fun h4 => ?_) (fun h4 => ?_)
    · replace hs := hs.1 h4
      refine tm_go 2 (pc' := 69) (L' := [some (.ref 127), some (.int a0), some (.int r3), none, none]) (S' := [.int 16, .int r3]) (w' := w3) rfl ?_
      refine tm_i (p1 := 83) (p2 := 72) rfl (fun h5 => ?_) (fun h5 => ?_)
      · replace hs := hs.1 h5
        refine tm_go 2 (pc' := 86) (L' := [some (.ref 127), some (.int a0), some (.int r3), none, none]) (S' := [.int 23, .int r3]) (w' := w3) rfl ?_
        refine tm_i (p1 := 107) (p2 := 89) rfl (fun h6 => ?_) (fun h6 => ?_)
        · replace hs := hs.1 h6
          exact tx_Mo_limits_107 hr_Mo_limits hs 
        · replace hs := hs.2 h6
          refine tm_go 2 (pc' := 92) (L' := [some (.ref 127), some (.int a0), some (.int r3), none, none]) (S' := [.int 15, .int r3]) (w' := w3) rfl ?_
          refine tm_i (p1 := 107) (p2 := 95) rfl (fun h32 => ?_) (fun h32 => ?_)
          · replace hs := hs.1 h32
            exact tx_Mo_limits_107 hr_Mo_limits hs 
          · replace hs := hs.2 h32
            refine tm_go 2 (pc' := 98) (L' := [some (.ref 127), some (.int a0), some (.int r3), none, none]) (S' := [.int 19, .int r3]) (w' := w3) rfl ?_
            refine tm_i (p1 := 107) (p2 := 101) rfl (fun h33 => ?_) (fun h33 => ?_)
            · replace hs := hs.1 h33
              exact tx_Mo_limits_107 hr_Mo_limits hs 
            · replace hs := hs.2 h33
              refine tm_go 2 (pc' := 104) (L' := [some (.ref 127), some (.int a0), some (.int r3), none, none]) (S' := [.int 17, .int r3]) (w' := w3) rfl ?_
              refine tm_i (p1 := 117) (p2 := 107) rfl (fun h34 => ?_) (fun h34 => ?_)
              · replace hs := hs.1 h34
                refine tm_go 1 (pc' := 118) (L' := [some (.ref 127), some (.int a0), some (.int r3), none, none]) (S' := [.int 1]) (w' := w3) rfl ?_
                exact tm_r rfl ⟨_, rfl, by decide, hs⟩
              · replace hs := hs.2 h34
                exact tx_Mo_limits_107 hr_Mo_limits hs 
      · replace hs := hs.2 h5
        refine tm_go 4 (pc' := 78) (L' := [some (.ref 127), some (.int a0), some (.int r3), none, none]) (S' := [.int a0, .ref 208, .ref 127]) (w' := w3) rfl ?_
        obtain ⟨b35, hs⟩ := hs
        refine tm_k (pc' := 79) (L' := [some (.ref 127), some (.int a0), some (.int r3), none, none]) (S' := [.int (w3.1 208 a0.toInt.toNat), .ref 127]) (w' := w3) rfl b35 ?_
        refine tm_c rfl (Nat.le_of_ble_eq_true rfl) (hr_Mo_limits _ _ _ hs) (fun v w36 hq => ?_)
        obtain ⟨r36, rfl, hz36, hs⟩ := hq
        exact tm_rk rfl hz36 ⟨_, rfl, hz36, hs⟩
    · replace hs := hs.2 h4
      refine tm_go 3 (pc' := 28) (L' := [some (.ref 127), some (.int a0), some (.int r3), none, none]) (S' := [.int a0, .ref 208]) (w' := w3) rfl ?_
      obtain ⟨b37, hs⟩ := hs
      refine tm_k (pc' := 29) (L' := [some (.ref 127), some (.int a0), some (.int r3), none, none]) (S' := [.int (w3.1 208 a0.toInt.toNat)]) (w' := w3) rfl b37 ?_
      refine tm_go 1 (pc' := 30) (L' := [some (.ref 127), some (.int a0), some (.int r3), some (.int (w3.1 208 a0.toInt.toNat)), none]) (S' := []) (w' := w3) rfl ?_
      refine tx_Mo_limits_30 hr_Mo_limits FU _ _ _ _ _ hs (fun  z45_0 z45_1 z45_2 z45_3 z45_4 w45 hs => ?_)
      refine tm_go 1 (pc' := 65) (L' := [z45_0, z45_1, z45_2, z45_3, z45_4]) (S' := [.int 1]) (w' := w45) rfl ?_
      exact tm_r rfl ⟨_, rfl, by decide, hs⟩
  · replace hs := hs.2 h2
    refine tm_go 1 (pc' := 10) (L' := [some (.ref 127), some (.int a0), none, none, none]) (S' := [.int 1]) (w' := w) rfl ?_
    exact tm_r rfl ⟨_, rfl, by decide, hs⟩
theorem da_Mo_limits (n : Nat) : (∀ (w : MW) (a0 : Int32) (Q : Int32 → MW → Prop), pn_Mo_limits n w a0 Q → Tc (n + 401) 115 [.ref 127, .int a0] w (RZ Q)) := by
  induction n with
  | zero => exact fun _ _ _ h => h.elim
  | succ n h0 =>
    skip
    exact fun _ _ _ h => (dmb_Mo_limits (d := n) h0 h).le (by omega)
theorem dm_Mo_limits {d : Nat} {w : MW} {a0 : Int32} {Q : Int32 → MW → Prop} (hs : p_Mo_limits w a0 Q) : Tc (d + 911) 115 [.ref 127, .int a0] w (RZ Q) := ((da_Mo_limits 510) _ _ _ hs).le (by omega)
set_option maxHeartbeats 4000000 in
set_option maxRecDepth 100000 in
theorem tx_Mo_walk_32 {d : Nat} {ys32_0 : Int32} {z1 : Option Value} {w : MW} {Q : MW → Prop} (hs : q_Mo_walk_32 ys32_0 w Q) : Tm (d + 1415) 116 32 [some (.ref 127), z1] [.int ys32_0] w (RV Q) := by
  unfold q_Mo_walk_32 at hs
  refine tm_go 4 (pc' := 36) (L' := [some (.ref 127), some (.int ys32_0)]) (S' := [.int 3, .int ys32_0, .ref 127]) (w' := w) rfl ?_
  refine tm_i (p1 := 43) (p2 := 39) rfl (fun h3 => ?_) (fun h3 => ?_)
  · replace hs := hs.1 h3
    refine tm_go 2 (pc' := 45) (L' := [some (.ref 127), some (.int ys32_0)]) (S' := [.int 1, .int ys32_0, .ref 127]) (w' := w) rfl ?_
    refine tm_i (p1 := 52) (p2 := 48) rfl (fun h4 => ?_) (fun h4 => ?_)
    · replace hs := hs.1 h4
      refine tm_go 2 (pc' := 54) (L' := [some (.ref 127), some (.int ys32_0)]) (S' := [.int 2, .int ys32_0, .ref 127]) (w' := w) rfl ?_
      refine tm_i (p1 := 64) (p2 := 57) rfl (fun h5 => ?_) (fun h5 => ?_)
      · replace hs := hs.1 h5
        refine tm_go 9 (pc' := 82) (L' := [some (.ref 127), some (.int ys32_0)]) (S' := []) (w' := (sI (sI w 127 59 2) 127 74 ((w.1 127 74) + (1 : Int32)))) rfl ?_
        exact tm_r rfl ⟨rfl, hs⟩
      · replace hs := hs.2 h5
        refine tm_go 2 (pc' := 61) (L' := [some (.ref 127), some (.int ys32_0)]) (S' := [.int (w.1 127 75), .ref 127]) (w' := w) rfl ?_
        refine tm_i (p1 := 68) (p2 := 64) rfl (fun h6 => ?_) (fun h6 => ?_)
        · replace hs := hs.1 h6
          refine tm_go 8 (pc' := 82) (L' := [some (.ref 127), some (.int ys32_0)]) (S' := []) (w' := (sI (sI w 127 59 0) 127 74 ((w.1 127 74) + (1 : Int32)))) rfl ?_
          exact tm_r rfl ⟨rfl, hs⟩
        · replace hs := hs.2 h6
          refine tm_go 9 (pc' := 82) (L' := [some (.ref 127), some (.int ys32_0)]) (S' := []) (w' := (sI (sI w 127 59 2) 127 74 ((w.1 127 74) + (1 : Int32)))) rfl ?_
          exact tm_r rfl ⟨rfl, hs⟩
    · replace hs := hs.2 h4
      refine tm_go 9 (pc' := 82) (L' := [some (.ref 127), some (.int ys32_0)]) (S' := []) (w' := (sI (sI w 127 59 1) 127 74 ((w.1 127 74) + (1 : Int32)))) rfl ?_
      exact tm_r rfl ⟨rfl, hs⟩
  · replace hs := hs.2 h3
    refine tm_go 9 (pc' := 82) (L' := [some (.ref 127), some (.int ys32_0)]) (S' := []) (w' := (sI (sI w 127 59 3) 127 74 ((w.1 127 74) + (1 : Int32)))) rfl ?_
    exact tm_r rfl ⟨rfl, hs⟩
set_option maxHeartbeats 4000000 in
set_option maxRecDepth 100000 in
theorem dm_Mo_walk {d : Nat} {w : MW} {Q : MW → Prop} (hs : p_Mo_walk w Q) : Tc (d + 1415) 116 [.ref 127] w (RV Q) := by
  unfold p_Mo_walk at hs
  refine tm_go 11 (pc' := 17) (L' := [some (.ref 127), none]) (S' := [.int 0, .ref 127]) (w' := (sI (sI (sI w 127 72 0) 127 73 0) 127 75 0)) rfl ?_
  refine tm_c rfl (Nat.le_of_ble_eq_true rfl) (dm_Mo_limits (d := d + 503) hs) (fun v w1 hq => ?_)
  obtain ⟨r1, rfl, hz1, hs⟩ := hq
  refine tm_i (p1 := 31) (p2 := 23) rfl (fun h2 => ?_) (fun h2 => ?_)
  · replace hs := hs.1 h2
    refine tm_go 1 (pc' := 32) (L' := [some (.ref 127), none]) (S' := [.int 2]) (w' := w1) rfl ?_
    exact tx_Mo_walk_32 hs 
  · replace hs := hs.2 h2
    refine tm_go 2 (pc' := 25) (L' := [some (.ref 127), none]) (S' := [.int 0, .ref 127]) (w' := w1) rfl ?_
    refine tm_c rfl (Nat.le_of_ble_eq_true rfl) (dm_Mo_go (d := d + 0) hs) (fun v w7 hq => ?_)
    obtain ⟨r7, rfl, hs⟩ := hq
    refine tm_go 1 (pc' := 32) (L' := [some (.ref 127), none]) (S' := [.int r7]) (w' := w7) rfl ?_
    exact tx_Mo_walk_32 hs 
set_option maxHeartbeats 4000000 in
set_option maxRecDepth 100000 in
theorem tx_Mr_tick_128 {d : Nat} {x14_1 : Int32} {y128_2 : Int32} {ys128_0 : Int32} {ys128_1 : Int32} {ys128_2 : Int32} {z3 : Option Value} {w : MW} {A : Int32 → MW → Prop} {E : MW → Prop} {Q : Int32 → MW → Prop} (hs : q_Mr_tick_128 x14_1 y128_2 ys128_0 ys128_1 ys128_2 w A E Q) (hA : ∀ (x14_2 : Int32)  (z3 : Option Value) (w : MW), A x14_2 w → Tm (d + 402) 297 14 [some (.ref 147), some (.int x14_1), some (.int x14_2), z3] [] w (RZ Q)) (hE : ∀  (v0 : Option Value) (v1 : Option Value) (v2 : Option Value) (v3 : Option Value) (w : MW), E  w → Tm (d + 402) 297 164 [v0, v1, v2, v3] [] w (RZ Q)) : Tm (d + 402) 297 128 [some (.ref 147), some (.int x14_1), some (.int y128_2), z3] [.int ys128_0, .int ys128_1, .int ys128_2, .ref 161] w (RZ Q) := by
  unfold q_Mr_tick_128 at hs
  refine tm_go 1 (pc' := 129) (L' := [some (.ref 147), some (.int x14_1), some (.int y128_2), z3]) (S' := [.int (ys128_1 ||| ys128_0), .int ys128_2, .ref 161]) (w' := w) rfl ?_
  obtain ⟨b13, hs⟩ := hs
  refine tm_k (pc' := 130) (L' := [some (.ref 147), some (.int x14_1), some (.int y128_2), z3]) (S' := []) (w' := (sI w 161 ys128_2.toInt.toNat (vp_nar .boolean (ys128_1 ||| ys128_0)))) rfl b13 ?_
  refine tm_go 6 (pc' := 140) (L' := [some (.ref 147), some (.int x14_1), some (.int y128_2), z3]) (S' := [.int y128_2, .ref 162, .int y128_2, .ref 162]) (w' := (sI w 161 ys128_2.toInt.toNat (vp_nar .boolean (ys128_1 ||| ys128_0)))) rfl ?_
  obtain ⟨b14, hs⟩ := hs
  refine tm_k (pc' := 141) (L' := [some (.ref 147), some (.int x14_1), some (.int y128_2), z3]) (S' := [.int (w.1 162 y128_2.toInt.toNat), .int y128_2, .ref 162]) (w' := (sI w 161 ys128_2.toInt.toNat (vp_nar .boolean (ys128_1 ||| ys128_0)))) rfl b14 ?_
  refine tm_go 1 (pc' := 142) (L' := [some (.ref 147), some (.int x14_1), some (.int y128_2), z3]) (S' := [.int x14_1, .int (w.1 162 y128_2.toInt.toNat), .int y128_2, .ref 162]) (w' := (sI w 161 ys128_2.toInt.toNat (vp_nar .boolean (ys128_1 ||| ys128_0)))) rfl ?_
  refine tm_i (p1 := 156) (p2 := 145) rfl (fun h15 => ?_) (fun h15 => ?_)
  · replace hs := hs.1 h15
    refine tm_go 1 (pc' := 157) (L' := [some (.ref 147), some (.int x14_1), some (.int y128_2), z3]) (S' := [.int 0, .int y128_2, .ref 162]) (w' := (sI w 161 ys128_2.toInt.toNat (vp_nar .boolean (ys128_1 ||| ys128_0)))) rfl ?_
    obtain ⟨b16, hs⟩ := hs
    refine tm_k (pc' := 158) (L' := [some (.ref 147), some (.int x14_1), some (.int y128_2), z3]) (S' := []) (w' := (sI (sI w 161 ys128_2.toInt.toNat (vp_nar .boolean (ys128_1 ||| ys128_0))) 162 y128_2.toInt.toNat 0)) rfl b16 ?_
    refine tm_go 2 (pc' := 14) (L' := [some (.ref 147), some (.int x14_1), some (.int (y128_2 + (1 : Int32))), z3]) (S' := []) (w' := (sI (sI w 161 ys128_2.toInt.toNat (vp_nar .boolean (ys128_1 ||| ys128_0))) 162 y128_2.toInt.toNat 0)) rfl ?_
    exact hA _ _ _ hs
  · replace hs := hs.2 h15
    refine tm_go 3 (pc' := 150) (L' := [some (.ref 147), some (.int x14_1), some (.int y128_2), z3]) (S' := [.int y128_2, .ref 162, .int y128_2, .ref 162]) (w' := (sI w 161 ys128_2.toInt.toNat (vp_nar .boolean (ys128_1 ||| ys128_0)))) rfl ?_
    obtain ⟨b17, hs⟩ := hs
    refine tm_k (pc' := 151) (L' := [some (.ref 147), some (.int x14_1), some (.int y128_2), z3]) (S' := [.int (w.1 162 y128_2.toInt.toNat), .int y128_2, .ref 162]) (w' := (sI w 161 ys128_2.toInt.toNat (vp_nar .boolean (ys128_1 ||| ys128_0)))) rfl b17 ?_
    refine tm_go 3 (pc' := 157) (L' := [some (.ref 147), some (.int x14_1), some (.int y128_2), z3]) (S' := [.int ((w.1 162 y128_2.toInt.toNat) - x14_1), .int y128_2, .ref 162]) (w' := (sI w 161 ys128_2.toInt.toNat (vp_nar .boolean (ys128_1 ||| ys128_0)))) rfl ?_
    obtain ⟨b18, hs⟩ := hs
    refine tm_k (pc' := 158) (L' := [some (.ref 147), some (.int x14_1), some (.int y128_2), z3]) (S' := []) (w' := (sI (sI w 161 ys128_2.toInt.toNat (vp_nar .boolean (ys128_1 ||| ys128_0))) 162 y128_2.toInt.toNat ((w.1 162 y128_2.toInt.toNat) - x14_1))) rfl b18 ?_
    refine tm_go 2 (pc' := 14) (L' := [some (.ref 147), some (.int x14_1), some (.int (y128_2 + (1 : Int32))), z3]) (S' := []) (w' := (sI (sI w 161 ys128_2.toInt.toNat (vp_nar .boolean (ys128_1 ||| ys128_0))) 162 y128_2.toInt.toNat ((w.1 162 y128_2.toInt.toNat) - x14_1))) rfl ?_
    exact hA _ _ _ hs
set_option maxHeartbeats 4000000 in
set_option maxRecDepth 100000 in
theorem tx_Mr_tick_71 {d : Nat} {x14_1 : Int32} {y71_2 : Int32} {y71_3 : Int32} {ys71_0 : Int32} {ys71_1 : Int32}  {w : MW} {A : Int32 → MW → Prop} {E : MW → Prop} {Q : Int32 → MW → Prop} (hs : q_Mr_tick_71 x14_1 y71_2 y71_3 ys71_0 ys71_1 w A E Q) (hA : ∀ (x14_2 : Int32)  (z3 : Option Value) (w : MW), A x14_2 w → Tm (d + 402) 297 14 [some (.ref 147), some (.int x14_1), some (.int x14_2), z3] [] w (RZ Q)) (hE : ∀  (v0 : Option Value) (v1 : Option Value) (v2 : Option Value) (v3 : Option Value) (w : MW), E  w → Tm (d + 402) 297 164 [v0, v1, v2, v3] [] w (RZ Q)) : Tm (d + 402) 297 71 [some (.ref 147), some (.int x14_1), some (.int y71_2), some (.int y71_3)] [.int ys71_0, .int ys71_1, .ref 160] w (RZ Q) := by
  unfold q_Mr_tick_71 at hs
  obtain ⟨b10, hs⟩ := hs
  refine tm_k (pc' := 72) (L' := [some (.ref 147), some (.int x14_1), some (.int y71_2), some (.int y71_3)]) (S' := []) (w' := (sI w 160 ys71_1.toInt.toNat ys71_0)) rfl b10 ?_
  refine tm_go 4 (pc' := 78) (L' := [some (.ref 147), some (.int x14_1), some (.int y71_2), some (.int y71_3)]) (S' := [.int y71_2, .ref 161, .int y71_2, .ref 161]) (w' := (sI w 160 ys71_1.toInt.toNat ys71_0)) rfl ?_
  obtain ⟨b11, hs⟩ := hs
  refine tm_k (pc' := 79) (L' := [some (.ref 147), some (.int x14_1), some (.int y71_2), some (.int y71_3)]) (S' := [.int (w.1 161 y71_2.toInt.toNat), .int y71_2, .ref 161]) (w' := (sI w 160 ys71_1.toInt.toNat ys71_0)) rfl b11 ?_
  refine tm_go 1 (pc' := 80) (L' := [some (.ref 147), some (.int x14_1), some (.int y71_2), some (.int y71_3)]) (S' := [.int y71_3, .int (w.1 161 y71_2.toInt.toNat), .int y71_2, .ref 161]) (w' := (sI w 160 ys71_1.toInt.toNat ys71_0)) rfl ?_
  refine tm_i (p1 := 127) (p2 := 83) rfl (fun h12 => ?_) (fun h12 => ?_)
  · replace hs := hs.1 h12
    refine tm_go 1 (pc' := 128) (L' := [some (.ref 147), some (.int x14_1), some (.int y71_2), some (.int y71_3)]) (S' := [.int 0, .int (w.1 161 y71_2.toInt.toNat), .int y71_2, .ref 161]) (w' := (sI w 160 ys71_1.toInt.toNat ys71_0)) rfl ?_
    exact tx_Mr_tick_128 hs hA hE
  · replace hs := hs.2 h12
    refine tm_go 8 (pc' := 96) (L' := [some (.ref 147), some (.int x14_1), some (.int y71_2), some (.int y71_3)]) (S' := [.int (((40 : Int32) * (w.1 147 12)) + y71_2), .ref 158, .int (w.1 161 y71_2.toInt.toNat), .int y71_2, .ref 161]) (w' := (sI w 160 ys71_1.toInt.toNat ys71_0)) rfl ?_
    obtain ⟨b19, hs⟩ := hs
    refine tm_k (pc' := 97) (L' := [some (.ref 147), some (.int x14_1), some (.int y71_2), some (.int y71_3)]) (S' := [.int (w.1 158 ((((40 : Int32) * (w.1 147 12)) + y71_2).toInt.toNat)), .int (w.1 161 y71_2.toInt.toNat), .int y71_2, .ref 161]) (w' := (sI w 160 ys71_1.toInt.toNat ys71_0)) rfl b19 ?_
    refine tm_i (p1 := 127) (p2 := 100) rfl (fun h20 => ?_) (fun h20 => ?_)
    · replace hs := hs.1 h20
      refine tm_go 1 (pc' := 128) (L' := [some (.ref 147), some (.int x14_1), some (.int y71_2), some (.int y71_3)]) (S' := [.int 0, .int (w.1 161 y71_2.toInt.toNat), .int y71_2, .ref 161]) (w' := (sI w 160 ys71_1.toInt.toNat ys71_0)) rfl ?_
      exact tx_Mr_tick_128 hs hA hE
    · replace hs := hs.2 h20
      refine tm_go 3 (pc' := 105) (L' := [some (.ref 147), some (.int x14_1), some (.int y71_2), some (.int y71_3)]) (S' := [.int y71_2, .ref 160, .int (w.1 161 y71_2.toInt.toNat), .int y71_2, .ref 161]) (w' := (sI w 160 ys71_1.toInt.toNat ys71_0)) rfl ?_
      obtain ⟨b21, hs⟩ := hs
      refine tm_k (pc' := 106) (L' := [some (.ref 147), some (.int x14_1), some (.int y71_2), some (.int y71_3)]) (S' := [.int ((sI w 160 ys71_1.toInt.toNat ys71_0).1 160 y71_2.toInt.toNat), .int (w.1 161 y71_2.toInt.toNat), .int y71_2, .ref 161]) (w' := (sI w 160 ys71_1.toInt.toNat ys71_0)) rfl b21 ?_
      refine tm_go 8 (pc' := 119) (L' := [some (.ref 147), some (.int x14_1), some (.int y71_2), some (.int y71_3)]) (S' := [.int (((40 : Int32) * (w.1 147 12)) + y71_2), .ref 157, .int ((sI w 160 ys71_1.toInt.toNat ys71_0).1 160 y71_2.toInt.toNat), .int (w.1 161 y71_2.toInt.toNat), .int y71_2, .ref 161]) (w' := (sI w 160 ys71_1.toInt.toNat ys71_0)) rfl ?_
      obtain ⟨b22, hs⟩ := hs
      refine tm_k (pc' := 120) (L' := [some (.ref 147), some (.int x14_1), some (.int y71_2), some (.int y71_3)]) (S' := [.int (w.1 157 ((((40 : Int32) * (w.1 147 12)) + y71_2).toInt.toNat)), .int ((sI w 160 ys71_1.toInt.toNat ys71_0).1 160 y71_2.toInt.toNat), .int (w.1 161 y71_2.toInt.toNat), .int y71_2, .ref 161]) (w' := (sI w 160 ys71_1.toInt.toNat ys71_0)) rfl b22 ?_
      refine tm_i (p1 := 127) (p2 := 123) rfl (fun h23 => ?_) (fun h23 => ?_)
      · replace hs := hs.1 h23
        refine tm_go 1 (pc' := 128) (L' := [some (.ref 147), some (.int x14_1), some (.int y71_2), some (.int y71_3)]) (S' := [.int 0, .int (w.1 161 y71_2.toInt.toNat), .int y71_2, .ref 161]) (w' := (sI w 160 ys71_1.toInt.toNat ys71_0)) rfl ?_
        exact tx_Mr_tick_128 hs hA hE
      · replace hs := hs.2 h23
        refine tm_go 2 (pc' := 128) (L' := [some (.ref 147), some (.int x14_1), some (.int y71_2), some (.int y71_3)]) (S' := [.int 1, .int (w.1 161 y71_2.toInt.toNat), .int y71_2, .ref 161]) (w' := (sI w 160 ys71_1.toInt.toNat ys71_0)) rfl ?_
        exact tx_Mr_tick_128 hs hA hE
set_option maxHeartbeats 4000000 in
set_option maxRecDepth 100000 in
theorem tx_Mr_tick_14 {d : Nat} {x14_1 : Int32} {E : MW → Prop} {Q : Int32 → MW → Prop} (n : Nat) : ∀ (x14_2 : Int32)  (z3 : Option Value) (w : MW), q_Mr_tick_14 x14_1 E Q n x14_2 w → (∀  (v0 : Option Value) (v1 : Option Value) (v2 : Option Value) (v3 : Option Value) (w : MW), E  w → Tm (d + 402) 297 164 [v0, v1, v2, v3] [] w (RZ Q)) → Tm (d + 402) 297 14 [some (.ref 147), some (.int x14_1), some (.int x14_2), z3] [] w (RZ Q) := by
  induction n with
  | zero => intro x14_2 z3 w hs; rw [q_Mr_tick_14.eq_1] at hs; exact hs.elim
  | succ n ih =>
    intro x14_2 z3 w hs hE
    rw [q_Mr_tick_14.eq_2] at hs
    refine tm_go 3 (pc' := 19) (L' := [some (.ref 147), some (.int x14_1), some (.int x14_2), z3]) (S' := [.int (w.1 147 20), .int x14_2]) (w' := w) rfl ?_
    refine tm_i (p1 := 164) (p2 := 22) rfl (fun h3 => ?_) (fun h3 => ?_)
    · replace hs := hs.1 h3
      exact hE _ _ _ _ _ hs
    · replace hs := hs.2 h3
      refine tm_go 1 (pc' := 23) (L' := [some (.ref 147), some (.int x14_1), some (.int x14_2), z3]) (S' := [.int x14_1]) (w' := w) rfl ?_
      refine tm_i (p1 := 164) (p2 := 26) rfl (fun h4 => ?_) (fun h4 => ?_)
      · replace hs := hs.1 h4
        exact hE _ _ _ _ _ hs
      · replace hs := hs.2 h4
        refine tm_go 2 (pc' := 28) (L' := [some (.ref 147), some (.int x14_1), some (.int x14_2), z3]) (S' := [.int x14_2, .ref 147]) (w' := w) rfl ?_
        refine tm_c rfl (Nat.le_of_ble_eq_true rfl) (dm_Mr_isOn (d := d + 0) hs) (fun v w5 hq => ?_)
        obtain ⟨r5, rfl, hz5, hs⟩ := hq
        refine tm_go 5 (pc' := 38) (L' := [some (.ref 147), some (.int x14_1), some (.int x14_2), some (.int r5)]) (S' := [.int r5, .int x14_2, .ref 160]) (w' := w5) rfl ?_
        refine tm_i (p1 := 45) (p2 := 41) rfl (fun h6 => ?_) (fun h6 => ?_)
        · replace hs := hs.1 h6
          refine tm_go 3 (pc' := 50) (L' := [some (.ref 147), some (.int x14_1), some (.int x14_2), some (.int r5)]) (S' := [.int x14_2, .ref 160, .int x14_2, .ref 160]) (w' := w5) rfl ?_
          obtain ⟨b7, hs⟩ := hs
          refine tm_k (pc' := 51) (L' := [some (.ref 147), some (.int x14_1), some (.int x14_2), some (.int r5)]) (S' := [.int (w5.1 160 x14_2.toInt.toNat), .int x14_2, .ref 160]) (w' := w5) rfl b7 ?_
          refine tm_go 3 (pc' := 55) (L' := [some (.ref 147), some (.int x14_1), some (.int x14_2), some (.int r5)]) (S' := [.int 1000000, .int ((w5.1 160 x14_2.toInt.toNat) + x14_1), .int x14_2, .ref 160]) (w' := w5) rfl ?_
          refine tm_i (p1 := 63) (p2 := 58) rfl (fun h8 => ?_) (fun h8 => ?_)
          · replace hs := hs.1 h8
            refine tm_go 3 (pc' := 68) (L' := [some (.ref 147), some (.int x14_1), some (.int x14_2), some (.int r5)]) (S' := [.int x14_2, .ref 160, .int x14_2, .ref 160]) (w' := w5) rfl ?_
            obtain ⟨b9, hs⟩ := hs
            refine tm_k (pc' := 69) (L' := [some (.ref 147), some (.int x14_1), some (.int x14_2), some (.int r5)]) (S' := [.int (w5.1 160 x14_2.toInt.toNat), .int x14_2, .ref 160]) (w' := w5) rfl b9 ?_
            refine tm_go 2 (pc' := 71) (L' := [some (.ref 147), some (.int x14_1), some (.int x14_2), some (.int r5)]) (S' := [.int ((w5.1 160 x14_2.toInt.toNat) + x14_1), .int x14_2, .ref 160]) (w' := w5) rfl ?_
            exact tx_Mr_tick_71 hs (fun q0 q1 q2 hs => ih q0 q1 q2 hs hE) hE
          · replace hs := hs.2 h8
            refine tm_go 2 (pc' := 71) (L' := [some (.ref 147), some (.int x14_1), some (.int x14_2), some (.int r5)]) (S' := [.int 1000000, .int x14_2, .ref 160]) (w' := w5) rfl ?_
            exact tx_Mr_tick_71 hs (fun q0 q1 q2 hs => ih q0 q1 q2 hs hE) hE
        · replace hs := hs.2 h6
          refine tm_go 2 (pc' := 71) (L' := [some (.ref 147), some (.int x14_1), some (.int x14_2), some (.int r5)]) (S' := [.int 0, .int x14_2, .ref 160]) (w' := w5) rfl ?_
          exact tx_Mr_tick_71 hs (fun q0 q1 q2 hs => ih q0 q1 q2 hs hE) hE
set_option maxHeartbeats 4000000 in
set_option maxRecDepth 100000 in
theorem dm_Mr_tick {d : Nat} {w : MW} {a0 : Int32} {Q : Int32 → MW → Prop} (hs : p_Mr_tick w a0 Q) : Tc (d + 402) 297 [.ref 147, .int a0] w (RZ Q) := by
  unfold p_Mr_tick at hs
  refine tm_go 1 (pc' := 1) (L' := [some (.ref 147), some (.int a0), none, none]) (S' := [.int a0]) (w' := w) rfl ?_
  refine tm_i (p1 := 10) (p2 := 4) rfl (fun h1 => ?_) (fun h1 => ?_)
  · replace hs := hs.1 h1
    refine tm_go 1 (pc' := 11) (L' := [some (.ref 147), some (.int a0), none, none]) (S' := [.int 0]) (w' := w) rfl ?_
    exact tm_r rfl ⟨_, rfl, by decide, hs⟩
  · replace hs := hs.2 h1
    refine tm_go 2 (pc' := 7) (L' := [some (.ref 147), some (.int a0), none, none]) (S' := [.int 100000, .int a0]) (w' := w) rfl ?_
    refine tm_i (p1 := 12) (p2 := 10) rfl (fun h2 => ?_) (fun h2 => ?_)
    · replace hs := hs.1 h2
      refine tm_go 2 (pc' := 14) (L' := [some (.ref 147), some (.int a0), some (.int 0), none]) (S' := []) (w' := w) rfl ?_
      refine tx_Mr_tick_14 FU _ _ _ hs (fun  z24_0 z24_1 z24_2 z24_3 w24 hs => ?_)
      refine tm_go 1 (pc' := 165) (L' := [z24_0, z24_1, z24_2, z24_3]) (S' := [.int 1]) (w' := w24) rfl ?_
      exact tm_r rfl ⟨_, rfl, by decide, hs⟩
    · replace hs := hs.2 h2
      refine tm_go 1 (pc' := 11) (L' := [some (.ref 147), some (.int a0), none, none]) (S' := [.int 0]) (w' := w) rfl ?_
      exact tm_r rfl ⟨_, rfl, by decide, hs⟩
set_option maxHeartbeats 4000000 in
set_option maxRecDepth 100000 in
theorem tx_Mo_tick_67 {d : Nat} {x67_1 : Int32} {x67_2 : Int32} {E : MW → Prop} {Q : Int32 → MW → Prop} (n : Nat) : ∀ (x67_4 : Int32)  (z3 : Option Value) (w : MW), q_Mo_tick_67 x67_1 x67_2 E Q n x67_4 w → (∀  (v3 : Option Value) (v4 : Option Value) (w : MW), E  w → Tm (d + 1416) 117 88 [some (.ref 127), some (.int x67_1), some (.int x67_2), v3, v4] [] w (RI Q)) → Tm (d + 1416) 117 67 [some (.ref 127), some (.int x67_1), some (.int x67_2), z3, some (.int x67_4)] [] w (RI Q) := by
  induction n with
  | zero => intro x67_4 z3 w hs; rw [q_Mo_tick_67.eq_1] at hs; exact hs.elim
  | succ n ih =>
    intro x67_4 z3 w hs hE
    rw [q_Mo_tick_67.eq_2] at hs
    refine tm_go 3 (pc' := 73) (L' := [some (.ref 127), some (.int x67_1), some (.int x67_2), z3, some (.int x67_4)]) (S' := [.int (w.1 127 26), .int x67_4]) (w' := w) rfl ?_
    refine tm_i (p1 := 88) (p2 := 76) rfl (fun h7 => ?_) (fun h7 => ?_)
    · replace hs := hs.1 h7
      exact hE _ _ _ hs
    · replace hs := hs.2 h7
      refine tm_go 2 (pc' := 79) (L' := [some (.ref 127), some (.int x67_1), some (.int x67_2), z3, some (.int x67_4)]) (S' := [.int x67_4, .ref 127]) (w' := w) rfl ?_
      refine tm_c rfl (Nat.le_of_ble_eq_true rfl) (dm_Mo_flow (d := d + 1412) hs) (fun v w8 hq => ?_)
      obtain ⟨rfl, hs⟩ := hq
      refine tm_go 2 (pc' := 67) (L' := [some (.ref 127), some (.int x67_1), some (.int x67_2), (ksl z3), some (.int (x67_4 + (1 : Int32)))]) (S' := []) (w' := w8) rfl ?_
      exact ih _ _ _ hs hE
set_option maxHeartbeats 4000000 in
set_option maxRecDepth 100000 in
theorem tx_Mo_tick_60 {d : Nat} {x15_1 : Int32} {y60_2 : Int32} {z3 : Option Value} {z4 : Option Value} {w : MW} {A : Int32 → MW → Prop} {E : MW → Prop} {Q : Int32 → MW → Prop} (hs : q_Mo_tick_60 x15_1 y60_2 w A E Q) (hA : ∀ (x15_2 : Int32)  (z3 : Option Value) (z4 : Option Value) (w : MW), A x15_2 w → Tm (d + 1416) 117 15 [some (.ref 127), some (.int x15_1), some (.int x15_2), z3, z4] [] w (RI Q)) (hE : ∀  (v1 : Option Value) (v2 : Option Value) (v3 : Option Value) (v4 : Option Value) (w : MW), E  w → Tm (d + 1416) 117 104 [some (.ref 127), v1, v2, v3, v4] [] w (RI Q)) : Tm (d + 1416) 117 60 [some (.ref 127), some (.int x15_1), some (.int y60_2), z3, z4] [] w (RI Q) := by
  unfold q_Mo_tick_60 at hs
  refine tm_go 1 (pc' := 61) (L' := [some (.ref 127), some (.int x15_1), some (.int y60_2), z3, z4]) (S' := [.ref 127]) (w' := w) rfl ?_
  refine tm_c rfl (Nat.le_of_ble_eq_true rfl) (dm_Mo_closeAll (d := d + 1413) hs) (fun v w12 hq => ?_)
  obtain ⟨rfl, hs⟩ := hq
  refine tm_go 2 (pc' := 67) (L' := [some (.ref 127), some (.int x15_1), some (.int y60_2), (ksl z3), some (.int 0)]) (S' := []) (w' := w12) rfl ?_
  refine tx_Mo_tick_67 FU _ _ _ hs (fun  z13_3 z13_4 w13 hs => ?_)
  refine tm_go 8 (pc' := 15) (L' := [some (.ref 127), some (.int x15_1), some (.int (y60_2 + (1 : Int32))), z13_3, z13_4]) (S' := []) (w' := (sI w13 127 78 ((w13.1 127 78) + (1 : Int32)))) rfl ?_
  exact hA _ _ _ _ hs
set_option maxHeartbeats 4000000 in
set_option maxRecDepth 100000 in
theorem tx_Mo_tick_15 {d : Nat} {x15_1 : Int32} {E : MW → Prop} {Q : Int32 → MW → Prop} (n : Nat) : ∀ (x15_2 : Int32)  (z3 : Option Value) (z4 : Option Value) (w : MW), q_Mo_tick_15 x15_1 E Q n x15_2 w → (∀  (v1 : Option Value) (v2 : Option Value) (v3 : Option Value) (v4 : Option Value) (w : MW), E  w → Tm (d + 1416) 117 104 [some (.ref 127), v1, v2, v3, v4] [] w (RI Q)) → Tm (d + 1416) 117 15 [some (.ref 127), some (.int x15_1), some (.int x15_2), z3, z4] [] w (RI Q) := by
  induction n with
  | zero => intro x15_2 z3 z4 w hs; rw [q_Mo_tick_15.eq_1] at hs; exact hs.elim
  | succ n ih =>
    intro x15_2 z3 z4 w hs hE
    rw [q_Mo_tick_15.eq_2] at hs
    refine tm_go 2 (pc' := 17) (L' := [some (.ref 127), some (.int x15_1), some (.int x15_2), z3, z4]) (S' := [.int x15_1, .int x15_2]) (w' := w) rfl ?_
    refine tm_i (p1 := 104) (p2 := 20) rfl (fun h3 => ?_) (fun h3 => ?_)
    · replace hs := hs.1 h3
      exact hE _ _ _ _ _ hs
    · replace hs := hs.2 h3
      refine tm_go 1 (pc' := 21) (L' := [some (.ref 127), some (.int x15_1), some (.int x15_2), z3, z4]) (S' := [.ref 127]) (w' := w) rfl ?_
      refine tm_c rfl (Nat.le_of_ble_eq_true rfl) (dm_Mo_senseAll (d := d + 1411) hs) (fun v w4 hq => ?_)
      obtain ⟨rfl, hs⟩ := hq
      refine tm_go 3 (pc' := 29) (L' := [some (.ref 127), some (.int x15_1), some (.int x15_2), z3, z4]) (S' := [.int 1, .ref 147]) (w' := w4) rfl ?_
      refine tm_c rfl (Nat.le_of_ble_eq_true rfl) (dm_Mr_tick (d := d + 1013) hs) (fun v w5 hq => ?_)
      obtain ⟨r5, rfl, hz5, hs⟩ := hq
      refine tm_go 3 (pc' := 37) (L' := [some (.ref 127), some (.int x15_1), some (.int x15_2), some (.int r5), z4]) (S' := [.int (w5.1 127 59)]) (w' := w5) rfl ?_
      refine tm_i (p1 := 64) (p2 := 40) rfl (fun h6 => ?_) (fun h6 => ?_)
      · replace hs := hs.1 h6
        refine tm_go 2 (pc' := 67) (L' := [some (.ref 127), some (.int x15_1), some (.int x15_2), some (.int r5), some (.int 0)]) (S' := []) (w' := w5) rfl ?_
        refine tx_Mo_tick_67 FU _ _ _ hs (fun  z9_3 z9_4 w9 hs => ?_)
        refine tm_go 8 (pc' := 15) (L' := [some (.ref 127), some (.int x15_1), some (.int (x15_2 + (1 : Int32))), z9_3, z9_4]) (S' := []) (w' := (sI w9 127 78 ((w9.1 127 78) + (1 : Int32)))) rfl ?_
        exact ih _ _ _ _ hs hE
      · replace hs := hs.2 h6
        refine tm_go 1 (pc' := 41) (L' := [some (.ref 127), some (.int x15_1), some (.int x15_2), some (.int r5), z4]) (S' := [.ref 127]) (w' := w5) rfl ?_
        refine tm_c rfl (Nat.le_of_ble_eq_true rfl) (dm_Mo_walk (d := d + 0) hs) (fun v w10 hq => ?_)
        obtain ⟨rfl, hs⟩ := hq
        refine tm_go 3 (pc' := 49) (L' := [some (.ref 127), some (.int x15_1), some (.int x15_2), some (.int r5), z4]) (S' := [.int 2, .int (w10.1 127 59)]) (w' := w10) rfl ?_
        refine tm_i (p1 := 60) (p2 := 52) rfl (fun h11 => ?_) (fun h11 => ?_)
        · replace hs := hs.1 h11
          exact tx_Mo_tick_60 hs (fun q0 q1 q2 q3 hs => ih q0 q1 q2 q3 hs hE) hE
        · replace hs := hs.2 h11
          refine tm_go 3 (pc' := 57) (L' := [some (.ref 127), some (.int x15_1), some (.int x15_2), some (.int r5), z4]) (S' := [.int 3, .int (w10.1 127 59)]) (w' := w10) rfl ?_
          refine tm_i (p1 := 64) (p2 := 60) rfl (fun h14 => ?_) (fun h14 => ?_)
          · replace hs := hs.1 h14
            refine tm_go 2 (pc' := 67) (L' := [some (.ref 127), some (.int x15_1), some (.int x15_2), some (.int r5), some (.int 0)]) (S' := []) (w' := w10) rfl ?_
            refine tx_Mo_tick_67 FU _ _ _ hs (fun  z15_3 z15_4 w15 hs => ?_)
            refine tm_go 8 (pc' := 15) (L' := [some (.ref 127), some (.int x15_1), some (.int (x15_2 + (1 : Int32))), z15_3, z15_4]) (S' := []) (w' := (sI w15 127 78 ((w15.1 127 78) + (1 : Int32)))) rfl ?_
            exact ih _ _ _ _ hs hE
          · replace hs := hs.2 h14
            exact tx_Mo_tick_60 hs (fun q0 q1 q2 q3 hs => ih q0 q1 q2 q3 hs hE) hE
set_option maxHeartbeats 4000000 in
set_option maxRecDepth 100000 in
theorem dm_Mo_tick {d : Nat} {w : MW} {a0 : Int32} {Q : Int32 → MW → Prop} (hs : p_Mo_tick w a0 Q) : Tc (d + 1416) 117 [.ref 127, .int a0] w (RI Q) := by
  unfold p_Mo_tick at hs
  refine tm_go 1 (pc' := 1) (L' := [some (.ref 127), some (.int a0), none, none, none]) (S' := [.int a0]) (w' := w) rfl ?_
  refine tm_i (p1 := 11) (p2 := 4) rfl (fun h1 => ?_) (fun h1 => ?_)
  · replace hs := hs.1 h1
    refine tm_go 1 (pc' := 12) (L' := [some (.ref 127), some (.int a0), none, none, none]) (S' := [.int (-1)]) (w' := w) rfl ?_
    exact tm_r rfl ⟨_, rfl, hs⟩
  · replace hs := hs.2 h1
    refine tm_go 2 (pc' := 8) (L' := [some (.ref 127), some (.int a0), none, none, none]) (S' := [.int 600, .int a0]) (w' := w) rfl ?_
    refine tm_i (p1 := 13) (p2 := 11) rfl (fun h2 => ?_) (fun h2 => ?_)
    · replace hs := hs.1 h2
      refine tm_go 2 (pc' := 15) (L' := [some (.ref 127), some (.int a0), some (.int 0), none, none]) (S' := []) (w' := w) rfl ?_
      refine tx_Mo_tick_15 FU _ _ _ _ hs (fun  z16_1 z16_2 z16_3 z16_4 w16 hs => ?_)
      refine tm_go 2 (pc' := 108) (L' := [some (.ref 127), z16_1, z16_2, z16_3, z16_4]) (S' := [.int (w16.1 127 59)]) (w' := w16) rfl ?_
      exact tm_r rfl ⟨_, rfl, hs⟩
    · replace hs := hs.2 h2
      refine tm_go 1 (pc' := 12) (L' := [some (.ref 127), some (.int a0), none, none, none]) (S' := [.int (-1)]) (w' := w) rfl ?_
      exact tm_r rfl ⟨_, rfl, hs⟩
set_option maxHeartbeats 4000000 in
set_option maxRecDepth 100000 in
theorem tx_Mo_stillAt_125 {d : Nat} {r_Mo_stillAt : MW → Int32 → Int32 → (Int32 → MW → Prop) → Prop} (hr_Mo_stillAt : ∀ (w : MW) (a0 : Int32) (b0 : Int32) (Q : Int32 → MW → Prop), r_Mo_stillAt w a0 b0 Q → Tc (d + 1) 118 [.ref 127, .int a0, .int b0] w (RI Q)) {y125_1 : Int32} {y125_2 : Int32} {z3 : Option Value} {z4 : Option Value} {z5 : Option Value} {w : MW} {Q : Int32 → MW → Prop} (hs : q_Mo_stillAt_125 r_Mo_stillAt y125_1 y125_2 w Q) : Tm (d + 2) 118 125 [some (.ref 127), some (.int y125_1), some (.int y125_2), z3, z4, z5] [] w (RI Q) := by
  unfold q_Mo_stillAt_125 at hs
  refine tm_go 3 (pc' := 130) (L' := [some (.ref 127), some (.int y125_1), some (.int y125_2), z3, z4, z5]) (S' := [.int y125_1, .ref 213]) (w' := w) rfl ?_
  obtain ⟨b7, hs⟩ := hs
  refine tm_k (pc' := 131) (L' := [some (.ref 127), some (.int y125_1), some (.int y125_2), z3, z4, z5]) (S' := [.int (w.1 213 y125_1.toInt.toNat)]) (w' := w) rfl b7 ?_
  refine tm_go 1 (pc' := 132) (L' := [some (.ref 127), some (.int y125_1), some (.int y125_2), z3, z4, z5]) (S' := [.int (-1), .int (w.1 213 y125_1.toInt.toNat)]) (w' := w) rfl ?_
  refine tm_i (p1 := 139) (p2 := 135) rfl (fun h8 => ?_) (fun h8 => ?_)
  · replace hs := hs.1 h8
    refine tm_go 4 (pc' := 145) (L' := [some (.ref 127), some (.int y125_1), some (.int y125_2), z3, z4, z5]) (S' := [.int y125_1, .ref 213, .ref 127]) (w' := w) rfl ?_
    obtain ⟨b9, hs⟩ := hs
    refine tm_k (pc' := 146) (L' := [some (.ref 127), some (.int y125_1), some (.int y125_2), z3, z4, z5]) (S' := [.int (w.1 213 y125_1.toInt.toNat), .ref 127]) (w' := w) rfl b9 ?_
    refine tm_go 1 (pc' := 147) (L' := [some (.ref 127), some (.int y125_1), some (.int y125_2), z3, z4, z5]) (S' := [.int y125_2, .int (w.1 213 y125_1.toInt.toNat), .ref 127]) (w' := w) rfl ?_
    refine tm_c rfl (Nat.le_of_ble_eq_true rfl) (hr_Mo_stillAt _ _ _ _ hs) (fun v w10 hq => ?_)
    obtain ⟨r10, rfl, hs⟩ := hq
    exact tm_r rfl ⟨_, rfl, hs⟩
  · replace hs := hs.2 h8
    refine tm_go 2 (pc' := 150) (L' := [some (.ref 127), some (.int y125_1), some (.int y125_2), z3, z4, z5]) (S' := [.int (-1)]) (w' := w) rfl ?_
    exact tm_r rfl ⟨_, rfl, hs⟩
set_option maxHeartbeats 4000000 in
set_option maxRecDepth 100000 in
theorem tx_Mo_stillAt_224 {d : Nat} {r_Mo_stillAt : MW → Int32 → Int32 → (Int32 → MW → Prop) → Prop} (hr_Mo_stillAt : ∀ (w : MW) (a0 : Int32) (b0 : Int32) (Q : Int32 → MW → Prop), r_Mo_stillAt w a0 b0 Q → Tc (d + 1) 118 [.ref 127, .int a0, .int b0] w (RI Q)) {y224_1 : Int32} {y224_4 : Int32} {ys224_0 : Int32} {ys224_1 : Int32} {z2 : Option Value} {z3 : Option Value} {z5 : Option Value} {w : MW} {Q : Int32 → MW → Prop} (hs : q_Mo_stillAt_224 r_Mo_stillAt y224_1 y224_4 ys224_0 ys224_1 w Q) : Tm (d + 2) 118 224 [some (.ref 127), some (.int y224_1), z2, z3, some (.int y224_4), z5] [.int ys224_0, .int ys224_1, .ref 127] w (RI Q) := by
  unfold q_Mo_stillAt_224 at hs
  refine tm_go 3 (pc' := 230) (L' := [some (.ref 127), some (.int y224_1), z2, z3, some (.int y224_4), z5]) (S' := [.int y224_4]) (w' := (sI w 127 77 (ys224_1 - ys224_0))) rfl ?_
  refine tm_i (p1 := 244) (p2 := 233) rfl (fun h16 => ?_) (fun h16 => ?_)
  · replace hs := hs.1 h16
    refine tm_go 1 (pc' := 245) (L' := [some (.ref 127), some (.int y224_1), z2, z3, some (.int y224_4), z5]) (S' := [.int (-1)]) (w' := (sI w 127 77 (ys224_1 - ys224_0))) rfl ?_
    exact tm_r rfl ⟨_, rfl, hs⟩
  · replace hs := hs.2 h16
    refine tm_go 2 (pc' := 237) (L' := [some (.ref 127), some (.int y224_1), z2, z3, some (.int y224_4), z5]) (S' := [.int (ys224_1 - ys224_0)]) (w' := (sI w 127 77 (ys224_1 - ys224_0))) rfl ?_
    refine tm_i (p1 := 244) (p2 := 240) rfl (fun h17 => ?_) (fun h17 => ?_)
    · replace hs := hs.1 h17
      refine tm_go 1 (pc' := 245) (L' := [some (.ref 127), some (.int y224_1), z2, z3, some (.int y224_4), z5]) (S' := [.int (-1)]) (w' := (sI w 127 77 (ys224_1 - ys224_0))) rfl ?_
      exact tm_r rfl ⟨_, rfl, hs⟩
    · replace hs := hs.2 h17
      refine tm_go 2 (pc' := 245) (L' := [some (.ref 127), some (.int y224_1), z2, z3, some (.int y224_4), z5]) (S' := [.int y224_1]) (w' := (sI w 127 77 (ys224_1 - ys224_0))) rfl ?_
      exact tm_r rfl ⟨_, rfl, hs⟩
set_option maxHeartbeats 4000000 in
set_option maxRecDepth 100000 in
theorem tx_Mo_stillAt_31 {d : Nat} {r_Mo_stillAt : MW → Int32 → Int32 → (Int32 → MW → Prop) → Prop} (hr_Mo_stillAt : ∀ (w : MW) (a0 : Int32) (b0 : Int32) (Q : Int32 → MW → Prop), r_Mo_stillAt w a0 b0 Q → Tc (d + 1) 118 [.ref 127, .int a0, .int b0] w (RI Q)) {x31_2 : Int32} {E : MW → Prop} {Q : Int32 → MW → Prop} (n : Nat) : ∀ (x31_4 : Int32)  (z1 : Option Value) (z3 : Option Value) (z5 : Option Value) (w : MW), q_Mo_stillAt_31 r_Mo_stillAt x31_2 E Q n x31_4 w → (∀  (v0 : Option Value) (v1 : Option Value) (v2 : Option Value) (v3 : Option Value) (v4 : Option Value) (v5 : Option Value) (w : MW), E  w → Tm (d + 2) 118 81 [v0, v1, v2, v3, v4, v5] [] w (RI Q)) → Tm (d + 2) 118 31 [some (.ref 127), z1, some (.int x31_2), z3, some (.int x31_4), z5] [] w (RI Q) := by
  induction n with
  | zero => intro x31_4 z1 z3 z5 w hs; rw [q_Mo_stillAt_31.eq_1] at hs; exact hs.elim
  | succ n ih =>
    intro x31_4 z1 z3 z5 w hs hE
    rw [q_Mo_stillAt_31.eq_2] at hs
    refine tm_go 2 (pc' := 34) (L' := [some (.ref 127), z1, some (.int x31_2), z3, some (.int x31_4), z5]) (S' := [.int (-1), .int x31_4]) (w' := w) rfl ?_
    refine tm_i (p1 := 81) (p2 := 37) rfl (fun h27 => ?_) (fun h27 => ?_)
    · replace hs := hs.1 h27
      exact hE _ _ _ _ _ _ _ hs
    · replace hs := hs.2 h27
      refine tm_go 3 (pc' := 43) (L' := [some (.ref 127), z1, some (.int x31_2), z3, some (.int x31_4), z5]) (S' := [.int x31_4, .ref 212]) (w' := w) rfl ?_
      obtain ⟨b28, hs⟩ := hs
      refine tm_k (pc' := 44) (L' := [some (.ref 127), z1, some (.int x31_2), z3, some (.int x31_4), z5]) (S' := [.int (w.1 212 x31_4.toInt.toNat)]) (w' := w) rfl b28 ?_
      refine tm_i (p1 := 51) (p2 := 47) rfl (fun h29 => ?_) (fun h29 => ?_)
      · replace hs := hs.1 h29
        refine tm_go 3 (pc' := 55) (L' := [some (.ref 127), z1, some (.int x31_2), z3, some (.int x31_4), z5]) (S' := [.int x31_2, .int x31_4, .ref 127]) (w' := w) rfl ?_
        refine tm_c rfl (Nat.le_of_ble_eq_true rfl) (hr_Mo_stillAt _ _ _ _ hs) (fun v w30 hq => ?_)
        obtain ⟨r30, rfl, hs⟩ := hq
        refine tm_go 3 (pc' := 63) (L' := [some (.ref 127), z1, some (.int x31_2), z3, some (.int x31_4), some (.int r30)]) (S' := [.int (-1), .int r30]) (w' := w30) rfl ?_
        refine tm_i (p1 := 69) (p2 := 66) rfl (fun h31 => ?_) (fun h31 => ?_)
        · replace hs := hs.1 h31
          refine tm_go 3 (pc' := 75) (L' := [some (.ref 127), z1, some (.int x31_2), z3, some (.int x31_4), some (.int r30)]) (S' := [.int x31_4, .ref 209]) (w' := w30) rfl ?_
          obtain ⟨b32, hs⟩ := hs
          refine tm_k (pc' := 76) (L' := [some (.ref 127), z1, some (.int x31_2), z3, some (.int x31_4), some (.int r30)]) (S' := [.int (w30.1 209 x31_4.toInt.toNat)]) (w' := w30) rfl b32 ?_
          refine tm_go 2 (pc' := 31) (L' := [some (.ref 127), z1, some (.int x31_2), (ksl z3), some (.int (w30.1 209 x31_4.toInt.toNat)), some (.int r30)]) (S' := []) (w' := w30) rfl ?_
          exact ih _ _ _ _ _ hs hE
        · replace hs := hs.2 h31
          refine tm_go 1 (pc' := 68) (L' := [some (.ref 127), z1, some (.int x31_2), z3, some (.int x31_4), some (.int r30)]) (S' := [.int r30]) (w' := w30) rfl ?_
          exact tm_r rfl ⟨_, rfl, hs⟩
      · replace hs := hs.2 h29
        refine tm_go 9 (pc' := 75) (L' := [some (.ref 127), z1, some (.int x31_2), z3, some (.int x31_4), some (.int (-1))]) (S' := [.int x31_4, .ref 209]) (w' := w) rfl ?_
        obtain ⟨b33, hs⟩ := hs
        refine tm_k (pc' := 76) (L' := [some (.ref 127), z1, some (.int x31_2), z3, some (.int x31_4), some (.int (-1))]) (S' := [.int (w.1 209 x31_4.toInt.toNat)]) (w' := w) rfl b33 ?_
        refine tm_go 2 (pc' := 31) (L' := [some (.ref 127), z1, some (.int x31_2), (ksl z3), some (.int (w.1 209 x31_4.toInt.toNat)), some (.int (-1))]) (S' := []) (w' := w) rfl ?_
        exact ih _ _ _ _ _ hs hE
set_option maxHeartbeats 4000000 in
set_option maxRecDepth 100000 in
theorem dmb_Mo_stillAt {d : Nat} {r_Mo_stillAt : MW → Int32 → Int32 → (Int32 → MW → Prop) → Prop} (hr_Mo_stillAt : ∀ (w : MW) (a0 : Int32) (b0 : Int32) (Q : Int32 → MW → Prop), r_Mo_stillAt w a0 b0 Q → Tc (d + 1) 118 [.ref 127, .int a0, .int b0] w (RI Q)) {w : MW} {a0 : Int32} {b0 : Int32} {Q : Int32 → MW → Prop} (hs : pb_Mo_stillAt r_Mo_stillAt w a0 b0 Q) : Tc (d + 2) 118 [.ref 127, .int a0, .int b0] w (RI Q) := by
  unfold pb_Mo_stillAt at hs
  refine tm_go 3 (pc' := 5) (L' := [some (.ref 127), some (.int a0), some (.int b0), none, none, none]) (S' := [.int a0, .ref 210]) (w' := w) rfl ?_
  obtain ⟨b1, hs⟩ := hs
  refine tm_k (pc' := 6) (L' := [some (.ref 127), some (.int a0), some (.int b0), none, none, none]) (S' := [.int (w.1 210 a0.toInt.toNat)]) (w' := w) rfl b1 ?_
  refine tm_i (p1 := 11) (p2 := 9) rfl (fun h2 => ?_) (fun h2 => ?_)
  · replace hs := hs.1 h2
    refine tm_go 2 (pc' := 13) (L' := [some (.ref 127), some (.int a0), some (.int b0), none, none, none]) (S' := [.int a0, .ref 127]) (w' := w) rfl ?_
    refine tm_c rfl (Nat.le_of_ble_eq_true rfl) (dm_Mo_kind (d := d + 0) hs) (fun v w3 hq => ?_)
    obtain ⟨r3, rfl, hs⟩ := hq
    refine tm_go 3 (pc' := 20) (L' := [some (.ref 127), some (.int a0), some (.int b0), some (.int r3), none, none]) (S' := [.int 14, .int r3]) (w' := w3) rfl ?_
    refine tm_i (p1 := 83) (p2 := 23) rfl (fun h4 => ?_) (fun h4 => ?_)
    · replace hs := hs.1 h4
      refine tm_go 2 (pc' := 86) (L' := [some (.ref 127), some (.int a0), some (.int b0), some (.int r3), none, none]) (S' := [.int 16, .int r3]) (w' := w3) rfl ?_
      refine tm_i (p1 := 101) (p2 := 89) rfl (fun h5 => ?_) (fun h5 => ?_)
      · replace hs := hs.1 h5
        refine tm_go 2 (pc' := 104) (L' := [some (.ref 127), some (.int a0), some (.int b0), some (.int r3), none, none]) (S' := [.int 23, .int r3]) (w' := w3) rfl ?_
        refine tm_i (p1 := 125) (p2 := 107) rfl (fun h6 => ?_) (fun h6 => ?_)
        · replace hs := hs.1 h6
          exact tx_Mo_stillAt_125 hr_Mo_stillAt hs 
        · replace hs := hs.2 h6
          refine tm_go 2 (pc' := 110) (L' := [some (.ref 127), some (.int a0), some (.int b0), some (.int r3), none, none]) (S' := [.int 15, .int r3]) (w' := w3) rfl ?_
          refine tm_i (p1 := 125) (p2 := 113) rfl (fun h11 => ?_) (fun h11 => ?_)
          · replace hs := hs.1 h11
            exact tx_Mo_stillAt_125 hr_Mo_stillAt hs 
          · replace hs := hs.2 h11
            refine tm_go 2 (pc' := 116) (L' := [some (.ref 127), some (.int a0), some (.int b0), some (.int r3), none, none]) (S' := [.int 19, .int r3]) (w' := w3) rfl ?_
            refine tm_i (p1 := 125) (p2 := 119) rfl (fun h12 => ?_) (fun h12 => ?_)
            · replace hs := hs.1 h12
              exact tx_Mo_stillAt_125 hr_Mo_stillAt hs 
            · replace hs := hs.2 h12
              refine tm_go 2 (pc' := 122) (L' := [some (.ref 127), some (.int a0), some (.int b0), some (.int r3), none, none]) (S' := [.int 17, .int r3]) (w' := w3) rfl ?_
              refine tm_i (p1 := 151) (p2 := 125) rfl (fun h13 => ?_) (fun h13 => ?_)
              · replace hs := hs.1 h13
                refine tm_go 1 (pc' := 152) (L' := [some (.ref 127), some (.int a0), some (.int b0), some (.int r3), none, none]) (S' := [.int b0]) (w' := w3) rfl ?_
                refine tm_i (p1 := 178) (p2 := 155) rfl (fun h14 => ?_) (fun h14 => ?_)
                · replace hs := hs.1 h14
                  refine tm_go 2 (pc' := 181) (L' := [some (.ref 127), some (.int a0), some (.int b0), some (.int r3), none, none]) (S' := [.int 11, .int r3]) (w' := w3) rfl ?_
                  refine tm_i (p1 := 202) (p2 := 184) rfl (fun h15 => ?_) (fun h15 => ?_)
                  · replace hs := hs.1 h15
                    refine tm_go 10 (pc' := 224) (L' := [some (.ref 127), some (.int a0), some (.int b0), some (.int r3), some (.int 1), none]) (S' := [.int 1, .int (w3.1 127 77), .ref 127]) (w' := w3) rfl ?_
                    exact tx_Mo_stillAt_224 hr_Mo_stillAt hs 
                  · replace hs := hs.2 h15
                    refine tm_go 2 (pc' := 187) (L' := [some (.ref 127), some (.int a0), some (.int b0), some (.int r3), none, none]) (S' := [.int 12, .int r3]) (w' := w3) rfl ?_
                    refine tm_i (p1 := 202) (p2 := 190) rfl (fun h18 => ?_) (fun h18 => ?_)
                    · replace hs := hs.1 h18
                      refine tm_go 10 (pc' := 224) (L' := [some (.ref 127), some (.int a0), some (.int b0), some (.int r3), some (.int 1), none]) (S' := [.int 1, .int (w3.1 127 77), .ref 127]) (w' := w3) rfl ?_
                      exact tx_Mo_stillAt_224 hr_Mo_stillAt hs 
                    · replace hs := hs.2 h18
                      refine tm_go 2 (pc' := 193) (L' := [some (.ref 127), some (.int a0), some (.int b0), some (.int r3), none, none]) (S' := [.int 13, .int r3]) (w' := w3) rfl ?_
                      refine tm_i (p1 := 202) (p2 := 196) rfl (fun h19 => ?_) (fun h19 => ?_)
                      · replace hs := hs.1 h19
                        refine tm_go 10 (pc' := 224) (L' := [some (.ref 127), some (.int a0), some (.int b0), some (.int r3), some (.int 1), none]) (S' := [.int 1, .int (w3.1 127 77), .ref 127]) (w' := w3) rfl ?_
                        exact tx_Mo_stillAt_224 hr_Mo_stillAt hs 
                      · replace hs := hs.2 h19
                        refine tm_go 2 (pc' := 199) (L' := [some (.ref 127), some (.int a0), some (.int b0), some (.int r3), none, none]) (S' := [.int 18, .int r3]) (w' := w3) rfl ?_
                        refine tm_i (p1 := 206) (p2 := 202) rfl (fun h20 => ?_) (fun h20 => ?_)
                        · replace hs := hs.1 h20
                          refine tm_go 8 (pc' := 224) (L' := [some (.ref 127), some (.int a0), some (.int b0), some (.int r3), some (.int 0), none]) (S' := [.int 0, .int (w3.1 127 77), .ref 127]) (w' := w3) rfl ?_
                          exact tx_Mo_stillAt_224 hr_Mo_stillAt hs 
                        · replace hs := hs.2 h20
                          refine tm_go 10 (pc' := 224) (L' := [some (.ref 127), some (.int a0), some (.int b0), some (.int r3), some (.int 1), none]) (S' := [.int 1, .int (w3.1 127 77), .ref 127]) (w' := w3) rfl ?_
                          exact tx_Mo_stillAt_224 hr_Mo_stillAt hs 
                · replace hs := hs.2 h14
                  refine tm_go 2 (pc' := 158) (L' := [some (.ref 127), some (.int a0), some (.int b0), some (.int r3), none, none]) (S' := [.int 18, .int r3]) (w' := w3) rfl ?_
                  refine tm_i (p1 := 174) (p2 := 161) rfl (fun h21 => ?_) (fun h21 => ?_)
                  · replace hs := hs.1 h21
                    refine tm_go 9 (pc' := 224) (L' := [some (.ref 127), some (.int a0), some (.int b0), some (.int r3), some (.int 0), none]) (S' := [.int 0, .int (w3.1 127 77), .ref 127]) (w' := w3) rfl ?_
                    exact tx_Mo_stillAt_224 hr_Mo_stillAt hs 
                  · replace hs := hs.2 h21
                    refine tm_go 3 (pc' := 166) (L' := [some (.ref 127), some (.int a0), some (.int b0), some (.int r3), none, none]) (S' := [.int a0, .ref 211]) (w' := w3) rfl ?_
                    obtain ⟨b22, hs⟩ := hs
                    refine tm_k (pc' := 167) (L' := [some (.ref 127), some (.int a0), some (.int b0), some (.int r3), none, none]) (S' := [.int (w3.1 211 a0.toInt.toNat)]) (w' := w3) rfl b22 ?_
                    refine tm_i (p1 := 174) (p2 := 170) rfl (fun h23 => ?_) (fun h23 => ?_)
                    · replace hs := hs.1 h23
                      refine tm_go 9 (pc' := 224) (L' := [some (.ref 127), some (.int a0), some (.int b0), some (.int r3), some (.int 0), none]) (S' := [.int 0, .int (w3.1 127 77), .ref 127]) (w' := w3) rfl ?_
                      exact tx_Mo_stillAt_224 hr_Mo_stillAt hs 
                    · replace hs := hs.2 h23
                      refine tm_go 10 (pc' := 224) (L' := [some (.ref 127), some (.int a0), some (.int b0), some (.int r3), some (.int 1), none]) (S' := [.int 1, .int (w3.1 127 77), .ref 127]) (w' := w3) rfl ?_
                      exact tx_Mo_stillAt_224 hr_Mo_stillAt hs 
              · replace hs := hs.2 h13
                exact tx_Mo_stillAt_125 hr_Mo_stillAt hs 
      · replace hs := hs.2 h5
        refine tm_go 4 (pc' := 95) (L' := [some (.ref 127), some (.int a0), some (.int b0), some (.int r3), none, none]) (S' := [.int a0, .ref 208, .ref 127]) (w' := w3) rfl ?_
        obtain ⟨b24, hs⟩ := hs
        refine tm_k (pc' := 96) (L' := [some (.ref 127), some (.int a0), some (.int b0), some (.int r3), none, none]) (S' := [.int (w3.1 208 a0.toInt.toNat), .ref 127]) (w' := w3) rfl b24 ?_
        refine tm_go 1 (pc' := 97) (L' := [some (.ref 127), some (.int a0), some (.int b0), some (.int r3), none, none]) (S' := [.int b0, .int (w3.1 208 a0.toInt.toNat), .ref 127]) (w' := w3) rfl ?_
        refine tm_c rfl (Nat.le_of_ble_eq_true rfl) (hr_Mo_stillAt _ _ _ _ hs) (fun v w25 hq => ?_)
        obtain ⟨r25, rfl, hs⟩ := hq
        exact tm_r rfl ⟨_, rfl, hs⟩
    · replace hs := hs.2 h4
      refine tm_go 3 (pc' := 28) (L' := [some (.ref 127), some (.int a0), some (.int b0), some (.int r3), none, none]) (S' := [.int a0, .ref 208]) (w' := w3) rfl ?_
      obtain ⟨b26, hs⟩ := hs
      refine tm_k (pc' := 29) (L' := [some (.ref 127), some (.int a0), some (.int b0), some (.int r3), none, none]) (S' := [.int (w3.1 208 a0.toInt.toNat)]) (w' := w3) rfl b26 ?_
      refine tm_go 1 (pc' := 31) (L' := [some (.ref 127), some (.int a0), some (.int b0), some (.int r3), some (.int (w3.1 208 a0.toInt.toNat)), none]) (S' := []) (w' := w3) rfl ?_
      refine tx_Mo_stillAt_31 hr_Mo_stillAt FU _ _ _ _ _ hs (fun  z34_0 z34_1 z34_2 z34_3 z34_4 z34_5 w34 hs => ?_)
      refine tm_go 1 (pc' := 82) (L' := [z34_0, z34_1, z34_2, z34_3, z34_4, z34_5]) (S' := [.int (-1)]) (w' := w34) rfl ?_
      exact tm_r rfl ⟨_, rfl, hs⟩
  · replace hs := hs.2 h2
    refine tm_go 1 (pc' := 10) (L' := [some (.ref 127), some (.int a0), some (.int b0), none, none, none]) (S' := [.int (-1)]) (w' := w) rfl ?_
    exact tm_r rfl ⟨_, rfl, hs⟩
theorem da_Mo_stillAt (n : Nat) : (∀ (w : MW) (a0 : Int32) (b0 : Int32) (Q : Int32 → MW → Prop), pn_Mo_stillAt n w a0 b0 Q → Tc (n + 1) 118 [.ref 127, .int a0, .int b0] w (RI Q)) := by
  induction n with
  | zero => exact fun _ _ _ _ h => h.elim
  | succ n h0 =>
    skip
    exact fun _ _ _ _ h => (dmb_Mo_stillAt (d := n) h0 h).le (by omega)
theorem dm_Mo_stillAt {d : Nat} {w : MW} {a0 : Int32} {b0 : Int32} {Q : Int32 → MW → Prop} (hs : p_Mo_stillAt w a0 b0 Q) : Tc (d + 511) 118 [.ref 127, .int a0, .int b0] w (RI Q) := ((da_Mo_stillAt 510) _ _ _ _ hs).le (by omega)
