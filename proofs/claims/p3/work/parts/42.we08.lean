set_option maxHeartbeats 4000000 in
set_option maxRecDepth 100000 in
theorem dm_Ma_floorDiv {d : Nat} {w : MW} {a0 : Int64} {b0 : Int64} {Q : Int64 → MW → Prop} (hs : p_Ma_floorDiv w a0 b0 Q) : Tc (d + 0) 340 [.long a0, .long b0] w (RJ Q) := by
  unfold p_Ma_floorDiv at hs
  refine tm_go 2 (pc' := 2) (L' := [some (.long a0), none, some (.long b0), none, none, none]) (S' := [.long b0, .long a0]) (w' := w) rfl ?_
  obtain ⟨b1, hs⟩ := hs
  refine tm_k (pc' := 3) (L' := [some (.long a0), none, some (.long b0), none, none, none]) (S' := [.long (a0 / b0)]) (w' := w) rfl b1 ?_
  refine tm_go 6 (pc' := 10) (L' := [some (.long a0), none, some (.long b0), none, some (.long (a0 / b0)), none]) (S' := [.int (lg_cmp (a0 ^^^ b0) (0 : Int64))]) (w' := w) rfl ?_
  refine tm_i (p1 := 27) (p2 := 13) rfl (fun h2 => ?_) (fun h2 => ?_)
  · replace hs := hs.1 h2
    refine tm_go 1 (pc' := 29) (L' := [some (.long a0), none, some (.long b0), none, some (.long (a0 / b0)), none]) (S' := [.long (a0 / b0)]) (w' := w) rfl ?_
    exact tm_r rfl ⟨_, rfl, hs⟩
  · replace hs := hs.2 h2
    refine tm_go 5 (pc' := 19) (L' := [some (.long a0), none, some (.long b0), none, some (.long (a0 / b0)), none]) (S' := [.int (lg_cmp ((a0 / b0) * b0) a0)]) (w' := w) rfl ?_
    refine tm_i (p1 := 27) (p2 := 22) rfl (fun h3 => ?_) (fun h3 => ?_)
    · replace hs := hs.1 h3
      refine tm_go 1 (pc' := 29) (L' := [some (.long a0), none, some (.long b0), none, some (.long (a0 / b0)), none]) (S' := [.long (a0 / b0)]) (w' := w) rfl ?_
      exact tm_r rfl ⟨_, rfl, hs⟩
    · replace hs := hs.2 h3
      refine tm_go 3 (pc' := 26) (L' := [some (.long a0), none, some (.long b0), none, some (.long (a0 / b0)), none]) (S' := [.long ((a0 / b0) - (1 : Int64))]) (w' := w) rfl ?_
      exact tm_r rfl ⟨_, rfl, hs⟩
set_option maxHeartbeats 4000000 in
set_option maxRecDepth 100000 in
theorem dm_Ru_rampOn {d : Nat} {w : MW} {a0 : Int32} {b0 : Int64} {Q : Int32 → MW → Prop} (hs : p_Ru_rampOn w a0 b0 Q) : Tc (d + 1) 226 [.ref 61, .int a0, .long b0] w (RI Q) := by
  unfold p_Ru_rampOn at hs
  refine tm_go 4 (pc' := 6) (L' := [some (.ref 61), some (.int a0), some (.long b0), none]) (S' := [.int a0, .ref 83, .long b0]) (w' := w) rfl ?_
  obtain ⟨b1, hs⟩ := hs
  refine tm_k (pc' := 7) (L' := [some (.ref 61), some (.int a0), some (.long b0), none]) (S' := [.long (w.2.1 83 a0.toInt.toNat), .long b0]) (w' := w) rfl b1 ?_
  refine tm_go 1 (pc' := 8) (L' := [some (.ref 61), some (.int a0), some (.long b0), none]) (S' := [.int (lg_cmp b0 (w.2.1 83 a0.toInt.toNat))]) (w' := w) rfl ?_
  refine tm_i (p1 := 22) (p2 := 11) rfl (fun h2 => ?_) (fun h2 => ?_)
  · replace hs := hs.1 h2
    refine tm_go 4 (pc' := 28) (L' := [some (.ref 61), some (.int a0), some (.long b0), none]) (S' := [.int a0, .ref 77, .ref 61]) (w' := w) rfl ?_
    obtain ⟨b3, hs⟩ := hs
    refine tm_k (pc' := 29) (L' := [some (.ref 61), some (.int a0), some (.long b0), none]) (S' := [.int (w.1 77 a0.toInt.toNat), .ref 61]) (w' := w) rfl b3 ?_
    refine tm_go 3 (pc' := 34) (L' := [some (.ref 61), some (.int a0), some (.long b0), none]) (S' := [.int a0, .ref 85, .int (w.1 77 a0.toInt.toNat), .ref 61]) (w' := w) rfl ?_
    obtain ⟨b4, hs⟩ := hs
    refine tm_k (pc' := 35) (L' := [some (.ref 61), some (.int a0), some (.long b0), none]) (S' := [.long (w.2.1 85 a0.toInt.toNat), .int (w.1 77 a0.toInt.toNat), .ref 61]) (w' := w) rfl b4 ?_
    refine tm_c rfl (Nat.le_of_ble_eq_true rfl) (dm_Ru_setValue (d := d + 0) hs) (fun v w5 hq => ?_)
    obtain ⟨rfl, hs⟩ := hq
    refine tm_go 1 (pc' := 39) (L' := [some (.ref 61), some (.int a0), some (.long b0), none]) (S' := [.int 1]) (w' := w5) rfl ?_
    exact tm_r rfl ⟨_, rfl, hs⟩
  · replace hs := hs.2 h2
    refine tm_go 3 (pc' := 16) (L' := [some (.ref 61), some (.int a0), some (.long b0), none]) (S' := [.int a0, .ref 83]) (w' := w) rfl ?_
    obtain ⟨b6, hs⟩ := hs
    refine tm_k (pc' := 17) (L' := [some (.ref 61), some (.int a0), some (.long b0), none]) (S' := [.long (w.2.1 83 a0.toInt.toNat)]) (w' := w) rfl b6 ?_
    refine tm_go 2 (pc' := 19) (L' := [some (.ref 61), some (.int a0), some (.long b0), none]) (S' := [.int (lg_cmp (w.2.1 83 a0.toInt.toNat) (1 : Int64))]) (w' := w) rfl ?_
    refine tm_i (p1 := 40) (p2 := 22) rfl (fun h7 => ?_) (fun h7 => ?_)
    · replace hs := hs.1 h7
      refine tm_go 4 (pc' := 46) (L' := [some (.ref 61), some (.int a0), some (.long b0), none]) (S' := [.int a0, .ref 77, .ref 61]) (w' := w) rfl ?_
      obtain ⟨b8, hs⟩ := hs
      refine tm_k (pc' := 47) (L' := [some (.ref 61), some (.int a0), some (.long b0), none]) (S' := [.int (w.1 77 a0.toInt.toNat), .ref 61]) (w' := w) rfl b8 ?_
      refine tm_go 3 (pc' := 52) (L' := [some (.ref 61), some (.int a0), some (.long b0), none]) (S' := [.int a0, .ref 84, .int (w.1 77 a0.toInt.toNat), .ref 61]) (w' := w) rfl ?_
      obtain ⟨b9, hs⟩ := hs
      refine tm_k (pc' := 53) (L' := [some (.ref 61), some (.int a0), some (.long b0), none]) (S' := [.long (w.2.1 84 a0.toInt.toNat), .int (w.1 77 a0.toInt.toNat), .ref 61]) (w' := w) rfl b9 ?_
      refine tm_go 3 (pc' := 58) (L' := [some (.ref 61), some (.int a0), some (.long b0), none]) (S' := [.int a0, .ref 85, .long (w.2.1 84 a0.toInt.toNat), .int (w.1 77 a0.toInt.toNat), .ref 61]) (w' := w) rfl ?_
      obtain ⟨b10, hs⟩ := hs
      refine tm_k (pc' := 59) (L' := [some (.ref 61), some (.int a0), some (.long b0), none]) (S' := [.long (w.2.1 85 a0.toInt.toNat), .long (w.2.1 84 a0.toInt.toNat), .int (w.1 77 a0.toInt.toNat), .ref 61]) (w' := w) rfl b10 ?_
      refine tm_go 3 (pc' := 64) (L' := [some (.ref 61), some (.int a0), some (.long b0), none]) (S' := [.int a0, .ref 84, .long (w.2.1 85 a0.toInt.toNat), .long (w.2.1 84 a0.toInt.toNat), .int (w.1 77 a0.toInt.toNat), .ref 61]) (w' := w) rfl ?_
      obtain ⟨b11, hs⟩ := hs
      refine tm_k (pc' := 65) (L' := [some (.ref 61), some (.int a0), some (.long b0), none]) (S' := [.long (w.2.1 84 a0.toInt.toNat), .long (w.2.1 85 a0.toInt.toNat), .long (w.2.1 84 a0.toInt.toNat), .int (w.1 77 a0.toInt.toNat), .ref 61]) (w' := w) rfl b11 ?_
      refine tm_go 6 (pc' := 73) (L' := [some (.ref 61), some (.int a0), some (.long b0), none]) (S' := [.int a0, .ref 83, .long (((w.2.1 85 a0.toInt.toNat) - (w.2.1 84 a0.toInt.toNat)) * b0), .long (w.2.1 84 a0.toInt.toNat), .int (w.1 77 a0.toInt.toNat), .ref 61]) (w' := w) rfl ?_
      obtain ⟨b12, hs⟩ := hs
      refine tm_k (pc' := 74) (L' := [some (.ref 61), some (.int a0), some (.long b0), none]) (S' := [.long (w.2.1 83 a0.toInt.toNat), .long (((w.2.1 85 a0.toInt.toNat) - (w.2.1 84 a0.toInt.toNat)) * b0), .long (w.2.1 84 a0.toInt.toNat), .int (w.1 77 a0.toInt.toNat), .ref 61]) (w' := w) rfl b12 ?_
      refine tm_c rfl (Nat.le_of_ble_eq_true rfl) (dm_Ma_floorDiv (d := d + 0) hs) (fun v w13 hq => ?_)
      obtain ⟨r13, rfl, hs⟩ := hq
      refine tm_go 1 (pc' := 78) (L' := [some (.ref 61), some (.int a0), some (.long b0), none]) (S' := [.long ((w.2.1 84 a0.toInt.toNat) + r13), .int (w.1 77 a0.toInt.toNat), .ref 61]) (w' := w13) rfl ?_
      refine tm_c rfl (Nat.le_of_ble_eq_true rfl) (dm_Ru_setValue (d := d + 0) hs) (fun v w14 hq => ?_)
      obtain ⟨rfl, hs⟩ := hq
      refine tm_go 1 (pc' := 82) (L' := [some (.ref 61), some (.int a0), some (.long b0), none]) (S' := [.int 0]) (w' := w14) rfl ?_
      exact tm_r rfl ⟨_, rfl, hs⟩
    · replace hs := hs.2 h7
      refine tm_go 4 (pc' := 28) (L' := [some (.ref 61), some (.int a0), some (.long b0), none]) (S' := [.int a0, .ref 77, .ref 61]) (w' := w) rfl ?_
      obtain ⟨b15, hs⟩ := hs
      refine tm_k (pc' := 29) (L' := [some (.ref 61), some (.int a0), some (.long b0), none]) (S' := [.int (w.1 77 a0.toInt.toNat), .ref 61]) (w' := w) rfl b15 ?_
      refine tm_go 3 (pc' := 34) (L' := [some (.ref 61), some (.int a0), some (.long b0), none]) (S' := [.int a0, .ref 85, .int (w.1 77 a0.toInt.toNat), .ref 61]) (w' := w) rfl ?_
      obtain ⟨b16, hs⟩ := hs
      refine tm_k (pc' := 35) (L' := [some (.ref 61), some (.int a0), some (.long b0), none]) (S' := [.long (w.2.1 85 a0.toInt.toNat), .int (w.1 77 a0.toInt.toNat), .ref 61]) (w' := w) rfl b16 ?_
      refine tm_c rfl (Nat.le_of_ble_eq_true rfl) (dm_Ru_setValue (d := d + 0) hs) (fun v w17 hq => ?_)
      obtain ⟨rfl, hs⟩ := hq
      refine tm_go 1 (pc' := 39) (L' := [some (.ref 61), some (.int a0), some (.long b0), none]) (S' := [.int 1]) (w' := w17) rfl ?_
      exact tm_r rfl ⟨_, rfl, hs⟩
set_option maxHeartbeats 4000000 in
set_option maxRecDepth 100000 in
theorem dm_Ru_lookAgain {d : Nat} {w : MW} {a0 : Int32} {b0 : Int32} {Q : Int32 → MW → Prop} (hs : p_Ru_lookAgain w a0 b0 Q) : Tc (d + 3) 225 [.ref 61, .int a0, .int b0] w (RI Q) := by
  unfold p_Ru_lookAgain at hs
  refine tm_go 3 (pc' := 5) (L' := [some (.ref 61), some (.int a0), some (.int b0), none]) (S' := [.int a0, .ref 77]) (w' := w) rfl ?_
  obtain ⟨b1, hs⟩ := hs
  refine tm_k (pc' := 6) (L' := [some (.ref 61), some (.int a0), some (.int b0), none]) (S' := [.int (w.1 77 a0.toInt.toNat)]) (w' := w) rfl b1 ?_
  refine tm_go 2 (pc' := 8) (L' := [some (.ref 61), some (.int a0), some (.int b0), some (.int (w.1 77 a0.toInt.toNat))]) (S' := [.int b0]) (w' := w) rfl ?_
  by_cases h2 : b0.toInt = 12
  · replace hs := hs.1 h2
    refine tm_lk (dflt := 139) (ps := [(12, 52), (13, 72), (14, 105), (22, 122)]) rfl (t := 52) (by rw [h2]; rfl) ?_
    refine tm_go 3 (pc' := 57) (L' := [some (.ref 61), some (.int a0), some (.int b0), some (.int (w.1 77 a0.toInt.toNat))]) (S' := [.int a0, .ref 82]) (w' := w) rfl ?_
    obtain ⟨b3, hs⟩ := hs
    refine tm_k (pc' := 58) (L' := [some (.ref 61), some (.int a0), some (.int b0), some (.int (w.1 77 a0.toInt.toNat))]) (S' := [.long (w.2.1 82 a0.toInt.toNat)]) (w' := w) rfl b3 ?_
    refine tm_go 3 (pc' := 63) (L' := [some (.ref 61), some (.int a0), some (.int b0), some (.int (w.1 77 a0.toInt.toNat))]) (S' := [.int (lg_cmp (w.2.1 82 a0.toInt.toNat) (w.2.1 61 17))]) (w' := w) rfl ?_
    refine tm_i (p1 := 70) (p2 := 66) rfl (fun h4 => ?_) (fun h4 => ?_)
    · replace hs := hs.1 h4
      refine tm_go 1 (pc' := 71) (L' := [some (.ref 61), some (.int a0), some (.int b0), some (.int (w.1 77 a0.toInt.toNat))]) (S' := [.int 0]) (w' := w) rfl ?_
      exact tm_r rfl ⟨_, rfl, hs⟩
    · replace hs := hs.2 h4
      refine tm_go 2 (pc' := 71) (L' := [some (.ref 61), some (.int a0), some (.int b0), some (.int (w.1 77 a0.toInt.toNat))]) (S' := [.int 1]) (w' := w) rfl ?_
      exact tm_r rfl ⟨_, rfl, hs⟩
  · replace hs := hs.2 h2
    by_cases h5 : b0.toInt = 13
    · replace hs := hs.1 h5
      refine tm_lk (dflt := 139) (ps := [(12, 52), (13, 72), (14, 105), (22, 122)]) rfl (t := 72) (by rw [h5]; rfl) ?_
      refine tm_go 2 (pc' := 74) (L' := [some (.ref 61), some (.int a0), some (.int b0), some (.int (w.1 77 a0.toInt.toNat))]) (S' := [.ref 61, .ref 61]) (w' := w) rfl ?_
      obtain ⟨b6, hs⟩ := hs
      refine tm_g (pc' := 77) (k := 61) (j := 3) rfl b6 ?_
      refine tm_go 2 (pc' := 81) (L' := [some (.ref 61), some (.int a0), some (.int b0), some (.int (w.1 77 a0.toInt.toNat))]) (S' := [.int (w.1 77 a0.toInt.toNat), .ref 65, .ref 61]) (w' := w) rfl ?_
      obtain ⟨b7, hs⟩ := hs
      refine tm_k (pc' := 82) (L' := [some (.ref 61), some (.int a0), some (.int b0), some (.int (w.1 77 a0.toInt.toNat))]) (S' := [.int (w.1 65 ((w.1 77 a0.toInt.toNat).toInt.toNat)), .ref 61]) (w' := w) rfl b7 ?_
      refine tm_go 1 (pc' := 83) (L' := [some (.ref 61), some (.int a0), some (.int b0), some (.int (w.1 77 a0.toInt.toNat))]) (S' := [.ref 61, .int (w.1 65 ((w.1 77 a0.toInt.toNat).toInt.toNat)), .ref 61]) (w' := w) rfl ?_
      obtain ⟨b8, hs⟩ := hs
      refine tm_g (pc' := 86) (k := 61) (j := 3) rfl b8 ?_
      refine tm_go 2 (pc' := 90) (L' := [some (.ref 61), some (.int a0), some (.int b0), some (.int (w.1 77 a0.toInt.toNat))]) (S' := [.int (w.1 77 a0.toInt.toNat), .ref 66, .int (w.1 65 ((w.1 77 a0.toInt.toNat).toInt.toNat)), .ref 61]) (w' := w) rfl ?_
      obtain ⟨b9, hs⟩ := hs
      refine tm_k (pc' := 91) (L' := [some (.ref 61), some (.int a0), some (.int b0), some (.int (w.1 77 a0.toInt.toNat))]) (S' := [.int (w.1 66 ((w.1 77 a0.toInt.toNat).toInt.toNat)), .int (w.1 65 ((w.1 77 a0.toInt.toNat).toInt.toNat)), .ref 61]) (w' := w) rfl b9 ?_
      refine tm_c rfl (Nat.le_of_ble_eq_true rfl) (dm_Ru_reckon (d := d + 0) hs) (fun v w10 hq => ?_)
      obtain ⟨r10, rfl, hs⟩ := hq
      refine tm_go 2 (pc' := 96) (L' := [some (.ref 61), some (.int a0), some (.int b0), some (.int (w.1 77 a0.toInt.toNat))]) (S' := [.int (lg_cmp r10 (0 : Int64))]) (w' := w10) rfl ?_
      refine tm_i (p1 := 103) (p2 := 99) rfl (fun h11 => ?_) (fun h11 => ?_)
      · replace hs := hs.1 h11
        refine tm_go 1 (pc' := 104) (L' := [some (.ref 61), some (.int a0), some (.int b0), some (.int (w.1 77 a0.toInt.toNat))]) (S' := [.int 0]) (w' := w10) rfl ?_
        exact tm_r rfl ⟨_, rfl, hs⟩
      · replace hs := hs.2 h11
        refine tm_go 2 (pc' := 104) (L' := [some (.ref 61), some (.int a0), some (.int b0), some (.int (w.1 77 a0.toInt.toNat))]) (S' := [.int 1]) (w' := w10) rfl ?_
        exact tm_r rfl ⟨_, rfl, hs⟩
    · replace hs := hs.2 h5
      by_cases h12 : b0.toInt = 14
      · replace hs := hs.1 h12
        refine tm_lk (dflt := 139) (ps := [(12, 52), (13, 72), (14, 105), (22, 122)]) rfl (t := 105) (by rw [h12]; rfl) ?_
        refine tm_go 7 (pc' := 116) (L' := [some (.ref 61), some (.int a0), some (.int b0), some (.int (w.1 77 a0.toInt.toNat))]) (S' := [.int a0, .ref 82, .long (w.2.1 61 17), .int a0, .ref 61]) (w' := w) rfl ?_
        obtain ⟨b13, hs⟩ := hs
        refine tm_k (pc' := 117) (L' := [some (.ref 61), some (.int a0), some (.int b0), some (.int (w.1 77 a0.toInt.toNat))]) (S' := [.long (w.2.1 82 a0.toInt.toNat), .long (w.2.1 61 17), .int a0, .ref 61]) (w' := w) rfl b13 ?_
        refine tm_go 1 (pc' := 118) (L' := [some (.ref 61), some (.int a0), some (.int b0), some (.int (w.1 77 a0.toInt.toNat))]) (S' := [.long ((w.2.1 61 17) - (w.2.1 82 a0.toInt.toNat)), .int a0, .ref 61]) (w' := w) rfl ?_
        refine tm_c rfl (Nat.le_of_ble_eq_true rfl) (dm_Ru_rampOn (d := d + 1) hs) (fun v w14 hq => ?_)
        obtain ⟨r14, rfl, hs⟩ := hq
        exact tm_r rfl ⟨_, rfl, hs⟩
      · replace hs := hs.2 h12
        by_cases h15 : b0.toInt = 22
        · replace hs := hs.1 h15
          refine tm_lk (dflt := 139) (ps := [(12, 52), (13, 72), (14, 105), (22, 122)]) rfl (t := 122) (by rw [h15]; rfl) ?_
          refine tm_go 3 (pc' := 127) (L' := [some (.ref 61), some (.int a0), some (.int b0), some (.int (w.1 77 a0.toInt.toNat))]) (S' := [.int a0, .ref 82]) (w' := w) rfl ?_
          obtain ⟨b16, hs⟩ := hs
          refine tm_k (pc' := 128) (L' := [some (.ref 61), some (.int a0), some (.int b0), some (.int (w.1 77 a0.toInt.toNat))]) (S' := [.long (w.2.1 82 a0.toInt.toNat)]) (w' := w) rfl b16 ?_
          refine tm_go 2 (pc' := 130) (L' := [some (.ref 61), some (.int a0), some (.int b0), some (.int (w.1 77 a0.toInt.toNat))]) (S' := [.int (lg_cmp (w.2.1 82 a0.toInt.toNat) (0 : Int64))]) (w' := w) rfl ?_
          refine tm_i (p1 := 137) (p2 := 133) rfl (fun h17 => ?_) (fun h17 => ?_)
          · replace hs := hs.1 h17
            refine tm_go 1 (pc' := 138) (L' := [some (.ref 61), some (.int a0), some (.int b0), some (.int (w.1 77 a0.toInt.toNat))]) (S' := [.int 0]) (w' := w) rfl ?_
            exact tm_r rfl ⟨_, rfl, hs⟩
          · replace hs := hs.2 h17
            refine tm_go 2 (pc' := 138) (L' := [some (.ref 61), some (.int a0), some (.int b0), some (.int (w.1 77 a0.toInt.toNat))]) (S' := [.int 1]) (w' := w) rfl ?_
            exact tm_r rfl ⟨_, rfl, hs⟩
        · replace hs := hs.2 h15
          refine tm_lk (dflt := 139) (ps := [(12, 52), (13, 72), (14, 105), (22, 122)]) rfl (t := 139) (by simp only [List.lookup, lk_ne h2, lk_ne h5, lk_ne h12, lk_ne h15]; rfl) ?_
          refine tm_go 1 (pc' := 140) (L' := [some (.ref 61), some (.int a0), some (.int b0), some (.int (w.1 77 a0.toInt.toNat))]) (S' := [.int 2]) (w' := w) rfl ?_
          exact tm_r rfl ⟨_, rfl, hs⟩
set_option maxHeartbeats 4000000 in
set_option maxRecDepth 100000 in
theorem tx_Ru_mayBegin_61 {d : Nat} {y61_2 : Int32} {z1 : Option Value} {w : MW} {Q : Int32 → MW → Prop} (hs : q_Ru_mayBegin_61 y61_2 w Q) : Tm (d + 2) 213 61 [some (.ref 61), z1, some (.int y61_2)] [] w (RZ Q) := by
  unfold q_Ru_mayBegin_61 at hs
  refine tm_go 10 (pc' := 77) (L' := [some (.ref 61), z1, some (.int y61_2)]) (S' := [.int y61_2, .int (w.1 61 20), .ref 61]) (w' := (sI w 61 19 ((w.1 61 19) + (1 : Int32)))) rfl ?_
  refine tm_i (p1 := 84) (p2 := 80) rfl (fun h9 => ?_) (fun h9 => ?_)
  · replace hs := hs.1 h9
    refine tm_go 4 (pc' := 90) (L' := [some (.ref 61), z1, some (.int y61_2)]) (S' := [.int 1]) (w' := (sI (sI w 61 19 ((w.1 61 19) + (1 : Int32))) 61 20 ((w.1 61 20) + (0 : Int32)))) rfl ?_
    exact tm_r rfl ⟨_, rfl, by decide, hs⟩
  · replace hs := hs.2 h9
    refine tm_go 5 (pc' := 90) (L' := [some (.ref 61), z1, some (.int y61_2)]) (S' := [.int 1]) (w' := (sI (sI w 61 19 ((w.1 61 19) + (1 : Int32))) 61 20 ((w.1 61 20) + (1 : Int32)))) rfl ?_
    exact tm_r rfl ⟨_, rfl, by decide, hs⟩
set_option maxHeartbeats 4000000 in
set_option maxRecDepth 100000 in
theorem tx_Ru_mayBegin_24 {d : Nat} {y24_1 : Int32} {ys24_0 : Int32} {z2 : Option Value} {w : MW} {Q : Int32 → MW → Prop} (hs : q_Ru_mayBegin_24 y24_1 ys24_0 w Q) : Tm (d + 2) 213 24 [some (.ref 61), some (.int y24_1), z2] [.int ys24_0] w (RZ Q) := by
  unfold q_Ru_mayBegin_24 at hs
  refine tm_go 4 (pc' := 32) (L' := [some (.ref 61), some (.int y24_1), some (.int ys24_0)]) (S' := [.int 1000, .int (w.1 61 19)]) (w' := w) rfl ?_
  refine tm_i (p1 := 48) (p2 := 35) rfl (fun h5 => ?_) (fun h5 => ?_)
  · replace hs := hs.1 h5
    refine tm_go 5 (pc' := 55) (L' := [some (.ref 61), some (.int y24_1), some (.int ys24_0)]) (S' := [.int y24_1, .ref 77, .int 2, .ref 61]) (w' := w) rfl ?_
    obtain ⟨b6, hs⟩ := hs
    refine tm_k (pc' := 56) (L' := [some (.ref 61), some (.int y24_1), some (.int ys24_0)]) (S' := [.int (w.1 77 y24_1.toInt.toNat), .int 2, .ref 61]) (w' := w) rfl b6 ?_
    refine tm_c rfl (Nat.le_of_ble_eq_true rfl) (dm_Ru_fault (d := d + 0) hs) (fun v w7 hq => ?_)
    obtain ⟨rfl, hs⟩ := hq
    refine tm_go 1 (pc' := 60) (L' := [some (.ref 61), some (.int y24_1), some (.int ys24_0)]) (S' := [.int 0]) (w' := w7) rfl ?_
    exact tm_r rfl ⟨_, rfl, by decide, hs⟩
  · replace hs := hs.2 h5
    refine tm_go 1 (pc' := 36) (L' := [some (.ref 61), some (.int y24_1), some (.int ys24_0)]) (S' := [.int ys24_0]) (w' := w) rfl ?_
    refine tm_i (p1 := 61) (p2 := 39) rfl (fun h8 => ?_) (fun h8 => ?_)
    · replace hs := hs.1 h8
      exact tx_Ru_mayBegin_61 hs 
    · replace hs := hs.2 h8
      refine tm_go 3 (pc' := 45) (L' := [some (.ref 61), some (.int y24_1), some (.int ys24_0)]) (S' := [.int 10, .int (w.1 61 20)]) (w' := w) rfl ?_
      refine tm_i (p1 := 61) (p2 := 48) rfl (fun h10 => ?_) (fun h10 => ?_)
      · replace hs := hs.1 h10
        exact tx_Ru_mayBegin_61 hs 
      · replace hs := hs.2 h10
        refine tm_go 5 (pc' := 55) (L' := [some (.ref 61), some (.int y24_1), some (.int ys24_0)]) (S' := [.int y24_1, .ref 77, .int 2, .ref 61]) (w' := w) rfl ?_
        obtain ⟨b11, hs⟩ := hs
        refine tm_k (pc' := 56) (L' := [some (.ref 61), some (.int y24_1), some (.int ys24_0)]) (S' := [.int (w.1 77 y24_1.toInt.toNat), .int 2, .ref 61]) (w' := w) rfl b11 ?_
        refine tm_c rfl (Nat.le_of_ble_eq_true rfl) (dm_Ru_fault (d := d + 0) hs) (fun v w12 hq => ?_)
        obtain ⟨rfl, hs⟩ := hq
        refine tm_go 1 (pc' := 60) (L' := [some (.ref 61), some (.int y24_1), some (.int ys24_0)]) (S' := [.int 0]) (w' := w12) rfl ?_
        exact tm_r rfl ⟨_, rfl, by decide, hs⟩
set_option maxHeartbeats 4000000 in
set_option maxRecDepth 100000 in
theorem dm_Ru_mayBegin {d : Nat} {w : MW} {a0 : Int32} {Q : Int32 → MW → Prop} (hs : p_Ru_mayBegin w a0 Q) : Tc (d + 2) 213 [.ref 61, .int a0] w (RZ Q) := by
  unfold p_Ru_mayBegin at hs
  refine tm_go 1 (pc' := 1) (L' := [some (.ref 61), some (.int a0), none]) (S' := [.ref 61]) (w' := w) rfl ?_
  obtain ⟨b1, hs⟩ := hs
  refine tm_g (pc' := 4) (k := 61) (j := 3) rfl b1 ?_
  refine tm_go 4 (pc' := 12) (L' := [some (.ref 61), some (.int a0), none]) (S' := [.int a0, .ref 77, .ref 63]) (w' := w) rfl ?_
  obtain ⟨b2, hs⟩ := hs
  refine tm_k (pc' := 13) (L' := [some (.ref 61), some (.int a0), none]) (S' := [.int (w.1 77 a0.toInt.toNat), .ref 63]) (w' := w) rfl b2 ?_
  obtain ⟨b3, hs⟩ := hs
  refine tm_k (pc' := 14) (L' := [some (.ref 61), some (.int a0), none]) (S' := [.int (w.1 63 ((w.1 77 a0.toInt.toNat).toInt.toNat))]) (w' := w) rfl b3 ?_
  refine tm_go 1 (pc' := 16) (L' := [some (.ref 61), some (.int a0), none]) (S' := [.int 26, .int (w.1 63 ((w.1 77 a0.toInt.toNat).toInt.toNat))]) (w' := w) rfl ?_
  refine tm_i (p1 := 23) (p2 := 19) rfl (fun h4 => ?_) (fun h4 => ?_)
  · replace hs := hs.1 h4
    refine tm_go 1 (pc' := 24) (L' := [some (.ref 61), some (.int a0), none]) (S' := [.int 0]) (w' := w) rfl ?_
    exact tx_Ru_mayBegin_24 hs 
  · replace hs := hs.2 h4
    refine tm_go 2 (pc' := 24) (L' := [some (.ref 61), some (.int a0), none]) (S' := [.int 1]) (w' := w) rfl ?_
    exact tx_Ru_mayBegin_24 hs 
set_option maxHeartbeats 4000000 in
set_option maxRecDepth 100000 in
theorem tx_Ru_endsAllSides_13 {d : Nat} {r_Ru_endsAllSides : MW → Int32 → Int32 → (Int32 → MW → Prop) → Prop} {r_Ru_endsRounds : MW → Int32 → Int32 → (Int32 → MW → Prop) → Prop} {r_Ru_goOn : MW → Int32 → Int32 → (Int32 → MW → Prop) → Prop} {r_Ru_goesPast : MW → Int32 → Int32 → (Int32 → MW → Prop) → Prop} (hr_Ru_endsAllSides : ∀ (w : MW) (a0 : Int32) (b0 : Int32) (Q : Int32 → MW → Prop), r_Ru_endsAllSides w a0 b0 Q → Tc (d + 6) 216 [.ref 61, .int a0, .int b0] w (RZ Q)) (hr_Ru_endsRounds : ∀ (w : MW) (a0 : Int32) (b0 : Int32) (Q : Int32 → MW → Prop), r_Ru_endsRounds w a0 b0 Q → Tc (d + 6) 217 [.ref 61, .int a0, .int b0] w (RZ Q)) (hr_Ru_goOn : ∀ (w : MW) (a0 : Int32) (b0 : Int32) (Q : Int32 → MW → Prop), r_Ru_goOn w a0 b0 Q → Tc (d + 6) 214 [.ref 61, .int a0, .int b0] w (RZ Q)) (hr_Ru_goesPast : ∀ (w : MW) (a0 : Int32) (b0 : Int32) (Q : Int32 → MW → Prop), r_Ru_goesPast w a0 b0 Q → Tc (d + 6) 215 [.ref 61, .int a0, .int b0] w (RZ Q)) {x13_2 : Int32} {E : Int32 → MW → Prop} {Q : Int32 → MW → Prop} (n : Nat) : ∀ (x13_3 : Int32) (x13_4 : Int32) (x13_5 : Int32)  (z1 : Option Value) (w : MW), q_Ru_endsAllSides_13 r_Ru_endsAllSides r_Ru_endsRounds r_Ru_goOn r_Ru_goesPast x13_2 E Q n x13_3 x13_4 x13_5 w → (∀ (e13_3 : Int32)  (v0 : Option Value) (v1 : Option Value) (v2 : Option Value) (v4 : Option Value) (v5 : Option Value) (w : MW), E e13_3 w → Tm (d + 7) 216 86 [v0, v1, v2, some (.int e13_3), v4, v5] [] w (RZ Q)) → Tm (d + 7) 216 13 [some (.ref 61), z1, some (.int x13_2), some (.int x13_3), some (.int x13_4), some (.int x13_5)] [] w (RZ Q) := by
  induction n with
  | zero => intro x13_3 x13_4 x13_5 z1 w hs; rw [q_Ru_endsAllSides_13.eq_1] at hs; exact hs.elim
  | succ n ih =>
    intro x13_3 x13_4 x13_5 z1 w hs hE
    rw [q_Ru_endsAllSides_13.eq_2] at hs
    refine tm_go 2 (pc' := 18) (L' := [some (.ref 61), z1, some (.int x13_2), some (.int x13_3), some (.int x13_4), some (.int x13_5)]) (S' := [.int 500, .int x13_5]) (w' := w) rfl ?_
    refine tm_i (p1 := 86) (p2 := 21) rfl (fun h2 => ?_) (fun h2 => ?_)
    · replace hs := hs.1 h2
      exact hE _ _ _ _ _ _ _ hs
    · replace hs := hs.2 h2
      refine tm_go 1 (pc' := 23) (L' := [some (.ref 61), z1, some (.int x13_2), some (.int x13_3), some (.int x13_4), some (.int x13_5)]) (S' := [.int x13_4]) (w' := w) rfl ?_
      refine tm_i (p1 := 86) (p2 := 26) rfl (fun h3 => ?_) (fun h3 => ?_)
      · replace hs := hs.1 h3
        exact hE _ _ _ _ _ _ _ hs
      · replace hs := hs.2 h3
        refine tm_go 3 (pc' := 32) (L' := [some (.ref 61), z1, some (.int x13_2), some (.int x13_3), some (.int x13_4), some (.int x13_5)]) (S' := [.int x13_4, .ref 80]) (w' := w) rfl ?_
        obtain ⟨b4, hs⟩ := hs
        refine tm_k (pc' := 33) (L' := [some (.ref 61), z1, some (.int x13_2), some (.int x13_3), some (.int x13_4), some (.int x13_5)]) (S' := [.int (w.1 80 x13_4.toInt.toNat)]) (w' := w) rfl b4 ?_
        refine tm_go 1 (pc' := 34) (L' := [some (.ref 61), z1, some (.int x13_2), some (.int x13_3), some (.int x13_4), some (.int x13_5)]) (S' := [.int 2, .int (w.1 80 x13_4.toInt.toNat)]) (w' := w) rfl ?_
        refine tm_i (p1 := 62) (p2 := 37) rfl (fun h5 => ?_) (fun h5 => ?_)
        · replace hs := hs.1 h5
          refine tm_go 1 (pc' := 63) (L' := [some (.ref 61), z1, some (.int x13_2), some (.int x13_3), some (.int x13_4), some (.int x13_5)]) (S' := [.ref 61]) (w' := w) rfl ?_
          refine tm_c rfl (Nat.le_of_ble_eq_true rfl) (dm_Ru_isOver (d := d + 6) hs) (fun v w6 hq => ?_)
          obtain ⟨r6, rfl, hz6, hs⟩ := hq
          refine tm_i (p1 := 71) (p2 := 69) rfl (fun h7 => ?_) (fun h7 => ?_)
          · replace hs := hs.1 h7
            refine tm_go 3 (pc' := 77) (L' := [some (.ref 61), z1, some (.int x13_2), some (.int x13_3), some (.int x13_4), some (.int x13_5)]) (S' := [.int x13_4, .ref 79]) (w' := w6) rfl ?_
            obtain ⟨b8, hs⟩ := hs
            refine tm_k (pc' := 78) (L' := [some (.ref 61), z1, some (.int x13_2), some (.int x13_3), some (.int x13_4), some (.int x13_5)]) (S' := [.int (w6.1 79 x13_4.toInt.toNat)]) (w' := w6) rfl b8 ?_
            refine tm_go 3 (pc' := 13) (L' := [some (.ref 61), z1, some (.int x13_2), some (.int x13_3), some (.int (w6.1 79 x13_4.toInt.toNat)), some (.int (x13_5 + (1 : Int32)))]) (S' := []) (w' := w6) rfl ?_
            exact ih _ _ _ _ _ hs hE
          · replace hs := hs.2 h7
            refine tm_go 1 (pc' := 70) (L' := [some (.ref 61), z1, some (.int x13_2), some (.int x13_3), some (.int x13_4), some (.int x13_5)]) (S' := [.int 0]) (w' := w6) rfl ?_
            exact tm_r rfl ⟨_, rfl, by decide, hs⟩
        · replace hs := hs.2 h5
          refine tm_go 5 (pc' := 43) (L' := [some (.ref 61), z1, some (.int x13_2), some (.int x13_3), some (.int x13_4), some (.int x13_5)]) (S' := [.int (x13_2 + (1 : Int32)), .int x13_4, .ref 61]) (w' := w) rfl ?_
          refine tm_c rfl (Nat.le_of_ble_eq_true rfl) (hr_Ru_goOn _ _ _ _ hs) (fun v w9 hq => ?_)
          obtain ⟨r9, rfl, hz9, hs⟩ := hq
          refine tm_i (p1 := 60) (p2 := 49) rfl (fun h10 => ?_) (fun h10 => ?_)
          · replace hs := hs.1 h10
            refine tm_go 3 (pc' := 63) (L' := [some (.ref 61), z1, some (.int x13_2), some (.int 0), some (.int x13_4), some (.int x13_5)]) (S' := [.ref 61]) (w' := w9) rfl ?_
            refine tm_c rfl (Nat.le_of_ble_eq_true rfl) (dm_Ru_isOver (d := d + 6) hs) (fun v w11 hq => ?_)
            obtain ⟨r11, rfl, hz11, hs⟩ := hq
            refine tm_i (p1 := 71) (p2 := 69) rfl (fun h12 => ?_) (fun h12 => ?_)
            · replace hs := hs.1 h12
              refine tm_go 3 (pc' := 77) (L' := [some (.ref 61), z1, some (.int x13_2), some (.int 0), some (.int x13_4), some (.int x13_5)]) (S' := [.int x13_4, .ref 79]) (w' := w11) rfl ?_
              obtain ⟨b13, hs⟩ := hs
              refine tm_k (pc' := 78) (L' := [some (.ref 61), z1, some (.int x13_2), some (.int 0), some (.int x13_4), some (.int x13_5)]) (S' := [.int (w11.1 79 x13_4.toInt.toNat)]) (w' := w11) rfl b13 ?_
              refine tm_go 3 (pc' := 13) (L' := [some (.ref 61), z1, some (.int x13_2), some (.int 0), some (.int (w11.1 79 x13_4.toInt.toNat)), some (.int (x13_5 + (1 : Int32)))]) (S' := []) (w' := w11) rfl ?_
              exact ih _ _ _ _ _ hs hE
            · replace hs := hs.2 h12
              refine tm_go 1 (pc' := 70) (L' := [some (.ref 61), z1, some (.int x13_2), some (.int 0), some (.int x13_4), some (.int x13_5)]) (S' := [.int 0]) (w' := w11) rfl ?_
              exact tm_r rfl ⟨_, rfl, by decide, hs⟩
          · replace hs := hs.2 h10
            refine tm_go 4 (pc' := 56) (L' := [some (.ref 61), z1, some (.int x13_2), some (.int x13_3), some (.int x13_4), some (.int x13_5)]) (S' := [.int 2, .int x13_4, .ref 80]) (w' := w9) rfl ?_
            obtain ⟨b14, hs⟩ := hs
            refine tm_k (pc' := 57) (L' := [some (.ref 61), z1, some (.int x13_2), some (.int x13_3), some (.int x13_4), some (.int x13_5)]) (S' := []) (w' := (sI w9 80 x13_4.toInt.toNat 2)) rfl b14 ?_
            refine tm_go 2 (pc' := 63) (L' := [some (.ref 61), z1, some (.int x13_2), some (.int x13_3), some (.int x13_4), some (.int x13_5)]) (S' := [.ref 61]) (w' := (sI w9 80 x13_4.toInt.toNat 2)) rfl ?_
            refine tm_c rfl (Nat.le_of_ble_eq_true rfl) (dm_Ru_isOver (d := d + 6) hs) (fun v w15 hq => ?_)
            obtain ⟨r15, rfl, hz15, hs⟩ := hq
            refine tm_i (p1 := 71) (p2 := 69) rfl (fun h16 => ?_) (fun h16 => ?_)
            · replace hs := hs.1 h16
              refine tm_go 3 (pc' := 77) (L' := [some (.ref 61), z1, some (.int x13_2), some (.int x13_3), some (.int x13_4), some (.int x13_5)]) (S' := [.int x13_4, .ref 79]) (w' := w15) rfl ?_
              obtain ⟨b17, hs⟩ := hs
              refine tm_k (pc' := 78) (L' := [some (.ref 61), z1, some (.int x13_2), some (.int x13_3), some (.int x13_4), some (.int x13_5)]) (S' := [.int (w15.1 79 x13_4.toInt.toNat)]) (w' := w15) rfl b17 ?_
              refine tm_go 3 (pc' := 13) (L' := [some (.ref 61), z1, some (.int x13_2), some (.int x13_3), some (.int (w15.1 79 x13_4.toInt.toNat)), some (.int (x13_5 + (1 : Int32)))]) (S' := []) (w' := w15) rfl ?_
              exact ih _ _ _ _ _ hs hE
            · replace hs := hs.2 h16
              refine tm_go 1 (pc' := 70) (L' := [some (.ref 61), z1, some (.int x13_2), some (.int x13_3), some (.int x13_4), some (.int x13_5)]) (S' := [.int 0]) (w' := w15) rfl ?_
              exact tm_r rfl ⟨_, rfl, by decide, hs⟩
set_option maxHeartbeats 4000000 in
set_option maxRecDepth 100000 in
theorem dmb_Ru_endsAllSides {d : Nat} {r_Ru_endsAllSides : MW → Int32 → Int32 → (Int32 → MW → Prop) → Prop} {r_Ru_endsRounds : MW → Int32 → Int32 → (Int32 → MW → Prop) → Prop} {r_Ru_goOn : MW → Int32 → Int32 → (Int32 → MW → Prop) → Prop} {r_Ru_goesPast : MW → Int32 → Int32 → (Int32 → MW → Prop) → Prop} (hr_Ru_endsAllSides : ∀ (w : MW) (a0 : Int32) (b0 : Int32) (Q : Int32 → MW → Prop), r_Ru_endsAllSides w a0 b0 Q → Tc (d + 6) 216 [.ref 61, .int a0, .int b0] w (RZ Q)) (hr_Ru_endsRounds : ∀ (w : MW) (a0 : Int32) (b0 : Int32) (Q : Int32 → MW → Prop), r_Ru_endsRounds w a0 b0 Q → Tc (d + 6) 217 [.ref 61, .int a0, .int b0] w (RZ Q)) (hr_Ru_goOn : ∀ (w : MW) (a0 : Int32) (b0 : Int32) (Q : Int32 → MW → Prop), r_Ru_goOn w a0 b0 Q → Tc (d + 6) 214 [.ref 61, .int a0, .int b0] w (RZ Q)) (hr_Ru_goesPast : ∀ (w : MW) (a0 : Int32) (b0 : Int32) (Q : Int32 → MW → Prop), r_Ru_goesPast w a0 b0 Q → Tc (d + 6) 215 [.ref 61, .int a0, .int b0] w (RZ Q)) {w : MW} {a0 : Int32} {b0 : Int32} {Q : Int32 → MW → Prop} (hs : pb_Ru_endsAllSides r_Ru_endsAllSides r_Ru_endsRounds r_Ru_goOn r_Ru_goesPast w a0 b0 Q) : Tc (d + 7) 216 [.ref 61, .int a0, .int b0] w (RZ Q) := by
  unfold pb_Ru_endsAllSides at hs
  refine tm_go 5 (pc' := 7) (L' := [some (.ref 61), some (.int a0), some (.int b0), some (.int 1), none, none]) (S' := [.int a0, .ref 78]) (w' := w) rfl ?_
  obtain ⟨b1, hs⟩ := hs
  refine tm_k (pc' := 8) (L' := [some (.ref 61), some (.int a0), some (.int b0), some (.int 1), none, none]) (S' := [.int (w.1 78 a0.toInt.toNat)]) (w' := w) rfl b1 ?_
  refine tm_go 3 (pc' := 13) (L' := [some (.ref 61), some (.int a0), some (.int b0), some (.int 1), some (.int (w.1 78 a0.toInt.toNat)), some (.int 0)]) (S' := []) (w' := w) rfl ?_
  refine tx_Ru_endsAllSides_13 hr_Ru_endsAllSides hr_Ru_endsRounds hr_Ru_goOn hr_Ru_goesPast FU _ _ _ _ _ hs (fun e13_3_18 z18_0 z18_1 z18_2 z18_4 z18_5 w18 hs => ?_)
  refine tm_go 1 (pc' := 87) (L' := [z18_0, z18_1, z18_2, some (.int e13_3_18), z18_4, z18_5]) (S' := [.int e13_3_18]) (w' := w18) rfl ?_
  obtain ⟨b19, hs⟩ := hs
  exact tm_rk rfl b19 ⟨_, rfl, b19, hs⟩
set_option maxHeartbeats 4000000 in
set_option maxRecDepth 100000 in
theorem tx_Ru_endsRounds_2 {d : Nat} {r_Ru_endsAllSides : MW → Int32 → Int32 → (Int32 → MW → Prop) → Prop} {r_Ru_endsRounds : MW → Int32 → Int32 → (Int32 → MW → Prop) → Prop} {r_Ru_goOn : MW → Int32 → Int32 → (Int32 → MW → Prop) → Prop} {r_Ru_goesPast : MW → Int32 → Int32 → (Int32 → MW → Prop) → Prop} (hr_Ru_endsAllSides : ∀ (w : MW) (a0 : Int32) (b0 : Int32) (Q : Int32 → MW → Prop), r_Ru_endsAllSides w a0 b0 Q → Tc (d + 6) 216 [.ref 61, .int a0, .int b0] w (RZ Q)) (hr_Ru_endsRounds : ∀ (w : MW) (a0 : Int32) (b0 : Int32) (Q : Int32 → MW → Prop), r_Ru_endsRounds w a0 b0 Q → Tc (d + 6) 217 [.ref 61, .int a0, .int b0] w (RZ Q)) (hr_Ru_goOn : ∀ (w : MW) (a0 : Int32) (b0 : Int32) (Q : Int32 → MW → Prop), r_Ru_goOn w a0 b0 Q → Tc (d + 6) 214 [.ref 61, .int a0, .int b0] w (RZ Q)) (hr_Ru_goesPast : ∀ (w : MW) (a0 : Int32) (b0 : Int32) (Q : Int32 → MW → Prop), r_Ru_goesPast w a0 b0 Q → Tc (d + 6) 215 [.ref 61, .int a0, .int b0] w (RZ Q)) {x2_1 : Int32} {x2_2 : Int32} {E : MW → Prop} {Q : Int32 → MW → Prop} (n : Nat) : ∀ (x2_3 : Int32)   (w : MW), q_Ru_endsRounds_2 r_Ru_endsAllSides r_Ru_endsRounds r_Ru_goOn r_Ru_goesPast x2_1 x2_2 E Q n x2_3 w → (∀  (v2 : Option Value) (v3 : Option Value) (w : MW), E  w → Tm (d + 7) 217 66 [some (.ref 61), some (.int x2_1), v2, v3] [] w (RZ Q)) → Tm (d + 7) 217 2 [some (.ref 61), some (.int x2_1), some (.int x2_2), some (.int x2_3)] [] w (RZ Q) := by
  induction n with
  | zero => intro x2_3  w hs; rw [q_Ru_endsRounds_2.eq_1] at hs; exact hs.elim
  | succ n ih =>
    intro x2_3  w hs hE
    rw [q_Ru_endsRounds_2.eq_2] at hs
    refine tm_go 2 (pc' := 6) (L' := [some (.ref 61), some (.int x2_1), some (.int x2_2), some (.int x2_3)]) (S' := [.int 1001, .int x2_3]) (w' := w) rfl ?_
    refine tm_i (p1 := 66) (p2 := 9) rfl (fun h1 => ?_) (fun h1 => ?_)
    · replace hs := hs.1 h1
      exact hE _ _ _ hs
    · replace hs := hs.2 h1
      refine tm_go 3 (pc' := 14) (L' := [some (.ref 61), some (.int x2_1), some (.int x2_2), some (.int x2_3)]) (S' := [.int x2_1, .ref 82]) (w' := w) rfl ?_
      obtain ⟨b2, hs⟩ := hs
      refine tm_k (pc' := 15) (L' := [some (.ref 61), some (.int x2_1), some (.int x2_2), some (.int x2_3)]) (S' := [.long (w.2.1 82 x2_1.toInt.toNat)]) (w' := w) rfl b2 ?_
      refine tm_go 2 (pc' := 17) (L' := [some (.ref 61), some (.int x2_1), some (.int x2_2), some (.int x2_3)]) (S' := [.int (lg_cmp (w.2.1 82 x2_1.toInt.toNat) (0 : Int64))]) (w' := w) rfl ?_
      refine tm_i (p1 := 66) (p2 := 20) rfl (fun h3 => ?_) (fun h3 => ?_)
      · replace hs := hs.1 h3
        exact hE _ _ _ hs
      · replace hs := hs.2 h3
        refine tm_go 4 (pc' := 26) (L' := [some (.ref 61), some (.int x2_1), some (.int x2_2), some (.int x2_3)]) (S' := [.int x2_1, .ref 78, .ref 61]) (w' := w) rfl ?_
        obtain ⟨b4, hs⟩ := hs
        refine tm_k (pc' := 27) (L' := [some (.ref 61), some (.int x2_1), some (.int x2_2), some (.int x2_3)]) (S' := [.int (w.1 78 x2_1.toInt.toNat), .ref 61]) (w' := w) rfl b4 ?_
        refine tm_go 3 (pc' := 30) (L' := [some (.ref 61), some (.int x2_1), some (.int x2_2), some (.int x2_3)]) (S' := [.int (x2_2 + (1 : Int32)), .int (w.1 78 x2_1.toInt.toNat), .ref 61]) (w' := w) rfl ?_
        refine tm_c rfl (Nat.le_of_ble_eq_true rfl) (hr_Ru_goOn _ _ _ _ hs) (fun v w5 hq => ?_)
        obtain ⟨r5, rfl, hz5, hs⟩ := hq
        refine tm_i (p1 := 38) (p2 := 36) rfl (fun h6 => ?_) (fun h6 => ?_)
        · replace hs := hs.1 h6
          refine tm_go 4 (pc' := 44) (L' := [some (.ref 61), some (.int x2_1), some (.int x2_2), some (.int x2_3)]) (S' := [.int x2_1, .ref 82, .int x2_1, .ref 82]) (w' := w5) rfl ?_
          obtain ⟨b7, hs⟩ := hs
          refine tm_k (pc' := 45) (L' := [some (.ref 61), some (.int x2_1), some (.int x2_2), some (.int x2_3)]) (S' := [.long (w5.2.1 82 x2_1.toInt.toNat), .int x2_1, .ref 82]) (w' := w5) rfl b7 ?_
          refine tm_go 2 (pc' := 47) (L' := [some (.ref 61), some (.int x2_1), some (.int x2_2), some (.int x2_3)]) (S' := [.long ((w5.2.1 82 x2_1.toInt.toNat) - (1 : Int64)), .int x2_1, .ref 82]) (w' := w5) rfl ?_
          obtain ⟨b8, hs⟩ := hs
          refine tm_k (pc' := 48) (L' := [some (.ref 61), some (.int x2_1), some (.int x2_2), some (.int x2_3)]) (S' := []) (w' := (sJ w5 82 x2_1.toInt.toNat ((w5.2.1 82 x2_1.toInt.toNat) - (1 : Int64)))) rfl b8 ?_
          refine tm_go 5 (pc' := 57) (L' := [some (.ref 61), some (.int x2_1), some (.int x2_2), some (.int x2_3)]) (S' := [.int x2_1, .ref 78, .ref 80]) (w' := (sJ w5 82 x2_1.toInt.toNat ((w5.2.1 82 x2_1.toInt.toNat) - (1 : Int64)))) rfl ?_
          obtain ⟨b9, hs⟩ := hs
          refine tm_k (pc' := 58) (L' := [some (.ref 61), some (.int x2_1), some (.int x2_2), some (.int x2_3)]) (S' := [.int (w5.1 78 x2_1.toInt.toNat), .ref 80]) (w' := (sJ w5 82 x2_1.toInt.toNat ((w5.2.1 82 x2_1.toInt.toNat) - (1 : Int64)))) rfl b9 ?_
          refine tm_go 1 (pc' := 59) (L' := [some (.ref 61), some (.int x2_1), some (.int x2_2), some (.int x2_3)]) (S' := [.int 0, .int (w5.1 78 x2_1.toInt.toNat), .ref 80]) (w' := (sJ w5 82 x2_1.toInt.toNat ((w5.2.1 82 x2_1.toInt.toNat) - (1 : Int64)))) rfl ?_
          obtain ⟨b10, hs⟩ := hs
          refine tm_k (pc' := 60) (L' := [some (.ref 61), some (.int x2_1), some (.int x2_2), some (.int x2_3)]) (S' := []) (w' := (sI (sJ w5 82 x2_1.toInt.toNat ((w5.2.1 82 x2_1.toInt.toNat) - (1 : Int64))) 80 ((w5.1 78 x2_1.toInt.toNat).toInt.toNat) 0)) rfl b10 ?_
          refine tm_go 2 (pc' := 2) (L' := [some (.ref 61), some (.int x2_1), some (.int x2_2), some (.int (x2_3 + (1 : Int32)))]) (S' := []) (w' := (sI (sJ w5 82 x2_1.toInt.toNat ((w5.2.1 82 x2_1.toInt.toNat) - (1 : Int64))) 80 ((w5.1 78 x2_1.toInt.toNat).toInt.toNat) 0)) rfl ?_
          exact ih _ _ hs hE
        · replace hs := hs.2 h6
          refine tm_go 1 (pc' := 37) (L' := [some (.ref 61), some (.int x2_1), some (.int x2_2), some (.int x2_3)]) (S' := [.int 0]) (w' := w5) rfl ?_
          exact tm_r rfl ⟨_, rfl, by decide, hs⟩
set_option maxHeartbeats 4000000 in
set_option maxRecDepth 100000 in
theorem dmb_Ru_endsRounds {d : Nat} {r_Ru_endsAllSides : MW → Int32 → Int32 → (Int32 → MW → Prop) → Prop} {r_Ru_endsRounds : MW → Int32 → Int32 → (Int32 → MW → Prop) → Prop} {r_Ru_goOn : MW → Int32 → Int32 → (Int32 → MW → Prop) → Prop} {r_Ru_goesPast : MW → Int32 → Int32 → (Int32 → MW → Prop) → Prop} (hr_Ru_endsAllSides : ∀ (w : MW) (a0 : Int32) (b0 : Int32) (Q : Int32 → MW → Prop), r_Ru_endsAllSides w a0 b0 Q → Tc (d + 6) 216 [.ref 61, .int a0, .int b0] w (RZ Q)) (hr_Ru_endsRounds : ∀ (w : MW) (a0 : Int32) (b0 : Int32) (Q : Int32 → MW → Prop), r_Ru_endsRounds w a0 b0 Q → Tc (d + 6) 217 [.ref 61, .int a0, .int b0] w (RZ Q)) (hr_Ru_goOn : ∀ (w : MW) (a0 : Int32) (b0 : Int32) (Q : Int32 → MW → Prop), r_Ru_goOn w a0 b0 Q → Tc (d + 6) 214 [.ref 61, .int a0, .int b0] w (RZ Q)) (hr_Ru_goesPast : ∀ (w : MW) (a0 : Int32) (b0 : Int32) (Q : Int32 → MW → Prop), r_Ru_goesPast w a0 b0 Q → Tc (d + 6) 215 [.ref 61, .int a0, .int b0] w (RZ Q)) {w : MW} {a0 : Int32} {b0 : Int32} {Q : Int32 → MW → Prop} (hs : pb_Ru_endsRounds r_Ru_endsAllSides r_Ru_endsRounds r_Ru_goOn r_Ru_goesPast w a0 b0 Q) : Tc (d + 7) 217 [.ref 61, .int a0, .int b0] w (RZ Q) := by
  unfold pb_Ru_endsRounds at hs
  refine tm_go 2 (pc' := 2) (L' := [some (.ref 61), some (.int a0), some (.int b0), some (.int 0)]) (S' := []) (w' := w) rfl ?_
  refine tx_Ru_endsRounds_2 hr_Ru_endsAllSides hr_Ru_endsRounds hr_Ru_goOn hr_Ru_goesPast FU _ _ hs (fun  z11_2 z11_3 w11 hs => ?_)
  refine tm_go 3 (pc' := 71) (L' := [some (.ref 61), some (.int a0), z11_2, z11_3]) (S' := [.int a0, .ref 82]) (w' := w11) rfl ?_
  obtain ⟨b12, hs⟩ := hs
  refine tm_k (pc' := 72) (L' := [some (.ref 61), some (.int a0), z11_2, z11_3]) (S' := [.long (w11.2.1 82 a0.toInt.toNat)]) (w' := w11) rfl b12 ?_
  refine tm_go 2 (pc' := 74) (L' := [some (.ref 61), some (.int a0), z11_2, z11_3]) (S' := [.int (lg_cmp (w11.2.1 82 a0.toInt.toNat) (0 : Int64))]) (w' := w11) rfl ?_
  refine tm_i (p1 := 81) (p2 := 77) rfl (fun h13 => ?_) (fun h13 => ?_)
  · replace hs := hs.1 h13
    refine tm_go 1 (pc' := 82) (L' := [some (.ref 61), some (.int a0), z11_2, z11_3]) (S' := [.int 0]) (w' := w11) rfl ?_
    exact tm_r rfl ⟨_, rfl, by decide, hs⟩
  · replace hs := hs.2 h13
    refine tm_go 2 (pc' := 82) (L' := [some (.ref 61), some (.int a0), z11_2, z11_3]) (S' := [.int 1]) (w' := w11) rfl ?_
    exact tm_r rfl ⟨_, rfl, by decide, hs⟩
set_option maxHeartbeats 4000000 in
set_option maxRecDepth 100000 in
theorem tx_Ru_goOn_34 {d : Nat} {r_Ru_endsAllSides : MW → Int32 → Int32 → (Int32 → MW → Prop) → Prop} {r_Ru_endsRounds : MW → Int32 → Int32 → (Int32 → MW → Prop) → Prop} {r_Ru_goOn : MW → Int32 → Int32 → (Int32 → MW → Prop) → Prop} {r_Ru_goesPast : MW → Int32 → Int32 → (Int32 → MW → Prop) → Prop} (hr_Ru_endsAllSides : ∀ (w : MW) (a0 : Int32) (b0 : Int32) (Q : Int32 → MW → Prop), r_Ru_endsAllSides w a0 b0 Q → Tc (d + 6) 216 [.ref 61, .int a0, .int b0] w (RZ Q)) (hr_Ru_endsRounds : ∀ (w : MW) (a0 : Int32) (b0 : Int32) (Q : Int32 → MW → Prop), r_Ru_endsRounds w a0 b0 Q → Tc (d + 6) 217 [.ref 61, .int a0, .int b0] w (RZ Q)) (hr_Ru_goOn : ∀ (w : MW) (a0 : Int32) (b0 : Int32) (Q : Int32 → MW → Prop), r_Ru_goOn w a0 b0 Q → Tc (d + 6) 214 [.ref 61, .int a0, .int b0] w (RZ Q)) (hr_Ru_goesPast : ∀ (w : MW) (a0 : Int32) (b0 : Int32) (Q : Int32 → MW → Prop), r_Ru_goesPast w a0 b0 Q → Tc (d + 6) 215 [.ref 61, .int a0, .int b0] w (RZ Q)) {x34_1 : Int32} {x34_2 : Int32} {E : MW → Prop} {Q : Int32 → MW → Prop} (n : Nat) : ∀ (x34_3 : Int32)  (z4 : Option Value) (w : MW), q_Ru_goOn_34 r_Ru_endsAllSides r_Ru_endsRounds r_Ru_goOn r_Ru_goesPast x34_1 x34_2 E Q n x34_3 w → (∀  (v2 : Option Value) (v3 : Option Value) (v4 : Option Value) (w : MW), E  w → Tm (d + 7) 214 88 [some (.ref 61), some (.int x34_1), v2, v3, v4] [] w (RZ Q)) → Tm (d + 7) 214 34 [some (.ref 61), some (.int x34_1), some (.int x34_2), some (.int x34_3), z4] [] w (RZ Q) := by
  induction n with
  | zero => intro x34_3 z4 w hs; rw [q_Ru_goOn_34.eq_1] at hs; exact hs.elim
  | succ n ih =>
    intro x34_3 z4 w hs hE
    rw [q_Ru_goOn_34.eq_2] at hs
    refine tm_go 2 (pc' := 38) (L' := [some (.ref 61), some (.int x34_1), some (.int x34_2), some (.int x34_3), z4]) (S' := [.int 500, .int x34_3]) (w' := w) rfl ?_
    refine tm_i (p1 := 88) (p2 := 41) rfl (fun h4 => ?_) (fun h4 => ?_)
    · replace hs := hs.1 h4
      exact hE _ _ _ _ hs
    · replace hs := hs.2 h4
      refine tm_go 3 (pc' := 46) (L' := [some (.ref 61), some (.int x34_1), some (.int x34_2), some (.int x34_3), z4]) (S' := [.int x34_1, .ref 81]) (w' := w) rfl ?_
      obtain ⟨b5, hs⟩ := hs
      refine tm_k (pc' := 47) (L' := [some (.ref 61), some (.int x34_1), some (.int x34_2), some (.int x34_3), z4]) (S' := [.int (w.1 81 x34_1.toInt.toNat)]) (w' := w) rfl b5 ?_
      refine tm_i (p1 := 88) (p2 := 50) rfl (fun h6 => ?_) (fun h6 => ?_)
      · replace hs := hs.1 h6
        exact hE _ _ _ _ hs
      · replace hs := hs.2 h6
        refine tm_go 3 (pc' := 55) (L' := [some (.ref 61), some (.int x34_1), some (.int x34_2), some (.int x34_3), z4]) (S' := [.int x34_1, .ref 81]) (w' := w) rfl ?_
        obtain ⟨b7, hs⟩ := hs
        refine tm_k (pc' := 56) (L' := [some (.ref 61), some (.int x34_1), some (.int x34_2), some (.int x34_3), z4]) (S' := [.int (w.1 81 x34_1.toInt.toNat)]) (w' := w) rfl b7 ?_
        refine tm_go 4 (pc' := 62) (L' := [some (.ref 61), some (.int x34_1), some (.int x34_2), some (.int x34_3), some (.int (w.1 81 x34_1.toInt.toNat))]) (S' := [.int x34_2, .int (w.1 81 x34_1.toInt.toNat), .ref 61]) (w' := w) rfl ?_
        refine tm_c rfl (Nat.le_of_ble_eq_true rfl) (hr_Ru_goesPast _ _ _ _ hs) (fun v w8 hq => ?_)
        obtain ⟨r8, rfl, hz8, hs⟩ := hq
        refine tm_i (p1 := 70) (p2 := 68) rfl (fun h9 => ?_) (fun h9 => ?_)
        · replace hs := hs.1 h9
          refine tm_go 5 (pc' := 78) (L' := [some (.ref 61), some (.int x34_1), some (.int x34_2), some (.int x34_3), some (.int (w.1 81 x34_1.toInt.toNat))]) (S' := [.int (w.1 81 x34_1.toInt.toNat), .ref 79, .int x34_1, .ref 61]) (w' := w8) rfl ?_
          obtain ⟨b10, hs⟩ := hs
          refine tm_k (pc' := 79) (L' := [some (.ref 61), some (.int x34_1), some (.int x34_2), some (.int x34_3), some (.int (w.1 81 x34_1.toInt.toNat))]) (S' := [.int (w8.1 79 ((w.1 81 x34_1.toInt.toNat).toInt.toNat)), .int x34_1, .ref 61]) (w' := w8) rfl b10 ?_
          refine tm_c rfl (Nat.le_of_ble_eq_true rfl) (dm_Ru_choose (d := d + 6) hs) (fun v w11 hq => ?_)
          obtain ⟨rfl, hs⟩ := hq
          refine tm_go 2 (pc' := 34) (L' := [some (.ref 61), some (.int x34_1), some (.int x34_2), some (.int (x34_3 + (1 : Int32))), some (.int (w.1 81 x34_1.toInt.toNat))]) (S' := []) (w' := w11) rfl ?_
          exact ih _ _ _ hs hE
        · replace hs := hs.2 h9
          refine tm_go 1 (pc' := 69) (L' := [some (.ref 61), some (.int x34_1), some (.int x34_2), some (.int x34_3), some (.int (w.1 81 x34_1.toInt.toNat))]) (S' := [.int 0]) (w' := w8) rfl ?_
          exact tm_r rfl ⟨_, rfl, by decide, hs⟩
set_option maxHeartbeats 4000000 in
set_option maxRecDepth 100000 in
theorem dmb_Ru_goOn {d : Nat} {r_Ru_endsAllSides : MW → Int32 → Int32 → (Int32 → MW → Prop) → Prop} {r_Ru_endsRounds : MW → Int32 → Int32 → (Int32 → MW → Prop) → Prop} {r_Ru_goOn : MW → Int32 → Int32 → (Int32 → MW → Prop) → Prop} {r_Ru_goesPast : MW → Int32 → Int32 → (Int32 → MW → Prop) → Prop} (hr_Ru_endsAllSides : ∀ (w : MW) (a0 : Int32) (b0 : Int32) (Q : Int32 → MW → Prop), r_Ru_endsAllSides w a0 b0 Q → Tc (d + 6) 216 [.ref 61, .int a0, .int b0] w (RZ Q)) (hr_Ru_endsRounds : ∀ (w : MW) (a0 : Int32) (b0 : Int32) (Q : Int32 → MW → Prop), r_Ru_endsRounds w a0 b0 Q → Tc (d + 6) 217 [.ref 61, .int a0, .int b0] w (RZ Q)) (hr_Ru_goOn : ∀ (w : MW) (a0 : Int32) (b0 : Int32) (Q : Int32 → MW → Prop), r_Ru_goOn w a0 b0 Q → Tc (d + 6) 214 [.ref 61, .int a0, .int b0] w (RZ Q)) (hr_Ru_goesPast : ∀ (w : MW) (a0 : Int32) (b0 : Int32) (Q : Int32 → MW → Prop), r_Ru_goesPast w a0 b0 Q → Tc (d + 6) 215 [.ref 61, .int a0, .int b0] w (RZ Q)) {w : MW} {a0 : Int32} {b0 : Int32} {Q : Int32 → MW → Prop} (hs : pb_Ru_goOn r_Ru_endsAllSides r_Ru_endsRounds r_Ru_goOn r_Ru_goesPast w a0 b0 Q) : Tc (d + 7) 214 [.ref 61, .int a0, .int b0] w (RZ Q) := by
  unfold pb_Ru_goOn at hs
  refine tm_go 2 (pc' := 3) (L' := [some (.ref 61), some (.int a0), some (.int b0), none, none]) (S' := [.int 100, .int b0]) (w' := w) rfl ?_
  refine tm_i (p1 := 8) (p2 := 6) rfl (fun h1 => ?_) (fun h1 => ?_)
  · replace hs := hs.1 h1
    refine tm_go 3 (pc' := 13) (L' := [some (.ref 61), some (.int a0), some (.int b0), none, none]) (S' := [.int a0, .ref 80]) (w' := w) rfl ?_
    obtain ⟨b2, hs⟩ := hs
    refine tm_k (pc' := 14) (L' := [some (.ref 61), some (.int a0), some (.int b0), none, none]) (S' := [.int (w.1 80 a0.toInt.toNat)]) (w' := w) rfl b2 ?_
    refine tm_i (p1 := 32) (p2 := 17) rfl (fun h3 => ?_) (fun h3 => ?_)
    · replace hs := hs.1 h3
      refine tm_go 2 (pc' := 34) (L' := [some (.ref 61), some (.int a0), some (.int b0), some (.int 0), none]) (S' := []) (w' := w) rfl ?_
      refine tx_Ru_goOn_34 hr_Ru_endsAllSides hr_Ru_endsRounds hr_Ru_goOn hr_Ru_goesPast FU _ _ _ hs (fun  z12_2 z12_3 z12_4 w12 hs => ?_)
      refine tm_go 3 (pc' := 93) (L' := [some (.ref 61), some (.int a0), z12_2, z12_3, z12_4]) (S' := [.int a0, .ref 81]) (w' := w12) rfl ?_
      obtain ⟨b13, hs⟩ := hs
      refine tm_k (pc' := 94) (L' := [some (.ref 61), some (.int a0), z12_2, z12_3, z12_4]) (S' := [.int (w12.1 81 a0.toInt.toNat)]) (w' := w12) rfl b13 ?_
      refine tm_i (p1 := 101) (p2 := 97) rfl (fun h14 => ?_) (fun h14 => ?_)
      · replace hs := hs.1 h14
        refine tm_go 1 (pc' := 102) (L' := [some (.ref 61), some (.int a0), z12_2, z12_3, z12_4]) (S' := [.int 0]) (w' := w12) rfl ?_
        exact tm_r rfl ⟨_, rfl, by decide, hs⟩
      · replace hs := hs.2 h14
        refine tm_go 2 (pc' := 102) (L' := [some (.ref 61), some (.int a0), z12_2, z12_3, z12_4]) (S' := [.int 1]) (w' := w12) rfl ?_
        exact tm_r rfl ⟨_, rfl, by decide, hs⟩
    · replace hs := hs.2 h3
      refine tm_go 2 (pc' := 19) (L' := [some (.ref 61), some (.int a0), some (.int b0), none, none]) (S' := [.int a0, .ref 61]) (w' := w) rfl ?_
      refine tm_c rfl (Nat.le_of_ble_eq_true rfl) (dm_Ru_mayBegin (d := d + 4) hs) (fun v w15 hq => ?_)
      obtain ⟨r15, rfl, hz15, hs⟩ := hq
      refine tm_i (p1 := 27) (p2 := 25) rfl (fun h16 => ?_) (fun h16 => ?_)
      · replace hs := hs.1 h16
        refine tm_go 2 (pc' := 29) (L' := [some (.ref 61), some (.int a0), some (.int b0), none, none]) (S' := [.int a0, .ref 61]) (w' := w15) rfl ?_
        refine tm_c rfl (Nat.le_of_ble_eq_true rfl) (dm_Ru_enter (d := d + 6) hs) (fun v w17 hq => ?_)
        obtain ⟨rfl, hs⟩ := hq
        refine tm_go 2 (pc' := 34) (L' := [some (.ref 61), some (.int a0), some (.int b0), some (.int 0), none]) (S' := []) (w' := w17) rfl ?_
        refine tx_Ru_goOn_34 hr_Ru_endsAllSides hr_Ru_endsRounds hr_Ru_goOn hr_Ru_goesPast FU _ _ _ hs (fun  z18_2 z18_3 z18_4 w18 hs => ?_)
        refine tm_go 3 (pc' := 93) (L' := [some (.ref 61), some (.int a0), z18_2, z18_3, z18_4]) (S' := [.int a0, .ref 81]) (w' := w18) rfl ?_
        obtain ⟨b19, hs⟩ := hs
        refine tm_k (pc' := 94) (L' := [some (.ref 61), some (.int a0), z18_2, z18_3, z18_4]) (S' := [.int (w18.1 81 a0.toInt.toNat)]) (w' := w18) rfl b19 ?_
        refine tm_i (p1 := 101) (p2 := 97) rfl (fun h20 => ?_) (fun h20 => ?_)
        · replace hs := hs.1 h20
          refine tm_go 1 (pc' := 102) (L' := [some (.ref 61), some (.int a0), z18_2, z18_3, z18_4]) (S' := [.int 0]) (w' := w18) rfl ?_
          exact tm_r rfl ⟨_, rfl, by decide, hs⟩
        · replace hs := hs.2 h20
          refine tm_go 2 (pc' := 102) (L' := [some (.ref 61), some (.int a0), z18_2, z18_3, z18_4]) (S' := [.int 1]) (w' := w18) rfl ?_
          exact tm_r rfl ⟨_, rfl, by decide, hs⟩
      · replace hs := hs.2 h16
        refine tm_go 1 (pc' := 26) (L' := [some (.ref 61), some (.int a0), some (.int b0), none, none]) (S' := [.int 0]) (w' := w15) rfl ?_
        exact tm_r rfl ⟨_, rfl, by decide, hs⟩
  · replace hs := hs.2 h1
    refine tm_go 1 (pc' := 7) (L' := [some (.ref 61), some (.int a0), some (.int b0), none, none]) (S' := [.int 0]) (w' := w) rfl ?_
    exact tm_r rfl ⟨_, rfl, by decide, hs⟩
set_option maxHeartbeats 4000000 in
set_option maxRecDepth 100000 in
theorem tx_Ru_goesPast_94 {d : Nat} {r_Ru_endsAllSides : MW → Int32 → Int32 → (Int32 → MW → Prop) → Prop} {r_Ru_endsRounds : MW → Int32 → Int32 → (Int32 → MW → Prop) → Prop} {r_Ru_goOn : MW → Int32 → Int32 → (Int32 → MW → Prop) → Prop} {r_Ru_goesPast : MW → Int32 → Int32 → (Int32 → MW → Prop) → Prop} (hr_Ru_endsAllSides : ∀ (w : MW) (a0 : Int32) (b0 : Int32) (Q : Int32 → MW → Prop), r_Ru_endsAllSides w a0 b0 Q → Tc (d + 6) 216 [.ref 61, .int a0, .int b0] w (RZ Q)) (hr_Ru_endsRounds : ∀ (w : MW) (a0 : Int32) (b0 : Int32) (Q : Int32 → MW → Prop), r_Ru_endsRounds w a0 b0 Q → Tc (d + 6) 217 [.ref 61, .int a0, .int b0] w (RZ Q)) (hr_Ru_goOn : ∀ (w : MW) (a0 : Int32) (b0 : Int32) (Q : Int32 → MW → Prop), r_Ru_goOn w a0 b0 Q → Tc (d + 6) 214 [.ref 61, .int a0, .int b0] w (RZ Q)) (hr_Ru_goesPast : ∀ (w : MW) (a0 : Int32) (b0 : Int32) (Q : Int32 → MW → Prop), r_Ru_goesPast w a0 b0 Q → Tc (d + 6) 215 [.ref 61, .int a0, .int b0] w (RZ Q)) {y94_1 : Int32} {y94_2 : Int32} {y94_3 : Int32} {y94_4 : Int32}  {w : MW} {Q : Int32 → MW → Prop} (hs : q_Ru_goesPast_94 r_Ru_endsAllSides r_Ru_endsRounds r_Ru_goOn r_Ru_goesPast y94_1 y94_2 y94_3 y94_4 w Q) : Tm (d + 7) 215 94 [some (.ref 61), some (.int y94_1), some (.int y94_2), some (.int y94_3), some (.int y94_4)] [] w (RZ Q) := by
  unfold q_Ru_goesPast_94 at hs
  refine tm_go 2 (pc' := 97) (L' := [some (.ref 61), some (.int y94_1), some (.int y94_2), some (.int y94_3), some (.int y94_4)]) (S' := [.int 2, .int y94_4]) (w' := w) rfl ?_
  refine tm_i (p1 := 112) (p2 := 100) rfl (fun h8 => ?_) (fun h8 => ?_)
  · replace hs := hs.1 h8
    refine tm_go 2 (pc' := 115) (L' := [some (.ref 61), some (.int y94_1), some (.int y94_2), some (.int y94_3), some (.int y94_4)]) (S' := [.int 16, .int y94_3]) (w' := w) rfl ?_
    refine tm_i (p1 := 125) (p2 := 118) rfl (fun h9 => ?_) (fun h9 => ?_)
    · replace hs := hs.1 h9
      refine tm_go 2 (pc' := 128) (L' := [some (.ref 61), some (.int y94_1), some (.int y94_2), some (.int y94_3), some (.int y94_4)]) (S' := [.int 19, .int y94_3]) (w' := w) rfl ?_
      refine tm_i (p1 := 138) (p2 := 131) rfl (fun h10 => ?_) (fun h10 => ?_)
      · replace hs := hs.1 h10
        refine tm_go 3 (pc' := 143) (L' := [some (.ref 61), some (.int y94_1), some (.int y94_2), some (.int y94_3), some (.int y94_4)]) (S' := [.int y94_1, .ref 81]) (w' := w) rfl ?_
        obtain ⟨b11, hs⟩ := hs
        refine tm_k (pc' := 144) (L' := [some (.ref 61), some (.int y94_1), some (.int y94_2), some (.int y94_3), some (.int y94_4)]) (S' := [.int (w.1 81 y94_1.toInt.toNat)]) (w' := w) rfl b11 ?_
        refine tm_i (p1 := 163) (p2 := 147) rfl (fun h12 => ?_) (fun h12 => ?_)
        · replace hs := hs.1 h12
          refine tm_go 2 (pc' := 168) (L' := [some (.ref 61), some (.int y94_1), some (.int y94_2), some (.int y94_3), some (.int y94_4)]) (S' := [.int 1]) (w' := w) rfl ?_
          exact tm_r rfl ⟨_, rfl, by decide, hs⟩
        · replace hs := hs.2 h12
          refine tm_go 4 (pc' := 153) (L' := [some (.ref 61), some (.int y94_1), some (.int y94_2), some (.int y94_3), some (.int y94_4)]) (S' := [.int y94_1, .ref 81, .ref 61]) (w' := w) rfl ?_
          obtain ⟨b13, hs⟩ := hs
          refine tm_k (pc' := 154) (L' := [some (.ref 61), some (.int y94_1), some (.int y94_2), some (.int y94_3), some (.int y94_4)]) (S' := [.int (w.1 81 y94_1.toInt.toNat), .ref 61]) (w' := w) rfl b13 ?_
          refine tm_go 3 (pc' := 157) (L' := [some (.ref 61), some (.int y94_1), some (.int y94_2), some (.int y94_3), some (.int y94_4)]) (S' := [.int (y94_2 + (1 : Int32)), .int (w.1 81 y94_1.toInt.toNat), .ref 61]) (w' := w) rfl ?_
          refine tm_c rfl (Nat.le_of_ble_eq_true rfl) (hr_Ru_goOn _ _ _ _ hs) (fun v w14 hq => ?_)
          obtain ⟨r14, rfl, hz14, hs⟩ := hq
          refine tm_i (p1 := 167) (p2 := 163) rfl (fun h15 => ?_) (fun h15 => ?_)
          · replace hs := hs.1 h15
            refine tm_go 1 (pc' := 168) (L' := [some (.ref 61), some (.int y94_1), some (.int y94_2), some (.int y94_3), some (.int y94_4)]) (S' := [.int 0]) (w' := w14) rfl ?_
            exact tm_r rfl ⟨_, rfl, by decide, hs⟩
          · replace hs := hs.2 h15
            refine tm_go 2 (pc' := 168) (L' := [some (.ref 61), some (.int y94_1), some (.int y94_2), some (.int y94_3), some (.int y94_4)]) (S' := [.int 1]) (w' := w14) rfl ?_
            exact tm_r rfl ⟨_, rfl, by decide, hs⟩
      · replace hs := hs.2 h10
        refine tm_go 3 (pc' := 134) (L' := [some (.ref 61), some (.int y94_1), some (.int y94_2), some (.int y94_3), some (.int y94_4)]) (S' := [.int y94_2, .int y94_1, .ref 61]) (w' := w) rfl ?_
        refine tm_c rfl (Nat.le_of_ble_eq_true rfl) (hr_Ru_endsRounds _ _ _ _ hs) (fun v w16 hq => ?_)
        obtain ⟨r16, rfl, hz16, hs⟩ := hq
        exact tm_rk rfl hz16 ⟨_, rfl, hz16, hs⟩
    · replace hs := hs.2 h9
      refine tm_go 3 (pc' := 121) (L' := [some (.ref 61), some (.int y94_1), some (.int y94_2), some (.int y94_3), some (.int y94_4)]) (S' := [.int y94_2, .int y94_1, .ref 61]) (w' := w) rfl ?_
      refine tm_c rfl (Nat.le_of_ble_eq_true rfl) (hr_Ru_endsAllSides _ _ _ _ hs) (fun v w17 hq => ?_)
      obtain ⟨r17, rfl, hz17, hs⟩ := hq
      exact tm_rk rfl hz17 ⟨_, rfl, hz17, hs⟩
  · replace hs := hs.2 h8
    refine tm_go 2 (pc' := 103) (L' := [some (.ref 61), some (.int y94_1), some (.int y94_2), some (.int y94_3), some (.int y94_4)]) (S' := [.int 1, .int y94_4]) (w' := w) rfl ?_
    refine tm_i (p1 := 110) (p2 := 106) rfl (fun h18 => ?_) (fun h18 => ?_)
    · replace hs := hs.1 h18
      refine tm_go 1 (pc' := 111) (L' := [some (.ref 61), some (.int y94_1), some (.int y94_2), some (.int y94_3), some (.int y94_4)]) (S' := [.int 0]) (w' := w) rfl ?_
      exact tm_r rfl ⟨_, rfl, by decide, hs⟩
    · replace hs := hs.2 h18
      refine tm_go 2 (pc' := 111) (L' := [some (.ref 61), some (.int y94_1), some (.int y94_2), some (.int y94_3), some (.int y94_4)]) (S' := [.int 1]) (w' := w) rfl ?_
      exact tm_r rfl ⟨_, rfl, by decide, hs⟩
set_option maxHeartbeats 4000000 in
set_option maxRecDepth 100000 in
theorem dmb_Ru_goesPast {d : Nat} {r_Ru_endsAllSides : MW → Int32 → Int32 → (Int32 → MW → Prop) → Prop} {r_Ru_endsRounds : MW → Int32 → Int32 → (Int32 → MW → Prop) → Prop} {r_Ru_goOn : MW → Int32 → Int32 → (Int32 → MW → Prop) → Prop} {r_Ru_goesPast : MW → Int32 → Int32 → (Int32 → MW → Prop) → Prop} (hr_Ru_endsAllSides : ∀ (w : MW) (a0 : Int32) (b0 : Int32) (Q : Int32 → MW → Prop), r_Ru_endsAllSides w a0 b0 Q → Tc (d + 6) 216 [.ref 61, .int a0, .int b0] w (RZ Q)) (hr_Ru_endsRounds : ∀ (w : MW) (a0 : Int32) (b0 : Int32) (Q : Int32 → MW → Prop), r_Ru_endsRounds w a0 b0 Q → Tc (d + 6) 217 [.ref 61, .int a0, .int b0] w (RZ Q)) (hr_Ru_goOn : ∀ (w : MW) (a0 : Int32) (b0 : Int32) (Q : Int32 → MW → Prop), r_Ru_goOn w a0 b0 Q → Tc (d + 6) 214 [.ref 61, .int a0, .int b0] w (RZ Q)) (hr_Ru_goesPast : ∀ (w : MW) (a0 : Int32) (b0 : Int32) (Q : Int32 → MW → Prop), r_Ru_goesPast w a0 b0 Q → Tc (d + 6) 215 [.ref 61, .int a0, .int b0] w (RZ Q)) {w : MW} {a0 : Int32} {b0 : Int32} {Q : Int32 → MW → Prop} (hs : pb_Ru_goesPast r_Ru_endsAllSides r_Ru_endsRounds r_Ru_goOn r_Ru_goesPast w a0 b0 Q) : Tc (d + 7) 215 [.ref 61, .int a0, .int b0] w (RZ Q) := by
  unfold pb_Ru_goesPast at hs
  refine tm_go 1 (pc' := 1) (L' := [some (.ref 61), some (.int a0), some (.int b0), none, none]) (S' := [.ref 61]) (w' := w) rfl ?_
  obtain ⟨b1, hs⟩ := hs
  refine tm_g (pc' := 4) (k := 61) (j := 3) rfl b1 ?_
  refine tm_go 4 (pc' := 12) (L' := [some (.ref 61), some (.int a0), some (.int b0), none, none]) (S' := [.int a0, .ref 77, .ref 63]) (w' := w) rfl ?_
  obtain ⟨b2, hs⟩ := hs
  refine tm_k (pc' := 13) (L' := [some (.ref 61), some (.int a0), some (.int b0), none, none]) (S' := [.int (w.1 77 a0.toInt.toNat), .ref 63]) (w' := w) rfl b2 ?_
  obtain ⟨b3, hs⟩ := hs
  refine tm_k (pc' := 14) (L' := [some (.ref 61), some (.int a0), some (.int b0), none, none]) (S' := [.int (w.1 63 ((w.1 77 a0.toInt.toNat).toInt.toNat))]) (w' := w) rfl b3 ?_
  refine tm_go 6 (pc' := 23) (L' := [some (.ref 61), some (.int a0), some (.int b0), some (.int (w.1 63 ((w.1 77 a0.toInt.toNat).toInt.toNat))), some (.int 0)]) (S' := [.int a0, .ref 80]) (w' := w) rfl ?_
  obtain ⟨b4, hs⟩ := hs
  refine tm_k (pc' := 24) (L' := [some (.ref 61), some (.int a0), some (.int b0), some (.int (w.1 63 ((w.1 77 a0.toInt.toNat).toInt.toNat))), some (.int 0)]) (S' := [.int (w.1 80 a0.toInt.toNat)]) (w' := w) rfl b4 ?_
  refine tm_i (p1 := 38) (p2 := 27) rfl (fun h5 => ?_) (fun h5 => ?_)
  · replace hs := hs.1 h5
    refine tm_go 2 (pc' := 40) (L' := [some (.ref 61), some (.int a0), some (.int b0), some (.int (w.1 63 ((w.1 77 a0.toInt.toNat).toInt.toNat))), some (.int 0)]) (S' := [.int a0, .ref 61]) (w' := w) rfl ?_
    refine tm_c rfl (Nat.le_of_ble_eq_true rfl) (dm_Ru_mayBegin (d := d + 4) hs) (fun v w6 hq => ?_)
    obtain ⟨r6, rfl, hz6, hs⟩ := hq
    refine tm_i (p1 := 94) (p2 := 46) rfl (fun h7 => ?_) (fun h7 => ?_)
    · replace hs := hs.1 h7
      exact tx_Ru_goesPast_94 hr_Ru_endsAllSides hr_Ru_endsRounds hr_Ru_goOn hr_Ru_goesPast hs 
    · replace hs := hs.2 h7
      refine tm_go 1 (pc' := 47) (L' := [some (.ref 61), some (.int a0), some (.int b0), some (.int (w.1 63 ((w.1 77 a0.toInt.toNat).toInt.toNat))), some (.int 0)]) (S' := [.ref 61]) (w' := w6) rfl ?_
      obtain ⟨b19, hs⟩ := hs
      refine tm_g (pc' := 50) (k := 61) (j := 3) rfl b19 ?_
      refine tm_go 4 (pc' := 58) (L' := [some (.ref 61), some (.int a0), some (.int b0), some (.int (w.1 63 ((w.1 77 a0.toInt.toNat).toInt.toNat))), some (.int 0)]) (S' := [.int a0, .ref 77, .ref 65]) (w' := w6) rfl ?_
      obtain ⟨b20, hs⟩ := hs
      refine tm_k (pc' := 59) (L' := [some (.ref 61), some (.int a0), some (.int b0), some (.int (w.1 63 ((w.1 77 a0.toInt.toNat).toInt.toNat))), some (.int 0)]) (S' := [.int (w6.1 77 a0.toInt.toNat), .ref 65]) (w' := w6) rfl b20 ?_
      obtain ⟨b21, hs⟩ := hs
      refine tm_k (pc' := 60) (L' := [some (.ref 61), some (.int a0), some (.int b0), some (.int (w.1 63 ((w.1 77 a0.toInt.toNat).toInt.toNat))), some (.int 0)]) (S' := [.int (w6.1 65 ((w6.1 77 a0.toInt.toNat).toInt.toNat))]) (w' := w6) rfl b21 ?_
      refine tm_go 1 (pc' := 61) (L' := [some (.ref 61), some (.int a0), some (.int b0), some (.int (w.1 63 ((w.1 77 a0.toInt.toNat).toInt.toNat))), some (.int 0)]) (S' := [.ref 61, .int (w6.1 65 ((w6.1 77 a0.toInt.toNat).toInt.toNat))]) (w' := w6) rfl ?_
      obtain ⟨b22, hs⟩ := hs
      refine tm_g (pc' := 64) (k := 61) (j := 3) rfl b22 ?_
      refine tm_go 4 (pc' := 72) (L' := [some (.ref 61), some (.int a0), some (.int b0), some (.int (w.1 63 ((w.1 77 a0.toInt.toNat).toInt.toNat))), some (.int 0)]) (S' := [.int a0, .ref 77, .ref 66, .int (w6.1 65 ((w6.1 77 a0.toInt.toNat).toInt.toNat))]) (w' := w6) rfl ?_
      obtain ⟨b23, hs⟩ := hs
      refine tm_k (pc' := 73) (L' := [some (.ref 61), some (.int a0), some (.int b0), some (.int (w.1 63 ((w.1 77 a0.toInt.toNat).toInt.toNat))), some (.int 0)]) (S' := [.int (w6.1 77 a0.toInt.toNat), .ref 66, .int (w6.1 65 ((w6.1 77 a0.toInt.toNat).toInt.toNat))]) (w' := w6) rfl b23 ?_
      obtain ⟨b24, hs⟩ := hs
      refine tm_k (pc' := 74) (L' := [some (.ref 61), some (.int a0), some (.int b0), some (.int (w.1 63 ((w.1 77 a0.toInt.toNat).toInt.toNat))), some (.int 0)]) (S' := [.int (w6.1 66 ((w6.1 77 a0.toInt.toNat).toInt.toNat)), .int (w6.1 65 ((w6.1 77 a0.toInt.toNat).toInt.toNat))]) (w' := w6) rfl b24 ?_
      refine tm_i (p1 := 86) (p2 := 77) rfl (fun h25 => ?_) (fun h25 => ?_)
      · replace hs := hs.1 h25
        refine tm_go 3 (pc' := 89) (L' := [some (.ref 61), some (.int a0), some (.int b0), some (.int (w.1 63 ((w.1 77 a0.toInt.toNat).toInt.toNat))), some (.int 0)]) (S' := [.int (w.1 63 ((w.1 77 a0.toInt.toNat).toInt.toNat)), .int a0, .ref 61]) (w' := w6) rfl ?_
        refine tm_c rfl (Nat.le_of_ble_eq_true rfl) (dm_Ru_beginPlain (d := d + 0) hs) (fun v w26 hq => ?_)
        obtain ⟨r26, rfl, hs⟩ := hq
        refine tm_go 1 (pc' := 94) (L' := [some (.ref 61), some (.int a0), some (.int b0), some (.int (w.1 63 ((w.1 77 a0.toInt.toNat).toInt.toNat))), some (.int r26)]) (S' := []) (w' := w26) rfl ?_
        exact tx_Ru_goesPast_94 hr_Ru_endsAllSides hr_Ru_endsRounds hr_Ru_goOn hr_Ru_goesPast hs 
      · replace hs := hs.2 h25
        refine tm_go 3 (pc' := 80) (L' := [some (.ref 61), some (.int a0), some (.int b0), some (.int (w.1 63 ((w.1 77 a0.toInt.toNat).toInt.toNat))), some (.int 0)]) (S' := [.int (w.1 63 ((w.1 77 a0.toInt.toNat).toInt.toNat)), .int a0, .ref 61]) (w' := w6) rfl ?_
        refine tm_c rfl (Nat.le_of_ble_eq_true rfl) (dm_Ru_beginReckoned (d := d + 2) hs) (fun v w27 hq => ?_)
        obtain ⟨r27, rfl, hs⟩ := hq
        refine tm_go 2 (pc' := 94) (L' := [some (.ref 61), some (.int a0), some (.int b0), some (.int (w.1 63 ((w.1 77 a0.toInt.toNat).toInt.toNat))), some (.int r27)]) (S' := []) (w' := w27) rfl ?_
        exact tx_Ru_goesPast_94 hr_Ru_endsAllSides hr_Ru_endsRounds hr_Ru_goOn hr_Ru_goesPast hs 
  · replace hs := hs.2 h5
    refine tm_go 3 (pc' := 30) (L' := [some (.ref 61), some (.int a0), some (.int b0), some (.int (w.1 63 ((w.1 77 a0.toInt.toNat).toInt.toNat))), some (.int 0)]) (S' := [.int (w.1 63 ((w.1 77 a0.toInt.toNat).toInt.toNat)), .int a0, .ref 61]) (w' := w) rfl ?_
    refine tm_c rfl (Nat.le_of_ble_eq_true rfl) (dm_Ru_lookAgain (d := d + 3) hs) (fun v w28 hq => ?_)
    obtain ⟨r28, rfl, hs⟩ := hq
    refine tm_go 2 (pc' := 94) (L' := [some (.ref 61), some (.int a0), some (.int b0), some (.int (w.1 63 ((w.1 77 a0.toInt.toNat).toInt.toNat))), some (.int r28)]) (S' := []) (w' := w28) rfl ?_
    exact tx_Ru_goesPast_94 hr_Ru_endsAllSides hr_Ru_endsRounds hr_Ru_goOn hr_Ru_goesPast hs 
theorem da_Ru_endsAllSides (n : Nat) : (∀ (w : MW) (a0 : Int32) (b0 : Int32) (Q : Int32 → MW → Prop), pn_Ru_endsAllSides n w a0 b0 Q → Tc (n + 6) 216 [.ref 61, .int a0, .int b0] w (RZ Q)) ∧ (∀ (w : MW) (a0 : Int32) (b0 : Int32) (Q : Int32 → MW → Prop), pn_Ru_endsRounds n w a0 b0 Q → Tc (n + 6) 217 [.ref 61, .int a0, .int b0] w (RZ Q)) ∧ (∀ (w : MW) (a0 : Int32) (b0 : Int32) (Q : Int32 → MW → Prop), pn_Ru_goOn n w a0 b0 Q → Tc (n + 6) 214 [.ref 61, .int a0, .int b0] w (RZ Q)) ∧ (∀ (w : MW) (a0 : Int32) (b0 : Int32) (Q : Int32 → MW → Prop), pn_Ru_goesPast n w a0 b0 Q → Tc (n + 6) 215 [.ref 61, .int a0, .int b0] w (RZ Q)) := by
  induction n with
  | zero => exact ⟨fun _ _ _ _ h => h.elim, fun _ _ _ _ h => h.elim, fun _ _ _ _ h => h.elim, fun _ _ _ _ h => h.elim⟩
  | succ n ih =>
    obtain ⟨h0, h1, h2, h3⟩ := ih
    exact ⟨fun _ _ _ _ h => (dmb_Ru_endsAllSides (d := n) h0 h1 h2 h3 h).le (by omega), fun _ _ _ _ h => (dmb_Ru_endsRounds (d := n) h0 h1 h2 h3 h).le (by omega), fun _ _ _ _ h => (dmb_Ru_goOn (d := n) h0 h1 h2 h3 h).le (by omega), fun _ _ _ _ h => (dmb_Ru_goesPast (d := n) h0 h1 h2 h3 h).le (by omega)⟩
theorem dm_Ru_endsAllSides {d : Nat} {w : MW} {a0 : Int32} {b0 : Int32} {Q : Int32 → MW → Prop} (hs : p_Ru_endsAllSides w a0 b0 Q) : Tc (d + 406) 216 [.ref 61, .int a0, .int b0] w (RZ Q) := ((da_Ru_endsAllSides 400).1 _ _ _ _ hs).le (by omega)
theorem dm_Ru_endsRounds {d : Nat} {w : MW} {a0 : Int32} {b0 : Int32} {Q : Int32 → MW → Prop} (hs : p_Ru_endsRounds w a0 b0 Q) : Tc (d + 406) 217 [.ref 61, .int a0, .int b0] w (RZ Q) := ((da_Ru_endsAllSides 400).2.1 _ _ _ _ hs).le (by omega)
theorem dm_Ru_goOn {d : Nat} {w : MW} {a0 : Int32} {b0 : Int32} {Q : Int32 → MW → Prop} (hs : p_Ru_goOn w a0 b0 Q) : Tc (d + 406) 214 [.ref 61, .int a0, .int b0] w (RZ Q) := ((da_Ru_endsAllSides 400).2.2.1 _ _ _ _ hs).le (by omega)
theorem dm_Ru_goesPast {d : Nat} {w : MW} {a0 : Int32} {b0 : Int32} {Q : Int32 → MW → Prop} (hs : p_Ru_goesPast w a0 b0 Q) : Tc (d + 406) 215 [.ref 61, .int a0, .int b0] w (RZ Q) := ((da_Ru_endsAllSides 400).2.2.2 _ _ _ _ hs).le (by omega)
set_option maxHeartbeats 4000000 in
set_option maxRecDepth 100000 in
theorem dm_Ru_lookAtLimit {d : Nat} {w : MW} {a0 : Int32} {Q : MW → Prop} (hs : p_Ru_lookAtLimit w a0 Q) : Tc (d + 3) 211 [.ref 61, .int a0] w (RV Q) := by
  unfold p_Ru_lookAtLimit at hs
  refine tm_go 2 (pc' := 2) (L' := [some (.ref 61), some (.int a0), none, none]) (S' := [.ref 61, .ref 61]) (w' := w) rfl ?_
  obtain ⟨b1, hs⟩ := hs
  refine tm_g (pc' := 5) (k := 61) (j := 3) rfl b1 ?_
  refine tm_go 4 (pc' := 13) (L' := [some (.ref 61), some (.int a0), none, none]) (S' := [.int a0, .ref 77, .ref 65, .ref 61]) (w' := w) rfl ?_
  obtain ⟨b2, hs⟩ := hs
  refine tm_k (pc' := 14) (L' := [some (.ref 61), some (.int a0), none, none]) (S' := [.int (w.1 77 a0.toInt.toNat), .ref 65, .ref 61]) (w' := w) rfl b2 ?_
  obtain ⟨b3, hs⟩ := hs
  refine tm_k (pc' := 15) (L' := [some (.ref 61), some (.int a0), none, none]) (S' := [.int (w.1 65 ((w.1 77 a0.toInt.toNat).toInt.toNat)), .ref 61]) (w' := w) rfl b3 ?_
  refine tm_go 1 (pc' := 16) (L' := [some (.ref 61), some (.int a0), none, none]) (S' := [.ref 61, .int (w.1 65 ((w.1 77 a0.toInt.toNat).toInt.toNat)), .ref 61]) (w' := w) rfl ?_
  obtain ⟨b4, hs⟩ := hs
  refine tm_g (pc' := 19) (k := 61) (j := 3) rfl b4 ?_
  refine tm_go 4 (pc' := 27) (L' := [some (.ref 61), some (.int a0), none, none]) (S' := [.int a0, .ref 77, .ref 66, .int (w.1 65 ((w.1 77 a0.toInt.toNat).toInt.toNat)), .ref 61]) (w' := w) rfl ?_
  obtain ⟨b5, hs⟩ := hs
  refine tm_k (pc' := 28) (L' := [some (.ref 61), some (.int a0), none, none]) (S' := [.int (w.1 77 a0.toInt.toNat), .ref 66, .int (w.1 65 ((w.1 77 a0.toInt.toNat).toInt.toNat)), .ref 61]) (w' := w) rfl b5 ?_
  obtain ⟨b6, hs⟩ := hs
  refine tm_k (pc' := 29) (L' := [some (.ref 61), some (.int a0), none, none]) (S' := [.int (w.1 66 ((w.1 77 a0.toInt.toNat).toInt.toNat)), .int (w.1 65 ((w.1 77 a0.toInt.toNat).toInt.toNat)), .ref 61]) (w' := w) rfl b6 ?_
  refine tm_c rfl (Nat.le_of_ble_eq_true rfl) (dm_Ru_reckon (d := d + 0) hs) (fun v w7 hq => ?_)
  obtain ⟨r7, rfl, hs⟩ := hq
  refine tm_go 2 (pc' := 34) (L' := [some (.ref 61), some (.int a0), some (.long r7), none]) (S' := [.ref 61]) (w' := w7) rfl ?_
  refine tm_c rfl (Nat.le_of_ble_eq_true rfl) (dm_Ru_isOver (d := d + 2) hs) (fun v w8 hq => ?_)
  obtain ⟨r8, rfl, hz8, hs⟩ := hq
  refine tm_i (p1 := 83) (p2 := 40) rfl (fun h9 => ?_) (fun h9 => ?_)
  · replace hs := hs.1 h9
    exact tm_r rfl ⟨rfl, hs⟩
  · replace hs := hs.2 h9
    refine tm_go 3 (pc' := 43) (L' := [some (.ref 61), some (.int a0), some (.long r7), none]) (S' := [.int (lg_cmp r7 (0 : Int64))]) (w' := w8) rfl ?_
    refine tm_i (p1 := 83) (p2 := 46) rfl (fun h10 => ?_) (fun h10 => ?_)
    · replace hs := hs.1 h10
      exact tm_r rfl ⟨rfl, hs⟩
    · replace hs := hs.2 h10
      refine tm_go 8 (pc' := 62) (L' := [some (.ref 61), some (.int a0), some (.long r7), none]) (S' := [.int a0, .ref 77, .int (w8.1 7 1), .ref 3]) (w' := w8) rfl ?_
      obtain ⟨b11, hs⟩ := hs
      refine tm_k (pc' := 63) (L' := [some (.ref 61), some (.int a0), some (.long r7), none]) (S' := [.int (w8.1 77 a0.toInt.toNat), .int (w8.1 7 1), .ref 3]) (w' := w8) rfl b11 ?_
      refine tm_go 1 (pc' := 64) (L' := [some (.ref 61), some (.int a0), some (.long r7), none]) (S' := [.int 3, .int (w8.1 77 a0.toInt.toNat), .int (w8.1 7 1), .ref 3]) (w' := w8) rfl ?_
      refine tm_c rfl (Nat.le_of_ble_eq_true rfl) (dm_Al_add (d := d + 2) hs) (fun v w12 hq => ?_)
      obtain ⟨rfl, hs⟩ := hq
      refine tm_go 7 (pc' := 78) (L' := [some (.ref 61), some (.int a0), some (.long r7), none]) (S' := [.int a0, .ref 78, .ref 79, .int a0, .ref 61]) (w' := w12) rfl ?_
      obtain ⟨b13, hs⟩ := hs
      refine tm_k (pc' := 79) (L' := [some (.ref 61), some (.int a0), some (.long r7), none]) (S' := [.int (w12.1 78 a0.toInt.toNat), .ref 79, .int a0, .ref 61]) (w' := w12) rfl b13 ?_
      obtain ⟨b14, hs⟩ := hs
      refine tm_k (pc' := 80) (L' := [some (.ref 61), some (.int a0), some (.long r7), none]) (S' := [.int (w12.1 79 ((w12.1 78 a0.toInt.toNat).toInt.toNat)), .int a0, .ref 61]) (w' := w12) rfl b14 ?_
      refine tm_c rfl (Nat.le_of_ble_eq_true rfl) (dm_Ru_choose (d := d + 2) hs) (fun v w15 hq => ?_)
      obtain ⟨rfl, hs⟩ := hq
      exact tm_r rfl ⟨rfl, hs⟩
set_option maxHeartbeats 4000000 in
set_option maxRecDepth 100000 in
theorem tx_Ru_lookAtLimits_142 {d : Nat} {r_Ru_lookAtLimits : MW → Int32 → Int32 → (MW → Prop) → Prop} (hr_Ru_lookAtLimits : ∀ (w : MW) (a0 : Int32) (b0 : Int32) (Q : MW → Prop), r_Ru_lookAtLimits w a0 b0 Q → Tc (d + 3) 210 [.ref 61, .int a0, .int b0] w (RV Q)) {x142_2 : Int32} {E : MW → Prop} {Q : MW → Prop} (n : Nat) : ∀ (x142_5 : Int32) (x142_6 : Int32)  (z1 : Option Value) (z3 : Option Value) (z4 : Option Value) (w : MW), q_Ru_lookAtLimits_142 r_Ru_lookAtLimits x142_2 E Q n x142_5 x142_6 w → (∀  (v0 : Option Value) (v1 : Option Value) (v2 : Option Value) (v3 : Option Value) (v4 : Option Value) (v5 : Option Value) (v6 : Option Value) (w : MW), E  w → Tm (d + 4) 210 179 [v0, v1, v2, v3, v4, v5, v6] [] w (RV Q)) → Tm (d + 4) 210 142 [some (.ref 61), z1, some (.int x142_2), z3, z4, some (.int x142_5), some (.int x142_6)] [] w (RV Q) := by
  induction n with
  | zero => intro x142_5 x142_6 z1 z3 z4 w hs; rw [q_Ru_lookAtLimits_142.eq_1] at hs; exact hs.elim
  | succ n ih =>
    intro x142_5 x142_6 z1 z3 z4 w hs hE
    rw [q_Ru_lookAtLimits_142.eq_2] at hs
    refine tm_go 2 (pc' := 147) (L' := [some (.ref 61), z1, some (.int x142_2), z3, z4, some (.int x142_5), some (.int x142_6)]) (S' := [.int 500, .int x142_6]) (w' := w) rfl ?_
    refine tm_i (p1 := 179) (p2 := 150) rfl (fun h15 => ?_) (fun h15 => ?_)
    · replace hs := hs.1 h15
      exact hE _ _ _ _ _ _ _ _ hs
    · replace hs := hs.2 h15
      refine tm_go 1 (pc' := 152) (L' := [some (.ref 61), z1, some (.int x142_2), z3, z4, some (.int x142_5), some (.int x142_6)]) (S' := [.int x142_5]) (w' := w) rfl ?_
      refine tm_i (p1 := 179) (p2 := 155) rfl (fun h16 => ?_) (fun h16 => ?_)
      · replace hs := hs.1 h16
        exact hE _ _ _ _ _ _ _ _ hs
      · replace hs := hs.2 h16
        refine tm_go 5 (pc' := 161) (L' := [some (.ref 61), z1, some (.int x142_2), z3, z4, some (.int x142_5), some (.int x142_6)]) (S' := [.int (x142_2 + (1 : Int32)), .int x142_5, .ref 61]) (w' := w) rfl ?_
        refine tm_c rfl (Nat.le_of_ble_eq_true rfl) (hr_Ru_lookAtLimits _ _ _ _ hs) (fun v w17 hq => ?_)
        obtain ⟨rfl, hs⟩ := hq
        refine tm_go 3 (pc' := 170) (L' := [some (.ref 61), z1, some (.int x142_2), z3, z4, some (.int x142_5), some (.int x142_6)]) (S' := [.int x142_5, .ref 79]) (w' := w17) rfl ?_
        obtain ⟨b18, hs⟩ := hs
        refine tm_k (pc' := 171) (L' := [some (.ref 61), z1, some (.int x142_2), z3, z4, some (.int x142_5), some (.int x142_6)]) (S' := [.int (w17.1 79 x142_5.toInt.toNat)]) (w' := w17) rfl b18 ?_
        refine tm_go 3 (pc' := 142) (L' := [some (.ref 61), z1, some (.int x142_2), z3, (ksl z4), some (.int (w17.1 79 x142_5.toInt.toNat)), some (.int (x142_6 + (1 : Int32)))]) (S' := []) (w' := w17) rfl ?_
        exact ih _ _ _ _ _ _ hs hE
set_option maxHeartbeats 4000000 in
set_option maxRecDepth 100000 in
theorem tx_Ru_lookAtLimits_120 {d : Nat} {r_Ru_lookAtLimits : MW → Int32 → Int32 → (MW → Prop) → Prop} (hr_Ru_lookAtLimits : ∀ (w : MW) (a0 : Int32) (b0 : Int32) (Q : MW → Prop), r_Ru_lookAtLimits w a0 b0 Q → Tc (d + 3) 210 [.ref 61, .int a0, .int b0] w (RV Q)) {y120_2 : Int32} {y120_3 : Int32} {y120_4 : Int32} {z1 : Option Value} {z5 : Option Value} {z6 : Option Value} {w : MW} {Q : MW → Prop} (hs : q_Ru_lookAtLimits_120 r_Ru_lookAtLimits y120_2 y120_3 y120_4 w Q) : Tm (d + 4) 210 120 [some (.ref 61), z1, some (.int y120_2), some (.int y120_3), some (.int y120_4), z5, z6] [] w (RV Q) := by
  unfold q_Ru_lookAtLimits_120 at hs
  refine tm_go 2 (pc' := 124) (L' := [some (.ref 61), z1, some (.int y120_2), some (.int y120_3), some (.int y120_4), z5, z6]) (S' := [.int 16, .int y120_4]) (w' := w) rfl ?_
  refine tm_i (p1 := 136) (p2 := 127) rfl (fun h14 => ?_) (fun h14 => ?_)
  · replace hs := hs.1 h14
    refine tm_go 4 (pc' := 142) (L' := [some (.ref 61), z1, some (.int y120_2), some (.int y120_3), some (.int y120_4), some (.int (-1)), some (.int 0)]) (S' := []) (w' := w) rfl ?_
    refine tx_Ru_lookAtLimits_142 hr_Ru_lookAtLimits FU _ _ _ _ _ _ hs (fun  z19_0 z19_1 z19_2 z19_3 z19_4 z19_5 z19_6 w19 hs => ?_)
    exact tm_r rfl ⟨rfl, hs⟩
  · replace hs := hs.2 h14
    refine tm_go 3 (pc' := 132) (L' := [some (.ref 61), z1, some (.int y120_2), some (.int y120_3), some (.int y120_4), z5, z6]) (S' := [.int y120_3, .ref 78]) (w' := w) rfl ?_
    obtain ⟨b20, hs⟩ := hs
    refine tm_k (pc' := 133) (L' := [some (.ref 61), z1, some (.int y120_2), some (.int y120_3), some (.int y120_4), z5, z6]) (S' := [.int (w.1 78 y120_3.toInt.toNat)]) (w' := w) rfl b20 ?_
    refine tm_go 4 (pc' := 142) (L' := [some (.ref 61), z1, some (.int y120_2), some (.int y120_3), some (.int y120_4), some (.int (w.1 78 y120_3.toInt.toNat)), some (.int 0)]) (S' := []) (w' := w) rfl ?_
    refine tx_Ru_lookAtLimits_142 hr_Ru_lookAtLimits FU _ _ _ _ _ _ hs (fun  z21_0 z21_1 z21_2 z21_3 z21_4 z21_5 z21_6 w21 hs => ?_)
    exact tm_r rfl ⟨rfl, hs⟩
set_option maxHeartbeats 4000000 in
set_option maxRecDepth 100000 in
theorem tx_Ru_lookAtLimits_91 {d : Nat} {r_Ru_lookAtLimits : MW → Int32 → Int32 → (MW → Prop) → Prop} (hr_Ru_lookAtLimits : ∀ (w : MW) (a0 : Int32) (b0 : Int32) (Q : MW → Prop), r_Ru_lookAtLimits w a0 b0 Q → Tc (d + 3) 210 [.ref 61, .int a0, .int b0] w (RV Q)) {y91_2 : Int32} {y91_3 : Int32} {y91_4 : Int32} {z1 : Option Value} {z5 : Option Value} {z6 : Option Value} {w : MW} {Q : MW → Prop} (hs : q_Ru_lookAtLimits_91 r_Ru_lookAtLimits y91_2 y91_3 y91_4 w Q) : Tm (d + 4) 210 91 [some (.ref 61), z1, some (.int y91_2), some (.int y91_3), some (.int y91_4), z5, z6] [] w (RV Q) := by
  unfold q_Ru_lookAtLimits_91 at hs
  refine tm_go 2 (pc' := 95) (L' := [some (.ref 61), z1, some (.int y91_2), some (.int y91_3), some (.int y91_4), z5, z6]) (S' := [.int 16, .int y91_4]) (w' := w) rfl ?_
  refine tm_i (p1 := 120) (p2 := 98) rfl (fun h13 => ?_) (fun h13 => ?_)
  · replace hs := hs.1 h13
    exact tx_Ru_lookAtLimits_120 hr_Ru_lookAtLimits hs 
  · replace hs := hs.2 h13
    refine tm_go 3 (pc' := 103) (L' := [some (.ref 61), z1, some (.int y91_2), some (.int y91_3), some (.int y91_4), z5, z6]) (S' := [.int y91_3, .ref 81]) (w' := w) rfl ?_
    obtain ⟨b22, hs⟩ := hs
    refine tm_k (pc' := 104) (L' := [some (.ref 61), z1, some (.int y91_2), some (.int y91_3), some (.int y91_4), z5, z6]) (S' := [.int (w.1 81 y91_3.toInt.toNat)]) (w' := w) rfl b22 ?_
    refine tm_i (p1 := 120) (p2 := 107) rfl (fun h23 => ?_) (fun h23 => ?_)
    · replace hs := hs.1 h23
      exact tx_Ru_lookAtLimits_120 hr_Ru_lookAtLimits hs 
    · replace hs := hs.2 h23
      refine tm_go 4 (pc' := 113) (L' := [some (.ref 61), z1, some (.int y91_2), some (.int y91_3), some (.int y91_4), z5, z6]) (S' := [.int y91_3, .ref 81, .ref 61]) (w' := w) rfl ?_
      obtain ⟨b24, hs⟩ := hs
      refine tm_k (pc' := 114) (L' := [some (.ref 61), z1, some (.int y91_2), some (.int y91_3), some (.int y91_4), z5, z6]) (S' := [.int (w.1 81 y91_3.toInt.toNat), .ref 61]) (w' := w) rfl b24 ?_
      refine tm_go 3 (pc' := 117) (L' := [some (.ref 61), z1, some (.int y91_2), some (.int y91_3), some (.int y91_4), z5, z6]) (S' := [.int (y91_2 + (1 : Int32)), .int (w.1 81 y91_3.toInt.toNat), .ref 61]) (w' := w) rfl ?_
      refine tm_c rfl (Nat.le_of_ble_eq_true rfl) (hr_Ru_lookAtLimits _ _ _ _ hs) (fun v w25 hq => ?_)
      obtain ⟨rfl, hs⟩ := hq
      exact tx_Ru_lookAtLimits_120 hr_Ru_lookAtLimits hs 
set_option maxHeartbeats 4000000 in
set_option maxRecDepth 100000 in
theorem tx_Ru_lookAtLimits_20 {d : Nat} {r_Ru_lookAtLimits : MW → Int32 → Int32 → (MW → Prop) → Prop} (hr_Ru_lookAtLimits : ∀ (w : MW) (a0 : Int32) (b0 : Int32) (Q : MW → Prop), r_Ru_lookAtLimits w a0 b0 Q → Tc (d + 3) 210 [.ref 61, .int a0, .int b0] w (RV Q)) {y20_2 : Int32} {ys20_0 : Int32} {z1 : Option Value} {z3 : Option Value} {z4 : Option Value} {z5 : Option Value} {z6 : Option Value} {w : MW} {Q : MW → Prop} (hs : q_Ru_lookAtLimits_20 r_Ru_lookAtLimits y20_2 ys20_0 w Q) : Tm (d + 4) 210 20 [some (.ref 61), z1, some (.int y20_2), z3, z4, z5, z6] [.int ys20_0] w (RV Q) := by
  unfold q_Ru_lookAtLimits_20 at hs
  refine tm_go 2 (pc' := 22) (L' := [some (.ref 61), z1, some (.int y20_2), some (.int ys20_0), z4, z5, z6]) (S' := [.ref 61]) (w' := w) rfl ?_
  refine tm_c rfl (Nat.le_of_ble_eq_true rfl) (dm_Ru_isOver (d := d + 3) hs) (fun v w3 hq => ?_)
  obtain ⟨r3, rfl, hz3, hs⟩ := hq
  refine tm_i (p1 := 47) (p2 := 28) rfl (fun h4 => ?_) (fun h4 => ?_)
  · replace hs := hs.1 h4
    exact tm_r rfl ⟨rfl, hs⟩
  · replace hs := hs.2 h4
    refine tm_go 1 (pc' := 29) (L' := [some (.ref 61), z1, some (.int y20_2), some (.int ys20_0), z4, z5, z6]) (S' := [.int ys20_0]) (w' := w3) rfl ?_
    refine tm_i (p1 := 47) (p2 := 32) rfl (fun h5 => ?_) (fun h5 => ?_)
    · replace hs := hs.1 h5
      exact tm_r rfl ⟨rfl, hs⟩
    · replace hs := hs.2 h5
      refine tm_go 3 (pc' := 37) (L' := [some (.ref 61), z1, some (.int y20_2), some (.int ys20_0), z4, z5, z6]) (S' := [.int ys20_0, .ref 80]) (w' := w3) rfl ?_
      obtain ⟨b6, hs⟩ := hs
      refine tm_k (pc' := 38) (L' := [some (.ref 61), z1, some (.int y20_2), some (.int ys20_0), z4, z5, z6]) (S' := [.int (w3.1 80 ys20_0.toInt.toNat)]) (w' := w3) rfl b6 ?_
      refine tm_i (p1 := 47) (p2 := 41) rfl (fun h7 => ?_) (fun h7 => ?_)
      · replace hs := hs.1 h7
        exact tm_r rfl ⟨rfl, hs⟩
      · replace hs := hs.2 h7
        refine tm_go 2 (pc' := 44) (L' := [some (.ref 61), z1, some (.int y20_2), some (.int ys20_0), z4, z5, z6]) (S' := [.int 100, .int y20_2]) (w' := w3) rfl ?_
        refine tm_i (p1 := 48) (p2 := 47) rfl (fun h8 => ?_) (fun h8 => ?_)
        · replace hs := hs.1 h8
          refine tm_go 1 (pc' := 49) (L' := [some (.ref 61), z1, some (.int y20_2), some (.int ys20_0), z4, z5, z6]) (S' := [.ref 61]) (w' := w3) rfl ?_
          obtain ⟨b9, hs⟩ := hs
          refine tm_g (pc' := 52) (k := 61) (j := 3) rfl b9 ?_
          refine tm_go 4 (pc' := 60) (L' := [some (.ref 61), z1, some (.int y20_2), some (.int ys20_0), z4, z5, z6]) (S' := [.int ys20_0, .ref 77, .ref 63]) (w' := w3) rfl ?_
          obtain ⟨b10, hs⟩ := hs
          refine tm_k (pc' := 61) (L' := [some (.ref 61), z1, some (.int y20_2), some (.int ys20_0), z4, z5, z6]) (S' := [.int (w3.1 77 ys20_0.toInt.toNat), .ref 63]) (w' := w3) rfl b10 ?_
          obtain ⟨b11, hs⟩ := hs
          refine tm_k (pc' := 62) (L' := [some (.ref 61), z1, some (.int y20_2), some (.int ys20_0), z4, z5, z6]) (S' := [.int (w3.1 63 ((w3.1 77 ys20_0.toInt.toNat).toInt.toNat))]) (w' := w3) rfl b11 ?_
          refine tm_go 3 (pc' := 68) (L' := [some (.ref 61), z1, some (.int y20_2), some (.int ys20_0), some (.int (w3.1 63 ((w3.1 77 ys20_0.toInt.toNat).toInt.toNat))), z5, z6]) (S' := [.int 20, .int (w3.1 63 ((w3.1 77 ys20_0.toInt.toNat).toInt.toNat))]) (w' := w3) rfl ?_
          refine tm_i (p1 := 91) (p2 := 71) rfl (fun h12 => ?_) (fun h12 => ?_)
          · replace hs := hs.1 h12
            exact tx_Ru_lookAtLimits_91 hr_Ru_lookAtLimits hs 
          · replace hs := hs.2 h12
            refine tm_go 3 (pc' := 76) (L' := [some (.ref 61), z1, some (.int y20_2), some (.int ys20_0), some (.int (w3.1 63 ((w3.1 77 ys20_0.toInt.toNat).toInt.toNat))), z5, z6]) (S' := [.int ys20_0, .ref 81]) (w' := w3) rfl ?_
            obtain ⟨b26, hs⟩ := hs
            refine tm_k (pc' := 77) (L' := [some (.ref 61), z1, some (.int y20_2), some (.int ys20_0), some (.int (w3.1 63 ((w3.1 77 ys20_0.toInt.toNat).toInt.toNat))), z5, z6]) (S' := [.int (w3.1 81 ys20_0.toInt.toNat)]) (w' := w3) rfl b26 ?_
            refine tm_go 3 (pc' := 82) (L' := [some (.ref 61), z1, some (.int y20_2), some (.int ys20_0), some (.int (w3.1 63 ((w3.1 77 ys20_0.toInt.toNat).toInt.toNat))), z5, z6]) (S' := [.int ys20_0, .ref 78, .int (w3.1 81 ys20_0.toInt.toNat)]) (w' := w3) rfl ?_
            obtain ⟨b27, hs⟩ := hs
            refine tm_k (pc' := 83) (L' := [some (.ref 61), z1, some (.int y20_2), some (.int ys20_0), some (.int (w3.1 63 ((w3.1 77 ys20_0.toInt.toNat).toInt.toNat))), z5, z6]) (S' := [.int (w3.1 78 ys20_0.toInt.toNat), .int (w3.1 81 ys20_0.toInt.toNat)]) (w' := w3) rfl b27 ?_
            refine tm_i (p1 := 91) (p2 := 86) rfl (fun h28 => ?_) (fun h28 => ?_)
            · replace hs := hs.1 h28
              exact tx_Ru_lookAtLimits_91 hr_Ru_lookAtLimits hs 
            · replace hs := hs.2 h28
              refine tm_go 2 (pc' := 88) (L' := [some (.ref 61), z1, some (.int y20_2), some (.int ys20_0), some (.int (w3.1 63 ((w3.1 77 ys20_0.toInt.toNat).toInt.toNat))), z5, z6]) (S' := [.int ys20_0, .ref 61]) (w' := w3) rfl ?_
              refine tm_c rfl (Nat.le_of_ble_eq_true rfl) (dm_Ru_lookAtLimit (d := d + 0) hs) (fun v w29 hq => ?_)
              obtain ⟨rfl, hs⟩ := hq
              exact tx_Ru_lookAtLimits_91 hr_Ru_lookAtLimits hs 
        · replace hs := hs.2 h8
          exact tm_r rfl ⟨rfl, hs⟩
set_option maxHeartbeats 4000000 in
set_option maxRecDepth 100000 in
theorem dmb_Ru_lookAtLimits {d : Nat} {r_Ru_lookAtLimits : MW → Int32 → Int32 → (MW → Prop) → Prop} (hr_Ru_lookAtLimits : ∀ (w : MW) (a0 : Int32) (b0 : Int32) (Q : MW → Prop), r_Ru_lookAtLimits w a0 b0 Q → Tc (d + 3) 210 [.ref 61, .int a0, .int b0] w (RV Q)) {w : MW} {a0 : Int32} {b0 : Int32} {Q : MW → Prop} (hs : pb_Ru_lookAtLimits r_Ru_lookAtLimits w a0 b0 Q) : Tc (d + 4) 210 [.ref 61, .int a0, .int b0] w (RV Q) := by
  unfold pb_Ru_lookAtLimits at hs
  refine tm_go 3 (pc' := 5) (L' := [some (.ref 61), some (.int a0), some (.int b0), none, none, none, none]) (S' := [.int a0, .ref 80]) (w' := w) rfl ?_
  obtain ⟨b1, hs⟩ := hs
  refine tm_k (pc' := 6) (L' := [some (.ref 61), some (.int a0), some (.int b0), none, none, none, none]) (S' := [.int (w.1 80 a0.toInt.toNat)]) (w' := w) rfl b1 ?_
  refine tm_go 1 (pc' := 7) (L' := [some (.ref 61), some (.int a0), some (.int b0), none, none, none, none]) (S' := [.int 1, .int (w.1 80 a0.toInt.toNat)]) (w' := w) rfl ?_
  refine tm_i (p1 := 19) (p2 := 10) rfl (fun h2 => ?_) (fun h2 => ?_)
  · replace hs := hs.1 h2
    refine tm_go 1 (pc' := 20) (L' := [some (.ref 61), some (.int a0), some (.int b0), none, none, none, none]) (S' := [.int (-1)]) (w' := w) rfl ?_
    exact tx_Ru_lookAtLimits_20 hr_Ru_lookAtLimits hs 
  · replace hs := hs.2 h2
    refine tm_go 3 (pc' := 15) (L' := [some (.ref 61), some (.int a0), some (.int b0), none, none, none, none]) (S' := [.int a0, .ref 81]) (w' := w) rfl ?_
    obtain ⟨b30, hs⟩ := hs
    refine tm_k (pc' := 16) (L' := [some (.ref 61), some (.int a0), some (.int b0), none, none, none, none]) (S' := [.int (w.1 81 a0.toInt.toNat)]) (w' := w) rfl b30 ?_
    refine tm_go 1 (pc' := 20) (L' := [some (.ref 61), some (.int a0), some (.int b0), none, none, none, none]) (S' := [.int (w.1 81 a0.toInt.toNat)]) (w' := w) rfl ?_
    exact tx_Ru_lookAtLimits_20 hr_Ru_lookAtLimits hs 
theorem da_Ru_lookAtLimits (n : Nat) : (∀ (w : MW) (a0 : Int32) (b0 : Int32) (Q : MW → Prop), pn_Ru_lookAtLimits n w a0 b0 Q → Tc (n + 3) 210 [.ref 61, .int a0, .int b0] w (RV Q)) := by
  induction n with
  | zero => exact fun _ _ _ _ h => h.elim
  | succ n h0 =>
    skip
    exact fun _ _ _ _ h => (dmb_Ru_lookAtLimits (d := n) h0 h).le (by omega)
theorem dm_Ru_lookAtLimits {d : Nat} {w : MW} {a0 : Int32} {b0 : Int32} {Q : MW → Prop} (hs : p_Ru_lookAtLimits w a0 b0 Q) : Tc (d + 403) 210 [.ref 61, .int a0, .int b0] w (RV Q) := ((da_Ru_lookAtLimits 400) _ _ _ _ hs).le (by omega)
set_option maxHeartbeats 4000000 in
set_option maxRecDepth 100000 in
theorem tx_Ru_walk_52 {d : Nat} {ys52_0 : Int32} {z1 : Option Value} {w : MW} {Q : MW → Prop} (hs : q_Ru_walk_52 ys52_0 w Q) : Tm (d + 407) 207 52 [some (.ref 61), z1] [.int ys52_0] w (RV Q) := by
  unfold q_Ru_walk_52 at hs
  refine tm_go 2 (pc' := 54) (L' := [some (.ref 61), some (.int ys52_0)]) (S' := [.int ys52_0]) (w' := w) rfl ?_
  refine tm_i (p1 := 65) (p2 := 57) rfl (fun h4 => ?_) (fun h4 => ?_)
  · replace hs := hs.1 h4
    refine tm_go 1 (pc' := 66) (L' := [some (.ref 61), some (.int ys52_0)]) (S' := [.ref 61]) (w' := w) rfl ?_
    refine tm_c rfl (Nat.le_of_ble_eq_true rfl) (dm_Ru_isOver (d := d + 406) hs) (fun v w5 hq => ?_)
    obtain ⟨r5, rfl, hz5, hs⟩ := hq
    refine tm_i (p1 := 84) (p2 := 72) rfl (fun h6 => ?_) (fun h6 => ?_)
    · replace hs := hs.1 h6
      exact tm_r rfl ⟨rfl, hs⟩
    · replace hs := hs.2 h6
      refine tm_go 2 (pc' := 76) (L' := [some (.ref 61), some (.int ys52_0)]) (S' := [.int (w5.1 61 18)]) (w' := w5) rfl ?_
      refine tm_i (p1 := 84) (p2 := 79) rfl (fun h7 => ?_) (fun h7 => ?_)
      · replace hs := hs.1 h7
        exact tm_r rfl ⟨rfl, hs⟩
      · replace hs := hs.2 h7
        refine tm_go 3 (pc' := 84) (L' := [some (.ref 61), some (.int ys52_0)]) (S' := []) (w' := (sI w5 61 4 2)) rfl ?_
        exact tm_r rfl ⟨rfl, hs⟩
  · replace hs := hs.2 h4
    refine tm_go 4 (pc' := 84) (L' := [some (.ref 61), some (.int ys52_0)]) (S' := []) (w' := (sI w 61 4 1)) rfl ?_
    exact tm_r rfl ⟨rfl, hs⟩
set_option maxHeartbeats 4000000 in
set_option maxRecDepth 100000 in
theorem dm_Ru_walk {d : Nat} {w : MW} {Q : MW → Prop} (hs : p_Ru_walk w Q) : Tc (d + 407) 207 [.ref 61] w (RV Q) := by
  unfold p_Ru_walk at hs
  refine tm_go 18 (pc' := 28) (L' := [some (.ref 61), none]) (S' := [.int 0, .int 0, .ref 61]) (w' := (sI (sI (sI (sJ w 61 17 ((w.2.1 61 17) + (1 : Int64))) 61 18 0) 61 19 0) 61 20 0)) rfl ?_
  refine tm_c rfl (Nat.le_of_ble_eq_true rfl) (dm_Ru_lookAtLimits (d := d + 3) hs) (fun v w1 hq => ?_)
  obtain ⟨rfl, hs⟩ := hq
  refine tm_go 1 (pc' := 32) (L' := [some (.ref 61), none]) (S' := [.ref 61]) (w' := w1) rfl ?_
  refine tm_c rfl (Nat.le_of_ble_eq_true rfl) (dm_Ru_isOver (d := d + 406) hs) (fun v w2 hq => ?_)
  obtain ⟨r2, rfl, hz2, hs⟩ := hq
  refine tm_i (p1 := 51) (p2 := 38) rfl (fun h3 => ?_) (fun h3 => ?_)
  · replace hs := hs.1 h3
    refine tm_go 1 (pc' := 52) (L' := [some (.ref 61), none]) (S' := [.int 0]) (w' := w2) rfl ?_
    exact tx_Ru_walk_52 hs 
  · replace hs := hs.2 h3
    refine tm_go 3 (pc' := 41) (L' := [some (.ref 61), none]) (S' := [.int 0, .int 0, .ref 61]) (w' := w2) rfl ?_
    refine tm_c rfl (Nat.le_of_ble_eq_true rfl) (dm_Ru_goOn (d := d + 0) hs) (fun v w8 hq => ?_)
    obtain ⟨r8, rfl, hz8, hs⟩ := hq
    refine tm_i (p1 := 51) (p2 := 47) rfl (fun h9 => ?_) (fun h9 => ?_)
    · replace hs := hs.1 h9
      refine tm_go 1 (pc' := 52) (L' := [some (.ref 61), none]) (S' := [.int 0]) (w' := w8) rfl ?_
      exact tx_Ru_walk_52 hs 
    · replace hs := hs.2 h9
      refine tm_go 2 (pc' := 52) (L' := [some (.ref 61), none]) (S' := [.int 1]) (w' := w8) rfl ?_
      exact tx_Ru_walk_52 hs 
set_option maxHeartbeats 4000000 in
set_option maxRecDepth 100000 in
theorem dm_St_isFull {d : Nat} {w : MW} {a0 : Int32} {b0 : Int32} {Q : Int32 → MW → Prop} (hs : p_St_isFull w a0 b0 Q) : Tc (d + 0) 252 [.ref 7, .int a0, .int b0] w (RZ Q) := by
  unfold p_St_isFull at hs
  refine tm_go 9 (pc' := 12) (L' := [some (.ref 7), some (.int a0), some (.int b0)]) (S' := [.int ((a0 * (4 : Int32)) + (b0 >>> ((6 : Int32) &&& 31))), .ref 20]) (w' := w) rfl ?_
  obtain ⟨b1, hs⟩ := hs
  refine tm_k (pc' := 13) (L' := [some (.ref 7), some (.int a0), some (.int b0)]) (S' := [.long (w.2.1 20 (((a0 * (4 : Int32)) + (b0 >>> ((6 : Int32) &&& 31))).toInt.toNat))]) (w' := w) rfl b1 ?_
  refine tm_go 8 (pc' := 22) (L' := [some (.ref 7), some (.int a0), some (.int b0)]) (S' := [.int (lg_cmp ((((w.2.1 20 (((a0 * (4 : Int32)) + (b0 >>> ((6 : Int32) &&& 31))).toInt.toNat)).toUInt64 >>> ((b0 &&& (63 : Int32)).toInt64.toUInt64 &&& Int64.toUInt64 63)).toInt64) &&& (1 : Int64)) (0 : Int64))]) (w' := w) rfl ?_
  refine tm_i (p1 := 29) (p2 := 25) rfl (fun h2 => ?_) (fun h2 => ?_)
  · replace hs := hs.1 h2
    refine tm_go 1 (pc' := 30) (L' := [some (.ref 7), some (.int a0), some (.int b0)]) (S' := [.int 0]) (w' := w) rfl ?_
    exact tm_r rfl ⟨_, rfl, by decide, hs⟩
  · replace hs := hs.2 h2
    refine tm_go 2 (pc' := 30) (L' := [some (.ref 7), some (.int a0), some (.int b0)]) (S' := [.int 1]) (w' := w) rfl ?_
    exact tm_r rfl ⟨_, rfl, by decide, hs⟩
set_option maxHeartbeats 4000000 in
set_option maxRecDepth 100000 in
theorem dm_St_leavingCell {d : Nat} {w : MW} {a0 : Int32} {b0 : Int32} {Q : Int32 → MW → Prop} (hs : p_St_leavingCell w a0 b0 Q) : Tc (d + 0) 251 [.ref 7, .int a0, .int b0] w (RI Q) := by
  unfold p_St_leavingCell at hs
  refine tm_go 1 (pc' := 1) (L' := [some (.ref 7), some (.int a0), some (.int b0), none]) (S' := [.ref 7]) (w' := w) rfl ?_
  obtain ⟨b1, hs⟩ := hs
  refine tm_g (pc' := 4) (k := 7) (j := 0) rfl b1 ?_
  refine tm_go 2 (pc' := 8) (L' := [some (.ref 7), some (.int a0), some (.int b0), none]) (S' := [.int a0, .ref 12]) (w' := w) rfl ?_
  obtain ⟨b2, hs⟩ := hs
  refine tm_k (pc' := 9) (L' := [some (.ref 7), some (.int a0), some (.int b0), none]) (S' := [.int (w.1 12 a0.toInt.toNat)]) (w' := w) rfl b2 ?_
  refine tm_go 2 (pc' := 11) (L' := [some (.ref 7), some (.int a0), some (.int b0), some (.int (w.1 12 a0.toInt.toNat))]) (S' := [.int b0]) (w' := w) rfl ?_
  refine tm_i (p1 := 33) (p2 := 14) rfl (fun h3 => ?_) (fun h3 => ?_)
  · replace hs := hs.1 h3
    refine tm_go 3 (pc' := 38) (L' := [some (.ref 7), some (.int a0), some (.int b0), some (.int (w.1 12 a0.toInt.toNat))]) (S' := [.int a0, .ref 21]) (w' := w) rfl ?_
    obtain ⟨b4, hs⟩ := hs
    refine tm_k (pc' := 39) (L' := [some (.ref 7), some (.int a0), some (.int b0), some (.int (w.1 12 a0.toInt.toNat))]) (S' := [.int (w.1 21 a0.toInt.toNat)]) (w' := w) rfl b4 ?_
    exact tm_r rfl ⟨_, rfl, hs⟩
  · replace hs := hs.2 h3
    refine tm_go 1 (pc' := 15) (L' := [some (.ref 7), some (.int a0), some (.int b0), some (.int (w.1 12 a0.toInt.toNat))]) (S' := [.int (w.1 12 a0.toInt.toNat)]) (w' := w) rfl ?_
    refine tm_i (p1 := 33) (p2 := 18) rfl (fun h5 => ?_) (fun h5 => ?_)
    · replace hs := hs.1 h5
      refine tm_go 3 (pc' := 38) (L' := [some (.ref 7), some (.int a0), some (.int b0), some (.int (w.1 12 a0.toInt.toNat))]) (S' := [.int a0, .ref 21]) (w' := w) rfl ?_
      obtain ⟨b6, hs⟩ := hs
      refine tm_k (pc' := 39) (L' := [some (.ref 7), some (.int a0), some (.int b0), some (.int (w.1 12 a0.toInt.toNat))]) (S' := [.int (w.1 21 a0.toInt.toNat)]) (w' := w) rfl b6 ?_
      exact tm_r rfl ⟨_, rfl, hs⟩
    · replace hs := hs.2 h5
      refine tm_go 3 (pc' := 23) (L' := [some (.ref 7), some (.int a0), some (.int b0), some (.int (w.1 12 a0.toInt.toNat))]) (S' := [.int a0, .ref 21]) (w' := w) rfl ?_
      obtain ⟨b7, hs⟩ := hs
      refine tm_k (pc' := 24) (L' := [some (.ref 7), some (.int a0), some (.int b0), some (.int (w.1 12 a0.toInt.toNat))]) (S' := [.int (w.1 21 a0.toInt.toNat)]) (w' := w) rfl b7 ?_
      refine tm_go 5 (pc' := 29) (L' := [some (.ref 7), some (.int a0), some (.int b0), some (.int (w.1 12 a0.toInt.toNat))]) (S' := [.int (w.1 12 a0.toInt.toNat), .int (((w.1 21 a0.toInt.toNat) + (w.1 12 a0.toInt.toNat)) - (1 : Int32))]) (w' := w) rfl ?_
      obtain ⟨b8, hs⟩ := hs
      refine tm_k (pc' := 30) (L' := [some (.ref 7), some (.int a0), some (.int b0), some (.int (w.1 12 a0.toInt.toNat))]) (S' := [.int ((((w.1 21 a0.toInt.toNat) + (w.1 12 a0.toInt.toNat)) - (1 : Int32)) - (((w.1 21 a0.toInt.toNat) + (w.1 12 a0.toInt.toNat)) - (1 : Int32)) / (w.1 12 a0.toInt.toNat) * (w.1 12 a0.toInt.toNat))]) (w' := w) rfl b8 ?_
      refine tm_go 1 (pc' := 39) (L' := [some (.ref 7), some (.int a0), some (.int b0), some (.int (w.1 12 a0.toInt.toNat))]) (S' := [.int ((((w.1 21 a0.toInt.toNat) + (w.1 12 a0.toInt.toNat)) - (1 : Int32)) - (((w.1 21 a0.toInt.toNat) + (w.1 12 a0.toInt.toNat)) - (1 : Int32)) / (w.1 12 a0.toInt.toNat) * (w.1 12 a0.toInt.toNat))]) (w' := w) rfl ?_
      exact tm_r rfl ⟨_, rfl, hs⟩
set_option maxHeartbeats 4000000 in
set_option maxRecDepth 100000 in
theorem tx_St_push_138 {d : Nat} {y138_1 : Int32} {y138_7 : Int32} {z2 : Option Value} {z3 : Option Value} {z4 : Option Value} {z5 : Option Value} {z6 : Option Value} {z8 : Option Value} {z9 : Option Value} {z10 : Option Value} {w : MW} {Q : Int32 → MW → Prop} (hs : q_St_push_138 y138_1 y138_7 w Q) : Tm (d + 2) 254 138 [some (.ref 7), some (.int y138_1), z2, z3, z4, z5, z6, some (.int y138_7), z8, z9, z10] [] w (RZ Q) := by
  unfold q_St_push_138 at hs
  refine tm_go 1 (pc' := 140) (L' := [some (.ref 7), some (.int y138_1), z2, z3, z4, z5, z6, some (.int y138_7), z8, z9, z10]) (S' := [.int y138_7]) (w' := w) rfl ?_
  refine tm_i (p1 := 157) (p2 := 143) rfl (fun h12 => ?_) (fun h12 => ?_)
  · replace hs := hs.1 h12
    refine tm_go 1 (pc' := 159) (L' := [some (.ref 7), some (.int y138_1), z2, z3, z4, z5, z6, some (.int y138_7), z8, z9, z10]) (S' := [.int y138_7]) (w' := w) rfl ?_
    obtain ⟨b13, hs⟩ := hs
    exact tm_rk rfl b13 ⟨_, rfl, b13, hs⟩
  · replace hs := hs.2 h12
    refine tm_go 2 (pc' := 145) (L' := [some (.ref 7), some (.int y138_1), z2, z3, z4, z5, z6, some (.int y138_7), z8, z9, z10]) (S' := [.ref 7, .ref 7]) (w' := w) rfl ?_
    obtain ⟨b14, hs⟩ := hs
    refine tm_g (pc' := 148) (k := 7) (j := 0) rfl b14 ?_
    refine tm_go 4 (pc' := 154) (L' := [some (.ref 7), some (.int y138_1), z2, z3, z4, z5, z6, some (.int y138_7), z8, z9, z10]) (S' := [.int 1, .int ((w.1 8 0) + y138_1), .ref 7]) (w' := w) rfl ?_
    refine tm_c rfl (Nat.le_of_ble_eq_true rfl) (dm_St_leave (d := d + 0) hs) (fun v w15 hq => ?_)
    obtain ⟨rfl, hs⟩ := hq
    refine tm_go 1 (pc' := 159) (L' := [some (.ref 7), some (.int y138_1), z2, z3, z4, z5, z6, some (.int y138_7), z8, z9, z10]) (S' := [.int y138_7]) (w' := w15) rfl ?_
    obtain ⟨b16, hs⟩ := hs
    exact tm_rk rfl b16 ⟨_, rfl, b16, hs⟩
set_option maxHeartbeats 4000000 in
set_option maxRecDepth 100000 in
theorem tx_St_push_117 {d : Nat} {y117_1 : Int32} {y117_3 : Int32} {y117_4 : Int32} {y117_7 : Int32} {ys117_0 : Int32} {ys117_1 : Int32} {z2 : Option Value} {z5 : Option Value} {z6 : Option Value} {z8 : Option Value} {z9 : Option Value} {z10 : Option Value} {w : MW} {Q : Int32 → MW → Prop} (hs : q_St_push_117 y117_1 y117_3 y117_4 y117_7 ys117_0 ys117_1 w Q) : Tm (d + 2) 254 117 [some (.ref 7), some (.int y117_1), z2, some (.int y117_3), some (.int y117_4), z5, z6, some (.int y117_7), z8, z9, z10] [.int ys117_0, .int ys117_1, .ref 21] w (RZ Q) := by
  unfold q_St_push_117 at hs
  obtain ⟨b10, hs⟩ := hs
  refine tm_k (pc' := 118) (L' := [some (.ref 7), some (.int y117_1), z2, some (.int y117_3), some (.int y117_4), z5, z6, some (.int y117_7), z8, z9, z10]) (S' := []) (w' := (sI w 21 ys117_1.toInt.toNat ys117_0)) rfl b10 ?_
  refine tm_go 1 (pc' := 119) (L' := [some (.ref 7), some (.int y117_1), z2, some (.int y117_3), some (.int y117_4), z5, z6, some (.int y117_7), z8, z9, z10]) (S' := [.int y117_3]) (w' := (sI w 21 ys117_1.toInt.toNat ys117_0)) rfl ?_
  refine tm_i (p1 := 138) (p2 := 122) rfl (fun h11 => ?_) (fun h11 => ?_)
  · replace hs := hs.1 h11
    exact tx_St_push_138 hs 
  · replace hs := hs.2 h11
    refine tm_go 2 (pc' := 124) (L' := [some (.ref 7), some (.int y117_1), z2, some (.int y117_3), some (.int y117_4), z5, z6, some (.int y117_7), z8, z9, z10]) (S' := [.ref 7, .ref 7]) (w' := (sI w 21 ys117_1.toInt.toNat ys117_0)) rfl ?_
    obtain ⟨b17, hs⟩ := hs
    refine tm_g (pc' := 127) (k := 7) (j := 0) rfl b17 ?_
    refine tm_go 5 (pc' := 135) (L' := [some (.ref 7), some (.int y117_1), z2, some (.int y117_3), some (.int y117_4), z5, z6, some (.int y117_7), z8, z9, z10]) (S' := [.int 1, .int y117_4, .int ((w.1 8 0) + y117_1), .ref 7]) (w' := (sI w 21 ys117_1.toInt.toNat ys117_0)) rfl ?_
    refine tm_c rfl (Nat.le_of_ble_eq_true rfl) (dm_St_arrive (d := d + 0) hs) (fun v w18 hq => ?_)
    obtain ⟨rfl, hs⟩ := hq
    exact tx_St_push_138 hs 
set_option maxHeartbeats 4000000 in
set_option maxRecDepth 100000 in
theorem tx_St_push_85 {d : Nat} {y85_1 : Int32} {y85_2 : Int32} {y85_3 : Int32} {y85_4 : Int32} {y85_5 : Int32} {y85_6 : Int32} {y85_7 : Int32} {ys85_0 : Int64} {ys85_1 : Int32} {z8 : Option Value} {z9 : Option Value} {z10 : Option Value} {w : MW} {Q : Int32 → MW → Prop} (hs : q_St_push_85 y85_1 y85_2 y85_3 y85_4 y85_5 y85_6 y85_7 ys85_0 ys85_1 w Q) : Tm (d + 2) 254 85 [some (.ref 7), some (.int y85_1), some (.int y85_2), some (.int y85_3), some (.int y85_4), some (.int y85_5), some (.int y85_6), some (.int y85_7), z8, z9, z10] [.long ys85_0, .int ys85_1, .ref 20] w (RZ Q) := by
  unfold q_St_push_85 at hs
  obtain ⟨b7, hs⟩ := hs
  refine tm_k (pc' := 86) (L' := [some (.ref 7), some (.int y85_1), some (.int y85_2), some (.int y85_3), some (.int y85_4), some (.int y85_5), some (.int y85_6), some (.int y85_7), z8, z9, z10]) (S' := []) (w' := (sJ w 20 ys85_1.toInt.toNat ys85_0)) rfl b7 ?_
  refine tm_go 4 (pc' := 92) (L' := [some (.ref 7), some (.int y85_1), some (.int y85_2), some (.int y85_3), some (.int y85_4), some (.int y85_5), some (.int y85_6), some (.int y85_7), z8, z9, z10]) (S' := [.int y85_2, .int y85_1, .ref 21]) (w' := (sJ w 20 ys85_1.toInt.toNat ys85_0)) rfl ?_
  refine tm_i (p1 := 100) (p2 := 95) rfl (fun h8 => ?_) (fun h8 => ?_)
  · replace hs := hs.1 h8
    refine tm_go 4 (pc' := 106) (L' := [some (.ref 7), some (.int y85_1), some (.int y85_2), some (.int y85_3), some (.int y85_4), some (.int y85_5), some (.int y85_6), some (.int y85_7), z8, z9, z10]) (S' := [.int y85_5, .int (y85_6 + (1 : Int32)), .int y85_1, .ref 21]) (w' := (sJ w 20 ys85_1.toInt.toNat ys85_0)) rfl ?_
    refine tm_i (p1 := 116) (p2 := 109) rfl (fun h9 => ?_) (fun h9 => ?_)
    · replace hs := hs.1 h9
      refine tm_go 1 (pc' := 117) (L' := [some (.ref 7), some (.int y85_1), some (.int y85_2), some (.int y85_3), some (.int y85_4), some (.int y85_5), some (.int y85_6), some (.int y85_7), z8, z9, z10]) (S' := [.int 0, .int y85_1, .ref 21]) (w' := (sJ w 20 ys85_1.toInt.toNat ys85_0)) rfl ?_
      exact tx_St_push_117 hs 
    · replace hs := hs.2 h9
      refine tm_go 4 (pc' := 117) (L' := [some (.ref 7), some (.int y85_1), some (.int y85_2), some (.int y85_3), some (.int y85_4), some (.int y85_5), some (.int y85_6), some (.int y85_7), z8, z9, z10]) (S' := [.int (y85_6 + (1 : Int32)), .int y85_1, .ref 21]) (w' := (sJ w 20 ys85_1.toInt.toNat ys85_0)) rfl ?_
      exact tx_St_push_117 hs 
  · replace hs := hs.2 h8
    refine tm_go 2 (pc' := 117) (L' := [some (.ref 7), some (.int y85_1), some (.int y85_2), some (.int y85_3), some (.int y85_4), some (.int y85_5), some (.int y85_6), some (.int y85_7), z8, z9, z10]) (S' := [.int y85_6, .int y85_1, .ref 21]) (w' := (sJ w 20 ys85_1.toInt.toNat ys85_0)) rfl ?_
    exact tx_St_push_117 hs 
set_option maxHeartbeats 4000000 in
set_option maxRecDepth 100000 in
theorem dm_St_push {d : Nat} {w : MW} {a0 : Int32} {b0 : Int32} {c0 : Int32} {e0 : Int32} {Q : Int32 → MW → Prop} (hs : p_St_push w a0 b0 c0 e0 Q) : Tc (d + 2) 254 [.ref 7, .int a0, .int b0, .int c0, .int e0] w (RZ Q) := by
  unfold p_St_push at hs
  refine tm_go 1 (pc' := 1) (L' := [some (.ref 7), some (.int a0), some (.int b0), some (.int c0), some (.int e0), none, none, none, none, none, none]) (S' := [.ref 7]) (w' := w) rfl ?_
  obtain ⟨b1, hs⟩ := hs
  refine tm_g (pc' := 4) (k := 7) (j := 0) rfl b1 ?_
  refine tm_go 2 (pc' := 8) (L' := [some (.ref 7), some (.int a0), some (.int b0), some (.int c0), some (.int e0), none, none, none, none, none, none]) (S' := [.int a0, .ref 12]) (w' := w) rfl ?_
  obtain ⟨b2, hs⟩ := hs
  refine tm_k (pc' := 9) (L' := [some (.ref 7), some (.int a0), some (.int b0), some (.int c0), some (.int e0), none, none, none, none, none, none]) (S' := [.int (w.1 12 a0.toInt.toNat)]) (w' := w) rfl b2 ?_
  refine tm_go 4 (pc' := 14) (L' := [some (.ref 7), some (.int a0), some (.int b0), some (.int c0), some (.int e0), some (.int (w.1 12 a0.toInt.toNat)), none, none, none, none, none]) (S' := [.int b0, .int a0, .ref 7]) (w' := w) rfl ?_
  refine tm_c rfl (Nat.le_of_ble_eq_true rfl) (dm_St_leavingCell (d := d + 1) hs) (fun v w3 hq => ?_)
  obtain ⟨r3, rfl, hs⟩ := hq
  refine tm_go 4 (pc' := 23) (L' := [some (.ref 7), some (.int a0), some (.int b0), some (.int c0), some (.int e0), some (.int (w.1 12 a0.toInt.toNat)), some (.int r3), none, none, none, none]) (S' := [.int r3, .int a0, .ref 7]) (w' := w3) rfl ?_
  refine tm_c rfl (Nat.le_of_ble_eq_true rfl) (dm_St_isFull (d := d + 1) hs) (fun v w4 hq => ?_)
  obtain ⟨r4, rfl, hz4, hs⟩ := hq
  refine tm_go 19 (pc' := 55) (L' := [some (.ref 7), some (.int a0), some (.int b0), some (.int c0), some (.int e0), some (.int (w.1 12 a0.toInt.toNat)), some (.int r3), some (.int r4), some (.long ((1 : Int64) <<< ((r3 &&& (63 : Int32)).toInt64 &&& 63))), none, some (.int ((a0 * (4 : Int32)) + (r3 >>> ((6 : Int32) &&& 31))))]) (S' := [.int c0, .int ((a0 * (4 : Int32)) + (r3 >>> ((6 : Int32) &&& 31))), .ref 20]) (w' := w4) rfl ?_
  refine tm_i (p1 := 71) (p2 := 58) rfl (fun h5 => ?_) (fun h5 => ?_)
  · replace hs := hs.1 h5
    refine tm_go 3 (pc' := 77) (L' := [some (.ref 7), some (.int a0), some (.int b0), some (.int c0), some (.int e0), some (.int (w.1 12 a0.toInt.toNat)), some (.int r3), some (.int r4), some (.long ((1 : Int64) <<< ((r3 &&& (63 : Int32)).toInt64 &&& 63))), none, some (.int ((a0 * (4 : Int32)) + (r3 >>> ((6 : Int32) &&& 31))))]) (S' := [.int ((a0 * (4 : Int32)) + (r3 >>> ((6 : Int32) &&& 31))), .ref 20, .int ((a0 * (4 : Int32)) + (r3 >>> ((6 : Int32) &&& 31))), .ref 20]) (w' := w4) rfl ?_
    obtain ⟨b6, hs⟩ := hs
    refine tm_k (pc' := 78) (L' := [some (.ref 7), some (.int a0), some (.int b0), some (.int c0), some (.int e0), some (.int (w.1 12 a0.toInt.toNat)), some (.int r3), some (.int r4), some (.long ((1 : Int64) <<< ((r3 &&& (63 : Int32)).toInt64 &&& 63))), none, some (.int ((a0 * (4 : Int32)) + (r3 >>> ((6 : Int32) &&& 31))))]) (S' := [.long (w4.2.1 20 (((a0 * (4 : Int32)) + (r3 >>> ((6 : Int32) &&& 31))).toInt.toNat)), .int ((a0 * (4 : Int32)) + (r3 >>> ((6 : Int32) &&& 31))), .ref 20]) (w' := w4) rfl b6 ?_
    refine tm_go 4 (pc' := 85) (L' := [some (.ref 7), some (.int a0), some (.int b0), some (.int c0), some (.int e0), some (.int (w.1 12 a0.toInt.toNat)), some (.int r3), some (.int r4), some (.long ((1 : Int64) <<< ((r3 &&& (63 : Int32)).toInt64 &&& 63))), none, some (.int ((a0 * (4 : Int32)) + (r3 >>> ((6 : Int32) &&& 31))))]) (S' := [.long ((w4.2.1 20 (((a0 * (4 : Int32)) + (r3 >>> ((6 : Int32) &&& 31))).toInt.toNat)) &&& (((1 : Int64) <<< ((r3 &&& (63 : Int32)).toInt64 &&& 63)) ^^^ ((-1) : Int64))), .int ((a0 * (4 : Int32)) + (r3 >>> ((6 : Int32) &&& 31))), .ref 20]) (w' := w4) rfl ?_
    exact tx_St_push_85 hs 
  · replace hs := hs.2 h5
    refine tm_go 3 (pc' := 64) (L' := [some (.ref 7), some (.int a0), some (.int b0), some (.int c0), some (.int e0), some (.int (w.1 12 a0.toInt.toNat)), some (.int r3), some (.int r4), some (.long ((1 : Int64) <<< ((r3 &&& (63 : Int32)).toInt64 &&& 63))), none, some (.int ((a0 * (4 : Int32)) + (r3 >>> ((6 : Int32) &&& 31))))]) (S' := [.int ((a0 * (4 : Int32)) + (r3 >>> ((6 : Int32) &&& 31))), .ref 20, .int ((a0 * (4 : Int32)) + (r3 >>> ((6 : Int32) &&& 31))), .ref 20]) (w' := w4) rfl ?_
    obtain ⟨b19, hs⟩ := hs
    refine tm_k (pc' := 65) (L' := [some (.ref 7), some (.int a0), some (.int b0), some (.int c0), some (.int e0), some (.int (w.1 12 a0.toInt.toNat)), some (.int r3), some (.int r4), some (.long ((1 : Int64) <<< ((r3 &&& (63 : Int32)).toInt64 &&& 63))), none, some (.int ((a0 * (4 : Int32)) + (r3 >>> ((6 : Int32) &&& 31))))]) (S' := [.long (w4.2.1 20 (((a0 * (4 : Int32)) + (r3 >>> ((6 : Int32) &&& 31))).toInt.toNat)), .int ((a0 * (4 : Int32)) + (r3 >>> ((6 : Int32) &&& 31))), .ref 20]) (w' := w4) rfl b19 ?_
    refine tm_go 3 (pc' := 85) (L' := [some (.ref 7), some (.int a0), some (.int b0), some (.int c0), some (.int e0), some (.int (w.1 12 a0.toInt.toNat)), some (.int r3), some (.int r4), some (.long ((1 : Int64) <<< ((r3 &&& (63 : Int32)).toInt64 &&& 63))), none, some (.int ((a0 * (4 : Int32)) + (r3 >>> ((6 : Int32) &&& 31))))]) (S' := [.long ((w4.2.1 20 (((a0 * (4 : Int32)) + (r3 >>> ((6 : Int32) &&& 31))).toInt.toNat)) ||| ((1 : Int64) <<< ((r3 &&& (63 : Int32)).toInt64 &&& 63))), .int ((a0 * (4 : Int32)) + (r3 >>> ((6 : Int32) &&& 31))), .ref 20]) (w' := w4) rfl ?_
    exact tx_St_push_85 hs 
set_option maxHeartbeats 4000000 in
set_option maxRecDepth 100000 in
theorem dm_St_wouldLeave {d : Nat} {w : MW} {a0 : Int32} {b0 : Int32} {Q : Int32 → MW → Prop} (hs : p_St_wouldLeave w a0 b0 Q) : Tc (d + 1) 253 [.ref 7, .int a0, .int b0] w (RZ Q) := by
  unfold p_St_wouldLeave at hs
  refine tm_go 5 (pc' := 5) (L' := [some (.ref 7), some (.int a0), some (.int b0)]) (S' := [.int b0, .int a0, .ref 7, .int a0, .ref 7]) (w' := w) rfl ?_
  refine tm_c rfl (Nat.le_of_ble_eq_true rfl) (dm_St_leavingCell (d := d + 0) hs) (fun v w1 hq => ?_)
  obtain ⟨r1, rfl, hs⟩ := hq
  refine tm_c rfl (Nat.le_of_ble_eq_true rfl) (dm_St_isFull (d := d + 0) hs) (fun v w2 hq => ?_)
  obtain ⟨r2, rfl, hz2, hs⟩ := hq
  exact tm_rk rfl hz2 ⟨_, rfl, hz2, hs⟩
set_option maxHeartbeats 4000000 in
set_option maxRecDepth 100000 in
theorem dm_Wa_goesForth {d : Nat} {w : MW} {a0 : Int32} {Q : Int32 → MW → Prop} (hs : p_Wa_goesForth w a0 Q) : Tc (d + 0) 277 [.ref 26, .int a0] w (RZ Q) := by
  unfold p_Wa_goesForth at hs
  refine tm_go 3 (pc' := 5) (L' := [some (.ref 26), some (.int a0)]) (S' := [.int a0, .ref 34]) (w' := w) rfl ?_
  obtain ⟨b1, hs⟩ := hs
  refine tm_k (pc' := 6) (L' := [some (.ref 26), some (.int a0)]) (S' := [.int (w.1 34 a0.toInt.toNat)]) (w' := w) rfl b1 ?_
  refine tm_go 3 (pc' := 9) (L' := [some (.ref 26), some (.int a0)]) (S' := [.int 1, .int ((w.1 34 a0.toInt.toNat) &&& (1 : Int32))]) (w' := w) rfl ?_
  refine tm_i (p1 := 16) (p2 := 12) rfl (fun h2 => ?_) (fun h2 => ?_)
  · replace hs := hs.1 h2
    refine tm_go 1 (pc' := 17) (L' := [some (.ref 26), some (.int a0)]) (S' := [.int 0]) (w' := w) rfl ?_
    exact tm_r rfl ⟨_, rfl, by decide, hs⟩
  · replace hs := hs.2 h2
    refine tm_go 2 (pc' := 17) (L' := [some (.ref 26), some (.int a0)]) (S' := [.int 1]) (w' := w) rfl ?_
    exact tm_r rfl ⟨_, rfl, by decide, hs⟩
set_option maxHeartbeats 4000000 in
set_option maxRecDepth 100000 in
theorem tx_Wa_movesLitre_126 {d : Nat} {x126_1 : Int32} {x126_2 : Int32} {x126_3 : Int32} {E : Int32 → MW → Prop} {Q : Int32 → MW → Prop} (n : Nat) : ∀ (x126_4 : Int32) (x126_5 : Int32) (x126_6 : Int32)   (w : MW), q_Wa_movesLitre_126 x126_1 x126_2 x126_3 E Q n x126_4 x126_5 x126_6 w → (∀ (e126_4 : Int32)  (v1 : Option Value) (v5 : Option Value) (v6 : Option Value) (w : MW), E e126_4 w → Tm (d + 3) 276 177 [some (.ref 26), v1, some (.int x126_2), some (.int x126_3), some (.int e126_4), v5, v6] [] w (RZ Q)) → Tm (d + 3) 276 126 [some (.ref 26), some (.int x126_1), some (.int x126_2), some (.int x126_3), some (.int x126_4), some (.int x126_5), some (.int x126_6)] [] w (RZ Q) := by
  induction n with
  | zero => intro x126_4 x126_5 x126_6  w hs; rw [q_Wa_movesLitre_126.eq_1] at hs; exact hs.elim
  | succ n ih =>
    intro x126_4 x126_5 x126_6  w hs hE
    rw [q_Wa_movesLitre_126.eq_2] at hs
    refine tm_go 4 (pc' := 133) (L' := [some (.ref 26), some (.int x126_1), some (.int x126_2), some (.int x126_3), some (.int x126_4), some (.int x126_5), some (.int x126_6)]) (S' := [.int x126_1, .ref 31, .int x126_6]) (w' := w) rfl ?_
    obtain ⟨b14, hs⟩ := hs
    refine tm_k (pc' := 134) (L' := [some (.ref 26), some (.int x126_1), some (.int x126_2), some (.int x126_3), some (.int x126_4), some (.int x126_5), some (.int x126_6)]) (S' := [.int (w.1 31 x126_1.toInt.toNat), .int x126_6]) (w' := w) rfl b14 ?_
    refine tm_i (p1 := 177) (p2 := 137) rfl (fun h15 => ?_) (fun h15 => ?_)
    · replace hs := hs.1 h15
      exact hE _ _ _ _ _ hs
    · replace hs := hs.2 h15
      refine tm_go 1 (pc' := 139) (L' := [some (.ref 26), some (.int x126_1), some (.int x126_2), some (.int x126_3), some (.int x126_4), some (.int x126_5), some (.int x126_6)]) (S' := [.int x126_5]) (w' := w) rfl ?_
      refine tm_i (p1 := 177) (p2 := 142) rfl (fun h16 => ?_) (fun h16 => ?_)
      · replace hs := hs.1 h16
        exact hE _ _ _ _ _ hs
      · replace hs := hs.2 h16
        refine tm_go 5 (pc' := 151) (L' := [some (.ref 26), some (.int x126_1), some (.int x126_2), some (.int x126_3), some (.int x126_4), some (.int x126_5), some (.int x126_6)]) (S' := [.int x126_5, .ref 26, .int x126_5, .ref 7]) (w' := w) rfl ?_
        refine tm_c rfl (Nat.le_of_ble_eq_true rfl) (dm_Wa_goesForth (d := d + 2) hs) (fun v w17 hq => ?_)
        obtain ⟨r17, rfl, hz17, hs⟩ := hq
        refine tm_go 2 (pc' := 157) (L' := [some (.ref 26), some (.int x126_1), some (.int x126_2), some (.int x126_3), some (.int x126_4), some (.int x126_5), some (.int x126_6)]) (S' := [.int x126_2, .int x126_4, .int r17, .int x126_5, .ref 7]) (w' := w17) rfl ?_
        refine tm_c rfl (Nat.le_of_ble_eq_true rfl) (dm_St_push (d := d + 0) hs) (fun v w18 hq => ?_)
        obtain ⟨r18, rfl, hz18, hs⟩ := hq
        refine tm_go 4 (pc' := 168) (L' := [some (.ref 26), some (.int x126_1), some (.int x126_2), some (.int x126_3), some (.int r18), some (.int x126_5), some (.int x126_6)]) (S' := [.int x126_5, .ref 35]) (w' := w18) rfl ?_
        obtain ⟨b19, hs⟩ := hs
        refine tm_k (pc' := 169) (L' := [some (.ref 26), some (.int x126_1), some (.int x126_2), some (.int x126_3), some (.int r18), some (.int x126_5), some (.int x126_6)]) (S' := [.int (w18.1 35 x126_5.toInt.toNat)]) (w' := w18) rfl b19 ?_
        refine tm_go 3 (pc' := 126) (L' := [some (.ref 26), some (.int x126_1), some (.int x126_2), some (.int x126_3), some (.int r18), some (.int (w18.1 35 x126_5.toInt.toNat)), some (.int (x126_6 + (1 : Int32)))]) (S' := []) (w' := w18) rfl ?_
        exact ih _ _ _ _ hs hE
set_option maxHeartbeats 4000000 in
set_option maxRecDepth 100000 in
theorem tx_Wa_movesLitre_98 {d : Nat} {y98_1 : Int32} {y98_2 : Int32} {y98_3 : Int32} {z4 : Option Value} {z5 : Option Value} {z6 : Option Value} {w : MW} {Q : Int32 → MW → Prop} (hs : q_Wa_movesLitre_98 y98_1 y98_2 y98_3 w Q) : Tm (d + 3) 276 98 [some (.ref 26), some (.int y98_1), some (.int y98_2), some (.int y98_3), z4, z5, z6] [] w (RZ Q) := by
  unfold q_Wa_movesLitre_98 at hs
  refine tm_go 5 (pc' := 107) (L' := [some (.ref 26), some (.int y98_1), some (.int y98_2), some (.int y98_3), z4, z5, z6]) (S' := [.int y98_1, .ref 27, .ref 7]) (w' := w) rfl ?_
  obtain ⟨b11, hs⟩ := hs
  refine tm_k (pc' := 108) (L' := [some (.ref 26), some (.int y98_1), some (.int y98_2), some (.int y98_3), z4, z5, z6]) (S' := [.int (w.1 27 y98_1.toInt.toNat), .ref 7]) (w' := w) rfl b11 ?_
  refine tm_go 1 (pc' := 109) (L' := [some (.ref 26), some (.int y98_1), some (.int y98_2), some (.int y98_3), z4, z5, z6]) (S' := [.int 1, .int (w.1 27 y98_1.toInt.toNat), .ref 7]) (w' := w) rfl ?_
  refine tm_c rfl (Nat.le_of_ble_eq_true rfl) (dm_St_leave (d := d + 1) hs) (fun v w12 hq => ?_)
  obtain ⟨rfl, hs⟩ := hq
  refine tm_go 5 (pc' := 120) (L' := [some (.ref 26), some (.int y98_1), some (.int y98_2), some (.int y98_3), some (.int 1), z5, z6]) (S' := [.int y98_1, .ref 32]) (w' := w12) rfl ?_
  obtain ⟨b13, hs⟩ := hs
  refine tm_k (pc' := 121) (L' := [some (.ref 26), some (.int y98_1), some (.int y98_2), some (.int y98_3), some (.int 1), z5, z6]) (S' := [.int (w12.1 32 y98_1.toInt.toNat)]) (w' := w12) rfl b13 ?_
  refine tm_go 3 (pc' := 126) (L' := [some (.ref 26), some (.int y98_1), some (.int y98_2), some (.int y98_3), some (.int 1), some (.int (w12.1 32 y98_1.toInt.toNat)), some (.int 0)]) (S' := []) (w' := w12) rfl ?_
  refine tx_Wa_movesLitre_126 FU _ _ _ _ hs (fun e126_4_20 z20_1 z20_5 z20_6 w20 hs => ?_)
  refine tm_go 1 (pc' := 179) (L' := [some (.ref 26), z20_1, some (.int y98_2), some (.int y98_3), some (.int e126_4_20), z20_5, z20_6]) (S' := [.int e126_4_20]) (w' := w20) rfl ?_
  refine tm_i (p1 := 192) (p2 := 182) rfl (fun h21 => ?_) (fun h21 => ?_)
  · replace hs := hs.1 h21
    refine tm_go 1 (pc' := 193) (L' := [some (.ref 26), z20_1, some (.int y98_2), some (.int y98_3), some (.int e126_4_20), z20_5, z20_6]) (S' := [.int 1]) (w' := w20) rfl ?_
    exact tm_r rfl ⟨_, rfl, by decide, hs⟩
  · replace hs := hs.2 h21
    refine tm_go 5 (pc' := 189) (L' := [some (.ref 26), z20_1, some (.int y98_2), some (.int y98_3), some (.int e126_4_20), z20_5, z20_6]) (S' := [.int 1, .int y98_2, .int y98_3, .ref 7]) (w' := w20) rfl ?_
    refine tm_c rfl (Nat.le_of_ble_eq_true rfl) (dm_St_arrive (d := d + 1) hs) (fun v w22 hq => ?_)
    obtain ⟨rfl, hs⟩ := hq
    refine tm_go 1 (pc' := 193) (L' := [some (.ref 26), z20_1, some (.int y98_2), some (.int y98_3), some (.int e126_4_20), z20_5, z20_6]) (S' := [.int 1]) (w' := w22) rfl ?_
    exact tm_r rfl ⟨_, rfl, by decide, hs⟩
set_option maxHeartbeats 4000000 in
set_option maxRecDepth 100000 in
theorem dm_Wa_movesLitre {d : Nat} {w : MW} {a0 : Int32} {Q : Int32 → MW → Prop} (hs : p_Wa_movesLitre w a0 Q) : Tc (d + 3) 276 [.ref 26, .int a0] w (RZ Q) := by
  unfold p_Wa_movesLitre at hs
  refine tm_go 3 (pc' := 5) (L' := [some (.ref 26), some (.int a0), none, none, none, none, none]) (S' := [.int a0, .ref 30]) (w' := w) rfl ?_
  obtain ⟨b1, hs⟩ := hs
  refine tm_k (pc' := 6) (L' := [some (.ref 26), some (.int a0), none, none, none, none, none]) (S' := [.int (w.1 30 a0.toInt.toNat)]) (w' := w) rfl b1 ?_
  refine tm_go 4 (pc' := 12) (L' := [some (.ref 26), some (.int a0), some (.int (w.1 30 a0.toInt.toNat)), none, none, none, none]) (S' := [.int a0, .ref 28]) (w' := w) rfl ?_
  obtain ⟨b2, hs⟩ := hs
  refine tm_k (pc' := 13) (L' := [some (.ref 26), some (.int a0), some (.int (w.1 30 a0.toInt.toNat)), none, none, none, none]) (S' := [.int (w.1 28 a0.toInt.toNat)]) (w' := w) rfl b2 ?_
  refine tm_go 7 (pc' := 26) (L' := [some (.ref 26), some (.int a0), some (.int (w.1 30 a0.toInt.toNat)), some (.int (w.1 28 a0.toInt.toNat)), none, none, none]) (S' := [.int a0, .ref 27, .ref 17]) (w' := w) rfl ?_
  obtain ⟨b3, hs⟩ := hs
  refine tm_k (pc' := 27) (L' := [some (.ref 26), some (.int a0), some (.int (w.1 30 a0.toInt.toNat)), some (.int (w.1 28 a0.toInt.toNat)), none, none, none]) (S' := [.int (w.1 27 a0.toInt.toNat), .ref 17]) (w' := w) rfl b3 ?_
  obtain ⟨b4, hs⟩ := hs
  refine tm_k (pc' := 28) (L' := [some (.ref 26), some (.int a0), some (.int (w.1 30 a0.toInt.toNat)), some (.int (w.1 28 a0.toInt.toNat)), none, none, none]) (S' := [.int (w.1 17 ((w.1 27 a0.toInt.toNat).toInt.toNat))]) (w' := w) rfl b4 ?_
  refine tm_go 1 (pc' := 29) (L' := [some (.ref 26), some (.int a0), some (.int (w.1 30 a0.toInt.toNat)), some (.int (w.1 28 a0.toInt.toNat)), none, none, none]) (S' := [.int (w.1 30 a0.toInt.toNat), .int (w.1 17 ((w.1 27 a0.toInt.toNat).toInt.toNat))]) (w' := w) rfl ?_
  refine tm_i (p1 := 34) (p2 := 32) rfl (fun h5 => ?_) (fun h5 => ?_)
  · replace hs := hs.1 h5
    refine tm_go 5 (pc' := 43) (L' := [some (.ref 26), some (.int a0), some (.int (w.1 30 a0.toInt.toNat)), some (.int (w.1 28 a0.toInt.toNat)), none, none, none]) (S' := [.int a0, .ref 33, .ref 7]) (w' := w) rfl ?_
    obtain ⟨b6, hs⟩ := hs
    refine tm_k (pc' := 44) (L' := [some (.ref 26), some (.int a0), some (.int (w.1 30 a0.toInt.toNat)), some (.int (w.1 28 a0.toInt.toNat)), none, none, none]) (S' := [.int (w.1 33 a0.toInt.toNat), .ref 7]) (w' := w) rfl b6 ?_
    refine tm_go 4 (pc' := 50) (L' := [some (.ref 26), some (.int a0), some (.int (w.1 30 a0.toInt.toNat)), some (.int (w.1 28 a0.toInt.toNat)), none, none, none]) (S' := [.int a0, .ref 33, .ref 26, .int (w.1 33 a0.toInt.toNat), .ref 7]) (w' := w) rfl ?_
    obtain ⟨b7, hs⟩ := hs
    refine tm_k (pc' := 51) (L' := [some (.ref 26), some (.int a0), some (.int (w.1 30 a0.toInt.toNat)), some (.int (w.1 28 a0.toInt.toNat)), none, none, none]) (S' := [.int (w.1 33 a0.toInt.toNat), .ref 26, .int (w.1 33 a0.toInt.toNat), .ref 7]) (w' := w) rfl b7 ?_
    refine tm_c rfl (Nat.le_of_ble_eq_true rfl) (dm_Wa_goesForth (d := d + 2) hs) (fun v w8 hq => ?_)
    obtain ⟨r8, rfl, hz8, hs⟩ := hq
    refine tm_c rfl (Nat.le_of_ble_eq_true rfl) (dm_St_wouldLeave (d := d + 1) hs) (fun v w9 hq => ?_)
    obtain ⟨r9, rfl, hz9, hs⟩ := hq
    refine tm_i (p1 := 98) (p2 := 60) rfl (fun h10 => ?_) (fun h10 => ?_)
    · replace hs := hs.1 h10
      exact tx_Wa_movesLitre_98 hs 
    · replace hs := hs.2 h10
      refine tm_go 4 (pc' := 68) (L' := [some (.ref 26), some (.int a0), some (.int (w.1 30 a0.toInt.toNat)), some (.int (w.1 28 a0.toInt.toNat)), none, none, none]) (S' := [.int (w.1 28 a0.toInt.toNat), .ref 18]) (w' := w9) rfl ?_
      obtain ⟨b23, hs⟩ := hs
      refine tm_k (pc' := 69) (L' := [some (.ref 26), some (.int a0), some (.int (w.1 30 a0.toInt.toNat)), some (.int (w.1 28 a0.toInt.toNat)), none, none, none]) (S' := [.int (w9.1 18 ((w.1 28 a0.toInt.toNat).toInt.toNat))]) (w' := w9) rfl b23 ?_
      refine tm_go 2 (pc' := 73) (L' := [some (.ref 26), some (.int a0), some (.int (w.1 30 a0.toInt.toNat)), some (.int (w.1 28 a0.toInt.toNat)), none, none, none]) (S' := [.ref 7, .int (w9.1 18 ((w.1 28 a0.toInt.toNat).toInt.toNat))]) (w' := w9) rfl ?_
      obtain ⟨b24, hs⟩ := hs
      refine tm_g (pc' := 76) (k := 7) (j := 0) rfl b24 ?_
      refine tm_go 2 (pc' := 80) (L' := [some (.ref 26), some (.int a0), some (.int (w.1 30 a0.toInt.toNat)), some (.int (w.1 28 a0.toInt.toNat)), none, none, none]) (S' := [.int (w.1 28 a0.toInt.toNat), .ref 10, .int (w9.1 18 ((w.1 28 a0.toInt.toNat).toInt.toNat))]) (w' := w9) rfl ?_
      obtain ⟨b25, hs⟩ := hs
      refine tm_k (pc' := 81) (L' := [some (.ref 26), some (.int a0), some (.int (w.1 30 a0.toInt.toNat)), some (.int (w.1 28 a0.toInt.toNat)), none, none, none]) (S' := [.int (w9.1 10 ((w.1 28 a0.toInt.toNat).toInt.toNat)), .int (w9.1 18 ((w.1 28 a0.toInt.toNat).toInt.toNat))]) (w' := w9) rfl b25 ?_
      refine tm_i (p1 := 96) (p2 := 84) rfl (fun h26 => ?_) (fun h26 => ?_)
      · replace hs := hs.1 h26
        refine tm_go 1 (pc' := 97) (L' := [some (.ref 26), some (.int a0), some (.int (w.1 30 a0.toInt.toNat)), some (.int (w.1 28 a0.toInt.toNat)), none, none, none]) (S' := [.int 0]) (w' := w9) rfl ?_
        exact tm_r rfl ⟨_, rfl, by decide, hs⟩
      · replace hs := hs.2 h26
        refine tm_go 4 (pc' := 90) (L' := [some (.ref 26), some (.int a0), some (.int (w.1 30 a0.toInt.toNat)), some (.int (w.1 28 a0.toInt.toNat)), none, none, none]) (S' := [.int (w.1 30 a0.toInt.toNat), .int (w.1 28 a0.toInt.toNat), .ref 7]) (w' := w9) rfl ?_
        refine tm_c rfl (Nat.le_of_ble_eq_true rfl) (dm_St_mayCome (d := d + 0) hs) (fun v w27 hq => ?_)
        obtain ⟨r27, rfl, hz27, hs⟩ := hq
        refine tm_i (p1 := 98) (p2 := 96) rfl (fun h28 => ?_) (fun h28 => ?_)
        · replace hs := hs.1 h28
          exact tx_Wa_movesLitre_98 hs 
        · replace hs := hs.2 h28
          refine tm_go 1 (pc' := 97) (L' := [some (.ref 26), some (.int a0), some (.int (w.1 30 a0.toInt.toNat)), some (.int (w.1 28 a0.toInt.toNat)), none, none, none]) (S' := [.int 0]) (w' := w27) rfl ?_
          exact tm_r rfl ⟨_, rfl, by decide, hs⟩
  · replace hs := hs.2 h5
    refine tm_go 1 (pc' := 33) (L' := [some (.ref 26), some (.int a0), some (.int (w.1 30 a0.toInt.toNat)), some (.int (w.1 28 a0.toInt.toNat)), none, none, none]) (S' := [.int 0]) (w' := w) rfl ?_
    exact tm_r rfl ⟨_, rfl, by decide, hs⟩
