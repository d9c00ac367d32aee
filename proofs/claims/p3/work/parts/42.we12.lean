set_option maxHeartbeats 4000000 in
set_option maxRecDepth 100000 in
theorem tx_Tx_meaning_395 {d : Nat} {y395_1 : Int32} {y395_2 : Int32} {ys395_0 : Int32} {z0 : Option Value} {z3 : Option Value} {w : MW} {Q : Int32 → MW → Prop} (hs : q_Tx_meaning_395 y395_1 y395_2 ys395_0 w Q) : Tm (d + 1) 308 395 [z0, some (.int y395_1), some (.int y395_2), z3] [.int ys395_0] w (RI Q) := by
  unfold q_Tx_meaning_395 at hs
  refine tm_go 3 (pc' := 398) (L' := [z0, some (.int y395_1), some (.int y395_2), some (.int ys395_0)]) (S' := [.int (-1), .int y395_1]) (w' := w) rfl ?_
  refine tm_i (p1 := 405) (p2 := 401) rfl (fun h53 => ?_) (fun h53 => ?_)
  · replace hs := hs.1 h53
    refine tm_go 2 (pc' := 407) (L' := [z0, some (.int y395_1), some (.int y395_2), some (.int ys395_0)]) (S' := [.int (-1), .int y395_2]) (w' := w) rfl ?_
    refine tm_i (p1 := 414) (p2 := 410) rfl (fun h54 => ?_) (fun h54 => ?_)
    · replace hs := hs.1 h54
      refine tm_go 1 (pc' := 415) (L' := [z0, some (.int y395_1), some (.int y395_2), some (.int ys395_0)]) (S' := [.int ys395_0]) (w' := w) rfl ?_
      exact tm_r rfl ⟨_, rfl, hs⟩
    · replace hs := hs.2 h54
      refine tm_go 2 (pc' := 415) (L' := [z0, some (.int y395_1), some (.int y395_2), some (.int ys395_0)]) (S' := [.int y395_2]) (w' := w) rfl ?_
      exact tm_r rfl ⟨_, rfl, hs⟩
  · replace hs := hs.2 h53
    refine tm_go 2 (pc' := 415) (L' := [z0, some (.int y395_1), some (.int y395_2), some (.int ys395_0)]) (S' := [.int y395_1]) (w' := w) rfl ?_
    exact tm_r rfl ⟨_, rfl, hs⟩
set_option maxHeartbeats 4000000 in
set_option maxRecDepth 100000 in
theorem tx_Tx_meaning_258 {d : Nat} {y258_1 : Int32} {ys258_0 : Int32} {z2 : Option Value} {z3 : Option Value} {w : MW} {Q : Int32 → MW → Prop} (hs : q_Tx_meaning_258 y258_1 ys258_0 w Q) : Tm (d + 1) 308 258 [some (.ref 129), some (.int y258_1), z2, z3] [.int ys258_0] w (RI Q) := by
  unfold q_Tx_meaning_258 at hs
  refine tm_go 3 (pc' := 263) (L' := [some (.ref 129), some (.int y258_1), some (.int ys258_0), z3]) (S' := [.long 1702063205, .ref 129]) (w' := w) rfl ?_
  refine tm_c rfl (Nat.le_of_ble_eq_true rfl) (dm_Tx_is (d := d + 0) hs) (fun v w35 hq => ?_)
  obtain ⟨r35, rfl, hz35, hs⟩ := hq
  refine tm_i (p1 := 274) (p2 := 269) rfl (fun h36 => ?_) (fun h36 => ?_)
  · replace hs := hs.1 h36
    refine tm_go 2 (pc' := 278) (L' := [some (.ref 129), some (.int y258_1), some (.int ys258_0), z3]) (S' := [.long 1852139636, .ref 129]) (w' := w35) rfl ?_
    refine tm_c rfl (Nat.le_of_ble_eq_true rfl) (dm_Tx_is (d := d + 0) hs) (fun v w37 hq => ?_)
    obtain ⟨r37, rfl, hz37, hs⟩ := hq
    refine tm_i (p1 := 289) (p2 := 284) rfl (fun h38 => ?_) (fun h38 => ?_)
    · replace hs := hs.1 h38
      refine tm_go 2 (pc' := 293) (L' := [some (.ref 129), some (.int y258_1), some (.int ys258_0), z3]) (S' := [.long 108, .ref 129]) (w' := w37) rfl ?_
      refine tm_c rfl (Nat.le_of_ble_eq_true rfl) (dm_Tx_is (d := d + 0) hs) (fun v w39 hq => ?_)
      obtain ⟨r39, rfl, hz39, hs⟩ := hq
      refine tm_i (p1 := 304) (p2 := 299) rfl (fun h40 => ?_) (fun h40 => ?_)
      · replace hs := hs.1 h40
        refine tm_go 2 (pc' := 308) (L' := [some (.ref 129), some (.int y258_1), some (.int ys258_0), z3]) (S' := [.long 99, .ref 129]) (w' := w39) rfl ?_
        refine tm_c rfl (Nat.le_of_ble_eq_true rfl) (dm_Tx_is (d := d + 0) hs) (fun v w41 hq => ?_)
        obtain ⟨r41, rfl, hz41, hs⟩ := hq
        refine tm_i (p1 := 319) (p2 := 314) rfl (fun h42 => ?_) (fun h42 => ?_)
        · replace hs := hs.1 h42
          refine tm_go 2 (pc' := 323) (L' := [some (.ref 129), some (.int y258_1), some (.int ys258_0), z3]) (S' := [.long 115, .ref 129]) (w' := w41) rfl ?_
          refine tm_c rfl (Nat.le_of_ble_eq_true rfl) (dm_Tx_is (d := d + 0) hs) (fun v w43 hq => ?_)
          obtain ⟨r43, rfl, hz43, hs⟩ := hq
          refine tm_i (p1 := 334) (p2 := 329) rfl (fun h44 => ?_) (fun h44 => ?_)
          · replace hs := hs.1 h44
            refine tm_go 2 (pc' := 338) (L' := [some (.ref 129), some (.int y258_1), some (.int ys258_0), z3]) (S' := [.long 7496034, .ref 129]) (w' := w43) rfl ?_
            refine tm_c rfl (Nat.le_of_ble_eq_true rfl) (dm_Tx_is (d := d + 0) hs) (fun v w45 hq => ?_)
            obtain ⟨r45, rfl, hz45, hs⟩ := hq
            refine tm_i (p1 := 349) (p2 := 344) rfl (fun h46 => ?_) (fun h46 => ?_)
            · replace hs := hs.1 h46
              refine tm_go 2 (pc' := 353) (L' := [some (.ref 129), some (.int y258_1), some (.int ys258_0), z3]) (S' := [.long 1953653104, .ref 129]) (w' := w45) rfl ?_
              refine tm_c rfl (Nat.le_of_ble_eq_true rfl) (dm_Tx_is (d := d + 0) hs) (fun v w47 hq => ?_)
              obtain ⟨r47, rfl, hz47, hs⟩ := hq
              refine tm_i (p1 := 364) (p2 := 359) rfl (fun h48 => ?_) (fun h48 => ?_)
              · replace hs := hs.1 h48
                refine tm_go 2 (pc' := 368) (L' := [some (.ref 129), some (.int y258_1), some (.int ys258_0), z3]) (S' := [.long 7235949, .ref 129]) (w' := w47) rfl ?_
                refine tm_c rfl (Nat.le_of_ble_eq_true rfl) (dm_Tx_is (d := d + 0) hs) (fun v w49 hq => ?_)
                obtain ⟨r49, rfl, hz49, hs⟩ := hq
                refine tm_i (p1 := 379) (p2 := 374) rfl (fun h50 => ?_) (fun h50 => ?_)
                · replace hs := hs.1 h50
                  refine tm_go 2 (pc' := 383) (L' := [some (.ref 129), some (.int y258_1), some (.int ys258_0), z3]) (S' := [.long 104, .ref 129]) (w' := w49) rfl ?_
                  refine tm_c rfl (Nat.le_of_ble_eq_true rfl) (dm_Tx_is (d := d + 0) hs) (fun v w51 hq => ?_)
                  obtain ⟨r51, rfl, hz51, hs⟩ := hq
                  refine tm_i (p1 := 394) (p2 := 389) rfl (fun h52 => ?_) (fun h52 => ?_)
                  · replace hs := hs.1 h52
                    refine tm_go 1 (pc' := 395) (L' := [some (.ref 129), some (.int y258_1), some (.int ys258_0), z3]) (S' := [.int (-1)]) (w' := w51) rfl ?_
                    exact tx_Tx_meaning_395 hs 
                  · replace hs := hs.2 h52
                    refine tm_go 2 (pc' := 395) (L' := [some (.ref 129), some (.int y258_1), some (.int ys258_0), z3]) (S' := [.int 46]) (w' := w51) rfl ?_
                    exact tx_Tx_meaning_395 hs 
                · replace hs := hs.2 h50
                  refine tm_go 2 (pc' := 395) (L' := [some (.ref 129), some (.int y258_1), some (.int ys258_0), z3]) (S' := [.int 45]) (w' := w49) rfl ?_
                  exact tx_Tx_meaning_395 hs 
              · replace hs := hs.2 h48
                refine tm_go 2 (pc' := 395) (L' := [some (.ref 129), some (.int y258_1), some (.int ys258_0), z3]) (S' := [.int 44]) (w' := w47) rfl ?_
                exact tx_Tx_meaning_395 hs 
            · replace hs := hs.2 h46
              refine tm_go 2 (pc' := 395) (L' := [some (.ref 129), some (.int y258_1), some (.int ys258_0), z3]) (S' := [.int 43]) (w' := w45) rfl ?_
              exact tx_Tx_meaning_395 hs 
          · replace hs := hs.2 h44
            refine tm_go 2 (pc' := 395) (L' := [some (.ref 129), some (.int y258_1), some (.int ys258_0), z3]) (S' := [.int 42]) (w' := w43) rfl ?_
            exact tx_Tx_meaning_395 hs 
        · replace hs := hs.2 h42
          refine tm_go 2 (pc' := 395) (L' := [some (.ref 129), some (.int y258_1), some (.int ys258_0), z3]) (S' := [.int 41]) (w' := w41) rfl ?_
          exact tx_Tx_meaning_395 hs 
      · replace hs := hs.2 h40
        refine tm_go 2 (pc' := 395) (L' := [some (.ref 129), some (.int y258_1), some (.int ys258_0), z3]) (S' := [.int 40]) (w' := w39) rfl ?_
        exact tx_Tx_meaning_395 hs 
    · replace hs := hs.2 h38
      refine tm_go 2 (pc' := 395) (L' := [some (.ref 129), some (.int y258_1), some (.int ys258_0), z3]) (S' := [.int 34]) (w' := w37) rfl ?_
      exact tx_Tx_meaning_395 hs 
  · replace hs := hs.2 h36
    refine tm_go 2 (pc' := 395) (L' := [some (.ref 129), some (.int y258_1), some (.int ys258_0), z3]) (S' := [.int 33]) (w' := w35) rfl ?_
    exact tx_Tx_meaning_395 hs 
set_option maxHeartbeats 4000000 in
set_option maxRecDepth 100000 in
theorem tx_Tx_meaning_121 {d : Nat} {ys121_0 : Int32} {z1 : Option Value} {z2 : Option Value} {z3 : Option Value} {w : MW} {Q : Int32 → MW → Prop} (hs : q_Tx_meaning_121 ys121_0 w Q) : Tm (d + 1) 308 121 [some (.ref 129), z1, z2, z3] [.int ys121_0] w (RI Q) := by
  unfold q_Tx_meaning_121 at hs
  refine tm_go 3 (pc' := 126) (L' := [some (.ref 129), some (.int ys121_0), z2, z3]) (S' := [.long 7041889, .ref 129]) (w' := w) rfl ?_
  refine tm_c rfl (Nat.le_of_ble_eq_true rfl) (dm_Tx_is (d := d + 0) hs) (fun v w17 hq => ?_)
  obtain ⟨r17, rfl, hz17, hs⟩ := hq
  refine tm_i (p1 := 137) (p2 := 132) rfl (fun h18 => ?_) (fun h18 => ?_)
  · replace hs := hs.1 h18
    refine tm_go 2 (pc' := 141) (L' := [some (.ref 129), some (.int ys121_0), z2, z3]) (S' := [.long 28516, .ref 129]) (w' := w17) rfl ?_
    refine tm_c rfl (Nat.le_of_ble_eq_true rfl) (dm_Tx_is (d := d + 0) hs) (fun v w19 hq => ?_)
    obtain ⟨r19, rfl, hz19, hs⟩ := hq
    refine tm_i (p1 := 152) (p2 := 147) rfl (fun h20 => ?_) (fun h20 => ?_)
    · replace hs := hs.1 h20
      refine tm_go 2 (pc' := 156) (L' := [some (.ref 129), some (.int ys121_0), z2, z3]) (S' := [.long 1886352499, .ref 129]) (w' := w19) rfl ?_
      refine tm_c rfl (Nat.le_of_ble_eq_true rfl) (dm_Tx_is (d := d + 0) hs) (fun v w21 hq => ?_)
      obtain ⟨r21, rfl, hz21, hs⟩ := hq
      refine tm_i (p1 := 167) (p2 := 162) rfl (fun h22 => ?_) (fun h22 => ?_)
      · replace hs := hs.1 h22
        refine tm_go 2 (pc' := 171) (L' := [some (.ref 129), some (.int ys121_0), z2, z3]) (S' := [.long 1684828008, .ref 129]) (w' := w21) rfl ?_
        refine tm_c rfl (Nat.le_of_ble_eq_true rfl) (dm_Tx_is (d := d + 0) hs) (fun v w23 hq => ?_)
        obtain ⟨r23, rfl, hz23, hs⟩ := hq
        refine tm_i (p1 := 182) (p2 := 177) rfl (fun h24 => ?_) (fun h24 => ?_)
        · replace hs := hs.1 h24
          refine tm_go 2 (pc' := 186) (L' := [some (.ref 129), some (.int ys121_0), z2, z3]) (S' := [.long 7627617, .ref 129]) (w' := w23) rfl ?_
          refine tm_c rfl (Nat.le_of_ble_eq_true rfl) (dm_Tx_is (d := d + 0) hs) (fun v w25 hq => ?_)
          obtain ⟨r25, rfl, hz25, hs⟩ := hq
          refine tm_i (p1 := 197) (p2 := 192) rfl (fun h26 => ?_) (fun h26 => ?_)
          · replace hs := hs.1 h26
            refine tm_go 2 (pc' := 201) (L' := [some (.ref 129), some (.int ys121_0), z2, z3]) (S' := [.long 1885697139, .ref 129]) (w' := w25) rfl ?_
            refine tm_c rfl (Nat.le_of_ble_eq_true rfl) (dm_Tx_is (d := d + 0) hs) (fun v w27 hq => ?_)
            obtain ⟨r27, rfl, hz27, hs⟩ := hq
            refine tm_i (p1 := 212) (p2 := 207) rfl (fun h28 => ?_) (fun h28 => ?_)
            · replace hs := hs.1 h28
              refine tm_go 2 (pc' := 216) (L' := [some (.ref 129), some (.int ys121_0), z2, z3]) (S' := [.long 119165719898483, .ref 129]) (w' := w27) rfl ?_
              refine tm_c rfl (Nat.le_of_ble_eq_true rfl) (dm_Tx_is (d := d + 0) hs) (fun v w29 hq => ?_)
              obtain ⟨r29, rfl, hz29, hs⟩ := hq
              refine tm_i (p1 := 227) (p2 := 222) rfl (fun h30 => ?_) (fun h30 => ?_)
              · replace hs := hs.1 h30
                refine tm_go 2 (pc' := 231) (L' := [some (.ref 129), some (.int ys121_0), z2, z3]) (S' := [.long 128047746676079, .ref 129]) (w' := w29) rfl ?_
                refine tm_c rfl (Nat.le_of_ble_eq_true rfl) (dm_Tx_is (d := d + 0) hs) (fun v w31 hq => ?_)
                obtain ⟨r31, rfl, hz31, hs⟩ := hq
                refine tm_i (p1 := 242) (p2 := 237) rfl (fun h32 => ?_) (fun h32 => ?_)
                · replace hs := hs.1 h32
                  refine tm_go 2 (pc' := 246) (L' := [some (.ref 129), some (.int ys121_0), z2, z3]) (S' := [.long 28265, .ref 129]) (w' := w31) rfl ?_
                  refine tm_c rfl (Nat.le_of_ble_eq_true rfl) (dm_Tx_is (d := d + 0) hs) (fun v w33 hq => ?_)
                  obtain ⟨r33, rfl, hz33, hs⟩ := hq
                  refine tm_i (p1 := 257) (p2 := 252) rfl (fun h34 => ?_) (fun h34 => ?_)
                  · replace hs := hs.1 h34
                    refine tm_go 1 (pc' := 258) (L' := [some (.ref 129), some (.int ys121_0), z2, z3]) (S' := [.int (-1)]) (w' := w33) rfl ?_
                    exact tx_Tx_meaning_258 hs 
                  · replace hs := hs.2 h34
                    refine tm_go 2 (pc' := 258) (L' := [some (.ref 129), some (.int ys121_0), z2, z3]) (S' := [.int 32]) (w' := w33) rfl ?_
                    exact tx_Tx_meaning_258 hs 
                · replace hs := hs.2 h32
                  refine tm_go 2 (pc' := 258) (L' := [some (.ref 129), some (.int ys121_0), z2, z3]) (S' := [.int 31]) (w' := w31) rfl ?_
                  exact tx_Tx_meaning_258 hs 
              · replace hs := hs.2 h30
                refine tm_go 2 (pc' := 258) (L' := [some (.ref 129), some (.int ys121_0), z2, z3]) (S' := [.int 30]) (w' := w29) rfl ?_
                exact tx_Tx_meaning_258 hs 
            · replace hs := hs.2 h28
              refine tm_go 2 (pc' := 258) (L' := [some (.ref 129), some (.int ys121_0), z2, z3]) (S' := [.int 24]) (w' := w27) rfl ?_
              exact tx_Tx_meaning_258 hs 
          · replace hs := hs.2 h26
            refine tm_go 2 (pc' := 258) (L' := [some (.ref 129), some (.int ys121_0), z2, z3]) (S' := [.int 22]) (w' := w25) rfl ?_
            exact tx_Tx_meaning_258 hs 
        · replace hs := hs.2 h24
          refine tm_go 2 (pc' := 258) (L' := [some (.ref 129), some (.int ys121_0), z2, z3]) (S' := [.int 21]) (w' := w23) rfl ?_
          exact tx_Tx_meaning_258 hs 
      · replace hs := hs.2 h22
        refine tm_go 2 (pc' := 258) (L' := [some (.ref 129), some (.int ys121_0), z2, z3]) (S' := [.int 20]) (w' := w21) rfl ?_
        exact tx_Tx_meaning_258 hs 
    · replace hs := hs.2 h20
      refine tm_go 2 (pc' := 258) (L' := [some (.ref 129), some (.int ys121_0), z2, z3]) (S' := [.int 19]) (w' := w19) rfl ?_
      exact tx_Tx_meaning_258 hs 
  · replace hs := hs.2 h18
    refine tm_go 2 (pc' := 258) (L' := [some (.ref 129), some (.int ys121_0), z2, z3]) (S' := [.int 18]) (w' := w17) rfl ?_
    exact tx_Tx_meaning_258 hs 
set_option maxHeartbeats 4000000 in
set_option maxRecDepth 100000 in
theorem dm_Tx_meaning {d : Nat} {w : MW} {Q : Int32 → MW → Prop} (hs : p_Tx_meaning w Q) : Tc (d + 1) 308 [.ref 129] w (RI Q) := by
  unfold p_Tx_meaning at hs
  refine tm_go 2 (pc' := 4) (L' := [some (.ref 129), none, none, none]) (S' := [.long 7628147, .ref 129]) (w' := w) rfl ?_
  refine tm_c rfl (Nat.le_of_ble_eq_true rfl) (dm_Tx_is (d := d + 0) hs) (fun v w1 hq => ?_)
  obtain ⟨r1, rfl, hz1, hs⟩ := hq
  refine tm_i (p1 := 15) (p2 := 10) rfl (fun h2 => ?_) (fun h2 => ?_)
  · replace hs := hs.1 h2
    refine tm_go 2 (pc' := 19) (L' := [some (.ref 129), none, none, none]) (S' := [.long 1953063287, .ref 129]) (w' := w1) rfl ?_
    refine tm_c rfl (Nat.le_of_ble_eq_true rfl) (dm_Tx_is (d := d + 0) hs) (fun v w3 hq => ?_)
    obtain ⟨r3, rfl, hz3, hs⟩ := hq
    refine tm_i (p1 := 30) (p2 := 25) rfl (fun h4 => ?_) (fun h4 => ?_)
    · replace hs := hs.1 h4
      refine tm_go 2 (pc' := 34) (L' := [some (.ref 129), none, none, none]) (S' := [.long 465625706101, .ref 129]) (w' := w3) rfl ?_
      refine tm_c rfl (Nat.le_of_ble_eq_true rfl) (dm_Tx_is (d := d + 0) hs) (fun v w5 hq => ?_)
      obtain ⟨r5, rfl, hz5, hs⟩ := hq
      refine tm_i (p1 := 45) (p2 := 40) rfl (fun h6 => ?_) (fun h6 => ?_)
      · replace hs := hs.1 h6
        refine tm_go 2 (pc' := 49) (L' := [some (.ref 129), none, none, none]) (S' := [.long 1886216562, .ref 129]) (w' := w5) rfl ?_
        refine tm_c rfl (Nat.le_of_ble_eq_true rfl) (dm_Tx_is (d := d + 0) hs) (fun v w7 hq => ?_)
        obtain ⟨r7, rfl, hz7, hs⟩ := hq
        refine tm_i (p1 := 60) (p2 := 55) rfl (fun h8 => ?_) (fun h8 => ?_)
        · replace hs := hs.1 h8
          refine tm_go 2 (pc' := 64) (L' := [some (.ref 129), none, none, none]) (S' := [.long 7496048, .ref 129]) (w' := w7) rfl ?_
          refine tm_c rfl (Nat.le_of_ble_eq_true rfl) (dm_Tx_is (d := d + 0) hs) (fun v w9 hq => ?_)
          obtain ⟨r9, rfl, hz9, hs⟩ := hq
          refine tm_i (p1 := 75) (p2 := 70) rfl (fun h10 => ?_) (fun h10 => ?_)
          · replace hs := hs.1 h10
            refine tm_go 2 (pc' := 79) (L' := [some (.ref 129), none, none, none]) (S' := [.long 26217, .ref 129]) (w' := w9) rfl ?_
            refine tm_c rfl (Nat.le_of_ble_eq_true rfl) (dm_Tx_is (d := d + 0) hs) (fun v w11 hq => ?_)
            obtain ⟨r11, rfl, hz11, hs⟩ := hq
            refine tm_i (p1 := 90) (p2 := 85) rfl (fun h12 => ?_) (fun h12 => ?_)
            · replace hs := hs.1 h12
              refine tm_go 2 (pc' := 94) (L' := [some (.ref 129), none, none, none]) (S' := [.long 127961662514546, .ref 129]) (w' := w11) rfl ?_
              refine tm_c rfl (Nat.le_of_ble_eq_true rfl) (dm_Tx_is (d := d + 0) hs) (fun v w13 hq => ?_)
              obtain ⟨r13, rfl, hz13, hs⟩ := hq
              refine tm_i (p1 := 105) (p2 := 100) rfl (fun h14 => ?_) (fun h14 => ?_)
              · replace hs := hs.1 h14
                refine tm_go 2 (pc' := 109) (L' := [some (.ref 129), none, none, none]) (S' := [.long 499984984428, .ref 129]) (w' := w13) rfl ?_
                refine tm_c rfl (Nat.le_of_ble_eq_true rfl) (dm_Tx_is (d := d + 0) hs) (fun v w15 hq => ?_)
                obtain ⟨r15, rfl, hz15, hs⟩ := hq
                refine tm_i (p1 := 120) (p2 := 115) rfl (fun h16 => ?_) (fun h16 => ?_)
                · replace hs := hs.1 h16
                  refine tm_go 1 (pc' := 121) (L' := [some (.ref 129), none, none, none]) (S' := [.int (-1)]) (w' := w15) rfl ?_
                  exact tx_Tx_meaning_121 hs 
                · replace hs := hs.2 h16
                  refine tm_go 2 (pc' := 121) (L' := [some (.ref 129), none, none, none]) (S' := [.int 17]) (w' := w15) rfl ?_
                  exact tx_Tx_meaning_121 hs 
              · replace hs := hs.2 h14
                refine tm_go 2 (pc' := 121) (L' := [some (.ref 129), none, none, none]) (S' := [.int 16]) (w' := w13) rfl ?_
                exact tx_Tx_meaning_121 hs 
            · replace hs := hs.2 h12
              refine tm_go 2 (pc' := 121) (L' := [some (.ref 129), none, none, none]) (S' := [.int 15]) (w' := w11) rfl ?_
              exact tx_Tx_meaning_121 hs 
          · replace hs := hs.2 h10
            refine tm_go 2 (pc' := 121) (L' := [some (.ref 129), none, none, none]) (S' := [.int 14]) (w' := w9) rfl ?_
            exact tx_Tx_meaning_121 hs 
        · replace hs := hs.2 h8
          refine tm_go 2 (pc' := 121) (L' := [some (.ref 129), none, none, none]) (S' := [.int 13]) (w' := w7) rfl ?_
          exact tx_Tx_meaning_121 hs 
      · replace hs := hs.2 h6
        refine tm_go 2 (pc' := 121) (L' := [some (.ref 129), none, none, none]) (S' := [.int 12]) (w' := w5) rfl ?_
        exact tx_Tx_meaning_121 hs 
    · replace hs := hs.2 h4
      refine tm_go 2 (pc' := 121) (L' := [some (.ref 129), none, none, none]) (S' := [.int 11]) (w' := w3) rfl ?_
      exact tx_Tx_meaning_121 hs 
  · replace hs := hs.2 h2
    refine tm_go 2 (pc' := 121) (L' := [some (.ref 129), none, none, none]) (S' := [.int 10]) (w' := w1) rfl ?_
    exact tx_Tx_meaning_121 hs 
set_option maxHeartbeats 4000000 in
set_option maxRecDepth 100000 in
theorem tx_Tx_go_26 {d : Nat} {z1 : Option Value} {z2 : Option Value} {w : MW} {A : MW → Prop} {E : MW → Prop} {Q : Int32 → MW → Prop} (hs : q_Tx_go_26  w A E Q) (hA : ∀  (z1 : Option Value) (z2 : Option Value) (w : MW), A  w → Tm (d + 2) 309 0 [some (.ref 129), z1, z2] [] w (RZ Q)) (hE : ∀  (v1 : Option Value) (v2 : Option Value) (w : MW), E  w → Tm (d + 2) 309 66 [some (.ref 129), v1, v2] [] w (RZ Q)) : Tm (d + 2) 309 26 [some (.ref 129), z1, z2] [] w (RZ Q) := by
  unfold q_Tx_go_26 at hs
  refine tm_go 6 (pc' := 36) (L' := [some (.ref 129), z1, z2]) (S' := [.int (w.1 129 2), .ref 129, .int (w.1 129 3), .ref 129]) (w' := w) rfl ?_
  refine tm_c rfl (Nat.le_of_ble_eq_true rfl) (dm_Tx_at (d := d + 1) hs) (fun v w3 hq => ?_)
  obtain ⟨r3, rfl, hs⟩ := hq
  refine tm_go 1 (pc' := 41) (L' := [some (.ref 129), z1, z2]) (S' := [.int 10, .int r3, .int (w.1 129 3), .ref 129]) (w' := w3) rfl ?_
  refine tm_i (p1 := 48) (p2 := 44) rfl (fun h4 => ?_) (fun h4 => ?_)
  · replace hs := hs.1 h4
    refine tm_go 10 (pc' := 0) (L' := [some (.ref 129), z1, z2]) (S' := []) (w' := (sI (sI w3 129 3 ((w.1 129 3) + (0 : Int32))) 129 2 ((w3.1 129 2) + (1 : Int32)))) rfl ?_
    exact hA _ _ _ hs
  · replace hs := hs.2 h4
    refine tm_go 11 (pc' := 0) (L' := [some (.ref 129), z1, z2]) (S' := []) (w' := (sI (sI w3 129 3 ((w.1 129 3) + (1 : Int32))) 129 2 ((w3.1 129 2) + (1 : Int32)))) rfl ?_
    exact hA _ _ _ hs
set_option maxHeartbeats 4000000 in
set_option maxRecDepth 100000 in
theorem tx_Tx_go_0 {d : Nat} {E : MW → Prop} {Q : Int32 → MW → Prop} (n : Nat) : ∀  (z1 : Option Value) (z2 : Option Value) (w : MW), q_Tx_go_0  E Q n  w → (∀  (v1 : Option Value) (v2 : Option Value) (w : MW), E  w → Tm (d + 2) 309 66 [some (.ref 129), v1, v2] [] w (RZ Q)) → Tm (d + 2) 309 0 [some (.ref 129), z1, z2] [] w (RZ Q) := by
  induction n with
  | zero => intro  z1 z2 w hs; rw [q_Tx_go_0.eq_1] at hs; exact hs.elim
  | succ n ih =>
    intro  z1 z2 w hs hE
    rw [q_Tx_go_0.eq_2] at hs
    refine tm_go 3 (pc' := 5) (L' := [some (.ref 129), z1, z2]) (S' := [.int (w.1 129 2), .ref 129]) (w' := w) rfl ?_
    refine tm_c rfl (Nat.le_of_ble_eq_true rfl) (dm_Tx_at (d := d + 1) hs) (fun v w1 hq => ?_)
    obtain ⟨r1, rfl, hs⟩ := hq
    refine tm_go 1 (pc' := 10) (L' := [some (.ref 129), z1, z2]) (S' := [.int 32, .int r1]) (w' := w1) rfl ?_
    refine tm_i (p1 := 26) (p2 := 13) rfl (fun h2 => ?_) (fun h2 => ?_)
    · replace hs := hs.1 h2
      exact tx_Tx_go_26 hs (fun q0 q1 q2 hs => ih q0 q1 q2 hs hE) hE
    · replace hs := hs.2 h2
      refine tm_go 3 (pc' := 18) (L' := [some (.ref 129), z1, z2]) (S' := [.int (w1.1 129 2), .ref 129]) (w' := w1) rfl ?_
      refine tm_c rfl (Nat.le_of_ble_eq_true rfl) (dm_Tx_at (d := d + 1) hs) (fun v w5 hq => ?_)
      obtain ⟨r5, rfl, hs⟩ := hq
      refine tm_go 1 (pc' := 23) (L' := [some (.ref 129), z1, z2]) (S' := [.int 10, .int r5]) (w' := w5) rfl ?_
      refine tm_i (p1 := 66) (p2 := 26) rfl (fun h6 => ?_) (fun h6 => ?_)
      · replace hs := hs.1 h6
        exact hE _ _ _ hs
      · replace hs := hs.2 h6
        exact tx_Tx_go_26 hs (fun q0 q1 q2 hs => ih q0 q1 q2 hs hE) hE
set_option maxHeartbeats 4000000 in
set_option maxRecDepth 100000 in
theorem tx_Tx_go_287 {d : Nat} {y287_1 : Int32} {y287_2 : Int32} {ys287_0 : Int32}  {w : MW} {Q : Int32 → MW → Prop} (hs : q_Tx_go_287 y287_1 y287_2 ys287_0 w Q) : Tm (d + 2) 309 287 [some (.ref 129), some (.int y287_1), some (.int y287_2)] [.int ys287_0, .ref 129] w (RZ Q) := by
  unfold q_Tx_go_287 at hs
  refine tm_go 15 (pc' := 314) (L' := [some (.ref 129), some (.int y287_1), some (.int y287_2)]) (S' := [.int y287_2]) (w' := (sI (sI (sI (sI w 129 10 ys287_0) 129 2 ((w.1 129 2) + (1 : Int32))) 129 6 ((w.1 129 2) + (1 : Int32))) 129 4 y287_1)) rfl ?_
  obtain ⟨b15, hs⟩ := hs
  exact tm_rk rfl b15 ⟨_, rfl, b15, hs⟩
set_option maxHeartbeats 4000000 in
set_option maxRecDepth 100000 in
theorem tx_Tx_go_152 {d : Nat} {x124_1 : Int32} {z2 : Option Value} {w : MW} {A : MW → Prop} {E : MW → Prop} {Q : Int32 → MW → Prop} (hs : q_Tx_go_152 x124_1 w A E Q) (hA : ∀  (z2 : Option Value) (w : MW), A  w → Tm (d + 2) 309 124 [some (.ref 129), some (.int x124_1), z2] [] w (RZ Q)) (hE : ∀  (v2 : Option Value) (w : MW), E  w → Tm (d + 2) 309 315 [some (.ref 129), some (.int x124_1), v2] [] w (RZ Q)) : Tm (d + 2) 309 152 [some (.ref 129), some (.int x124_1), z2] [] w (RZ Q) := by
  unfold q_Tx_go_152 at hs
  refine tm_go 6 (pc' := 163) (L' := [some (.ref 129), some (.int x124_1), z2]) (S' := [.int 12, .int ((w.1 129 2) - (w.1 129 5))]) (w' := w) rfl ?_
  refine tm_i (p1 := 315) (p2 := 166) rfl (fun h40 => ?_) (fun h40 => ?_)
  · replace hs := hs.1 h40
    exact hE _ _ hs
  · replace hs := hs.2 h40
    refine tm_go 7 (pc' := 124) (L' := [some (.ref 129), some (.int x124_1), z2]) (S' := []) (w' := (sI w 129 2 ((w.1 129 2) + (1 : Int32)))) rfl ?_
    exact hA _ _ hs
set_option maxHeartbeats 4000000 in
set_option maxRecDepth 100000 in
theorem tx_Tx_go_124 {d : Nat} {x124_1 : Int32} {E : MW → Prop} {Q : Int32 → MW → Prop} (n : Nat) : ∀  (z2 : Option Value) (w : MW), q_Tx_go_124 x124_1 E Q n  w → (∀  (v2 : Option Value) (w : MW), E  w → Tm (d + 2) 309 315 [some (.ref 129), some (.int x124_1), v2] [] w (RZ Q)) → Tm (d + 2) 309 124 [some (.ref 129), some (.int x124_1), z2] [] w (RZ Q) := by
  induction n with
  | zero => intro  z2 w hs; rw [q_Tx_go_124.eq_1] at hs; exact hs.elim
  | succ n ih =>
    intro  z2 w hs hE
    rw [q_Tx_go_124.eq_2] at hs
    refine tm_go 3 (pc' := 129) (L' := [some (.ref 129), some (.int x124_1), z2]) (S' := [.int (w.1 129 2), .ref 129]) (w' := w) rfl ?_
    refine tm_c rfl (Nat.le_of_ble_eq_true rfl) (dm_Tx_at (d := d + 1) hs) (fun v w37 hq => ?_)
    obtain ⟨r37, rfl, hs⟩ := hq
    refine tm_c rfl (Nat.le_of_ble_eq_true rfl) (dm_Tx_isLetter (d := d + 1) hs) (fun v w38 hq => ?_)
    obtain ⟨r38, rfl, hz38, hs⟩ := hq
    refine tm_i (p1 := 152) (p2 := 138) rfl (fun h39 => ?_) (fun h39 => ?_)
    · replace hs := hs.1 h39
      exact tx_Tx_go_152 hs (fun q0 q1 hs => ih q0 q1 hs hE) hE
    · replace hs := hs.2 h39
      refine tm_go 3 (pc' := 143) (L' := [some (.ref 129), some (.int x124_1), z2]) (S' := [.int (w38.1 129 2), .ref 129]) (w' := w38) rfl ?_
      refine tm_c rfl (Nat.le_of_ble_eq_true rfl) (dm_Tx_at (d := d + 1) hs) (fun v w41 hq => ?_)
      obtain ⟨r41, rfl, hs⟩ := hq
      refine tm_c rfl (Nat.le_of_ble_eq_true rfl) (dm_Tx_isDigit (d := d + 1) hs) (fun v w42 hq => ?_)
      obtain ⟨r42, rfl, hz42, hs⟩ := hq
      refine tm_i (p1 := 315) (p2 := 152) rfl (fun h43 => ?_) (fun h43 => ?_)
      · replace hs := hs.1 h43
        exact hE _ _ hs
      · replace hs := hs.2 h43
        exact tx_Tx_go_152 hs (fun q0 q1 hs => ih q0 q1 hs hE) hE
set_option maxHeartbeats 4000000 in
set_option maxRecDepth 100000 in
theorem dm_Tx_go {d : Nat} {w : MW} {Q : Int32 → MW → Prop} (hs : p_Tx_go w Q) : Tc (d + 2) 309 [.ref 129] w (RZ Q) := by
  unfold p_Tx_go at hs
  refine tx_Tx_go_0 FU _ _ _ hs (fun  z7_1 z7_2 w7 hs => ?_)
  refine tm_go 11 (pc' := 87) (L' := [some (.ref 129), z7_1, z7_2]) (S' := [.int (w7.1 129 2), .ref 129]) (w' := (sI (sI w7 129 5 (w7.1 129 2)) 129 7 (w7.1 129 3))) rfl ?_
  refine tm_c rfl (Nat.le_of_ble_eq_true rfl) (dm_Tx_at (d := d + 1) hs) (fun v w8 hq => ?_)
  obtain ⟨r8, rfl, hs⟩ := hq
  refine tm_go 5 (pc' := 99) (L' := [some (.ref 129), some (.int r8), z7_2]) (S' := [.int (w8.1 129 1), .int (w8.1 129 2)]) (w' := w8) rfl ?_
  refine tm_i (p1 := 117) (p2 := 102) rfl (fun h9 => ?_) (fun h9 => ?_)
  · replace hs := hs.1 h9
    refine tm_go 1 (pc' := 118) (L' := [some (.ref 129), some (.int r8), z7_2]) (S' := [.int r8]) (w' := w8) rfl ?_
    refine tm_c rfl (Nat.le_of_ble_eq_true rfl) (dm_Tx_isLetter (d := d + 1) hs) (fun v w10 hq => ?_)
    obtain ⟨r10, rfl, hz10, hs⟩ := hq
    refine tm_i (p1 := 179) (p2 := 124) rfl (fun h11 => ?_) (fun h11 => ?_)
    · replace hs := hs.1 h11
      refine tm_go 1 (pc' := 180) (L' := [some (.ref 129), some (.int r8), z7_2]) (S' := [.int r8]) (w' := w10) rfl ?_
      refine tm_c rfl (Nat.le_of_ble_eq_true rfl) (dm_Tx_isDigit (d := d + 1) hs) (fun v w12 hq => ?_)
      obtain ⟨r12, rfl, hz12, hs⟩ := hq
      refine tm_i (p1 := 193) (p2 := 186) rfl (fun h13 => ?_) (fun h13 => ?_)
      · replace hs := hs.1 h13
        refine tm_go 2 (pc' := 196) (L' := [some (.ref 129), some (.int r8), z7_2]) (S' := [.int 123, .int r8]) (w' := w12) rfl ?_
        refine tm_i (p1 := 265) (p2 := 199) rfl (fun h14 => ?_) (fun h14 => ?_)
        · replace hs := hs.1 h14
          refine tm_go 9 (pc' := 287) (L' := [some (.ref 129), some (.int r8), some (.int 1)]) (S' := [.int (w12.1 129 10), .ref 129]) (w' := w12) rfl ?_
          exact tx_Tx_go_287 hs 
        · replace hs := hs.2 h14
          refine tm_go 2 (pc' := 202) (L' := [some (.ref 129), some (.int r8), z7_2]) (S' := [.int 125, .int r8]) (w' := w12) rfl ?_
          refine tm_i (p1 := 265) (p2 := 205) rfl (fun h16 => ?_) (fun h16 => ?_)
          · replace hs := hs.1 h16
            refine tm_go 9 (pc' := 287) (L' := [some (.ref 129), some (.int r8), some (.int 1)]) (S' := [.int (w12.1 129 10), .ref 129]) (w' := w12) rfl ?_
            exact tx_Tx_go_287 hs 
          · replace hs := hs.2 h16
            refine tm_go 2 (pc' := 208) (L' := [some (.ref 129), some (.int r8), z7_2]) (S' := [.int 40, .int r8]) (w' := w12) rfl ?_
            refine tm_i (p1 := 265) (p2 := 211) rfl (fun h17 => ?_) (fun h17 => ?_)
            · replace hs := hs.1 h17
              refine tm_go 9 (pc' := 287) (L' := [some (.ref 129), some (.int r8), some (.int 1)]) (S' := [.int (w12.1 129 10), .ref 129]) (w' := w12) rfl ?_
              exact tx_Tx_go_287 hs 
            · replace hs := hs.2 h17
              refine tm_go 2 (pc' := 214) (L' := [some (.ref 129), some (.int r8), z7_2]) (S' := [.int 41, .int r8]) (w' := w12) rfl ?_
              refine tm_i (p1 := 265) (p2 := 217) rfl (fun h18 => ?_) (fun h18 => ?_)
              · replace hs := hs.1 h18
                refine tm_go 9 (pc' := 287) (L' := [some (.ref 129), some (.int r8), some (.int 1)]) (S' := [.int (w12.1 129 10), .ref 129]) (w' := w12) rfl ?_
                exact tx_Tx_go_287 hs 
              · replace hs := hs.2 h18
                refine tm_go 2 (pc' := 220) (L' := [some (.ref 129), some (.int r8), z7_2]) (S' := [.int 59, .int r8]) (w' := w12) rfl ?_
                refine tm_i (p1 := 265) (p2 := 223) rfl (fun h19 => ?_) (fun h19 => ?_)
                · replace hs := hs.1 h19
                  refine tm_go 9 (pc' := 287) (L' := [some (.ref 129), some (.int r8), some (.int 1)]) (S' := [.int (w12.1 129 10), .ref 129]) (w' := w12) rfl ?_
                  exact tx_Tx_go_287 hs 
                · replace hs := hs.2 h19
                  refine tm_go 2 (pc' := 226) (L' := [some (.ref 129), some (.int r8), z7_2]) (S' := [.int 43, .int r8]) (w' := w12) rfl ?_
                  refine tm_i (p1 := 265) (p2 := 229) rfl (fun h20 => ?_) (fun h20 => ?_)
                  · replace hs := hs.1 h20
                    refine tm_go 9 (pc' := 287) (L' := [some (.ref 129), some (.int r8), some (.int 1)]) (S' := [.int (w12.1 129 10), .ref 129]) (w' := w12) rfl ?_
                    exact tx_Tx_go_287 hs 
                  · replace hs := hs.2 h20
                    refine tm_go 2 (pc' := 232) (L' := [some (.ref 129), some (.int r8), z7_2]) (S' := [.int 45, .int r8]) (w' := w12) rfl ?_
                    refine tm_i (p1 := 265) (p2 := 235) rfl (fun h21 => ?_) (fun h21 => ?_)
                    · replace hs := hs.1 h21
                      refine tm_go 9 (pc' := 287) (L' := [some (.ref 129), some (.int r8), some (.int 1)]) (S' := [.int (w12.1 129 10), .ref 129]) (w' := w12) rfl ?_
                      exact tx_Tx_go_287 hs 
                    · replace hs := hs.2 h21
                      refine tm_go 2 (pc' := 238) (L' := [some (.ref 129), some (.int r8), z7_2]) (S' := [.int 42, .int r8]) (w' := w12) rfl ?_
                      refine tm_i (p1 := 265) (p2 := 241) rfl (fun h22 => ?_) (fun h22 => ?_)
                      · replace hs := hs.1 h22
                        refine tm_go 9 (pc' := 287) (L' := [some (.ref 129), some (.int r8), some (.int 1)]) (S' := [.int (w12.1 129 10), .ref 129]) (w' := w12) rfl ?_
                        exact tx_Tx_go_287 hs 
                      · replace hs := hs.2 h22
                        refine tm_go 2 (pc' := 244) (L' := [some (.ref 129), some (.int r8), z7_2]) (S' := [.int 47, .int r8]) (w' := w12) rfl ?_
                        refine tm_i (p1 := 265) (p2 := 247) rfl (fun h23 => ?_) (fun h23 => ?_)
                        · replace hs := hs.1 h23
                          refine tm_go 9 (pc' := 287) (L' := [some (.ref 129), some (.int r8), some (.int 1)]) (S' := [.int (w12.1 129 10), .ref 129]) (w' := w12) rfl ?_
                          exact tx_Tx_go_287 hs 
                        · replace hs := hs.2 h23
                          refine tm_go 2 (pc' := 250) (L' := [some (.ref 129), some (.int r8), z7_2]) (S' := [.int 60, .int r8]) (w' := w12) rfl ?_
                          refine tm_i (p1 := 265) (p2 := 253) rfl (fun h24 => ?_) (fun h24 => ?_)
                          · replace hs := hs.1 h24
                            refine tm_go 9 (pc' := 287) (L' := [some (.ref 129), some (.int r8), some (.int 1)]) (S' := [.int (w12.1 129 10), .ref 129]) (w' := w12) rfl ?_
                            exact tx_Tx_go_287 hs 
                          · replace hs := hs.2 h24
                            refine tm_go 2 (pc' := 256) (L' := [some (.ref 129), some (.int r8), z7_2]) (S' := [.int 61, .int r8]) (w' := w12) rfl ?_
                            refine tm_i (p1 := 265) (p2 := 259) rfl (fun h25 => ?_) (fun h25 => ?_)
                            · replace hs := hs.1 h25
                              refine tm_go 9 (pc' := 287) (L' := [some (.ref 129), some (.int r8), some (.int 1)]) (S' := [.int (w12.1 129 10), .ref 129]) (w' := w12) rfl ?_
                              exact tx_Tx_go_287 hs 
                            · replace hs := hs.2 h25
                              refine tm_go 2 (pc' := 262) (L' := [some (.ref 129), some (.int r8), z7_2]) (S' := [.int 62, .int r8]) (w' := w12) rfl ?_
                              refine tm_i (p1 := 269) (p2 := 265) rfl (fun h26 => ?_) (fun h26 => ?_)
                              · replace hs := hs.1 h26
                                refine tm_go 7 (pc' := 287) (L' := [some (.ref 129), some (.int r8), some (.int 0)]) (S' := [.int (w12.1 129 2), .ref 129]) (w' := w12) rfl ?_
                                exact tx_Tx_go_287 hs 
                              · replace hs := hs.2 h26
                                refine tm_go 9 (pc' := 287) (L' := [some (.ref 129), some (.int r8), some (.int 1)]) (S' := [.int (w12.1 129 10), .ref 129]) (w' := w12) rfl ?_
                                exact tx_Tx_go_287 hs 
      · replace hs := hs.2 h13
        refine tm_go 1 (pc' := 187) (L' := [some (.ref 129), some (.int r8), z7_2]) (S' := [.ref 129]) (w' := w12) rfl ?_
        refine tm_c rfl (Nat.le_of_ble_eq_true rfl) (dm_Tx_digits (d := d + 0) hs) (fun v w27 hq => ?_)
        obtain ⟨rfl, hs⟩ := hq
        refine tm_go 8 (pc' := 328) (L' := [some (.ref 129), some (.int r8), z7_2]) (S' := [.int (w27.1 129 2), .ref 129]) (w' := (sI w27 129 6 (w27.1 129 2))) rfl ?_
        refine tm_c rfl (Nat.le_of_ble_eq_true rfl) (dm_Tx_at (d := d + 1) hs) (fun v w28 hq => ?_)
        obtain ⟨r28, rfl, hs⟩ := hq
        refine tm_go 2 (pc' := 333) (L' := [some (.ref 129), some (.int r8), some (.int r28)]) (S' := [.int r28]) (w' := w28) rfl ?_
        refine tm_c rfl (Nat.le_of_ble_eq_true rfl) (dm_Tx_isLetter (d := d + 1) hs) (fun v w29 hq => ?_)
        obtain ⟨r29, rfl, hz29, hs⟩ := hq
        refine tm_i (p1 := 352) (p2 := 339) rfl (fun h30 => ?_) (fun h30 => ?_)
        · replace hs := hs.1 h30
          refine tm_go 5 (pc' := 361) (L' := [some (.ref 129), some (.int r8), some (.int r28)]) (S' := [.int 0]) (w' := (sI w29 129 10 (w29.1 129 2))) rfl ?_
          exact tm_r rfl ⟨_, rfl, by decide, hs⟩
        · replace hs := hs.2 h30
          refine tm_go 1 (pc' := 340) (L' := [some (.ref 129), some (.int r8), some (.int r28)]) (S' := [.int r28]) (w' := w29) rfl ?_
          refine tm_c rfl (Nat.le_of_ble_eq_true rfl) (dm_Tx_isDigit (d := d + 1) hs) (fun v w31 hq => ?_)
          obtain ⟨r31, rfl, hz31, hs⟩ := hq
          refine tm_i (p1 := 352) (p2 := 346) rfl (fun h32 => ?_) (fun h32 => ?_)
          · replace hs := hs.1 h32
            refine tm_go 5 (pc' := 361) (L' := [some (.ref 129), some (.int r8), some (.int r28)]) (S' := [.int 0]) (w' := (sI w31 129 10 (w31.1 129 2))) rfl ?_
            exact tm_r rfl ⟨_, rfl, by decide, hs⟩
          · replace hs := hs.2 h32
            refine tm_go 2 (pc' := 349) (L' := [some (.ref 129), some (.int r8), some (.int r28)]) (S' := [.int 46, .int r28]) (w' := w31) rfl ?_
            refine tm_i (p1 := 362) (p2 := 352) rfl (fun h33 => ?_) (fun h33 => ?_)
            · replace hs := hs.1 h33
              refine tm_go 2 (pc' := 364) (L' := [some (.ref 129), some (.int r8), some (.int r28)]) (S' := [.int r8, .ref 129]) (w' := w31) rfl ?_
              refine tm_c rfl (Nat.le_of_ble_eq_true rfl) (dm_Tx_isLetter (d := d + 1) hs) (fun v w34 hq => ?_)
              obtain ⟨r34, rfl, hz34, hs⟩ := hq
              refine tm_i (p1 := 381) (p2 := 370) rfl (fun h35 => ?_) (fun h35 => ?_)
              · replace hs := hs.1 h35
                refine tm_go 3 (pc' := 388) (L' := [some (.ref 129), some (.int r8), some (.int r28)]) (S' := [.int 1]) (w' := (sI w34 129 4 2000)) rfl ?_
                exact tm_r rfl ⟨_, rfl, by decide, hs⟩
              · replace hs := hs.2 h35
                refine tm_go 2 (pc' := 374) (L' := [some (.ref 129), some (.int r8), some (.int r28)]) (S' := [.ref 129, .int 1000, .ref 129]) (w' := w34) rfl ?_
                refine tm_c rfl (Nat.le_of_ble_eq_true rfl) (dm_Tx_meaning (d := d + 0) hs) (fun v w36 hq => ?_)
                obtain ⟨r36, rfl, hs⟩ := hq
                refine tm_go 4 (pc' := 388) (L' := [some (.ref 129), some (.int r8), some (.int r28)]) (S' := [.int 1]) (w' := (sI w36 129 4 ((1000 : Int32) + r36))) rfl ?_
                exact tm_r rfl ⟨_, rfl, by decide, hs⟩
            · replace hs := hs.2 h33
              refine tm_go 5 (pc' := 361) (L' := [some (.ref 129), some (.int r8), some (.int r28)]) (S' := [.int 0]) (w' := (sI w31 129 10 (w31.1 129 2))) rfl ?_
              exact tm_r rfl ⟨_, rfl, by decide, hs⟩
    · replace hs := hs.2 h11
      refine tx_Tx_go_124 FU _ _ hs (fun  z44_2 w44 hs => ?_)
      refine tm_go 7 (pc' := 328) (L' := [some (.ref 129), some (.int r8), z44_2]) (S' := [.int (w44.1 129 2), .ref 129]) (w' := (sI w44 129 6 (w44.1 129 2))) rfl ?_
      refine tm_c rfl (Nat.le_of_ble_eq_true rfl) (dm_Tx_at (d := d + 1) hs) (fun v w45 hq => ?_)
      obtain ⟨r45, rfl, hs⟩ := hq
      refine tm_go 2 (pc' := 333) (L' := [some (.ref 129), some (.int r8), some (.int r45)]) (S' := [.int r45]) (w' := w45) rfl ?_
      refine tm_c rfl (Nat.le_of_ble_eq_true rfl) (dm_Tx_isLetter (d := d + 1) hs) (fun v w46 hq => ?_)
      obtain ⟨r46, rfl, hz46, hs⟩ := hq
      refine tm_i (p1 := 352) (p2 := 339) rfl (fun h47 => ?_) (fun h47 => ?_)
      · replace hs := hs.1 h47
        refine tm_go 5 (pc' := 361) (L' := [some (.ref 129), some (.int r8), some (.int r45)]) (S' := [.int 0]) (w' := (sI w46 129 10 (w46.1 129 2))) rfl ?_
        exact tm_r rfl ⟨_, rfl, by decide, hs⟩
      · replace hs := hs.2 h47
        refine tm_go 1 (pc' := 340) (L' := [some (.ref 129), some (.int r8), some (.int r45)]) (S' := [.int r45]) (w' := w46) rfl ?_
        refine tm_c rfl (Nat.le_of_ble_eq_true rfl) (dm_Tx_isDigit (d := d + 1) hs) (fun v w48 hq => ?_)
        obtain ⟨r48, rfl, hz48, hs⟩ := hq
        refine tm_i (p1 := 352) (p2 := 346) rfl (fun h49 => ?_) (fun h49 => ?_)
        · replace hs := hs.1 h49
          refine tm_go 5 (pc' := 361) (L' := [some (.ref 129), some (.int r8), some (.int r45)]) (S' := [.int 0]) (w' := (sI w48 129 10 (w48.1 129 2))) rfl ?_
          exact tm_r rfl ⟨_, rfl, by decide, hs⟩
        · replace hs := hs.2 h49
          refine tm_go 2 (pc' := 349) (L' := [some (.ref 129), some (.int r8), some (.int r45)]) (S' := [.int 46, .int r45]) (w' := w48) rfl ?_
          refine tm_i (p1 := 362) (p2 := 352) rfl (fun h50 => ?_) (fun h50 => ?_)
          · replace hs := hs.1 h50
            refine tm_go 2 (pc' := 364) (L' := [some (.ref 129), some (.int r8), some (.int r45)]) (S' := [.int r8, .ref 129]) (w' := w48) rfl ?_
            refine tm_c rfl (Nat.le_of_ble_eq_true rfl) (dm_Tx_isLetter (d := d + 1) hs) (fun v w51 hq => ?_)
            obtain ⟨r51, rfl, hz51, hs⟩ := hq
            refine tm_i (p1 := 381) (p2 := 370) rfl (fun h52 => ?_) (fun h52 => ?_)
            · replace hs := hs.1 h52
              refine tm_go 3 (pc' := 388) (L' := [some (.ref 129), some (.int r8), some (.int r45)]) (S' := [.int 1]) (w' := (sI w51 129 4 2000)) rfl ?_
              exact tm_r rfl ⟨_, rfl, by decide, hs⟩
            · replace hs := hs.2 h52
              refine tm_go 2 (pc' := 374) (L' := [some (.ref 129), some (.int r8), some (.int r45)]) (S' := [.ref 129, .int 1000, .ref 129]) (w' := w51) rfl ?_
              refine tm_c rfl (Nat.le_of_ble_eq_true rfl) (dm_Tx_meaning (d := d + 0) hs) (fun v w53 hq => ?_)
              obtain ⟨r53, rfl, hs⟩ := hq
              refine tm_go 4 (pc' := 388) (L' := [some (.ref 129), some (.int r8), some (.int r45)]) (S' := [.int 1]) (w' := (sI w53 129 4 ((1000 : Int32) + r53))) rfl ?_
              exact tm_r rfl ⟨_, rfl, by decide, hs⟩
          · replace hs := hs.2 h50
            refine tm_go 5 (pc' := 361) (L' := [some (.ref 129), some (.int r8), some (.int r45)]) (S' := [.int 0]) (w' := (sI w48 129 10 (w48.1 129 2))) rfl ?_
            exact tm_r rfl ⟨_, rfl, by decide, hs⟩
  · replace hs := hs.2 h9
    refine tm_go 8 (pc' := 116) (L' := [some (.ref 129), some (.int r8), z7_2]) (S' := [.int 1]) (w' := (sI (sI w8 129 6 (w8.1 129 2)) 129 4 1)) rfl ?_
    exact tm_r rfl ⟨_, rfl, by decide, hs⟩
set_option maxHeartbeats 4000000 in
set_option maxRecDepth 100000 in
theorem tx_Tx_node0_89 {d : Nat} {x89_6 : Int32} {E : MW → Prop} {Q : Int32 → MW → Prop} (n : Nat) : ∀ (x89_8 : Int32)  (z1 : Option Value) (z2 : Option Value) (z3 : Option Value) (z4 : Option Value) (z5 : Option Value) (z7 : Option Value) (w : MW), q_Tx_node0_89 x89_6 E Q n x89_8 w → (∀  (v1 : Option Value) (v2 : Option Value) (v3 : Option Value) (v4 : Option Value) (v5 : Option Value) (v7 : Option Value) (v8 : Option Value) (w : MW), E  w → Tm (d + 1) 316 135 [some (.ref 129), v1, v2, v3, v4, v5, some (.int x89_6), v7, v8] [] w (RI Q)) → Tm (d + 1) 316 89 [some (.ref 129), z1, z2, z3, z4, z5, some (.int x89_6), z7, some (.int x89_8)] [] w (RI Q) := by
  induction n with
  | zero => intro x89_8 z1 z2 z3 z4 z5 z7 w hs; rw [q_Tx_node0_89.eq_1] at hs; exact hs.elim
  | succ n ih =>
    intro x89_8 z1 z2 z3 z4 z5 z7 w hs hE
    rw [q_Tx_node0_89.eq_2] at hs
    refine tm_go 3 (pc' := 95) (L' := [some (.ref 129), z1, z2, z3, z4, z5, some (.int x89_6), z7, some (.int x89_8)]) (S' := [.int (w.1 129 35), .int x89_8]) (w' := w) rfl ?_
    refine tm_i (p1 := 135) (p2 := 98) rfl (fun h9 => ?_) (fun h9 => ?_)
    · replace hs := hs.1 h9
      exact hE _ _ _ _ _ _ _ _ hs
    · replace hs := hs.2 h9
      refine tm_go 3 (pc' := 103) (L' := [some (.ref 129), z1, z2, z3, z4, z5, some (.int x89_6), z7, some (.int x89_8)]) (S' := [.ref 129, .ref 137]) (w' := w) rfl ?_
      refine tm_c rfl (Nat.le_of_ble_eq_true rfl) (dm_Tx_base (d := d + 0) hs) (fun v w10 hq => ?_)
      obtain ⟨r10, rfl, hs⟩ := hq
      refine tm_go 6 (pc' := 117) (L' := [some (.ref 129), z1, z2, z3, z4, z5, some (.int x89_6), z7, some (.int x89_8)]) (S' := [.int x89_8, .ref 144, .int (r10 + (w10.1 129 21)), .ref 137]) (w' := w10) rfl ?_
      obtain ⟨b11, hs⟩ := hs
      refine tm_k (pc' := 118) (L' := [some (.ref 129), z1, z2, z3, z4, z5, some (.int x89_6), z7, some (.int x89_8)]) (S' := [.int (w10.1 144 x89_8.toInt.toNat), .int (r10 + (w10.1 129 21)), .ref 137]) (w' := w10) rfl b11 ?_
      obtain ⟨b12, hs⟩ := hs
      refine tm_k (pc' := 119) (L' := [some (.ref 129), z1, z2, z3, z4, z5, some (.int x89_6), z7, some (.int x89_8)]) (S' := []) (w' := (sI w10 137 ((r10 + (w10.1 129 21)).toInt.toNat) (w10.1 144 x89_8.toInt.toNat))) rfl b12 ?_
      refine tm_go 8 (pc' := 89) (L' := [some (.ref 129), z1, z2, z3, z4, z5, some (.int x89_6), (ksl z7), some (.int (x89_8 + (1 : Int32)))]) (S' := []) (w' := (sI (sI w10 137 ((r10 + (w10.1 129 21)).toInt.toNat) (w10.1 144 x89_8.toInt.toNat)) 129 21 ((w10.1 129 21) + (1 : Int32)))) rfl ?_
      exact ih _ _ _ _ _ _ _ _ hs hE
set_option maxHeartbeats 4000000 in
set_option maxRecDepth 100000 in
theorem dm_Tx_node0 {d : Nat} {w : MW} {a0 : Int32} {b0 : Int64} {c0 : Int32} {e0 : Int32} {f0 : Int32} {Q : Int32 → MW → Prop} (hs : p_Tx_node0 w a0 b0 c0 e0 f0 Q) : Tc (d + 1) 316 [.ref 129, .int a0, .long b0, .int c0, .int e0, .int f0] w (RI Q) := by
  unfold p_Tx_node0 at hs
  refine tm_go 3 (pc' := 7) (L' := [some (.ref 129), some (.int a0), some (.long b0), none, some (.int c0), some (.int e0), some (.int f0), none, none]) (S' := [.int 300, .int (w.1 129 13)]) (w' := w) rfl ?_
  refine tm_i (p1 := 15) (p2 := 10) rfl (fun h1 => ?_) (fun h1 => ?_)
  · replace hs := hs.1 h1
    refine tm_go 1 (pc' := 16) (L' := [some (.ref 129), some (.int a0), some (.long b0), none, some (.int c0), some (.int e0), some (.int f0), none, none]) (S' := [.ref 129]) (w' := w) rfl ?_
    refine tm_c rfl (Nat.le_of_ble_eq_true rfl) (dm_Tx_base (d := d + 0) hs) (fun v w2 hq => ?_)
    obtain ⟨r2, rfl, hs⟩ := hq
    refine tm_go 8 (pc' := 33) (L' := [some (.ref 129), some (.int a0), some (.long b0), none, some (.int c0), some (.int e0), some (.int f0), some (.int (r2 + (w2.1 129 13))), none]) (S' := [.int a0, .int (r2 + (w2.1 129 13)), .ref 131]) (w' := w2) rfl ?_
    obtain ⟨b3, hs⟩ := hs
    refine tm_k (pc' := 34) (L' := [some (.ref 129), some (.int a0), some (.long b0), none, some (.int c0), some (.int e0), some (.int f0), some (.int (r2 + (w2.1 129 13))), none]) (S' := []) (w' := (sI w2 131 ((r2 + (w2.1 129 13)).toInt.toNat) a0)) rfl b3 ?_
    refine tm_go 4 (pc' := 41) (L' := [some (.ref 129), some (.int a0), some (.long b0), none, some (.int c0), some (.int e0), some (.int f0), some (.int (r2 + (w2.1 129 13))), none]) (S' := [.long b0, .int (r2 + (w2.1 129 13)), .ref 132]) (w' := (sI w2 131 ((r2 + (w2.1 129 13)).toInt.toNat) a0)) rfl ?_
    obtain ⟨b4, hs⟩ := hs
    refine tm_k (pc' := 42) (L' := [some (.ref 129), some (.int a0), some (.long b0), none, some (.int c0), some (.int e0), some (.int f0), some (.int (r2 + (w2.1 129 13))), none]) (S' := []) (w' := (sJ (sI w2 131 ((r2 + (w2.1 129 13)).toInt.toNat) a0) 132 ((r2 + (w2.1 129 13)).toInt.toNat) b0)) rfl b4 ?_
    refine tm_go 4 (pc' := 50) (L' := [some (.ref 129), some (.int a0), some (.long b0), none, some (.int c0), some (.int e0), some (.int f0), some (.int (r2 + (w2.1 129 13))), none]) (S' := [.int c0, .int (r2 + (w2.1 129 13)), .ref 133]) (w' := (sJ (sI w2 131 ((r2 + (w2.1 129 13)).toInt.toNat) a0) 132 ((r2 + (w2.1 129 13)).toInt.toNat) b0)) rfl ?_
    obtain ⟨b5, hs⟩ := hs
    refine tm_k (pc' := 51) (L' := [some (.ref 129), some (.int a0), some (.long b0), none, some (.int c0), some (.int e0), some (.int f0), some (.int (r2 + (w2.1 129 13))), none]) (S' := []) (w' := (sI (sJ (sI w2 131 ((r2 + (w2.1 129 13)).toInt.toNat) a0) 132 ((r2 + (w2.1 129 13)).toInt.toNat) b0) 133 ((r2 + (w2.1 129 13)).toInt.toNat) c0)) rfl b5 ?_
    refine tm_go 4 (pc' := 59) (L' := [some (.ref 129), some (.int a0), some (.long b0), none, some (.int c0), some (.int e0), some (.int f0), some (.int (r2 + (w2.1 129 13))), none]) (S' := [.int e0, .int (r2 + (w2.1 129 13)), .ref 134]) (w' := (sI (sJ (sI w2 131 ((r2 + (w2.1 129 13)).toInt.toNat) a0) 132 ((r2 + (w2.1 129 13)).toInt.toNat) b0) 133 ((r2 + (w2.1 129 13)).toInt.toNat) c0)) rfl ?_
    obtain ⟨b6, hs⟩ := hs
    refine tm_k (pc' := 60) (L' := [some (.ref 129), some (.int a0), some (.long b0), none, some (.int c0), some (.int e0), some (.int f0), some (.int (r2 + (w2.1 129 13))), none]) (S' := []) (w' := (sI (sI (sJ (sI w2 131 ((r2 + (w2.1 129 13)).toInt.toNat) a0) 132 ((r2 + (w2.1 129 13)).toInt.toNat) b0) 133 ((r2 + (w2.1 129 13)).toInt.toNat) c0) 134 ((r2 + (w2.1 129 13)).toInt.toNat) e0)) rfl b6 ?_
    refine tm_go 5 (pc' := 70) (L' := [some (.ref 129), some (.int a0), some (.long b0), none, some (.int c0), some (.int e0), some (.int f0), some (.int (r2 + (w2.1 129 13))), none]) (S' := [.int (w2.1 129 21), .int (r2 + (w2.1 129 13)), .ref 135]) (w' := (sI (sI (sJ (sI w2 131 ((r2 + (w2.1 129 13)).toInt.toNat) a0) 132 ((r2 + (w2.1 129 13)).toInt.toNat) b0) 133 ((r2 + (w2.1 129 13)).toInt.toNat) c0) 134 ((r2 + (w2.1 129 13)).toInt.toNat) e0)) rfl ?_
    obtain ⟨b7, hs⟩ := hs
    refine tm_k (pc' := 71) (L' := [some (.ref 129), some (.int a0), some (.long b0), none, some (.int c0), some (.int e0), some (.int f0), some (.int (r2 + (w2.1 129 13))), none]) (S' := []) (w' := (sI (sI (sI (sJ (sI w2 131 ((r2 + (w2.1 129 13)).toInt.toNat) a0) 132 ((r2 + (w2.1 129 13)).toInt.toNat) b0) 133 ((r2 + (w2.1 129 13)).toInt.toNat) c0) 134 ((r2 + (w2.1 129 13)).toInt.toNat) e0) 135 ((r2 + (w2.1 129 13)).toInt.toNat) (w2.1 129 21))) rfl b7 ?_
    refine tm_go 7 (pc' := 84) (L' := [some (.ref 129), some (.int a0), some (.long b0), none, some (.int c0), some (.int e0), some (.int f0), some (.int (r2 + (w2.1 129 13))), none]) (S' := [.int ((w2.1 129 35) - f0), .int (r2 + (w2.1 129 13)), .ref 136]) (w' := (sI (sI (sI (sJ (sI w2 131 ((r2 + (w2.1 129 13)).toInt.toNat) a0) 132 ((r2 + (w2.1 129 13)).toInt.toNat) b0) 133 ((r2 + (w2.1 129 13)).toInt.toNat) c0) 134 ((r2 + (w2.1 129 13)).toInt.toNat) e0) 135 ((r2 + (w2.1 129 13)).toInt.toNat) (w2.1 129 21))) rfl ?_
    obtain ⟨b8, hs⟩ := hs
    refine tm_k (pc' := 85) (L' := [some (.ref 129), some (.int a0), some (.long b0), none, some (.int c0), some (.int e0), some (.int f0), some (.int (r2 + (w2.1 129 13))), none]) (S' := []) (w' := (sI (sI (sI (sI (sJ (sI w2 131 ((r2 + (w2.1 129 13)).toInt.toNat) a0) 132 ((r2 + (w2.1 129 13)).toInt.toNat) b0) 133 ((r2 + (w2.1 129 13)).toInt.toNat) c0) 134 ((r2 + (w2.1 129 13)).toInt.toNat) e0) 135 ((r2 + (w2.1 129 13)).toInt.toNat) (w2.1 129 21)) 136 ((r2 + (w2.1 129 13)).toInt.toNat) ((w2.1 129 35) - f0))) rfl b8 ?_
    refine tm_go 2 (pc' := 89) (L' := [some (.ref 129), some (.int a0), some (.long b0), none, some (.int c0), some (.int e0), some (.int f0), some (.int (r2 + (w2.1 129 13))), some (.int f0)]) (S' := []) (w' := (sI (sI (sI (sI (sJ (sI w2 131 ((r2 + (w2.1 129 13)).toInt.toNat) a0) 132 ((r2 + (w2.1 129 13)).toInt.toNat) b0) 133 ((r2 + (w2.1 129 13)).toInt.toNat) c0) 134 ((r2 + (w2.1 129 13)).toInt.toNat) e0) 135 ((r2 + (w2.1 129 13)).toInt.toNat) (w2.1 129 21)) 136 ((r2 + (w2.1 129 13)).toInt.toNat) ((w2.1 129 35) - f0))) rfl ?_
    refine tx_Tx_node0_89 FU _ _ _ _ _ _ _ _ hs (fun  z13_1 z13_2 z13_3 z13_4 z13_5 z13_7 z13_8 w13 hs => ?_)
    refine tm_go 13 (pc' := 157) (L' := [some (.ref 129), z13_1, z13_2, z13_3, z13_4, z13_5, some (.int f0), z13_7, z13_8]) (S' := [.int (((w13.1 129 13) + (1 : Int32)) - (1 : Int32))]) (w' := (sI (sI w13 129 35 f0) 129 13 ((w13.1 129 13) + (1 : Int32)))) rfl ?_
    exact tm_r rfl ⟨_, rfl, hs⟩
  · replace hs := hs.2 h1
    refine tm_go 1 (pc' := 11) (L' := [some (.ref 129), some (.int a0), some (.long b0), none, some (.int c0), some (.int e0), some (.int f0), none, none]) (S' := [.ref 129]) (w' := w) rfl ?_
    refine tm_c rfl (Nat.le_of_ble_eq_true rfl) (dm_Tx_bad (d := d + 0) hs) (fun v w14 hq => ?_)
    obtain ⟨r14, rfl, hs⟩ := hq
    exact tm_r rfl ⟨_, rfl, hs⟩
set_option maxHeartbeats 4000000 in
set_option maxRecDepth 100000 in
theorem dm_Tx_push {d : Nat} {w : MW} {a0 : Int32} {Q : MW → Prop} (hs : p_Tx_push w a0 Q) : Tc (d + 0) 317 [.ref 129, .int a0] w (RV Q) := by
  unfold p_Tx_push at hs
  refine tm_go 5 (pc' := 9) (L' := [some (.ref 129), some (.int a0)]) (S' := [.int a0, .int (w.1 129 35), .ref 144]) (w' := w) rfl ?_
  obtain ⟨b1, hs⟩ := hs
  refine tm_k (pc' := 10) (L' := [some (.ref 129), some (.int a0)]) (S' := []) (w' := (sI w 144 ((w.1 129 35).toInt.toNat) a0)) rfl b1 ?_
  refine tm_go 6 (pc' := 20) (L' := [some (.ref 129), some (.int a0)]) (S' := []) (w' := (sI (sI w 144 ((w.1 129 35).toInt.toNat) a0) 129 35 ((w.1 129 35) + (1 : Int32)))) rfl ?_
  exact tm_r rfl ⟨rfl, hs⟩
set_option maxHeartbeats 4000000 in
set_option maxRecDepth 100000 in
theorem dm_Tx_isWord {d : Nat} {w : MW} {a0 : Int32} {Q : Int32 → MW → Prop} (hs : p_Tx_isWord w a0 Q) : Tc (d + 0) 313 [.ref 129, .int a0] w (RZ Q) := by
  unfold p_Tx_isWord at hs
  refine tm_go 5 (pc' := 9) (L' := [some (.ref 129), some (.int a0)]) (S' := [.int ((1000 : Int32) + a0), .int (w.1 129 4)]) (w' := w) rfl ?_
  refine tm_i (p1 := 16) (p2 := 12) rfl (fun h1 => ?_) (fun h1 => ?_)
  · replace hs := hs.1 h1
    refine tm_go 1 (pc' := 17) (L' := [some (.ref 129), some (.int a0)]) (S' := [.int 0]) (w' := w) rfl ?_
    exact tm_r rfl ⟨_, rfl, by decide, hs⟩
  · replace hs := hs.2 h1
    refine tm_go 2 (pc' := 17) (L' := [some (.ref 129), some (.int a0)]) (S' := [.int 1]) (w' := w) rfl ?_
    exact tm_r rfl ⟨_, rfl, by decide, hs⟩
set_option maxHeartbeats 4000000 in
set_option maxRecDepth 100000 in
theorem tx_Tx_nameOf_49 {d : Nat} {x49_1 : Int32} {x49_2 : Int32} {E : Int32 → MW → Prop} {Q : Int32 → MW → Prop} (n : Nat) : ∀ (x49_3 : Int32) (x49_4 : Int32)   (w : MW), q_Tx_nameOf_49 x49_1 x49_2 E Q n x49_3 x49_4 w → (∀ (e49_3 : Int32)  (v2 : Option Value) (v4 : Option Value) (w : MW), E e49_3 w → Tm (d + 0) 325 103 [some (.ref 129), some (.int x49_1), v2, some (.int e49_3), v4] [] w (RI Q)) → Tm (d + 0) 325 49 [some (.ref 129), some (.int x49_1), some (.int x49_2), some (.int x49_3), some (.int x49_4)] [] w (RI Q) := by
  induction n with
  | zero => intro x49_3 x49_4  w hs; rw [q_Tx_nameOf_49.eq_1] at hs; exact hs.elim
  | succ n ih =>
    intro x49_3 x49_4  w hs hE
    rw [q_Tx_nameOf_49.eq_2] at hs
    refine tm_go 4 (pc' := 56) (L' := [some (.ref 129), some (.int x49_1), some (.int x49_2), some (.int x49_3), some (.int x49_4)]) (S' := [.int x49_2, .ref 140, .int x49_4]) (w' := w) rfl ?_
    obtain ⟨b4, hs⟩ := hs
    refine tm_k (pc' := 57) (L' := [some (.ref 129), some (.int x49_1), some (.int x49_2), some (.int x49_3), some (.int x49_4)]) (S' := [.int (w.1 140 x49_2.toInt.toNat), .int x49_4]) (w' := w) rfl b4 ?_
    refine tm_i (p1 := 103) (p2 := 60) rfl (fun h5 => ?_) (fun h5 => ?_)
    · replace hs := hs.1 h5
      exact hE _ _ _ _ hs
    · replace hs := hs.2 h5
      refine tm_go 1 (pc' := 61) (L' := [some (.ref 129), some (.int x49_1), some (.int x49_2), some (.int x49_3), some (.int x49_4)]) (S' := [.int x49_3]) (w' := w) rfl ?_
      refine tm_i (p1 := 103) (p2 := 64) rfl (fun h6 => ?_) (fun h6 => ?_)
      · replace hs := hs.1 h6
        exact hE _ _ _ _ hs
      · replace hs := hs.2 h6
        refine tm_go 7 (pc' := 75) (L' := [some (.ref 129), some (.int x49_1), some (.int x49_2), some (.int x49_3), some (.int x49_4)]) (S' := [.int (((12 : Int32) * x49_2) + x49_4), .ref 139]) (w' := w) rfl ?_
        obtain ⟨b7, hs⟩ := hs
        refine tm_k (pc' := 76) (L' := [some (.ref 129), some (.int x49_1), some (.int x49_2), some (.int x49_3), some (.int x49_4)]) (S' := [.int (w.1 139 ((((12 : Int32) * x49_2) + x49_4).toInt.toNat))]) (w' := w) rfl b7 ?_
        refine tm_go 6 (pc' := 87) (L' := [some (.ref 129), some (.int x49_1), some (.int x49_2), some (.int x49_3), some (.int x49_4)]) (S' := [.int ((w.1 129 5) + x49_4), .ref 130, .int (w.1 139 ((((12 : Int32) * x49_2) + x49_4).toInt.toNat))]) (w' := w) rfl ?_
        obtain ⟨b8, hs⟩ := hs
        refine tm_k (pc' := 88) (L' := [some (.ref 129), some (.int x49_1), some (.int x49_2), some (.int x49_3), some (.int x49_4)]) (S' := [.int (w.1 130 (((w.1 129 5) + x49_4).toInt.toNat)), .int (w.1 139 ((((12 : Int32) * x49_2) + x49_4).toInt.toNat))]) (w' := w) rfl b8 ?_
        refine tm_i (p1 := 95) (p2 := 91) rfl (fun h9 => ?_) (fun h9 => ?_)
        · replace hs := hs.1 h9
          refine tm_go 4 (pc' := 49) (L' := [some (.ref 129), some (.int x49_1), some (.int x49_2), some (.int 0), some (.int (x49_4 + (1 : Int32)))]) (S' := []) (w' := w) rfl ?_
          exact ih _ _ _ hs hE
        · replace hs := hs.2 h9
          refine tm_go 5 (pc' := 49) (L' := [some (.ref 129), some (.int x49_1), some (.int x49_2), some (.int 1), some (.int (x49_4 + (1 : Int32)))]) (S' := []) (w' := w) rfl ?_
          exact ih _ _ _ hs hE
set_option maxHeartbeats 4000000 in
set_option maxRecDepth 100000 in
theorem tx_Tx_nameOf_2 {d : Nat} {E : MW → Prop} {Q : Int32 → MW → Prop} (n : Nat) : ∀ (x2_1 : Int32)  (z2 : Option Value) (z3 : Option Value) (z4 : Option Value) (w : MW), q_Tx_nameOf_2  E Q n x2_1 w → (∀  (v0 : Option Value) (v1 : Option Value) (v2 : Option Value) (v3 : Option Value) (v4 : Option Value) (w : MW), E  w → Tm (d + 0) 325 115 [v0, v1, v2, v3, v4] [] w (RI Q)) → Tm (d + 0) 325 2 [some (.ref 129), some (.int x2_1), z2, z3, z4] [] w (RI Q) := by
  induction n with
  | zero => intro x2_1 z2 z3 z4 w hs; rw [q_Tx_nameOf_2.eq_1] at hs; exact hs.elim
  | succ n ih =>
    intro x2_1 z2 z3 z4 w hs hE
    rw [q_Tx_nameOf_2.eq_2] at hs
    refine tm_go 3 (pc' := 7) (L' := [some (.ref 129), some (.int x2_1), z2, z3, z4]) (S' := [.int (w.1 129 24), .int x2_1]) (w' := w) rfl ?_
    refine tm_i (p1 := 115) (p2 := 10) rfl (fun h1 => ?_) (fun h1 => ?_)
    · replace hs := hs.1 h1
      exact hE _ _ _ _ _ _ hs
    · replace hs := hs.2 h1
      refine tm_go 12 (pc' := 27) (L' := [some (.ref 129), some (.int x2_1), some (.int (((40 : Int32) * ((1 : Int32) - (w.1 129 12))) + x2_1)), z3, z4]) (S' := [.int (((40 : Int32) * ((1 : Int32) - (w.1 129 12))) + x2_1), .ref 140]) (w' := w) rfl ?_
      obtain ⟨b2, hs⟩ := hs
      refine tm_k (pc' := 28) (L' := [some (.ref 129), some (.int x2_1), some (.int (((40 : Int32) * ((1 : Int32) - (w.1 129 12))) + x2_1)), z3, z4]) (S' := [.int (w.1 140 ((((40 : Int32) * ((1 : Int32) - (w.1 129 12))) + x2_1).toInt.toNat))]) (w' := w) rfl b2 ?_
      refine tm_go 5 (pc' := 37) (L' := [some (.ref 129), some (.int x2_1), some (.int (((40 : Int32) * ((1 : Int32) - (w.1 129 12))) + x2_1)), z3, z4]) (S' := [.int ((w.1 129 6) - (w.1 129 5)), .int (w.1 140 ((((40 : Int32) * ((1 : Int32) - (w.1 129 12))) + x2_1).toInt.toNat))]) (w' := w) rfl ?_
      refine tm_i (p1 := 44) (p2 := 40) rfl (fun h3 => ?_) (fun h3 => ?_)
      · replace hs := hs.1 h3
        refine tm_go 4 (pc' := 49) (L' := [some (.ref 129), some (.int x2_1), some (.int (((40 : Int32) * ((1 : Int32) - (w.1 129 12))) + x2_1)), some (.int 0), some (.int 0)]) (S' := []) (w' := w) rfl ?_
        refine tx_Tx_nameOf_49 FU _ _ _ hs (fun e49_3_10 z10_2 z10_4 w10 hs => ?_)
        refine tm_go 1 (pc' := 104) (L' := [some (.ref 129), some (.int x2_1), z10_2, some (.int e49_3_10), z10_4]) (S' := [.int e49_3_10]) (w' := w10) rfl ?_
        refine tm_i (p1 := 109) (p2 := 107) rfl (fun h11 => ?_) (fun h11 => ?_)
        · replace hs := hs.1 h11
          refine tm_go 2 (pc' := 2) (L' := [some (.ref 129), some (.int (x2_1 + (1 : Int32))), z10_2, some (.int e49_3_10), z10_4]) (S' := []) (w' := w10) rfl ?_
          exact ih _ _ _ _ _ hs hE
        · replace hs := hs.2 h11
          refine tm_go 1 (pc' := 108) (L' := [some (.ref 129), some (.int x2_1), z10_2, some (.int e49_3_10), z10_4]) (S' := [.int x2_1]) (w' := w10) rfl ?_
          exact tm_r rfl ⟨_, rfl, hs⟩
      · replace hs := hs.2 h3
        refine tm_go 5 (pc' := 49) (L' := [some (.ref 129), some (.int x2_1), some (.int (((40 : Int32) * ((1 : Int32) - (w.1 129 12))) + x2_1)), some (.int 1), some (.int 0)]) (S' := []) (w' := w) rfl ?_
        refine tx_Tx_nameOf_49 FU _ _ _ hs (fun e49_3_12 z12_2 z12_4 w12 hs => ?_)
        refine tm_go 1 (pc' := 104) (L' := [some (.ref 129), some (.int x2_1), z12_2, some (.int e49_3_12), z12_4]) (S' := [.int e49_3_12]) (w' := w12) rfl ?_
        refine tm_i (p1 := 109) (p2 := 107) rfl (fun h13 => ?_) (fun h13 => ?_)
        · replace hs := hs.1 h13
          refine tm_go 2 (pc' := 2) (L' := [some (.ref 129), some (.int (x2_1 + (1 : Int32))), z12_2, some (.int e49_3_12), z12_4]) (S' := []) (w' := w12) rfl ?_
          exact ih _ _ _ _ _ hs hE
        · replace hs := hs.2 h13
          refine tm_go 1 (pc' := 108) (L' := [some (.ref 129), some (.int x2_1), z12_2, some (.int e49_3_12), z12_4]) (S' := [.int x2_1]) (w' := w12) rfl ?_
          exact tm_r rfl ⟨_, rfl, hs⟩
set_option maxHeartbeats 4000000 in
set_option maxRecDepth 100000 in
theorem dm_Tx_nameOf {d : Nat} {w : MW} {Q : Int32 → MW → Prop} (hs : p_Tx_nameOf w Q) : Tc (d + 0) 325 [.ref 129] w (RI Q) := by
  unfold p_Tx_nameOf at hs
  refine tm_go 2 (pc' := 2) (L' := [some (.ref 129), some (.int 0), none, none, none]) (S' := []) (w' := w) rfl ?_
  refine tx_Tx_nameOf_2 FU _ _ _ _ _ hs (fun  z14_0 z14_1 z14_2 z14_3 z14_4 w14 hs => ?_)
  refine tm_go 1 (pc' := 116) (L' := [z14_0, z14_1, z14_2, z14_3, z14_4]) (S' := [.int (-1)]) (w' := w14) rfl ?_
  exact tm_r rfl ⟨_, rfl, hs⟩
set_option maxHeartbeats 4000000 in
set_option maxRecDepth 100000 in
theorem tx_Tx_known_16 {d : Nat} {y16_1 : Int32} {ys16_0 : Int32} {z2 : Option Value} {w : MW} {Q : Int32 → MW → Prop} (hs : q_Tx_known_16 y16_1 ys16_0 w Q) : Tm (d + 3) 327 16 [some (.ref 129), some (.int y16_1), z2] [.int ys16_0] w (RI Q) := by
  unfold q_Tx_known_16 at hs
  refine tm_go 2 (pc' := 18) (L' := [some (.ref 129), some (.int y16_1), some (.int ys16_0)]) (S' := [.int ys16_0]) (w' := w) rfl ?_
  refine tm_i (p1 := 66) (p2 := 21) rfl (fun h3 => ?_) (fun h3 => ?_)
  · replace hs := hs.1 h3
    refine tm_go 1 (pc' := 67) (L' := [some (.ref 129), some (.int y16_1), some (.int ys16_0)]) (S' := [.ref 129]) (w' := w) rfl ?_
    refine tm_c rfl (Nat.le_of_ble_eq_true rfl) (dm_Tx_bad (d := d + 2) hs) (fun v w4 hq => ?_)
    obtain ⟨r4, rfl, hs⟩ := hq
    exact tm_r rfl ⟨_, rfl, hs⟩
  · replace hs := hs.2 h3
    refine tm_go 10 (pc' := 36) (L' := [some (.ref 129), some (.int y16_1), some (.int ys16_0)]) (S' := [.int (((40 : Int32) * ((1 : Int32) - (w.1 129 12))) + ys16_0), .ref 141]) (w' := w) rfl ?_
    obtain ⟨b5, hs⟩ := hs
    refine tm_k (pc' := 37) (L' := [some (.ref 129), some (.int y16_1), some (.int ys16_0)]) (S' := [.int (w.1 141 ((((40 : Int32) * ((1 : Int32) - (w.1 129 12))) + ys16_0).toInt.toNat))]) (w' := w) rfl b5 ?_
    refine tm_go 1 (pc' := 38) (L' := [some (.ref 129), some (.int y16_1), some (.int ys16_0)]) (S' := [.int y16_1, .int (w.1 141 ((((40 : Int32) * ((1 : Int32) - (w.1 129 12))) + ys16_0).toInt.toNat))]) (w' := w) rfl ?_
    refine tm_i (p1 := 66) (p2 := 41) rfl (fun h6 => ?_) (fun h6 => ?_)
    · replace hs := hs.1 h6
      refine tm_go 1 (pc' := 67) (L' := [some (.ref 129), some (.int y16_1), some (.int ys16_0)]) (S' := [.ref 129]) (w' := w) rfl ?_
      refine tm_c rfl (Nat.le_of_ble_eq_true rfl) (dm_Tx_bad (d := d + 2) hs) (fun v w7 hq => ?_)
      obtain ⟨r7, rfl, hs⟩ := hq
      exact tm_r rfl ⟨_, rfl, hs⟩
    · replace hs := hs.2 h6
      refine tm_go 2 (pc' := 44) (L' := [some (.ref 129), some (.int y16_1), some (.int ys16_0)]) (S' := [.int 24, .int y16_1]) (w' := w) rfl ?_
      refine tm_i (p1 := 71) (p2 := 47) rfl (fun h8 => ?_) (fun h8 => ?_)
      · replace hs := hs.1 h8
        refine tm_go 1 (pc' := 72) (L' := [some (.ref 129), some (.int y16_1), some (.int ys16_0)]) (S' := [.ref 129]) (w' := w) rfl ?_
        refine tm_c rfl (Nat.le_of_ble_eq_true rfl) (dm_Tx_go (d := d + 0) hs) (fun v w9 hq => ?_)
        obtain ⟨r9, rfl, hz9, hs⟩ := hq
        refine tm_i (p1 := 82) (p2 := 78) rfl (fun h10 => ?_) (fun h10 => ?_)
        · replace hs := hs.1 h10
          refine tm_go 1 (pc' := 83) (L' := [some (.ref 129), some (.int y16_1), some (.int ys16_0)]) (S' := [.int (-1)]) (w' := w9) rfl ?_
          exact tm_r rfl ⟨_, rfl, hs⟩
        · replace hs := hs.2 h10
          refine tm_go 2 (pc' := 83) (L' := [some (.ref 129), some (.int y16_1), some (.int ys16_0)]) (S' := [.int ys16_0]) (w' := w9) rfl ?_
          exact tm_r rfl ⟨_, rfl, hs⟩
      · replace hs := hs.2 h8
        refine tm_go 10 (pc' := 62) (L' := [some (.ref 129), some (.int y16_1), some (.int ys16_0)]) (S' := [.int (((40 : Int32) * ((1 : Int32) - (w.1 129 12))) + ys16_0), .ref 143]) (w' := w) rfl ?_
        obtain ⟨b11, hs⟩ := hs
        refine tm_k (pc' := 63) (L' := [some (.ref 129), some (.int y16_1), some (.int ys16_0)]) (S' := [.int (w.1 143 ((((40 : Int32) * ((1 : Int32) - (w.1 129 12))) + ys16_0).toInt.toNat))]) (w' := w) rfl b11 ?_
        refine tm_i (p1 := 71) (p2 := 66) rfl (fun h12 => ?_) (fun h12 => ?_)
        · replace hs := hs.1 h12
          refine tm_go 1 (pc' := 72) (L' := [some (.ref 129), some (.int y16_1), some (.int ys16_0)]) (S' := [.ref 129]) (w' := w) rfl ?_
          refine tm_c rfl (Nat.le_of_ble_eq_true rfl) (dm_Tx_go (d := d + 0) hs) (fun v w13 hq => ?_)
          obtain ⟨r13, rfl, hz13, hs⟩ := hq
          refine tm_i (p1 := 82) (p2 := 78) rfl (fun h14 => ?_) (fun h14 => ?_)
          · replace hs := hs.1 h14
            refine tm_go 1 (pc' := 83) (L' := [some (.ref 129), some (.int y16_1), some (.int ys16_0)]) (S' := [.int (-1)]) (w' := w13) rfl ?_
            exact tm_r rfl ⟨_, rfl, hs⟩
          · replace hs := hs.2 h14
            refine tm_go 2 (pc' := 83) (L' := [some (.ref 129), some (.int y16_1), some (.int ys16_0)]) (S' := [.int ys16_0]) (w' := w13) rfl ?_
            exact tm_r rfl ⟨_, rfl, hs⟩
        · replace hs := hs.2 h12
          refine tm_go 1 (pc' := 67) (L' := [some (.ref 129), some (.int y16_1), some (.int ys16_0)]) (S' := [.ref 129]) (w' := w) rfl ?_
          refine tm_c rfl (Nat.le_of_ble_eq_true rfl) (dm_Tx_bad (d := d + 2) hs) (fun v w15 hq => ?_)
          obtain ⟨r15, rfl, hs⟩ := hq
          exact tm_r rfl ⟨_, rfl, hs⟩
set_option maxHeartbeats 4000000 in
set_option maxRecDepth 100000 in
theorem dm_Tx_known {d : Nat} {w : MW} {a0 : Int32} {Q : Int32 → MW → Prop} (hs : p_Tx_known w a0 Q) : Tc (d + 3) 327 [.ref 129, .int a0] w (RI Q) := by
  unfold p_Tx_known at hs
  refine tm_go 2 (pc' := 2) (L' := [some (.ref 129), some (.int a0), none]) (S' := [.int (-1), .ref 129]) (w' := w) rfl ?_
  refine tm_c rfl (Nat.le_of_ble_eq_true rfl) (dm_Tx_isWord (d := d + 2) hs) (fun v w1 hq => ?_)
  obtain ⟨r1, rfl, hz1, hs⟩ := hq
  refine tm_i (p1 := 15) (p2 := 8) rfl (fun h2 => ?_) (fun h2 => ?_)
  · replace hs := hs.1 h2
    refine tm_go 1 (pc' := 16) (L' := [some (.ref 129), some (.int a0), none]) (S' := [.int (-1)]) (w' := w1) rfl ?_
    exact tx_Tx_known_16 hs 
  · replace hs := hs.2 h2
    refine tm_go 1 (pc' := 9) (L' := [some (.ref 129), some (.int a0), none]) (S' := [.ref 129]) (w' := w1) rfl ?_
    refine tm_c rfl (Nat.le_of_ble_eq_true rfl) (dm_Tx_nameOf (d := d + 2) hs) (fun v w16 hq => ?_)
    obtain ⟨r16, rfl, hs⟩ := hq
    refine tm_go 1 (pc' := 16) (L' := [some (.ref 129), some (.int a0), none]) (S' := [.int r16]) (w' := w16) rfl ?_
    exact tx_Tx_known_16 hs 
set_option maxHeartbeats 4000000 in
set_option maxRecDepth 100000 in
theorem dm_Tx_over {d : Nat} {w : MW} {a0 : Int32} {Q : Int32 → MW → Prop} (hs : p_Tx_over w a0 Q) : Tc (d + 3) 312 [.ref 129, .int a0] w (RZ Q) := by
  unfold p_Tx_over at hs
  refine tm_go 3 (pc' := 5) (L' := [some (.ref 129), some (.int a0)]) (S' := [.int a0, .int (w.1 129 4)]) (w' := w) rfl ?_
  refine tm_i (p1 := 18) (p2 := 8) rfl (fun h1 => ?_) (fun h1 => ?_)
  · replace hs := hs.1 h1
    refine tm_go 1 (pc' := 19) (L' := [some (.ref 129), some (.int a0)]) (S' := [.ref 129]) (w' := w) rfl ?_
    refine tm_c rfl (Nat.le_of_ble_eq_true rfl) (dm_Tx_go (d := d + 0) hs) (fun v w2 hq => ?_)
    obtain ⟨r2, rfl, hz2, hs⟩ := hq
    exact tm_rk rfl hz2 ⟨_, rfl, hz2, hs⟩
  · replace hs := hs.2 h1
    refine tm_go 5 (pc' := 17) (L' := [some (.ref 129), some (.int a0)]) (S' := [.int 0]) (w' := (sI w 129 10 (w.1 129 5))) rfl ?_
    exact tm_r rfl ⟨_, rfl, by decide, hs⟩
set_option maxHeartbeats 4000000 in
set_option maxRecDepth 100000 in
theorem dm_Tx_pushed {d : Nat} {w : MW} {a0 : Int32} {Q : Int32 → MW → Prop} (hs : p_Tx_pushed w a0 Q) : Tc (d + 1) 330 [.ref 129, .int a0] w (RZ Q) := by
  unfold p_Tx_pushed at hs
  refine tm_go 1 (pc' := 1) (L' := [some (.ref 129), some (.int a0)]) (S' := [.int a0]) (w' := w) rfl ?_
  refine tm_i (p1 := 6) (p2 := 4) rfl (fun h1 => ?_) (fun h1 => ?_)
  · replace hs := hs.1 h1
    refine tm_go 2 (pc' := 8) (L' := [some (.ref 129), some (.int a0)]) (S' := [.int a0, .ref 129]) (w' := w) rfl ?_
    refine tm_c rfl (Nat.le_of_ble_eq_true rfl) (dm_Tx_push (d := d + 0) hs) (fun v w2 hq => ?_)
    obtain ⟨rfl, hs⟩ := hq
    refine tm_go 1 (pc' := 12) (L' := [some (.ref 129), some (.int a0)]) (S' := [.int 1]) (w' := w2) rfl ?_
    exact tm_r rfl ⟨_, rfl, by decide, hs⟩
  · replace hs := hs.2 h1
    refine tm_go 1 (pc' := 5) (L' := [some (.ref 129), some (.int a0)]) (S' := [.int 0]) (w' := w) rfl ?_
    exact tm_r rfl ⟨_, rfl, by decide, hs⟩
set_option maxHeartbeats 4000000 in
set_option maxRecDepth 100000 in
theorem dm_Tx_unitWord {d : Nat} {w : MW} {Q : Int32 → MW → Prop} (hs : p_Tx_unitWord w Q) : Tc (d + 0) 314 [.ref 129] w (RI Q) := by
  unfold p_Tx_unitWord at hs
  refine tm_go 9 (pc' := 14) (L' := [some (.ref 129), some (.int (((w.1 129 4) - (1000 : Int32)) - (39 : Int32)))]) (S' := [.int 1, .int (((w.1 129 4) - (1000 : Int32)) - (39 : Int32))]) (w' := w) rfl ?_
  refine tm_i (p1 := 26) (p2 := 17) rfl (fun h1 => ?_) (fun h1 => ?_)
  · replace hs := hs.1 h1
    refine tm_go 1 (pc' := 27) (L' := [some (.ref 129), some (.int (((w.1 129 4) - (1000 : Int32)) - (39 : Int32)))]) (S' := [.int 0]) (w' := w) rfl ?_
    exact tm_r rfl ⟨_, rfl, hs⟩
  · replace hs := hs.2 h1
    refine tm_go 2 (pc' := 19) (L' := [some (.ref 129), some (.int (((w.1 129 4) - (1000 : Int32)) - (39 : Int32)))]) (S' := [.int 5, .int (((w.1 129 4) - (1000 : Int32)) - (39 : Int32))]) (w' := w) rfl ?_
    refine tm_i (p1 := 26) (p2 := 22) rfl (fun h2 => ?_) (fun h2 => ?_)
    · replace hs := hs.1 h2
      refine tm_go 1 (pc' := 27) (L' := [some (.ref 129), some (.int (((w.1 129 4) - (1000 : Int32)) - (39 : Int32)))]) (S' := [.int 0]) (w' := w) rfl ?_
      exact tm_r rfl ⟨_, rfl, hs⟩
    · replace hs := hs.2 h2
      refine tm_go 2 (pc' := 27) (L' := [some (.ref 129), some (.int (((w.1 129 4) - (1000 : Int32)) - (39 : Int32)))]) (S' := [.int (((w.1 129 4) - (1000 : Int32)) - (39 : Int32))]) (w' := w) rfl ?_
      exact tm_r rfl ⟨_, rfl, hs⟩
set_option maxHeartbeats 4000000 in
set_option maxRecDepth 100000 in
theorem tx_Tx_numberNode_87 {d : Nat} {y87_1 : Int32} {y87_2 : Int64} {y87_4 : Int32} {z5 : Option Value} {w : MW} {Q : Int32 → MW → Prop} (hs : q_Tx_numberNode_87 y87_1 y87_2 y87_4 w Q) : Tm (d + 3) 323 87 [some (.ref 129), some (.int y87_1), some (.long y87_2), none, some (.int y87_4), z5] [] w (RI Q) := by
  unfold q_Tx_numberNode_87 at hs
  refine tm_go 1 (pc' := 89) (L' := [some (.ref 129), some (.int y87_1), some (.long y87_2), none, some (.int y87_4), z5]) (S' := [.int y87_4]) (w' := w) rfl ?_
  refine tm_i (p1 := 101) (p2 := 92) rfl (fun h7 => ?_) (fun h7 => ?_)
  · replace hs := hs.1 h7
    refine tm_go 7 (pc' := 111) (L' := [some (.ref 129), some (.int y87_1), some (.long y87_2), none, some (.int y87_4), z5]) (S' := [.int (w.1 129 35), .int y87_4, .int y87_1, .long y87_2, .int 0, .ref 129]) (w' := w) rfl ?_
    refine tm_c rfl (Nat.le_of_ble_eq_true rfl) (dm_Tx_node0 (d := d + 1) hs) (fun v w8 hq => ?_)
    obtain ⟨r8, rfl, hs⟩ := hq
    exact tm_r rfl ⟨_, rfl, hs⟩
  · replace hs := hs.2 h7
    refine tm_go 1 (pc' := 93) (L' := [some (.ref 129), some (.int y87_1), some (.long y87_2), none, some (.int y87_4), z5]) (S' := [.ref 129]) (w' := w) rfl ?_
    refine tm_c rfl (Nat.le_of_ble_eq_true rfl) (dm_Tx_go (d := d + 0) hs) (fun v w9 hq => ?_)
    obtain ⟨r9, rfl, hz9, hs⟩ := hq
    refine tm_i (p1 := 101) (p2 := 99) rfl (fun h10 => ?_) (fun h10 => ?_)
    · replace hs := hs.1 h10
      refine tm_go 7 (pc' := 111) (L' := [some (.ref 129), some (.int y87_1), some (.long y87_2), none, some (.int y87_4), z5]) (S' := [.int (w9.1 129 35), .int y87_4, .int y87_1, .long y87_2, .int 0, .ref 129]) (w' := w9) rfl ?_
      refine tm_c rfl (Nat.le_of_ble_eq_true rfl) (dm_Tx_node0 (d := d + 1) hs) (fun v w11 hq => ?_)
      obtain ⟨r11, rfl, hs⟩ := hq
      exact tm_r rfl ⟨_, rfl, hs⟩
    · replace hs := hs.2 h10
      refine tm_go 1 (pc' := 100) (L' := [some (.ref 129), some (.int y87_1), some (.long y87_2), none, some (.int y87_4), z5]) (S' := [.int (-1)]) (w' := w9) rfl ?_
      exact tm_r rfl ⟨_, rfl, hs⟩
set_option maxHeartbeats 4000000 in
set_option maxRecDepth 100000 in
theorem tx_Tx_numberNode_43 {d : Nat} {y43_1 : Int32} {y43_2 : Int64} {y43_4 : Int32} {ys43_0 : Int32} {z5 : Option Value} {w : MW} {Q : Int32 → MW → Prop} (hs : q_Tx_numberNode_43 y43_1 y43_2 y43_4 ys43_0 w Q) : Tm (d + 3) 323 43 [some (.ref 129), some (.int y43_1), some (.long y43_2), none, some (.int y43_4), z5] [.int ys43_0] w (RI Q) := by
  unfold q_Tx_numberNode_43 at hs
  refine tm_go 2 (pc' := 47) (L' := [some (.ref 129), some (.int y43_1), some (.long y43_2), none, some (.int y43_4), some (.int ys43_0)]) (S' := [.int ys43_0]) (w' := w) rfl ?_
  refine tm_i (p1 := 87) (p2 := 50) rfl (fun h6 => ?_) (fun h6 => ?_)
  · replace hs := hs.1 h6
    exact tx_Tx_numberNode_87 hs 
  · replace hs := hs.2 h6
    refine tm_go 3 (pc' := 54) (L' := [some (.ref 129), some (.int y43_1), some (.long y43_2), none, some (.int y43_4), some (.int ys43_0)]) (S' := [.int 45, .ref 129, .long y43_2]) (w' := w) rfl ?_
    refine tm_c rfl (Nat.le_of_ble_eq_true rfl) (dm_Tx_isWord (d := d + 2) hs) (fun v w12 hq => ?_)
    obtain ⟨r12, rfl, hz12, hs⟩ := hq
    refine tm_i (p1 := 66) (p2 := 60) rfl (fun h13 => ?_) (fun h13 => ?_)
    · replace hs := hs.1 h13
      refine tm_go 8 (pc' := 79) (L' := [some (.ref 129), some (.int y43_1), some (.long (y43_2 * (3600 : Int64))), none, some (.int 3), some (.int ys43_0)]) (S' := [.int (lg_cmp (y43_2 * (3600 : Int64)) (999999999999 : Int64))]) (w' := w12) rfl ?_
      refine tm_i (p1 := 87) (p2 := 82) rfl (fun h14 => ?_) (fun h14 => ?_)
      · replace hs := hs.1 h14
        exact tx_Tx_numberNode_87 hs 
      · replace hs := hs.2 h14
        refine tm_go 1 (pc' := 83) (L' := [some (.ref 129), some (.int y43_1), some (.long (y43_2 * (3600 : Int64))), none, some (.int 3), some (.int ys43_0)]) (S' := [.ref 129]) (w' := w12) rfl ?_
        refine tm_c rfl (Nat.le_of_ble_eq_true rfl) (dm_Tx_bad (d := d + 2) hs) (fun v w15 hq => ?_)
        obtain ⟨r15, rfl, hs⟩ := hq
        exact tm_r rfl ⟨_, rfl, hs⟩
    · replace hs := hs.2 h13
      refine tm_go 9 (pc' := 79) (L' := [some (.ref 129), some (.int y43_1), some (.long (y43_2 * (60 : Int64))), none, some (.int 3), some (.int ys43_0)]) (S' := [.int (lg_cmp (y43_2 * (60 : Int64)) (999999999999 : Int64))]) (w' := w12) rfl ?_
      refine tm_i (p1 := 87) (p2 := 82) rfl (fun h16 => ?_) (fun h16 => ?_)
      · replace hs := hs.1 h16
        exact tx_Tx_numberNode_87 hs 
      · replace hs := hs.2 h16
        refine tm_go 1 (pc' := 83) (L' := [some (.ref 129), some (.int y43_1), some (.long (y43_2 * (60 : Int64))), none, some (.int 3), some (.int ys43_0)]) (S' := [.ref 129]) (w' := w12) rfl ?_
        refine tm_c rfl (Nat.le_of_ble_eq_true rfl) (dm_Tx_bad (d := d + 2) hs) (fun v w17 hq => ?_)
        obtain ⟨r17, rfl, hs⟩ := hq
        exact tm_r rfl ⟨_, rfl, hs⟩
set_option maxHeartbeats 4000000 in
set_option maxRecDepth 100000 in
theorem dm_Tx_numberNode {d : Nat} {w : MW} {a0 : Int32} {Q : Int32 → MW → Prop} (hs : p_Tx_numberNode w a0 Q) : Tc (d + 3) 323 [.ref 129, .int a0] w (RI Q) := by
  unfold p_Tx_numberNode at hs
  refine tm_go 4 (pc' := 6) (L' := [some (.ref 129), some (.int a0), some (.long (w.2.1 129 8)), none, none, none]) (S' := [.ref 129]) (w' := w) rfl ?_
  refine tm_c rfl (Nat.le_of_ble_eq_true rfl) (dm_Tx_go (d := d + 0) hs) (fun v w1 hq => ?_)
  obtain ⟨r1, rfl, hz1, hs⟩ := hq
  refine tm_i (p1 := 14) (p2 := 12) rfl (fun h2 => ?_) (fun h2 => ?_)
  · replace hs := hs.1 h2
    refine tm_go 1 (pc' := 15) (L' := [some (.ref 129), some (.int a0), some (.long (w.2.1 129 8)), none, none, none]) (S' := [.ref 129]) (w' := w1) rfl ?_
    refine tm_c rfl (Nat.le_of_ble_eq_true rfl) (dm_Tx_unitWord (d := d + 2) hs) (fun v w3 hq => ?_)
    obtain ⟨r3, rfl, hs⟩ := hq
    refine tm_go 3 (pc' := 23) (L' := [some (.ref 129), some (.int a0), some (.long (w.2.1 129 8)), none, some (.int r3), none]) (S' := [.int 45, .ref 129]) (w' := w3) rfl ?_
    refine tm_c rfl (Nat.le_of_ble_eq_true rfl) (dm_Tx_isWord (d := d + 2) hs) (fun v w4 hq => ?_)
    obtain ⟨r4, rfl, hz4, hs⟩ := hq
    refine tm_i (p1 := 38) (p2 := 29) rfl (fun h5 => ?_) (fun h5 => ?_)
    · replace hs := hs.1 h5
      refine tm_go 2 (pc' := 43) (L' := [some (.ref 129), some (.int a0), some (.long (w.2.1 129 8)), none, some (.int r3), none]) (S' := [.int 1]) (w' := w4) rfl ?_
      exact tx_Tx_numberNode_43 hs 
    · replace hs := hs.2 h5
      refine tm_go 2 (pc' := 32) (L' := [some (.ref 129), some (.int a0), some (.long (w.2.1 129 8)), none, some (.int r3), none]) (S' := [.int 46, .ref 129]) (w' := w4) rfl ?_
      refine tm_c rfl (Nat.le_of_ble_eq_true rfl) (dm_Tx_isWord (d := d + 2) hs) (fun v w18 hq => ?_)
      obtain ⟨r18, rfl, hz18, hs⟩ := hq
      refine tm_i (p1 := 42) (p2 := 38) rfl (fun h19 => ?_) (fun h19 => ?_)
      · replace hs := hs.1 h19
        refine tm_go 1 (pc' := 43) (L' := [some (.ref 129), some (.int a0), some (.long (w.2.1 129 8)), none, some (.int r3), none]) (S' := [.int 0]) (w' := w18) rfl ?_
        exact tx_Tx_numberNode_43 hs 
      · replace hs := hs.2 h19
        refine tm_go 2 (pc' := 43) (L' := [some (.ref 129), some (.int a0), some (.long (w.2.1 129 8)), none, some (.int r3), none]) (S' := [.int 1]) (w' := w18) rfl ?_
        exact tx_Tx_numberNode_43 hs 
  · replace hs := hs.2 h2
    refine tm_go 1 (pc' := 13) (L' := [some (.ref 129), some (.int a0), some (.long (w.2.1 129 8)), none, none, none]) (S' := [.int (-1)]) (w' := w1) rfl ?_
    exact tm_r rfl ⟨_, rfl, hs⟩
set_option maxHeartbeats 4000000 in
set_option maxRecDepth 100000 in
theorem dm_Tx_unitIn {d : Nat} {w : MW} {a0 : Int32} {Q : Int32 → MW → Prop} (hs : p_Tx_unitIn w a0 Q) : Tc (d + 1) 318 [.ref 129, .int a0] w (RI Q) := by
  unfold p_Tx_unitIn at hs
  refine tm_go 3 (pc' := 5) (L' := [some (.ref 129), some (.int a0)]) (S' := [.ref 129, .ref 134]) (w' := w) rfl ?_
  refine tm_c rfl (Nat.le_of_ble_eq_true rfl) (dm_Tx_base (d := d + 0) hs) (fun v w1 hq => ?_)
  obtain ⟨r1, rfl, hs⟩ := hq
  refine tm_go 2 (pc' := 10) (L' := [some (.ref 129), some (.int a0)]) (S' := [.int (r1 + a0), .ref 134]) (w' := w1) rfl ?_
  obtain ⟨b2, hs⟩ := hs
  refine tm_k (pc' := 11) (L' := [some (.ref 129), some (.int a0)]) (S' := [.int (w1.1 134 ((r1 + a0).toInt.toNat))]) (w' := w1) rfl b2 ?_
  exact tm_r rfl ⟨_, rfl, hs⟩
set_option maxHeartbeats 4000000 in
set_option maxRecDepth 100000 in
theorem dm_Tx_two {d : Nat} {w : MW} {a0 : Int32} {b0 : Int32} {c0 : Int32} {e0 : Int32} {Q : Int32 → MW → Prop} (hs : p_Tx_two w a0 b0 c0 e0 Q) : Tc (d + 2) 319 [.ref 129, .int a0, .int b0, .int c0, .int e0] w (RI Q) := by
  unfold p_Tx_two at hs
  refine tm_go 5 (pc' := 8) (L' := [some (.ref 129), some (.int a0), some (.int b0), some (.int c0), some (.int e0), some (.int (w.1 129 35))]) (S' := [.int b0, .ref 129]) (w' := w) rfl ?_
  refine tm_c rfl (Nat.le_of_ble_eq_true rfl) (dm_Tx_push (d := d + 1) hs) (fun v w1 hq => ?_)
  obtain ⟨rfl, hs⟩ := hq
  refine tm_go 2 (pc' := 13) (L' := [some (.ref 129), some (.int a0), some (.int b0), some (.int c0), some (.int e0), some (.int (w.1 129 35))]) (S' := [.int c0, .ref 129]) (w' := w1) rfl ?_
  refine tm_c rfl (Nat.le_of_ble_eq_true rfl) (dm_Tx_push (d := d + 1) hs) (fun v w2 hq => ?_)
  obtain ⟨rfl, hs⟩ := hq
  refine tm_go 6 (pc' := 24) (L' := [some (.ref 129), some (.int a0), some (.int b0), some (.int c0), some (.int e0), some (.int (w.1 129 35))]) (S' := [.ref 129, .ref 133, .long 0, .int a0, .ref 129]) (w' := w2) rfl ?_
  refine tm_c rfl (Nat.le_of_ble_eq_true rfl) (dm_Tx_base (d := d + 1) hs) (fun v w3 hq => ?_)
  obtain ⟨r3, rfl, hs⟩ := hq
  refine tm_go 2 (pc' := 29) (L' := [some (.ref 129), some (.int a0), some (.int b0), some (.int c0), some (.int e0), some (.int (w.1 129 35))]) (S' := [.int (r3 + b0), .ref 133, .long 0, .int a0, .ref 129]) (w' := w3) rfl ?_
  obtain ⟨b4, hs⟩ := hs
  refine tm_k (pc' := 30) (L' := [some (.ref 129), some (.int a0), some (.int b0), some (.int c0), some (.int e0), some (.int (w.1 129 35))]) (S' := [.int (w3.1 133 ((r3 + b0).toInt.toNat)), .long 0, .int a0, .ref 129]) (w' := w3) rfl b4 ?_
  refine tm_go 2 (pc' := 34) (L' := [some (.ref 129), some (.int a0), some (.int b0), some (.int c0), some (.int e0), some (.int (w.1 129 35))]) (S' := [.int (w.1 129 35), .int e0, .int (w3.1 133 ((r3 + b0).toInt.toNat)), .long 0, .int a0, .ref 129]) (w' := w3) rfl ?_
  refine tm_c rfl (Nat.le_of_ble_eq_true rfl) (dm_Tx_node0 (d := d + 0) hs) (fun v w5 hq => ?_)
  obtain ⟨r5, rfl, hs⟩ := hq
  exact tm_r rfl ⟨_, rfl, hs⟩
set_option maxHeartbeats 4000000 in
set_option maxRecDepth 100000 in
theorem tx_Tx_factor_122 {d : Nat} {r_Tx_factor : MW → (Int32 → MW → Prop) → Prop} {r_Tx_product : MW → (Int32 → MW → Prop) → Prop} {r_Tx_sum : MW → (Int32 → MW → Prop) → Prop} (hr_Tx_factor : ∀ (w : MW) (Q : Int32 → MW → Prop), r_Tx_factor w Q → Tc (d + 3) 322 [.ref 129] w (RI Q)) (hr_Tx_product : ∀ (w : MW) (Q : Int32 → MW → Prop), r_Tx_product w Q → Tc (d + 3) 321 [.ref 129] w (RI Q)) (hr_Tx_sum : ∀ (w : MW) (Q : Int32 → MW → Prop), r_Tx_sum w Q → Tc (d + 3) 320 [.ref 129] w (RI Q)) {y122_1 : Int32} {y122_2 : Int32} {y122_3 : Int32} {z4 : Option Value} {w : MW} {Q : Int32 → MW → Prop} (hs : q_Tx_factor_122 r_Tx_factor r_Tx_product r_Tx_sum y122_1 y122_2 y122_3 w Q) : Tm (d + 4) 322 122 [some (.ref 129), some (.int y122_1), some (.int y122_2), some (.int y122_3), z4] [] w (RI Q) := by
  unfold q_Tx_factor_122 at hs
  refine tm_go 7 (pc' := 133) (L' := [some (.ref 129), some (.int y122_1), some (.int y122_2), some (.int y122_3), z4]) (S' := [.int y122_2]) (w' := (sI w 129 11 ((w.1 129 11) - (1 : Int32)))) rfl ?_
  refine tm_i (p1 := 138) (p2 := 136) rfl (fun h11 => ?_) (fun h11 => ?_)
  · replace hs := hs.1 h11
    refine tm_go 5 (pc' := 146) (L' := [some (.ref 129), some (.int y122_1), some (.int y122_2), some (.int y122_3), some (.int (w.1 129 35))]) (S' := [.int y122_3, .ref 129]) (w' := (sI w 129 11 ((w.1 129 11) - (1 : Int32)))) rfl ?_
    refine tm_c rfl (Nat.le_of_ble_eq_true rfl) (dm_Tx_push (d := d + 3) hs) (fun v w12 hq => ?_)
    obtain ⟨rfl, hs⟩ := hq
    refine tm_go 6 (pc' := 156) (L' := [some (.ref 129), some (.int y122_1), some (.int y122_2), some (.int y122_3), some (.int (w.1 129 35))]) (S' := [.int y122_3, .ref 129, .int y122_1, .long 0, .int 6, .ref 129]) (w' := w12) rfl ?_
    refine tm_c rfl (Nat.le_of_ble_eq_true rfl) (dm_Tx_unitIn (d := d + 2) hs) (fun v w13 hq => ?_)
    obtain ⟨r13, rfl, hs⟩ := hq
    refine tm_go 1 (pc' := 161) (L' := [some (.ref 129), some (.int y122_1), some (.int y122_2), some (.int y122_3), some (.int (w.1 129 35))]) (S' := [.int (w.1 129 35), .int r13, .int y122_1, .long 0, .int 6, .ref 129]) (w' := w13) rfl ?_
    refine tm_c rfl (Nat.le_of_ble_eq_true rfl) (dm_Tx_node0 (d := d + 2) hs) (fun v w14 hq => ?_)
    obtain ⟨r14, rfl, hs⟩ := hq
    exact tm_r rfl ⟨_, rfl, hs⟩
  · replace hs := hs.2 h11
    refine tm_go 1 (pc' := 137) (L' := [some (.ref 129), some (.int y122_1), some (.int y122_2), some (.int y122_3), z4]) (S' := [.int y122_3]) (w' := (sI w 129 11 ((w.1 129 11) - (1 : Int32)))) rfl ?_
    exact tm_r rfl ⟨_, rfl, hs⟩
set_option maxHeartbeats 4000000 in
set_option maxRecDepth 100000 in
theorem tx_Tx_factor_102 {d : Nat} {r_Tx_factor : MW → (Int32 → MW → Prop) → Prop} {r_Tx_product : MW → (Int32 → MW → Prop) → Prop} {r_Tx_sum : MW → (Int32 → MW → Prop) → Prop} (hr_Tx_factor : ∀ (w : MW) (Q : Int32 → MW → Prop), r_Tx_factor w Q → Tc (d + 3) 322 [.ref 129] w (RI Q)) (hr_Tx_product : ∀ (w : MW) (Q : Int32 → MW → Prop), r_Tx_product w Q → Tc (d + 3) 321 [.ref 129] w (RI Q)) (hr_Tx_sum : ∀ (w : MW) (Q : Int32 → MW → Prop), r_Tx_sum w Q → Tc (d + 3) 320 [.ref 129] w (RI Q)) {y102_1 : Int32} {y102_2 : Int32} {ys102_0 : Int32} {z3 : Option Value} {z4 : Option Value} {w : MW} {Q : Int32 → MW → Prop} (hs : q_Tx_factor_102 r_Tx_factor r_Tx_product r_Tx_sum y102_1 y102_2 ys102_0 w Q) : Tm (d + 4) 322 102 [some (.ref 129), some (.int y102_1), some (.int y102_2), z3, z4] [.int ys102_0] w (RI Q) := by
  unfold q_Tx_factor_102 at hs
  refine tm_go 2 (pc' := 104) (L' := [some (.ref 129), some (.int y102_1), some (.int y102_2), some (.int ys102_0), z4]) (S' := [.int ys102_0]) (w' := w) rfl ?_
  refine tm_i (p1 := 120) (p2 := 107) rfl (fun h9 => ?_) (fun h9 => ?_)
  · replace hs := hs.1 h9
    refine tm_go 1 (pc' := 121) (L' := [some (.ref 129), some (.int y102_1), some (.int y102_2), some (.int ys102_0), z4]) (S' := [.int (-1)]) (w' := w) rfl ?_
    exact tm_r rfl ⟨_, rfl, hs⟩
  · replace hs := hs.2 h9
    refine tm_go 1 (pc' := 108) (L' := [some (.ref 129), some (.int y102_1), some (.int y102_2), some (.int ys102_0), z4]) (S' := [.int y102_2]) (w' := w) rfl ?_
    refine tm_i (p1 := 122) (p2 := 111) rfl (fun h10 => ?_) (fun h10 => ?_)
    · replace hs := hs.1 h10
      exact tx_Tx_factor_122 hr_Tx_factor hr_Tx_product hr_Tx_sum hs 
    · replace hs := hs.2 h10
      refine tm_go 2 (pc' := 114) (L' := [some (.ref 129), some (.int y102_1), some (.int y102_2), some (.int ys102_0), z4]) (S' := [.int 41, .ref 129]) (w' := w) rfl ?_
      refine tm_c rfl (Nat.le_of_ble_eq_true rfl) (dm_Tx_over (d := d + 0) hs) (fun v w15 hq => ?_)
      obtain ⟨r15, rfl, hz15, hs⟩ := hq
      refine tm_i (p1 := 122) (p2 := 120) rfl (fun h16 => ?_) (fun h16 => ?_)
      · replace hs := hs.1 h16
        exact tx_Tx_factor_122 hr_Tx_factor hr_Tx_product hr_Tx_sum hs 
      · replace hs := hs.2 h16
        refine tm_go 1 (pc' := 121) (L' := [some (.ref 129), some (.int y102_1), some (.int y102_2), some (.int ys102_0), z4]) (S' := [.int (-1)]) (w' := w15) rfl ?_
        exact tm_r rfl ⟨_, rfl, hs⟩
set_option maxHeartbeats 4000000 in
set_option maxRecDepth 100000 in
theorem tx_Tx_factor_53 {d : Nat} {r_Tx_factor : MW → (Int32 → MW → Prop) → Prop} {r_Tx_product : MW → (Int32 → MW → Prop) → Prop} {r_Tx_sum : MW → (Int32 → MW → Prop) → Prop} (hr_Tx_factor : ∀ (w : MW) (Q : Int32 → MW → Prop), r_Tx_factor w Q → Tc (d + 3) 322 [.ref 129] w (RI Q)) (hr_Tx_product : ∀ (w : MW) (Q : Int32 → MW → Prop), r_Tx_product w Q → Tc (d + 3) 321 [.ref 129] w (RI Q)) (hr_Tx_sum : ∀ (w : MW) (Q : Int32 → MW → Prop), r_Tx_sum w Q → Tc (d + 3) 320 [.ref 129] w (RI Q)) {y53_1 : Int32} {ys53_0 : Int32} {z2 : Option Value} {z3 : Option Value} {z4 : Option Value} {w : MW} {Q : Int32 → MW → Prop} (hs : q_Tx_factor_53 r_Tx_factor r_Tx_product r_Tx_sum y53_1 ys53_0 w Q) : Tm (d + 4) 322 53 [some (.ref 129), some (.int y53_1), z2, z3, z4] [.int ys53_0] w (RI Q) := by
  unfold q_Tx_factor_53 at hs
  refine tm_go 4 (pc' := 60) (L' := [some (.ref 129), some (.int y53_1), some (.int ys53_0), z3, z4]) (S' := [.int 20, .int (w.1 129 11)]) (w' := w) rfl ?_
  refine tm_i (p1 := 68) (p2 := 63) rfl (fun h4 => ?_) (fun h4 => ?_)
  · replace hs := hs.1 h4
    refine tm_go 7 (pc' := 79) (L' := [some (.ref 129), some (.int y53_1), some (.int ys53_0), z3, z4]) (S' := [.ref 129]) (w' := (sI w 129 11 ((w.1 129 11) + (1 : Int32)))) rfl ?_
    refine tm_c rfl (Nat.le_of_ble_eq_true rfl) (dm_Tx_go (d := d + 1) hs) (fun v w5 hq => ?_)
    obtain ⟨r5, rfl, hz5, hs⟩ := hq
    refine tm_i (p1 := 87) (p2 := 85) rfl (fun h6 => ?_) (fun h6 => ?_)
    · replace hs := hs.1 h6
      refine tm_go 1 (pc' := 88) (L' := [some (.ref 129), some (.int y53_1), some (.int ys53_0), z3, z4]) (S' := [.int ys53_0]) (w' := w5) rfl ?_
      refine tm_i (p1 := 98) (p2 := 91) rfl (fun h7 => ?_) (fun h7 => ?_)
      · replace hs := hs.1 h7
        refine tm_go 1 (pc' := 99) (L' := [some (.ref 129), some (.int y53_1), some (.int ys53_0), z3, z4]) (S' := [.ref 129]) (w' := w5) rfl ?_
        refine tm_c rfl (Nat.le_of_ble_eq_true rfl) (hr_Tx_sum _ _ hs) (fun v w8 hq => ?_)
        obtain ⟨r8, rfl, hs⟩ := hq
        exact tx_Tx_factor_102 hr_Tx_factor hr_Tx_product hr_Tx_sum hs 
      · replace hs := hs.2 h7
        refine tm_go 1 (pc' := 92) (L' := [some (.ref 129), some (.int y53_1), some (.int ys53_0), z3, z4]) (S' := [.ref 129]) (w' := w5) rfl ?_
        refine tm_c rfl (Nat.le_of_ble_eq_true rfl) (hr_Tx_factor _ _ hs) (fun v w17 hq => ?_)
        obtain ⟨r17, rfl, hs⟩ := hq
        refine tm_go 1 (pc' := 102) (L' := [some (.ref 129), some (.int y53_1), some (.int ys53_0), z3, z4]) (S' := [.int r17]) (w' := w17) rfl ?_
        exact tx_Tx_factor_102 hr_Tx_factor hr_Tx_product hr_Tx_sum hs 
    · replace hs := hs.2 h6
      refine tm_go 1 (pc' := 86) (L' := [some (.ref 129), some (.int y53_1), some (.int ys53_0), z3, z4]) (S' := [.int (-1)]) (w' := w5) rfl ?_
      exact tm_r rfl ⟨_, rfl, hs⟩
  · replace hs := hs.2 h4
    refine tm_go 1 (pc' := 64) (L' := [some (.ref 129), some (.int y53_1), some (.int ys53_0), z3, z4]) (S' := [.ref 129]) (w' := w) rfl ?_
    refine tm_c rfl (Nat.le_of_ble_eq_true rfl) (dm_Tx_bad (d := d + 3) hs) (fun v w18 hq => ?_)
    obtain ⟨r18, rfl, hs⟩ := hq
    exact tm_r rfl ⟨_, rfl, hs⟩
set_option maxHeartbeats 4000000 in
set_option maxRecDepth 100000 in
theorem tx_Tx_factor_181 {d : Nat} {r_Tx_factor : MW → (Int32 → MW → Prop) → Prop} {r_Tx_product : MW → (Int32 → MW → Prop) → Prop} {r_Tx_sum : MW → (Int32 → MW → Prop) → Prop} (hr_Tx_factor : ∀ (w : MW) (Q : Int32 → MW → Prop), r_Tx_factor w Q → Tc (d + 3) 322 [.ref 129] w (RI Q)) (hr_Tx_product : ∀ (w : MW) (Q : Int32 → MW → Prop), r_Tx_product w Q → Tc (d + 3) 321 [.ref 129] w (RI Q)) (hr_Tx_sum : ∀ (w : MW) (Q : Int32 → MW → Prop), r_Tx_sum w Q → Tc (d + 3) 320 [.ref 129] w (RI Q)) {y181_1 : Int32} {ys181_0 : Int32} {z2 : Option Value} {z3 : Option Value} {z4 : Option Value} {w : MW} {Q : Int32 → MW → Prop} (hs : q_Tx_factor_181 r_Tx_factor r_Tx_product r_Tx_sum y181_1 ys181_0 w Q) : Tm (d + 4) 322 181 [some (.ref 129), some (.int y181_1), z2, z3, z4] [.int ys181_0] w (RI Q) := by
  unfold q_Tx_factor_181 at hs
  refine tm_go 2 (pc' := 183) (L' := [some (.ref 129), some (.int y181_1), some (.int ys181_0), z3, z4]) (S' := [.int ys181_0]) (w' := w) rfl ?_
  refine tm_i (p1 := 207) (p2 := 186) rfl (fun h22 => ?_) (fun h22 => ?_)
  · replace hs := hs.1 h22
    refine tm_go 1 (pc' := 208) (L' := [some (.ref 129), some (.int y181_1), some (.int ys181_0), z3, z4]) (S' := [.ref 129]) (w' := w) rfl ?_
    refine tm_c rfl (Nat.le_of_ble_eq_true rfl) (dm_Tx_bad (d := d + 3) hs) (fun v w23 hq => ?_)
    obtain ⟨r23, rfl, hs⟩ := hq
    exact tm_r rfl ⟨_, rfl, hs⟩
  · replace hs := hs.2 h22
    refine tm_go 10 (pc' := 201) (L' := [some (.ref 129), some (.int y181_1), some (.int ys181_0), z3, z4]) (S' := [.int (((40 : Int32) * ((1 : Int32) - (w.1 129 12))) + ys181_0), .ref 141]) (w' := w) rfl ?_
    obtain ⟨b24, hs⟩ := hs
    refine tm_k (pc' := 202) (L' := [some (.ref 129), some (.int y181_1), some (.int ys181_0), z3, z4]) (S' := [.int (w.1 141 ((((40 : Int32) * ((1 : Int32) - (w.1 129 12))) + ys181_0).toInt.toNat))]) (w' := w) rfl b24 ?_
    refine tm_go 1 (pc' := 204) (L' := [some (.ref 129), some (.int y181_1), some (.int ys181_0), z3, z4]) (S' := [.int 24, .int (w.1 141 ((((40 : Int32) * ((1 : Int32) - (w.1 129 12))) + ys181_0).toInt.toNat))]) (w' := w) rfl ?_
    refine tm_i (p1 := 212) (p2 := 207) rfl (fun h25 => ?_) (fun h25 => ?_)
    · replace hs := hs.1 h25
      refine tm_go 10 (pc' := 227) (L' := [some (.ref 129), some (.int y181_1), some (.int ys181_0), z3, z4]) (S' := [.int (((40 : Int32) * ((1 : Int32) - (w.1 129 12))) + ys181_0), .ref 142]) (w' := w) rfl ?_
      obtain ⟨b26, hs⟩ := hs
      refine tm_k (pc' := 228) (L' := [some (.ref 129), some (.int y181_1), some (.int ys181_0), z3, z4]) (S' := [.int (w.1 142 ((((40 : Int32) * ((1 : Int32) - (w.1 129 12))) + ys181_0).toInt.toNat))]) (w' := w) rfl b26 ?_
      refine tm_go 2 (pc' := 230) (L' := [some (.ref 129), some (.int y181_1), some (.int ys181_0), some (.int (w.1 142 ((((40 : Int32) * ((1 : Int32) - (w.1 129 12))) + ys181_0).toInt.toNat))), z4]) (S' := [.ref 129]) (w' := w) rfl ?_
      refine tm_c rfl (Nat.le_of_ble_eq_true rfl) (dm_Tx_go (d := d + 1) hs) (fun v w27 hq => ?_)
      obtain ⟨r27, rfl, hz27, hs⟩ := hq
      refine tm_i (p1 := 252) (p2 := 236) rfl (fun h28 => ?_) (fun h28 => ?_)
      · replace hs := hs.1 h28
        refine tm_go 1 (pc' := 253) (L' := [some (.ref 129), some (.int y181_1), some (.int ys181_0), some (.int (w.1 142 ((((40 : Int32) * ((1 : Int32) - (w.1 129 12))) + ys181_0).toInt.toNat))), z4]) (S' := [.int (-1)]) (w' := w27) rfl ?_
        exact tm_r rfl ⟨_, rfl, hs⟩
      · replace hs := hs.2 h28
        refine tm_go 8 (pc' := 246) (L' := [some (.ref 129), some (.int y181_1), some (.int ys181_0), some (.int (w.1 142 ((((40 : Int32) * ((1 : Int32) - (w.1 129 12))) + ys181_0).toInt.toNat))), z4]) (S' := [.int (w27.1 129 35), .int (w.1 142 ((((40 : Int32) * ((1 : Int32) - (w.1 129 12))) + ys181_0).toInt.toNat)), .int y181_1, .long (Int32.toInt64 ys181_0), .int 1, .ref 129]) (w' := w27) rfl ?_
        refine tm_c rfl (Nat.le_of_ble_eq_true rfl) (dm_Tx_node0 (d := d + 2) hs) (fun v w29 hq => ?_)
        obtain ⟨r29, rfl, hs⟩ := hq
        refine tm_go 1 (pc' := 253) (L' := [some (.ref 129), some (.int y181_1), some (.int ys181_0), some (.int (w.1 142 ((((40 : Int32) * ((1 : Int32) - (w.1 129 12))) + ys181_0).toInt.toNat))), z4]) (S' := [.int r29]) (w' := w29) rfl ?_
        exact tm_r rfl ⟨_, rfl, hs⟩
    · replace hs := hs.2 h25
      refine tm_go 1 (pc' := 208) (L' := [some (.ref 129), some (.int y181_1), some (.int ys181_0), z3, z4]) (S' := [.ref 129]) (w' := w) rfl ?_
      refine tm_c rfl (Nat.le_of_ble_eq_true rfl) (dm_Tx_bad (d := d + 3) hs) (fun v w30 hq => ?_)
      obtain ⟨r30, rfl, hs⟩ := hq
      exact tm_r rfl ⟨_, rfl, hs⟩
set_option maxHeartbeats 4000000 in
set_option maxRecDepth 100000 in
theorem dmb_Tx_factor {d : Nat} {r_Tx_factor : MW → (Int32 → MW → Prop) → Prop} {r_Tx_product : MW → (Int32 → MW → Prop) → Prop} {r_Tx_sum : MW → (Int32 → MW → Prop) → Prop} (hr_Tx_factor : ∀ (w : MW) (Q : Int32 → MW → Prop), r_Tx_factor w Q → Tc (d + 3) 322 [.ref 129] w (RI Q)) (hr_Tx_product : ∀ (w : MW) (Q : Int32 → MW → Prop), r_Tx_product w Q → Tc (d + 3) 321 [.ref 129] w (RI Q)) (hr_Tx_sum : ∀ (w : MW) (Q : Int32 → MW → Prop), r_Tx_sum w Q → Tc (d + 3) 320 [.ref 129] w (RI Q)) {w : MW} {Q : Int32 → MW → Prop} (hs : pb_Tx_factor r_Tx_factor r_Tx_product r_Tx_sum w Q) : Tc (d + 4) 322 [.ref 129] w (RI Q) := by
  unfold pb_Tx_factor at hs
  refine tm_go 6 (pc' := 12) (L' := [some (.ref 129), some (.int (w.1 129 7)), none, none, none]) (S' := [.int 2000, .int (w.1 129 4)]) (w' := w) rfl ?_
  refine tm_i (p1 := 21) (p2 := 15) rfl (fun h1 => ?_) (fun h1 => ?_)
  · replace hs := hs.1 h1
    refine tm_go 3 (pc' := 27) (L' := [some (.ref 129), some (.int (w.1 129 7)), none, none, none]) (S' := [.int 40, .int (w.1 129 4)]) (w' := w) rfl ?_
    refine tm_i (p1 := 39) (p2 := 30) rfl (fun h2 => ?_) (fun h2 => ?_)
    · replace hs := hs.1 h2
      refine tm_go 3 (pc' := 45) (L' := [some (.ref 129), some (.int (w.1 129 7)), none, none, none]) (S' := [.int 45, .int (w.1 129 4)]) (w' := w) rfl ?_
      refine tm_i (p1 := 52) (p2 := 48) rfl (fun h3 => ?_) (fun h3 => ?_)
      · replace hs := hs.1 h3
        refine tm_go 1 (pc' := 53) (L' := [some (.ref 129), some (.int (w.1 129 7)), none, none, none]) (S' := [.int 0]) (w' := w) rfl ?_
        exact tx_Tx_factor_53 hr_Tx_factor hr_Tx_product hr_Tx_sum hs 
      · replace hs := hs.2 h3
        refine tm_go 2 (pc' := 53) (L' := [some (.ref 129), some (.int (w.1 129 7)), none, none, none]) (S' := [.int 1]) (w' := w) rfl ?_
        exact tx_Tx_factor_53 hr_Tx_factor hr_Tx_product hr_Tx_sum hs 
    · replace hs := hs.2 h2
      refine tm_go 3 (pc' := 36) (L' := [some (.ref 129), some (.int (w.1 129 7)), none, none, none]) (S' := [.int 45, .int (w.1 129 4)]) (w' := w) rfl ?_
      refine tm_i (p1 := 165) (p2 := 39) rfl (fun h19 => ?_) (fun h19 => ?_)
      · replace hs := hs.1 h19
        refine tm_go 2 (pc' := 167) (L' := [some (.ref 129), some (.int (w.1 129 7)), none, none, none]) (S' := [.int (-1), .ref 129]) (w' := w) rfl ?_
        refine tm_c rfl (Nat.le_of_ble_eq_true rfl) (dm_Tx_isWord (d := d + 3) hs) (fun v w20 hq => ?_)
        obtain ⟨r20, rfl, hz20, hs⟩ := hq
        refine tm_i (p1 := 180) (p2 := 173) rfl (fun h21 => ?_) (fun h21 => ?_)
        · replace hs := hs.1 h21
          refine tm_go 1 (pc' := 181) (L' := [some (.ref 129), some (.int (w.1 129 7)), none, none, none]) (S' := [.int (-1)]) (w' := w20) rfl ?_
          exact tx_Tx_factor_181 hr_Tx_factor hr_Tx_product hr_Tx_sum hs 
        · replace hs := hs.2 h21
          refine tm_go 1 (pc' := 174) (L' := [some (.ref 129), some (.int (w.1 129 7)), none, none, none]) (S' := [.ref 129]) (w' := w20) rfl ?_
          refine tm_c rfl (Nat.le_of_ble_eq_true rfl) (dm_Tx_nameOf (d := d + 3) hs) (fun v w31 hq => ?_)
          obtain ⟨r31, rfl, hs⟩ := hq
          refine tm_go 1 (pc' := 181) (L' := [some (.ref 129), some (.int (w.1 129 7)), none, none, none]) (S' := [.int r31]) (w' := w31) rfl ?_
          exact tx_Tx_factor_181 hr_Tx_factor hr_Tx_product hr_Tx_sum hs 
      · replace hs := hs.2 h19
        refine tm_go 3 (pc' := 45) (L' := [some (.ref 129), some (.int (w.1 129 7)), none, none, none]) (S' := [.int 45, .int (w.1 129 4)]) (w' := w) rfl ?_
        refine tm_i (p1 := 52) (p2 := 48) rfl (fun h => absurd h h19) (fun _ => ?_)
        refine tm_go 2 (pc' := 53) (L' := [some (.ref 129), some (.int (w.1 129 7)), none, none, none]) (S' := [.int 1]) (w' := w) rfl ?_
        exact tx_Tx_factor_53 hr_Tx_factor hr_Tx_product hr_Tx_sum hs 
  · replace hs := hs.2 h1
    refine tm_go 2 (pc' := 17) (L' := [some (.ref 129), some (.int (w.1 129 7)), none, none, none]) (S' := [.int (w.1 129 7), .ref 129]) (w' := w) rfl ?_
    refine tm_c rfl (Nat.le_of_ble_eq_true rfl) (dm_Tx_numberNode (d := d + 0) hs) (fun v w33 hq => ?_)
    obtain ⟨r33, rfl, hs⟩ := hq
    exact tm_r rfl ⟨_, rfl, hs⟩
set_option maxHeartbeats 4000000 in
set_option maxRecDepth 100000 in
theorem tx_Tx_product_137 {d : Nat} {r_Tx_factor : MW → (Int32 → MW → Prop) → Prop} {r_Tx_product : MW → (Int32 → MW → Prop) → Prop} {r_Tx_sum : MW → (Int32 → MW → Prop) → Prop} (hr_Tx_factor : ∀ (w : MW) (Q : Int32 → MW → Prop), r_Tx_factor w Q → Tc (d + 3) 322 [.ref 129] w (RI Q)) (hr_Tx_product : ∀ (w : MW) (Q : Int32 → MW → Prop), r_Tx_product w Q → Tc (d + 3) 321 [.ref 129] w (RI Q)) (hr_Tx_sum : ∀ (w : MW) (Q : Int32 → MW → Prop), r_Tx_sum w Q → Tc (d + 3) 320 [.ref 129] w (RI Q)) {y137_1 : Int32} {y137_2 : Int32} {y137_3 : Int32} {y137_4 : Int32} {ys137_0 : Int32} {z5 : Option Value} {z6 : Option Value} {z7 : Option Value} {w : MW} {A : Int32 → MW → Prop} {E : Int32 → MW → Prop} {Q : Int32 → MW → Prop} (hs : q_Tx_product_137 r_Tx_factor r_Tx_product r_Tx_sum y137_1 y137_2 y137_3 y137_4 ys137_0 w A E Q) (hA : ∀ (x5_1 : Int32)  (z2 : Option Value) (z3 : Option Value) (z4 : Option Value) (z5 : Option Value) (z6 : Option Value) (z7 : Option Value) (w : MW), A x5_1 w → Tm (d + 4) 321 5 [some (.ref 129), some (.int x5_1), z2, z3, z4, z5, z6, z7] [] w (RI Q)) (hE : ∀ (e5_1 : Int32)  (v0 : Option Value) (v2 : Option Value) (v3 : Option Value) (v4 : Option Value) (v5 : Option Value) (v6 : Option Value) (v7 : Option Value) (w : MW), E e5_1 w → Tm (d + 4) 321 166 [v0, some (.int e5_1), v2, v3, v4, v5, v6, v7] [] w (RI Q)) : Tm (d + 4) 321 137 [some (.ref 129), some (.int y137_1), some (.int y137_2), some (.int y137_3), some (.int y137_4), z5, z6, z7] [.int ys137_0] w (RI Q) := by
  unfold q_Tx_product_137 at hs
  refine tm_go 3 (pc' := 142) (L' := [some (.ref 129), some (.int y137_1), some (.int y137_2), some (.int y137_3), some (.int y137_4), z5, (ksl z6), some (.int ys137_0)]) (S' := [.int (-1), .int ys137_0]) (w' := w) rfl ?_
  refine tm_i (p1 := 152) (p2 := 145) rfl (fun h13 => ?_) (fun h13 => ?_)
  · replace hs := hs.1 h13
    refine tm_go 5 (pc' := 159) (L' := [some (.ref 129), some (.int y137_1), some (.int y137_2), some (.int y137_3), some (.int y137_4), z5, (ksl z6), some (.int ys137_0)]) (S' := [.int ys137_0, .int y137_4, .int y137_1, .int y137_2, .ref 129]) (w' := w) rfl ?_
    refine tm_c rfl (Nat.le_of_ble_eq_true rfl) (dm_Tx_two (d := d + 1) hs) (fun v w14 hq => ?_)
    obtain ⟨r14, rfl, hs⟩ := hq
    refine tm_go 2 (pc' := 5) (L' := [some (.ref 129), some (.int r14), some (.int y137_2), some (.int y137_3), some (.int y137_4), z5, (ksl z6), some (.int ys137_0)]) (S' := []) (w' := w14) rfl ?_
    exact hA _ _ _ _ _ _ _ _ hs
  · replace hs := hs.2 h13
    refine tm_go 4 (pc' := 151) (L' := [some (.ref 129), some (.int y137_1), some (.int y137_2), some (.int y137_3), some (.int y137_4), z5, (ksl z6), some (.int ys137_0)]) (S' := [.int (-1)]) (w' := (sI w 129 10 y137_3)) rfl ?_
    exact tm_r rfl ⟨_, rfl, hs⟩
set_option maxHeartbeats 4000000 in
set_option maxRecDepth 100000 in
theorem tx_Tx_product_62 {d : Nat} {r_Tx_factor : MW → (Int32 → MW → Prop) → Prop} {r_Tx_product : MW → (Int32 → MW → Prop) → Prop} {r_Tx_sum : MW → (Int32 → MW → Prop) → Prop} (hr_Tx_factor : ∀ (w : MW) (Q : Int32 → MW → Prop), r_Tx_factor w Q → Tc (d + 3) 322 [.ref 129] w (RI Q)) (hr_Tx_product : ∀ (w : MW) (Q : Int32 → MW → Prop), r_Tx_product w Q → Tc (d + 3) 321 [.ref 129] w (RI Q)) (hr_Tx_sum : ∀ (w : MW) (Q : Int32 → MW → Prop), r_Tx_sum w Q → Tc (d + 3) 320 [.ref 129] w (RI Q)) {y62_1 : Int32} {y62_2 : Int32} {y62_3 : Int32} {ys62_0 : Int32} {z4 : Option Value} {z5 : Option Value} {z6 : Option Value} {z7 : Option Value} {w : MW} {A : Int32 → MW → Prop} {E : Int32 → MW → Prop} {Q : Int32 → MW → Prop} (hs : q_Tx_product_62 r_Tx_factor r_Tx_product r_Tx_sum y62_1 y62_2 y62_3 ys62_0 w A E Q) (hA : ∀ (x5_1 : Int32)  (z2 : Option Value) (z3 : Option Value) (z4 : Option Value) (z5 : Option Value) (z6 : Option Value) (z7 : Option Value) (w : MW), A x5_1 w → Tm (d + 4) 321 5 [some (.ref 129), some (.int x5_1), z2, z3, z4, z5, z6, z7] [] w (RI Q)) (hE : ∀ (e5_1 : Int32)  (v0 : Option Value) (v2 : Option Value) (v3 : Option Value) (v4 : Option Value) (v5 : Option Value) (v6 : Option Value) (v7 : Option Value) (w : MW), E e5_1 w → Tm (d + 4) 321 166 [v0, some (.int e5_1), v2, v3, v4, v5, v6, v7] [] w (RI Q)) : Tm (d + 4) 321 62 [some (.ref 129), some (.int y62_1), some (.int y62_2), some (.int y62_3), z4, z5, z6, z7] [.int ys62_0] w (RI Q) := by
  unfold q_Tx_product_62 at hs
  refine tm_go 2 (pc' := 66) (L' := [some (.ref 129), some (.int y62_1), some (.int y62_2), some (.int y62_3), some (.int ys62_0), z5, z6, z7]) (S' := [.int ys62_0]) (w' := w) rfl ?_
  refine tm_i (p1 := 71) (p2 := 69) rfl (fun h7 => ?_) (fun h7 => ?_)
  · replace hs := hs.1 h7
    refine tm_go 2 (pc' := 73) (L' := [some (.ref 129), some (.int y62_1), some (.int y62_2), some (.int y62_3), some (.int ys62_0), z5, z6, z7]) (S' := [.int y62_1, .ref 129]) (w' := w) rfl ?_
    refine tm_c rfl (Nat.le_of_ble_eq_true rfl) (dm_Tx_unitIn (d := d + 2) hs) (fun v w8 hq => ?_)
    obtain ⟨r8, rfl, hs⟩ := hq
    refine tm_go 3 (pc' := 81) (L' := [some (.ref 129), some (.int y62_1), some (.int y62_2), some (.int y62_3), some (.int ys62_0), some (.int r8), z6, z7]) (S' := [.int ys62_0, .ref 129]) (w' := w8) rfl ?_
    refine tm_c rfl (Nat.le_of_ble_eq_true rfl) (dm_Tx_unitIn (d := d + 2) hs) (fun v w9 hq => ?_)
    obtain ⟨r9, rfl, hs⟩ := hq
    refine tm_go 3 (pc' := 88) (L' := [some (.ref 129), some (.int y62_1), some (.int y62_2), some (.int y62_3), some (.int ys62_0), some (.int r8), some (.int r9), z7]) (S' := [.int 4, .int y62_2]) (w' := w9) rfl ?_
    refine tm_i (p1 := 115) (p2 := 91) rfl (fun h10 => ?_) (fun h10 => ?_)
    · replace hs := hs.1 h10
      refine tm_go 1 (pc' := 117) (L' := [some (.ref 129), some (.int y62_1), some (.int y62_2), some (.int y62_3), some (.int ys62_0), some (.int r8), some (.int r9), z7]) (S' := [.int r9]) (w' := w9) rfl ?_
      refine tm_i (p1 := 125) (p2 := 120) rfl (fun h11 => ?_) (fun h11 => ?_)
      · replace hs := hs.1 h11
        refine tm_go 2 (pc' := 129) (L' := [some (.ref 129), some (.int y62_1), some (.int y62_2), some (.int y62_3), some (.int ys62_0), some (.int r8), some (.int r9), z7]) (S' := [.int r9, .int r8]) (w' := w9) rfl ?_
        refine tm_i (p1 := 136) (p2 := 132) rfl (fun h12 => ?_) (fun h12 => ?_)
        · replace hs := hs.1 h12
          refine tm_go 1 (pc' := 137) (L' := [some (.ref 129), some (.int y62_1), some (.int y62_2), some (.int y62_3), some (.int ys62_0), some (.int r8), some (.int r9), z7]) (S' := [.int (-1)]) (w' := w9) rfl ?_
          exact tx_Tx_product_137 hr_Tx_factor hr_Tx_product hr_Tx_sum hs hA hE
        · replace hs := hs.2 h12
          refine tm_go 2 (pc' := 137) (L' := [some (.ref 129), some (.int y62_1), some (.int y62_2), some (.int y62_3), some (.int ys62_0), some (.int r8), some (.int r9), z7]) (S' := [.int 0]) (w' := w9) rfl ?_
          exact tx_Tx_product_137 hr_Tx_factor hr_Tx_product hr_Tx_sum hs hA hE
      · replace hs := hs.2 h11
        refine tm_go 2 (pc' := 137) (L' := [some (.ref 129), some (.int y62_1), some (.int y62_2), some (.int y62_3), some (.int ys62_0), some (.int r8), some (.int r9), z7]) (S' := [.int r8]) (w' := w9) rfl ?_
        exact tx_Tx_product_137 hr_Tx_factor hr_Tx_product hr_Tx_sum hs hA hE
    · replace hs := hs.2 h10
      refine tm_go 1 (pc' := 93) (L' := [some (.ref 129), some (.int y62_1), some (.int y62_2), some (.int y62_3), some (.int ys62_0), some (.int r8), some (.int r9), z7]) (S' := [.int r8]) (w' := w9) rfl ?_
      refine tm_i (p1 := 101) (p2 := 96) rfl (fun h15 => ?_) (fun h15 => ?_)
      · replace hs := hs.1 h15
        refine tm_go 1 (pc' := 103) (L' := [some (.ref 129), some (.int y62_1), some (.int y62_2), some (.int y62_3), some (.int ys62_0), some (.int r8), some (.int r9), z7]) (S' := [.int r9]) (w' := w9) rfl ?_
        refine tm_i (p1 := 111) (p2 := 106) rfl (fun h16 => ?_) (fun h16 => ?_)
        · replace hs := hs.1 h16
          refine tm_go 2 (pc' := 137) (L' := [some (.ref 129), some (.int y62_1), some (.int y62_2), some (.int y62_3), some (.int ys62_0), some (.int r8), some (.int r9), z7]) (S' := [.int (-1)]) (w' := w9) rfl ?_
          exact tx_Tx_product_137 hr_Tx_factor hr_Tx_product hr_Tx_sum hs hA hE
        · replace hs := hs.2 h16
          refine tm_go 2 (pc' := 137) (L' := [some (.ref 129), some (.int y62_1), some (.int y62_2), some (.int y62_3), some (.int ys62_0), some (.int r8), some (.int r9), z7]) (S' := [.int r8]) (w' := w9) rfl ?_
          exact tx_Tx_product_137 hr_Tx_factor hr_Tx_product hr_Tx_sum hs hA hE
      · replace hs := hs.2 h15
        refine tm_go 2 (pc' := 137) (L' := [some (.ref 129), some (.int y62_1), some (.int y62_2), some (.int y62_3), some (.int ys62_0), some (.int r8), some (.int r9), z7]) (S' := [.int r9]) (w' := w9) rfl ?_
        exact tx_Tx_product_137 hr_Tx_factor hr_Tx_product hr_Tx_sum hs hA hE
  · replace hs := hs.2 h7
    refine tm_go 1 (pc' := 70) (L' := [some (.ref 129), some (.int y62_1), some (.int y62_2), some (.int y62_3), some (.int ys62_0), z5, z6, z7]) (S' := [.int (-1)]) (w' := w) rfl ?_
    exact tm_r rfl ⟨_, rfl, hs⟩
set_option maxHeartbeats 4000000 in
set_option maxRecDepth 100000 in
theorem tx_Tx_product_27 {d : Nat} {r_Tx_factor : MW → (Int32 → MW → Prop) → Prop} {r_Tx_product : MW → (Int32 → MW → Prop) → Prop} {r_Tx_sum : MW → (Int32 → MW → Prop) → Prop} (hr_Tx_factor : ∀ (w : MW) (Q : Int32 → MW → Prop), r_Tx_factor w Q → Tc (d + 3) 322 [.ref 129] w (RI Q)) (hr_Tx_product : ∀ (w : MW) (Q : Int32 → MW → Prop), r_Tx_product w Q → Tc (d + 3) 321 [.ref 129] w (RI Q)) (hr_Tx_sum : ∀ (w : MW) (Q : Int32 → MW → Prop), r_Tx_sum w Q → Tc (d + 3) 320 [.ref 129] w (RI Q)) {y27_1 : Int32} {z2 : Option Value} {z3 : Option Value} {z4 : Option Value} {z5 : Option Value} {z6 : Option Value} {z7 : Option Value} {w : MW} {A : Int32 → MW → Prop} {E : Int32 → MW → Prop} {Q : Int32 → MW → Prop} (hs : q_Tx_product_27 r_Tx_factor r_Tx_product r_Tx_sum y27_1 w A E Q) (hA : ∀ (x5_1 : Int32)  (z2 : Option Value) (z3 : Option Value) (z4 : Option Value) (z5 : Option Value) (z6 : Option Value) (z7 : Option Value) (w : MW), A x5_1 w → Tm (d + 4) 321 5 [some (.ref 129), some (.int x5_1), z2, z3, z4, z5, z6, z7] [] w (RI Q)) (hE : ∀ (e5_1 : Int32)  (v0 : Option Value) (v2 : Option Value) (v3 : Option Value) (v4 : Option Value) (v5 : Option Value) (v6 : Option Value) (v7 : Option Value) (w : MW), E e5_1 w → Tm (d + 4) 321 166 [v0, some (.int e5_1), v2, v3, v4, v5, v6, v7] [] w (RI Q)) : Tm (d + 4) 321 27 [some (.ref 129), some (.int y27_1), z2, z3, z4, z5, z6, z7] [] w (RI Q) := by
  unfold q_Tx_product_27 at hs
  refine tm_go 3 (pc' := 33) (L' := [some (.ref 129), some (.int y27_1), z2, z3, z4, z5, z6, z7]) (S' := [.int 42, .int (w.1 129 4)]) (w' := w) rfl ?_
  refine tm_i (p1 := 40) (p2 := 36) rfl (fun h4 => ?_) (fun h4 => ?_)
  · replace hs := hs.1 h4
    refine tm_go 6 (pc' := 48) (L' := [some (.ref 129), some (.int y27_1), some (.int 5), some (.int (w.1 129 5)), z4, z5, z6, z7]) (S' := [.ref 129]) (w' := w) rfl ?_
    refine tm_c rfl (Nat.le_of_ble_eq_true rfl) (dm_Tx_go (d := d + 1) hs) (fun v w5 hq => ?_)
    obtain ⟨r5, rfl, hz5, hs⟩ := hq
    refine tm_i (p1 := 61) (p2 := 54) rfl (fun h6 => ?_) (fun h6 => ?_)
    · replace hs := hs.1 h6
      refine tm_go 1 (pc' := 62) (L' := [some (.ref 129), some (.int y27_1), some (.int 5), some (.int (w.1 129 5)), z4, z5, z6, z7]) (S' := [.int (-1)]) (w' := w5) rfl ?_
      exact tx_Tx_product_62 hr_Tx_factor hr_Tx_product hr_Tx_sum hs hA hE
    · replace hs := hs.2 h6
      refine tm_go 1 (pc' := 55) (L' := [some (.ref 129), some (.int y27_1), some (.int 5), some (.int (w.1 129 5)), z4, z5, z6, z7]) (S' := [.ref 129]) (w' := w5) rfl ?_
      refine tm_c rfl (Nat.le_of_ble_eq_true rfl) (hr_Tx_factor _ _ hs) (fun v w17 hq => ?_)
      obtain ⟨r17, rfl, hs⟩ := hq
      refine tm_go 1 (pc' := 62) (L' := [some (.ref 129), some (.int y27_1), some (.int 5), some (.int (w.1 129 5)), z4, z5, z6, z7]) (S' := [.int r17]) (w' := w17) rfl ?_
      exact tx_Tx_product_62 hr_Tx_factor hr_Tx_product hr_Tx_sum hs hA hE
  · replace hs := hs.2 h4
    refine tm_go 7 (pc' := 48) (L' := [some (.ref 129), some (.int y27_1), some (.int 4), some (.int (w.1 129 5)), z4, z5, z6, z7]) (S' := [.ref 129]) (w' := w) rfl ?_
    refine tm_c rfl (Nat.le_of_ble_eq_true rfl) (dm_Tx_go (d := d + 1) hs) (fun v w18 hq => ?_)
    obtain ⟨r18, rfl, hz18, hs⟩ := hq
    refine tm_i (p1 := 61) (p2 := 54) rfl (fun h19 => ?_) (fun h19 => ?_)
    · replace hs := hs.1 h19
      refine tm_go 1 (pc' := 62) (L' := [some (.ref 129), some (.int y27_1), some (.int 4), some (.int (w.1 129 5)), z4, z5, z6, z7]) (S' := [.int (-1)]) (w' := w18) rfl ?_
      exact tx_Tx_product_62 hr_Tx_factor hr_Tx_product hr_Tx_sum hs hA hE
    · replace hs := hs.2 h19
      refine tm_go 1 (pc' := 55) (L' := [some (.ref 129), some (.int y27_1), some (.int 4), some (.int (w.1 129 5)), z4, z5, z6, z7]) (S' := [.ref 129]) (w' := w18) rfl ?_
      refine tm_c rfl (Nat.le_of_ble_eq_true rfl) (hr_Tx_factor _ _ hs) (fun v w20 hq => ?_)
      obtain ⟨r20, rfl, hs⟩ := hq
      refine tm_go 1 (pc' := 62) (L' := [some (.ref 129), some (.int y27_1), some (.int 4), some (.int (w.1 129 5)), z4, z5, z6, z7]) (S' := [.int r20]) (w' := w20) rfl ?_
      exact tx_Tx_product_62 hr_Tx_factor hr_Tx_product hr_Tx_sum hs hA hE
set_option maxHeartbeats 4000000 in
set_option maxRecDepth 100000 in
theorem tx_Tx_product_5 {d : Nat} {r_Tx_factor : MW → (Int32 → MW → Prop) → Prop} {r_Tx_product : MW → (Int32 → MW → Prop) → Prop} {r_Tx_sum : MW → (Int32 → MW → Prop) → Prop} (hr_Tx_factor : ∀ (w : MW) (Q : Int32 → MW → Prop), r_Tx_factor w Q → Tc (d + 3) 322 [.ref 129] w (RI Q)) (hr_Tx_product : ∀ (w : MW) (Q : Int32 → MW → Prop), r_Tx_product w Q → Tc (d + 3) 321 [.ref 129] w (RI Q)) (hr_Tx_sum : ∀ (w : MW) (Q : Int32 → MW → Prop), r_Tx_sum w Q → Tc (d + 3) 320 [.ref 129] w (RI Q)) {E : Int32 → MW → Prop} {Q : Int32 → MW → Prop} (n : Nat) : ∀ (x5_1 : Int32)  (z2 : Option Value) (z3 : Option Value) (z4 : Option Value) (z5 : Option Value) (z6 : Option Value) (z7 : Option Value) (w : MW), q_Tx_product_5 r_Tx_factor r_Tx_product r_Tx_sum  E Q n x5_1 w → (∀ (e5_1 : Int32)  (v0 : Option Value) (v2 : Option Value) (v3 : Option Value) (v4 : Option Value) (v5 : Option Value) (v6 : Option Value) (v7 : Option Value) (w : MW), E e5_1 w → Tm (d + 4) 321 166 [v0, some (.int e5_1), v2, v3, v4, v5, v6, v7] [] w (RI Q)) → Tm (d + 4) 321 5 [some (.ref 129), some (.int x5_1), z2, z3, z4, z5, z6, z7] [] w (RI Q) := by
  induction n with
  | zero => intro x5_1 z2 z3 z4 z5 z6 z7 w hs; rw [q_Tx_product_5.eq_1] at hs; exact hs.elim
  | succ n ih =>
    intro x5_1 z2 z3 z4 z5 z6 z7 w hs hE
    rw [q_Tx_product_5.eq_2] at hs
    refine tm_go 1 (pc' := 6) (L' := [some (.ref 129), some (.int x5_1), z2, z3, z4, z5, z6, z7]) (S' := [.int x5_1]) (w' := w) rfl ?_
    refine tm_i (p1 := 166) (p2 := 9) rfl (fun h2 => ?_) (fun h2 => ?_)
    · replace hs := hs.1 h2
      exact hE _ _ _ _ _ _ _ _ _ hs
    · replace hs := hs.2 h2
      refine tm_go 3 (pc' := 15) (L' := [some (.ref 129), some (.int x5_1), z2, z3, z4, z5, z6, z7]) (S' := [.int 42, .int (w.1 129 4)]) (w' := w) rfl ?_
      refine tm_i (p1 := 27) (p2 := 18) rfl (fun h3 => ?_) (fun h3 => ?_)
      · replace hs := hs.1 h3
        exact tx_Tx_product_27 hr_Tx_factor hr_Tx_product hr_Tx_sum hs (fun q0 q1 q2 q3 q4 q5 q6 q7 hs => ih q0 q1 q2 q3 q4 q5 q6 q7 hs hE) hE
      · replace hs := hs.2 h3
        refine tm_go 3 (pc' := 24) (L' := [some (.ref 129), some (.int x5_1), z2, z3, z4, z5, z6, z7]) (S' := [.int 47, .int (w.1 129 4)]) (w' := w) rfl ?_
        refine tm_i (p1 := 166) (p2 := 27) rfl (fun h21 => ?_) (fun h21 => ?_)
        · replace hs := hs.1 h21
          exact hE _ _ _ _ _ _ _ _ _ hs
        · replace hs := hs.2 h21
          exact tx_Tx_product_27 hr_Tx_factor hr_Tx_product hr_Tx_sum hs (fun q0 q1 q2 q3 q4 q5 q6 q7 hs => ih q0 q1 q2 q3 q4 q5 q6 q7 hs hE) hE
set_option maxHeartbeats 4000000 in
set_option maxRecDepth 100000 in
theorem dmb_Tx_product {d : Nat} {r_Tx_factor : MW → (Int32 → MW → Prop) → Prop} {r_Tx_product : MW → (Int32 → MW → Prop) → Prop} {r_Tx_sum : MW → (Int32 → MW → Prop) → Prop} (hr_Tx_factor : ∀ (w : MW) (Q : Int32 → MW → Prop), r_Tx_factor w Q → Tc (d + 3) 322 [.ref 129] w (RI Q)) (hr_Tx_product : ∀ (w : MW) (Q : Int32 → MW → Prop), r_Tx_product w Q → Tc (d + 3) 321 [.ref 129] w (RI Q)) (hr_Tx_sum : ∀ (w : MW) (Q : Int32 → MW → Prop), r_Tx_sum w Q → Tc (d + 3) 320 [.ref 129] w (RI Q)) {w : MW} {Q : Int32 → MW → Prop} (hs : pb_Tx_product r_Tx_factor r_Tx_product r_Tx_sum w Q) : Tc (d + 4) 321 [.ref 129] w (RI Q) := by
  unfold pb_Tx_product at hs
  refine tm_go 1 (pc' := 1) (L' := [some (.ref 129), none, none, none, none, none, none, none]) (S' := [.ref 129]) (w' := w) rfl ?_
  refine tm_c rfl (Nat.le_of_ble_eq_true rfl) (hr_Tx_factor _ _ hs) (fun v w1 hq => ?_)
  obtain ⟨r1, rfl, hs⟩ := hq
  refine tm_go 1 (pc' := 5) (L' := [some (.ref 129), some (.int r1), none, none, none, none, none, none]) (S' := []) (w' := w1) rfl ?_
  refine tx_Tx_product_5 hr_Tx_factor hr_Tx_product hr_Tx_sum FU _ _ _ _ _ _ _ _ hs (fun e5_1_22 z22_0 z22_2 z22_3 z22_4 z22_5 z22_6 z22_7 w22 hs => ?_)
  refine tm_go 1 (pc' := 167) (L' := [z22_0, some (.int e5_1_22), z22_2, z22_3, z22_4, z22_5, z22_6, z22_7]) (S' := [.int e5_1_22]) (w' := w22) rfl ?_
  exact tm_r rfl ⟨_, rfl, hs⟩
set_option maxHeartbeats 4000000 in
set_option maxRecDepth 100000 in
theorem tx_Tx_sum_62 {d : Nat} {r_Tx_factor : MW → (Int32 → MW → Prop) → Prop} {r_Tx_product : MW → (Int32 → MW → Prop) → Prop} {r_Tx_sum : MW → (Int32 → MW → Prop) → Prop} (hr_Tx_factor : ∀ (w : MW) (Q : Int32 → MW → Prop), r_Tx_factor w Q → Tc (d + 3) 322 [.ref 129] w (RI Q)) (hr_Tx_product : ∀ (w : MW) (Q : Int32 → MW → Prop), r_Tx_product w Q → Tc (d + 3) 321 [.ref 129] w (RI Q)) (hr_Tx_sum : ∀ (w : MW) (Q : Int32 → MW → Prop), r_Tx_sum w Q → Tc (d + 3) 320 [.ref 129] w (RI Q)) {y62_1 : Int32} {y62_2 : Int32} {y62_3 : Int32} {ys62_0 : Int32} {z4 : Option Value} {w : MW} {A : Int32 → MW → Prop} {E : Int32 → MW → Prop} {Q : Int32 → MW → Prop} (hs : q_Tx_sum_62 r_Tx_factor r_Tx_product r_Tx_sum y62_1 y62_2 y62_3 ys62_0 w A E Q) (hA : ∀ (x5_1 : Int32)  (z2 : Option Value) (z3 : Option Value) (z4 : Option Value) (w : MW), A x5_1 w → Tm (d + 4) 320 5 [some (.ref 129), some (.int x5_1), z2, z3, z4] [] w (RI Q)) (hE : ∀ (e5_1 : Int32)  (v0 : Option Value) (v2 : Option Value) (v3 : Option Value) (v4 : Option Value) (w : MW), E e5_1 w → Tm (d + 4) 320 109 [v0, some (.int e5_1), v2, v3, v4] [] w (RI Q)) : Tm (d + 4) 320 62 [some (.ref 129), some (.int y62_1), some (.int y62_2), some (.int y62_3), z4] [.int ys62_0] w (RI Q) := by
  unfold q_Tx_sum_62 at hs
  refine tm_go 2 (pc' := 66) (L' := [some (.ref 129), some (.int y62_1), some (.int y62_2), some (.int y62_3), some (.int ys62_0)]) (S' := [.int ys62_0]) (w' := w) rfl ?_
  refine tm_i (p1 := 71) (p2 := 69) rfl (fun h7 => ?_) (fun h7 => ?_)
  · replace hs := hs.1 h7
    refine tm_go 2 (pc' := 73) (L' := [some (.ref 129), some (.int y62_1), some (.int y62_2), some (.int y62_3), some (.int ys62_0)]) (S' := [.int y62_1, .ref 129]) (w' := w) rfl ?_
    refine tm_c rfl (Nat.le_of_ble_eq_true rfl) (dm_Tx_unitIn (d := d + 2) hs) (fun v w8 hq => ?_)
    obtain ⟨r8, rfl, hs⟩ := hq
    refine tm_go 2 (pc' := 79) (L' := [some (.ref 129), some (.int y62_1), some (.int y62_2), some (.int y62_3), some (.int ys62_0)]) (S' := [.int ys62_0, .ref 129, .int r8]) (w' := w8) rfl ?_
    refine tm_c rfl (Nat.le_of_ble_eq_true rfl) (dm_Tx_unitIn (d := d + 2) hs) (fun v w9 hq => ?_)
    obtain ⟨r9, rfl, hs⟩ := hq
    refine tm_i (p1 := 92) (p2 := 85) rfl (fun h10 => ?_) (fun h10 => ?_)
    · replace hs := hs.1 h10
      refine tm_go 6 (pc' := 99) (L' := [some (.ref 129), some (.int y62_1), some (.int y62_2), some (.int y62_3), some (.int ys62_0)]) (S' := [.int y62_1, .ref 129, .int ys62_0, .int y62_1, .int y62_2, .ref 129]) (w' := w9) rfl ?_
      refine tm_c rfl (Nat.le_of_ble_eq_true rfl) (dm_Tx_unitIn (d := d + 2) hs) (fun v w11 hq => ?_)
      obtain ⟨r11, rfl, hs⟩ := hq
      refine tm_c rfl (Nat.le_of_ble_eq_true rfl) (dm_Tx_two (d := d + 1) hs) (fun v w12 hq => ?_)
      obtain ⟨r12, rfl, hs⟩ := hq
      refine tm_go 2 (pc' := 5) (L' := [some (.ref 129), some (.int r12), some (.int y62_2), some (.int y62_3), some (.int ys62_0)]) (S' := []) (w' := w12) rfl ?_
      exact hA _ _ _ _ _ hs
    · replace hs := hs.2 h10
      refine tm_go 4 (pc' := 91) (L' := [some (.ref 129), some (.int y62_1), some (.int y62_2), some (.int y62_3), some (.int ys62_0)]) (S' := [.int (-1)]) (w' := (sI w9 129 10 y62_3)) rfl ?_
      exact tm_r rfl ⟨_, rfl, hs⟩
  · replace hs := hs.2 h7
    refine tm_go 1 (pc' := 70) (L' := [some (.ref 129), some (.int y62_1), some (.int y62_2), some (.int y62_3), some (.int ys62_0)]) (S' := [.int (-1)]) (w' := w) rfl ?_
    exact tm_r rfl ⟨_, rfl, hs⟩
set_option maxHeartbeats 4000000 in
set_option maxRecDepth 100000 in
theorem tx_Tx_sum_27 {d : Nat} {r_Tx_factor : MW → (Int32 → MW → Prop) → Prop} {r_Tx_product : MW → (Int32 → MW → Prop) → Prop} {r_Tx_sum : MW → (Int32 → MW → Prop) → Prop} (hr_Tx_factor : ∀ (w : MW) (Q : Int32 → MW → Prop), r_Tx_factor w Q → Tc (d + 3) 322 [.ref 129] w (RI Q)) (hr_Tx_product : ∀ (w : MW) (Q : Int32 → MW → Prop), r_Tx_product w Q → Tc (d + 3) 321 [.ref 129] w (RI Q)) (hr_Tx_sum : ∀ (w : MW) (Q : Int32 → MW → Prop), r_Tx_sum w Q → Tc (d + 3) 320 [.ref 129] w (RI Q)) {y27_1 : Int32} {z2 : Option Value} {z3 : Option Value} {z4 : Option Value} {w : MW} {A : Int32 → MW → Prop} {E : Int32 → MW → Prop} {Q : Int32 → MW → Prop} (hs : q_Tx_sum_27 r_Tx_factor r_Tx_product r_Tx_sum y27_1 w A E Q) (hA : ∀ (x5_1 : Int32)  (z2 : Option Value) (z3 : Option Value) (z4 : Option Value) (w : MW), A x5_1 w → Tm (d + 4) 320 5 [some (.ref 129), some (.int x5_1), z2, z3, z4] [] w (RI Q)) (hE : ∀ (e5_1 : Int32)  (v0 : Option Value) (v2 : Option Value) (v3 : Option Value) (v4 : Option Value) (w : MW), E e5_1 w → Tm (d + 4) 320 109 [v0, some (.int e5_1), v2, v3, v4] [] w (RI Q)) : Tm (d + 4) 320 27 [some (.ref 129), some (.int y27_1), z2, z3, z4] [] w (RI Q) := by
  unfold q_Tx_sum_27 at hs
  refine tm_go 3 (pc' := 33) (L' := [some (.ref 129), some (.int y27_1), z2, z3, z4]) (S' := [.int 43, .int (w.1 129 4)]) (w' := w) rfl ?_
  refine tm_i (p1 := 40) (p2 := 36) rfl (fun h4 => ?_) (fun h4 => ?_)
  · replace hs := hs.1 h4
    refine tm_go 6 (pc' := 48) (L' := [some (.ref 129), some (.int y27_1), some (.int 3), some (.int (w.1 129 5)), z4]) (S' := [.ref 129]) (w' := w) rfl ?_
    refine tm_c rfl (Nat.le_of_ble_eq_true rfl) (dm_Tx_go (d := d + 1) hs) (fun v w5 hq => ?_)
    obtain ⟨r5, rfl, hz5, hs⟩ := hq
    refine tm_i (p1 := 61) (p2 := 54) rfl (fun h6 => ?_) (fun h6 => ?_)
    · replace hs := hs.1 h6
      refine tm_go 1 (pc' := 62) (L' := [some (.ref 129), some (.int y27_1), some (.int 3), some (.int (w.1 129 5)), z4]) (S' := [.int (-1)]) (w' := w5) rfl ?_
      exact tx_Tx_sum_62 hr_Tx_factor hr_Tx_product hr_Tx_sum hs hA hE
    · replace hs := hs.2 h6
      refine tm_go 1 (pc' := 55) (L' := [some (.ref 129), some (.int y27_1), some (.int 3), some (.int (w.1 129 5)), z4]) (S' := [.ref 129]) (w' := w5) rfl ?_
      refine tm_c rfl (Nat.le_of_ble_eq_true rfl) (hr_Tx_product _ _ hs) (fun v w13 hq => ?_)
      obtain ⟨r13, rfl, hs⟩ := hq
      refine tm_go 1 (pc' := 62) (L' := [some (.ref 129), some (.int y27_1), some (.int 3), some (.int (w.1 129 5)), z4]) (S' := [.int r13]) (w' := w13) rfl ?_
      exact tx_Tx_sum_62 hr_Tx_factor hr_Tx_product hr_Tx_sum hs hA hE
  · replace hs := hs.2 h4
    refine tm_go 7 (pc' := 48) (L' := [some (.ref 129), some (.int y27_1), some (.int 2), some (.int (w.1 129 5)), z4]) (S' := [.ref 129]) (w' := w) rfl ?_
    refine tm_c rfl (Nat.le_of_ble_eq_true rfl) (dm_Tx_go (d := d + 1) hs) (fun v w14 hq => ?_)
    obtain ⟨r14, rfl, hz14, hs⟩ := hq
    refine tm_i (p1 := 61) (p2 := 54) rfl (fun h15 => ?_) (fun h15 => ?_)
    · replace hs := hs.1 h15
      refine tm_go 1 (pc' := 62) (L' := [some (.ref 129), some (.int y27_1), some (.int 2), some (.int (w.1 129 5)), z4]) (S' := [.int (-1)]) (w' := w14) rfl ?_
      exact tx_Tx_sum_62 hr_Tx_factor hr_Tx_product hr_Tx_sum hs hA hE
    · replace hs := hs.2 h15
      refine tm_go 1 (pc' := 55) (L' := [some (.ref 129), some (.int y27_1), some (.int 2), some (.int (w.1 129 5)), z4]) (S' := [.ref 129]) (w' := w14) rfl ?_
      refine tm_c rfl (Nat.le_of_ble_eq_true rfl) (hr_Tx_product _ _ hs) (fun v w16 hq => ?_)
      obtain ⟨r16, rfl, hs⟩ := hq
      refine tm_go 1 (pc' := 62) (L' := [some (.ref 129), some (.int y27_1), some (.int 2), some (.int (w.1 129 5)), z4]) (S' := [.int r16]) (w' := w16) rfl ?_
      exact tx_Tx_sum_62 hr_Tx_factor hr_Tx_product hr_Tx_sum hs hA hE
set_option maxHeartbeats 4000000 in
set_option maxRecDepth 100000 in
theorem tx_Tx_sum_5 {d : Nat} {r_Tx_factor : MW → (Int32 → MW → Prop) → Prop} {r_Tx_product : MW → (Int32 → MW → Prop) → Prop} {r_Tx_sum : MW → (Int32 → MW → Prop) → Prop} (hr_Tx_factor : ∀ (w : MW) (Q : Int32 → MW → Prop), r_Tx_factor w Q → Tc (d + 3) 322 [.ref 129] w (RI Q)) (hr_Tx_product : ∀ (w : MW) (Q : Int32 → MW → Prop), r_Tx_product w Q → Tc (d + 3) 321 [.ref 129] w (RI Q)) (hr_Tx_sum : ∀ (w : MW) (Q : Int32 → MW → Prop), r_Tx_sum w Q → Tc (d + 3) 320 [.ref 129] w (RI Q)) {E : Int32 → MW → Prop} {Q : Int32 → MW → Prop} (n : Nat) : ∀ (x5_1 : Int32)  (z2 : Option Value) (z3 : Option Value) (z4 : Option Value) (w : MW), q_Tx_sum_5 r_Tx_factor r_Tx_product r_Tx_sum  E Q n x5_1 w → (∀ (e5_1 : Int32)  (v0 : Option Value) (v2 : Option Value) (v3 : Option Value) (v4 : Option Value) (w : MW), E e5_1 w → Tm (d + 4) 320 109 [v0, some (.int e5_1), v2, v3, v4] [] w (RI Q)) → Tm (d + 4) 320 5 [some (.ref 129), some (.int x5_1), z2, z3, z4] [] w (RI Q) := by
  induction n with
  | zero => intro x5_1 z2 z3 z4 w hs; rw [q_Tx_sum_5.eq_1] at hs; exact hs.elim
  | succ n ih =>
    intro x5_1 z2 z3 z4 w hs hE
    rw [q_Tx_sum_5.eq_2] at hs
    refine tm_go 1 (pc' := 6) (L' := [some (.ref 129), some (.int x5_1), z2, z3, z4]) (S' := [.int x5_1]) (w' := w) rfl ?_
    refine tm_i (p1 := 109) (p2 := 9) rfl (fun h2 => ?_) (fun h2 => ?_)
    · replace hs := hs.1 h2
      exact hE _ _ _ _ _ _ hs
    · replace hs := hs.2 h2
      refine tm_go 3 (pc' := 15) (L' := [some (.ref 129), some (.int x5_1), z2, z3, z4]) (S' := [.int 43, .int (w.1 129 4)]) (w' := w) rfl ?_
      refine tm_i (p1 := 27) (p2 := 18) rfl (fun h3 => ?_) (fun h3 => ?_)
      · replace hs := hs.1 h3
        exact tx_Tx_sum_27 hr_Tx_factor hr_Tx_product hr_Tx_sum hs (fun q0 q1 q2 q3 q4 hs => ih q0 q1 q2 q3 q4 hs hE) hE
      · replace hs := hs.2 h3
        refine tm_go 3 (pc' := 24) (L' := [some (.ref 129), some (.int x5_1), z2, z3, z4]) (S' := [.int 45, .int (w.1 129 4)]) (w' := w) rfl ?_
        refine tm_i (p1 := 109) (p2 := 27) rfl (fun h17 => ?_) (fun h17 => ?_)
        · replace hs := hs.1 h17
          exact hE _ _ _ _ _ _ hs
        · replace hs := hs.2 h17
          exact tx_Tx_sum_27 hr_Tx_factor hr_Tx_product hr_Tx_sum hs (fun q0 q1 q2 q3 q4 hs => ih q0 q1 q2 q3 q4 hs hE) hE
set_option maxHeartbeats 4000000 in
set_option maxRecDepth 100000 in
theorem dmb_Tx_sum {d : Nat} {r_Tx_factor : MW → (Int32 → MW → Prop) → Prop} {r_Tx_product : MW → (Int32 → MW → Prop) → Prop} {r_Tx_sum : MW → (Int32 → MW → Prop) → Prop} (hr_Tx_factor : ∀ (w : MW) (Q : Int32 → MW → Prop), r_Tx_factor w Q → Tc (d + 3) 322 [.ref 129] w (RI Q)) (hr_Tx_product : ∀ (w : MW) (Q : Int32 → MW → Prop), r_Tx_product w Q → Tc (d + 3) 321 [.ref 129] w (RI Q)) (hr_Tx_sum : ∀ (w : MW) (Q : Int32 → MW → Prop), r_Tx_sum w Q → Tc (d + 3) 320 [.ref 129] w (RI Q)) {w : MW} {Q : Int32 → MW → Prop} (hs : pb_Tx_sum r_Tx_factor r_Tx_product r_Tx_sum w Q) : Tc (d + 4) 320 [.ref 129] w (RI Q) := by
  unfold pb_Tx_sum at hs
  refine tm_go 1 (pc' := 1) (L' := [some (.ref 129), none, none, none, none]) (S' := [.ref 129]) (w' := w) rfl ?_
  refine tm_c rfl (Nat.le_of_ble_eq_true rfl) (hr_Tx_product _ _ hs) (fun v w1 hq => ?_)
  obtain ⟨r1, rfl, hs⟩ := hq
  refine tm_go 1 (pc' := 5) (L' := [some (.ref 129), some (.int r1), none, none, none]) (S' := []) (w' := w1) rfl ?_
  refine tx_Tx_sum_5 hr_Tx_factor hr_Tx_product hr_Tx_sum FU _ _ _ _ _ hs (fun e5_1_18 z18_0 z18_2 z18_3 z18_4 w18 hs => ?_)
  refine tm_go 1 (pc' := 110) (L' := [z18_0, some (.int e5_1_18), z18_2, z18_3, z18_4]) (S' := [.int e5_1_18]) (w' := w18) rfl ?_
  exact tm_r rfl ⟨_, rfl, hs⟩
theorem da_Tx_factor (n : Nat) : (∀ (w : MW) (Q : Int32 → MW → Prop), pn_Tx_factor n w Q → Tc (n + 3) 322 [.ref 129] w (RI Q)) ∧ (∀ (w : MW) (Q : Int32 → MW → Prop), pn_Tx_product n w Q → Tc (n + 3) 321 [.ref 129] w (RI Q)) ∧ (∀ (w : MW) (Q : Int32 → MW → Prop), pn_Tx_sum n w Q → Tc (n + 3) 320 [.ref 129] w (RI Q)) := by
  induction n with
  | zero => exact ⟨fun _ _ h => h.elim, fun _ _ h => h.elim, fun _ _ h => h.elim⟩
  | succ n ih =>
    obtain ⟨h0, h1, h2⟩ := ih
    exact ⟨fun _ _ h => (dmb_Tx_factor (d := n) h0 h1 h2 h).le (by omega), fun _ _ h => (dmb_Tx_product (d := n) h0 h1 h2 h).le (by omega), fun _ _ h => (dmb_Tx_sum (d := n) h0 h1 h2 h).le (by omega)⟩
theorem dm_Tx_factor {d : Nat} {w : MW} {Q : Int32 → MW → Prop} (hs : p_Tx_factor w Q) : Tc (d + 403) 322 [.ref 129] w (RI Q) := ((da_Tx_factor 400).1 _ _ hs).le (by omega)
theorem dm_Tx_product {d : Nat} {w : MW} {Q : Int32 → MW → Prop} (hs : p_Tx_product w Q) : Tc (d + 403) 321 [.ref 129] w (RI Q) := ((da_Tx_factor 400).2.1 _ _ hs).le (by omega)
theorem dm_Tx_sum {d : Nat} {w : MW} {Q : Int32 → MW → Prop} (hs : p_Tx_sum w Q) : Tc (d + 403) 320 [.ref 129] w (RI Q) := ((da_Tx_factor 400).2.2 _ _ hs).le (by omega)
