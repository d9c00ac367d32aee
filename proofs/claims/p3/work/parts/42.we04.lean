set_option maxHeartbeats 4000000 in
set_option maxRecDepth 100000 in
theorem tx_Ro_readRows99_185 {d : Nat}  {w : MW} {Q : MW → Prop} (hs : q_Ro_readRows99_185  w Q) : Tm (d + 403) 196 185 [some (.ref 99)] [] w (RV Q) := by
  unfold q_Ro_readRows99_185 at hs
  refine tm_go 2 (pc' := 188) (L' := [some (.ref 99)]) (S' := [.ref 2015, .ref 99]) (w' := w) rfl ?_
  refine tm_c rfl (Nat.le_of_ble_eq_true rfl) (dm_Ro_takess99_2015 (d := d + 400) hs) (fun v w18 hq => ?_)
  obtain ⟨r18, rfl, hz18, hs⟩ := hq
  refine tm_go 13 (pc' := 214) (L' := [some (.ref 99)]) (S' := [.int (w18.1 99 10), .int ((w18.1 99 0) + (1 : Int32)), .ref 106]) (w' := (sI w18 99 0 ((w18.1 99 0) + (1 : Int32)))) rfl ?_
  obtain ⟨b19, hs⟩ := hs
  refine tm_k (pc' := 215) (L' := [some (.ref 99)]) (S' := []) (w' := (sI (sI w18 99 0 ((w18.1 99 0) + (1 : Int32))) 106 (((w18.1 99 0) + (1 : Int32)).toInt.toNat) (w18.1 99 10))) rfl b19 ?_
  exact tm_r rfl ⟨rfl, hs⟩
set_option maxHeartbeats 4000000 in
set_option maxRecDepth 100000 in
theorem tx_Ro_readRows99_154 {d : Nat}  {w : MW} {Q : MW → Prop} (hs : q_Ro_readRows99_154  w Q) : Tm (d + 403) 196 154 [some (.ref 99)] [] w (RV Q) := by
  unfold q_Ro_readRows99_154 at hs
  refine tm_go 6 (pc' := 165) (L' := [some (.ref 99)]) (S' := [.ref 2014, .ref 99, .int (w.1 99 0), .ref 105]) (w' := w) rfl ?_
  refine tm_c rfl (Nat.le_of_ble_eq_true rfl) (dm_Ro_iss99_2014 (d := d + 401) hs) (fun v w14 hq => ?_)
  obtain ⟨r14, rfl, hz14, hs⟩ := hq
  obtain ⟨b15, hs⟩ := hs
  refine tm_k (pc' := 169) (L' := [some (.ref 99)]) (S' := []) (w' := (sI w14 105 ((w.1 99 0).toInt.toNat) (vp_nar .boolean r14))) rfl b15 ?_
  refine tm_go 4 (pc' := 177) (L' := [some (.ref 99)]) (S' := [.int (w14.1 99 0), .ref 105]) (w' := (sI w14 105 ((w.1 99 0).toInt.toNat) (vp_nar .boolean r14))) rfl ?_
  obtain ⟨b16, hs⟩ := hs
  refine tm_k (pc' := 178) (L' := [some (.ref 99)]) (S' := [.int ((sI w14 105 ((w.1 99 0).toInt.toNat) (vp_nar .boolean r14)).1 105 ((w14.1 99 0).toInt.toNat))]) (w' := (sI w14 105 ((w.1 99 0).toInt.toNat) (vp_nar .boolean r14))) rfl b16 ?_
  refine tm_i (p1 := 185) (p2 := 181) rfl (fun h17 => ?_) (fun h17 => ?_)
  · replace hs := hs.1 h17
    exact tx_Ro_readRows99_185 hs 
  · replace hs := hs.2 h17
    refine tm_go 1 (pc' := 182) (L' := [some (.ref 99)]) (S' := [.ref 99]) (w' := (sI w14 105 ((w.1 99 0).toInt.toNat) (vp_nar .boolean r14))) rfl ?_
    refine tm_c rfl (Nat.le_of_ble_eq_true rfl) (dm_Ro_nextWords99 (d := d + 401) hs) (fun v w20 hq => ?_)
    obtain ⟨rfl, hs⟩ := hq
    exact tx_Ro_readRows99_185 hs 
set_option maxHeartbeats 4000000 in
set_option maxRecDepth 100000 in
theorem dm_Ro_readRows99 {d : Nat} {w : MW} {Q : MW → Prop} (hs : p_Ro_readRows99 w Q) : Tc (d + 403) 196 [.ref 99] w (RV Q) := by
  unfold p_Ro_readRows99 at hs
  refine tm_go 3 (pc' := 6) (L' := [some (.ref 99)]) (S' := [.int 40, .int (w.1 99 0)]) (w' := w) rfl ?_
  refine tm_i (p1 := 14) (p2 := 9) rfl (fun h1 => ?_) (fun h1 => ?_)
  · replace hs := hs.1 h1
    refine tm_go 5 (pc' := 23) (L' := [some (.ref 99)]) (S' := [.int 0, .int (w.1 99 0), .ref 100]) (w' := w) rfl ?_
    obtain ⟨b2, hs⟩ := hs
    refine tm_k (pc' := 24) (L' := [some (.ref 99)]) (S' := []) (w' := (sI w 100 ((w.1 99 0).toInt.toNat) 0)) rfl b2 ?_
    refine tm_go 5 (pc' := 33) (L' := [some (.ref 99)]) (S' := [.int 0, .int (w.1 99 0), .ref 101]) (w' := (sI w 100 ((w.1 99 0).toInt.toNat) 0)) rfl ?_
    obtain ⟨b3, hs⟩ := hs
    refine tm_k (pc' := 34) (L' := [some (.ref 99)]) (S' := []) (w' := (sI (sI w 100 ((w.1 99 0).toInt.toNat) 0) 101 ((w.1 99 0).toInt.toNat) (vp_nar .boolean (0 : Int32)))) rfl b3 ?_
    refine tm_go 5 (pc' := 43) (L' := [some (.ref 99)]) (S' := [.int 0, .int (w.1 99 0), .ref 102]) (w' := (sI (sI w 100 ((w.1 99 0).toInt.toNat) 0) 101 ((w.1 99 0).toInt.toNat) (vp_nar .boolean (0 : Int32)))) rfl ?_
    obtain ⟨b4, hs⟩ := hs
    refine tm_k (pc' := 44) (L' := [some (.ref 99)]) (S' := []) (w' := (sI (sI (sI w 100 ((w.1 99 0).toInt.toNat) 0) 101 ((w.1 99 0).toInt.toNat) (vp_nar .boolean (0 : Int32))) 102 ((w.1 99 0).toInt.toNat) 0)) rfl b4 ?_
    refine tm_go 5 (pc' := 53) (L' := [some (.ref 99)]) (S' := [.int 0, .int (w.1 99 0), .ref 103]) (w' := (sI (sI (sI w 100 ((w.1 99 0).toInt.toNat) 0) 101 ((w.1 99 0).toInt.toNat) (vp_nar .boolean (0 : Int32))) 102 ((w.1 99 0).toInt.toNat) 0)) rfl ?_
    obtain ⟨b5, hs⟩ := hs
    refine tm_k (pc' := 54) (L' := [some (.ref 99)]) (S' := []) (w' := (sI (sI (sI (sI w 100 ((w.1 99 0).toInt.toNat) 0) 101 ((w.1 99 0).toInt.toNat) (vp_nar .boolean (0 : Int32))) 102 ((w.1 99 0).toInt.toNat) 0) 103 ((w.1 99 0).toInt.toNat) 0)) rfl b5 ?_
    refine tm_go 5 (pc' := 63) (L' := [some (.ref 99)]) (S' := [.int 0, .int (w.1 99 0), .ref 104]) (w' := (sI (sI (sI (sI w 100 ((w.1 99 0).toInt.toNat) 0) 101 ((w.1 99 0).toInt.toNat) (vp_nar .boolean (0 : Int32))) 102 ((w.1 99 0).toInt.toNat) 0) 103 ((w.1 99 0).toInt.toNat) 0)) rfl ?_
    obtain ⟨b6, hs⟩ := hs
    refine tm_k (pc' := 64) (L' := [some (.ref 99)]) (S' := []) (w' := (sI (sI (sI (sI (sI w 100 ((w.1 99 0).toInt.toNat) 0) 101 ((w.1 99 0).toInt.toNat) (vp_nar .boolean (0 : Int32))) 102 ((w.1 99 0).toInt.toNat) 0) 103 ((w.1 99 0).toInt.toNat) 0) 104 ((w.1 99 0).toInt.toNat) 0)) rfl b6 ?_
    refine tm_go 2 (pc' := 67) (L' := [some (.ref 99)]) (S' := [.ref 2006, .ref 99]) (w' := (sI (sI (sI (sI (sI w 100 ((w.1 99 0).toInt.toNat) 0) 101 ((w.1 99 0).toInt.toNat) (vp_nar .boolean (0 : Int32))) 102 ((w.1 99 0).toInt.toNat) 0) 103 ((w.1 99 0).toInt.toNat) 0) 104 ((w.1 99 0).toInt.toNat) 0)) rfl ?_
    refine tm_c rfl (Nat.le_of_ble_eq_true rfl) (dm_Ro_takess99_2006 (d := d + 400) hs) (fun v w7 hq => ?_)
    obtain ⟨r7, rfl, hz7, hs⟩ := hq
    refine tm_go 2 (pc' := 72) (L' := [some (.ref 99)]) (S' := [.ref 99]) (w' := w7) rfl ?_
    refine tm_c rfl (Nat.le_of_ble_eq_true rfl) (dm_Ro_readActss99 (d := d + 400) hs) (fun v w8 hq => ?_)
    obtain ⟨rfl, hs⟩ := hq
    refine tm_go 2 (pc' := 78) (L' := [some (.ref 99)]) (S' := [.ref 2007, .ref 99]) (w' := w8) rfl ?_
    refine tm_c rfl (Nat.le_of_ble_eq_true rfl) (dm_Ro_takess99_2007 (d := d + 400) hs) (fun v w9 hq => ?_)
    obtain ⟨r9, rfl, hz9, hs⟩ := hq
    refine tm_go 7 (pc' := 94) (L' := [some (.ref 99)]) (S' := [.int (w9.1 99 10), .int (w9.1 99 0), .ref 106]) (w' := w9) rfl ?_
    obtain ⟨b10, hs⟩ := hs
    refine tm_k (pc' := 95) (L' := [some (.ref 99)]) (S' := []) (w' := (sI w9 106 ((w9.1 99 0).toInt.toNat) (w9.1 99 10))) rfl b10 ?_
    refine tm_go 4 (pc' := 101) (L' := [some (.ref 99)]) (S' := [.ref 99]) (w' := (sI (sI w9 106 ((w9.1 99 0).toInt.toNat) (w9.1 99 10)) 99 16 0)) rfl ?_
    refine tm_c rfl (Nat.le_of_ble_eq_true rfl) (dm_Ro_readOrs99 (d := d + 0) hs) (fun v w11 hq => ?_)
    obtain ⟨rfl, hs⟩ := hq
    refine tm_go 2 (pc' := 107) (L' := [some (.ref 99)]) (S' := [.ref 2013, .ref 99]) (w' := w11) rfl ?_
    refine tm_c rfl (Nat.le_of_ble_eq_true rfl) (dm_Ro_iss99_2013 (d := d + 401) hs) (fun v w12 hq => ?_)
    obtain ⟨r12, rfl, hz12, hs⟩ := hq
    refine tm_i (p1 := 154) (p2 := 113) rfl (fun h13 => ?_) (fun h13 => ?_)
    · replace hs := hs.1 h13
      exact tx_Ro_readRows99_154 hs 
    · replace hs := hs.2 h13
      refine tm_go 1 (pc' := 114) (L' := [some (.ref 99)]) (S' := [.ref 99]) (w' := w12) rfl ?_
      refine tm_c rfl (Nat.le_of_ble_eq_true rfl) (dm_Ro_nextWords99 (d := d + 401) hs) (fun v w21 hq => ?_)
      obtain ⟨rfl, hs⟩ := hq
      refine tm_go 7 (pc' := 130) (L' := [some (.ref 99)]) (S' := [.int 3600, .int 0, .ref 99, .int (w21.1 99 0), .ref 104]) (w' := w21) rfl ?_
      refine tm_c rfl (Nat.le_of_ble_eq_true rfl) (dm_Ro_numberBehinds99 (d := d + 401) hs) (fun v w22 hq => ?_)
      obtain ⟨r22, rfl, hs⟩ := hq
      obtain ⟨b23, hs⟩ := hs
      refine tm_k (pc' := 134) (L' := [some (.ref 99)]) (S' := []) (w' := (sI w22 104 ((w21.1 99 0).toInt.toNat) r22)) rfl b23 ?_
      refine tm_go 4 (pc' := 142) (L' := [some (.ref 99)]) (S' := [.int (w22.1 99 0), .ref 104]) (w' := (sI w22 104 ((w21.1 99 0).toInt.toNat) r22)) rfl ?_
      obtain ⟨b24, hs⟩ := hs
      refine tm_k (pc' := 143) (L' := [some (.ref 99)]) (S' := [.int ((sI w22 104 ((w21.1 99 0).toInt.toNat) r22).1 104 ((w22.1 99 0).toInt.toNat))]) (w' := (sI w22 104 ((w21.1 99 0).toInt.toNat) r22)) rfl b24 ?_
      refine tm_i (p1 := 150) (p2 := 146) rfl (fun h25 => ?_) (fun h25 => ?_)
      · replace hs := hs.1 h25
        refine tm_go 1 (pc' := 151) (L' := [some (.ref 99)]) (S' := [.ref 99]) (w' := (sI w22 104 ((w21.1 99 0).toInt.toNat) r22)) rfl ?_
        refine tm_c rfl (Nat.le_of_ble_eq_true rfl) (dm_Ro_nextWords99 (d := d + 401) hs) (fun v w26 hq => ?_)
        obtain ⟨rfl, hs⟩ := hq
        exact tx_Ro_readRows99_154 hs 
      · replace hs := hs.2 h25
        refine tm_go 1 (pc' := 147) (L' := [some (.ref 99)]) (S' := [.ref 99]) (w' := (sI w22 104 ((w21.1 99 0).toInt.toNat) r22)) rfl ?_
        refine tm_c rfl (Nat.le_of_ble_eq_true rfl) (dm_Ro_fails99 (d := d + 402) hs) (fun v w27 hq => ?_)
        obtain ⟨rfl, hs⟩ := hq
        refine tm_go 1 (pc' := 151) (L' := [some (.ref 99)]) (S' := [.ref 99]) (w' := w27) rfl ?_
        refine tm_c rfl (Nat.le_of_ble_eq_true rfl) (dm_Ro_nextWords99 (d := d + 401) hs) (fun v w28 hq => ?_)
        obtain ⟨rfl, hs⟩ := hq
        exact tx_Ro_readRows99_154 hs 
  · replace hs := hs.2 h1
    refine tm_go 1 (pc' := 10) (L' := [some (.ref 99)]) (S' := [.ref 99]) (w' := w) rfl ?_
    refine tm_c rfl (Nat.le_of_ble_eq_true rfl) (dm_Ro_fails99 (d := d + 402) hs) (fun v w29 hq => ?_)
    obtain ⟨rfl, hs⟩ := hq
    exact tm_r rfl ⟨rfl, hs⟩
set_option maxHeartbeats 4000000 in
set_option maxRecDepth 100000 in
theorem tx_Ro_reads99_1_41 {d : Nat} {E : MW → Prop} {Q : Int32 → MW → Prop} (n : Nat) : ∀ (x41_2 : Int32)   (w : MW), q_Ro_reads99_1_41  E Q n x41_2 w → (∀  (v1 : Option Value) (v2 : Option Value) (w : MW), E  w → Tm (d + 404) 189 76 [some (.ref 99), v1, v2] [] w (RI Q)) → Tm (d + 404) 189 41 [some (.ref 99), some (.ref 1), some (.int x41_2)] [] w (RI Q) := by
  induction n with
  | zero => intro x41_2  w hs; rw [q_Ro_reads99_1_41.eq_1] at hs; exact hs.elim
  | succ n ih =>
    intro x41_2  w hs hE
    rw [q_Ro_reads99_1_41.eq_2] at hs
    refine tm_go 2 (pc' := 45) (L' := [some (.ref 99), some (.ref 1), some (.int x41_2)]) (S' := [.int 4000, .int x41_2]) (w' := w) rfl ?_
    refine tm_i (p1 := 76) (p2 := 48) rfl (fun h2 => ?_) (fun h2 => ?_)
    · replace hs := hs.1 h2
      exact hE _ _ _ hs
    · replace hs := hs.2 h2
      refine tm_go 2 (pc' := 52) (L' := [some (.ref 99), some (.ref 1), some (.int x41_2)]) (S' := [.int (w.1 99 17)]) (w' := w) rfl ?_
      refine tm_i (p1 := 76) (p2 := 55) rfl (fun h3 => ?_) (fun h3 => ?_)
      · replace hs := hs.1 h3
        exact hE _ _ _ hs
      · replace hs := hs.2 h3
        refine tm_go 4 (pc' := 63) (L' := [some (.ref 99), some (.ref 1), some (.int x41_2)]) (S' := [.int (w.1 1 2), .int (w.1 99 12)]) (w' := w) rfl ?_
        refine tm_i (p1 := 76) (p2 := 66) rfl (fun h4 => ?_) (fun h4 => ?_)
        · replace hs := hs.1 h4
          exact hE _ _ _ hs
        · replace hs := hs.2 h4
          refine tm_go 1 (pc' := 67) (L' := [some (.ref 99), some (.ref 1), some (.int x41_2)]) (S' := [.ref 99]) (w' := w) rfl ?_
          refine tm_c rfl (Nat.le_of_ble_eq_true rfl) (dm_Ro_readRows99 (d := d + 0) hs) (fun v w5 hq => ?_)
          obtain ⟨rfl, hs⟩ := hq
          refine tm_go 2 (pc' := 41) (L' := [some (.ref 99), some (.ref 1), some (.int (x41_2 + (1 : Int32)))]) (S' := []) (w' := w5) rfl ?_
          exact ih _ _ hs hE
set_option maxHeartbeats 4000000 in
set_option maxRecDepth 100000 in
theorem dm_Ro_reads99_1 {d : Nat} {w : MW} {Q : Int32 → MW → Prop} (hs : p_Ro_reads99_1 w Q) : Tc (d + 404) 189 [.ref 99, .ref 1] w (RI Q) := by
  unfold p_Ro_reads99_1 at hs
  refine tm_go 22 (pc' := 36) (L' := [some (.ref 99), some (.ref 1), none]) (S' := [.ref 99]) (w' := (sI (sI (sI (sI (sI (sI (sR w 99 11 (some 1)) 99 0 0) 99 10 0) 99 17 (-1)) 99 15 0) 99 14 (-1)) 99 13 0)) rfl ?_
  refine tm_c rfl (Nat.le_of_ble_eq_true rfl) (dm_Ro_nextWords99 (d := d + 402) hs) (fun v w1 hq => ?_)
  obtain ⟨rfl, hs⟩ := hq
  refine tm_go 2 (pc' := 41) (L' := [some (.ref 99), some (.ref 1), some (.int 0)]) (S' := []) (w' := w1) rfl ?_
  refine tx_Ro_reads99_1_41 FU _ _ hs (fun  z6_1 z6_2 w6 hs => ?_)
  refine tm_go 2 (pc' := 80) (L' := [some (.ref 99), z6_1, z6_2]) (S' := [.int (w6.1 99 17)]) (w' := w6) rfl ?_
  exact tm_r rfl ⟨_, rfl, hs⟩
set_option maxHeartbeats 4000000 in
set_option maxRecDepth 100000 in
theorem tx_Tp_isText_2 {d : Nat} {E : MW → Prop} {Q : Int32 → MW → Prop} (n : Nat) : ∀ (x2_1 : Int32)  (z2 : Option Value) (w : MW), q_Tp_isText_2  E Q n x2_1 w → (∀  (v0 : Option Value) (v1 : Option Value) (v2 : Option Value) (w : MW), E  w → Tm (d + 1) 261 34 [v0, v1, v2] [] w (RZ Q)) → Tm (d + 1) 261 2 [some (.ref 1), some (.int x2_1), z2] [] w (RZ Q) := by
  induction n with
  | zero => intro x2_1 z2 w hs; rw [q_Tp_isText_2.eq_1] at hs; exact hs.elim
  | succ n ih =>
    intro x2_1 z2 w hs hE
    rw [q_Tp_isText_2.eq_2] at hs
    refine tm_go 3 (pc' := 7) (L' := [some (.ref 1), some (.int x2_1), z2]) (S' := [.int (w.1 1 2), .int x2_1]) (w' := w) rfl ?_
    refine tm_i (p1 := 34) (p2 := 10) rfl (fun h1 => ?_) (fun h1 => ?_)
    · replace hs := hs.1 h1
      exact hE _ _ _ _ hs
    · replace hs := hs.2 h1
      refine tm_go 2 (pc' := 12) (L' := [some (.ref 1), some (.int x2_1), z2]) (S' := [.int x2_1, .ref 1]) (w' := w) rfl ?_
      refine tm_c rfl (Nat.le_of_ble_eq_true rfl) (dm_Tp_at (d := d + 0) hs) (fun v w2 hq => ?_)
      obtain ⟨r2, rfl, hs⟩ := hq
      refine tm_go 2 (pc' := 17) (L' := [some (.ref 1), some (.int x2_1), some (.int r2)]) (S' := [.int r2]) (w' := w2) rfl ?_
      refine tm_i (p1 := 26) (p2 := 20) rfl (fun h3 => ?_) (fun h3 => ?_)
      · replace hs := hs.1 h3
        refine tm_go 1 (pc' := 27) (L' := [some (.ref 1), some (.int x2_1), some (.int r2)]) (S' := [.int 0]) (w' := w2) rfl ?_
        exact tm_r rfl ⟨_, rfl, by decide, hs⟩
      · replace hs := hs.2 h3
        refine tm_go 2 (pc' := 23) (L' := [some (.ref 1), some (.int x2_1), some (.int r2)]) (S' := [.int 127, .int r2]) (w' := w2) rfl ?_
        refine tm_i (p1 := 28) (p2 := 26) rfl (fun h4 => ?_) (fun h4 => ?_)
        · replace hs := hs.1 h4
          refine tm_go 2 (pc' := 2) (L' := [some (.ref 1), some (.int (x2_1 + (1 : Int32))), some (.int r2)]) (S' := []) (w' := w2) rfl ?_
          exact ih _ _ _ hs hE
        · replace hs := hs.2 h4
          refine tm_go 1 (pc' := 27) (L' := [some (.ref 1), some (.int x2_1), some (.int r2)]) (S' := [.int 0]) (w' := w2) rfl ?_
          exact tm_r rfl ⟨_, rfl, by decide, hs⟩
set_option maxHeartbeats 4000000 in
set_option maxRecDepth 100000 in
theorem dm_Tp_isText {d : Nat} {w : MW} {Q : Int32 → MW → Prop} (hs : p_Tp_isText w Q) : Tc (d + 1) 261 [.ref 1] w (RZ Q) := by
  unfold p_Tp_isText at hs
  refine tm_go 2 (pc' := 2) (L' := [some (.ref 1), some (.int 0), none]) (S' := []) (w' := w) rfl ?_
  refine tx_Tp_isText_2 FU _ _ _ hs (fun  z5_0 z5_1 z5_2 w5 hs => ?_)
  refine tm_go 1 (pc' := 35) (L' := [z5_0, z5_1, z5_2]) (S' := [.int 1]) (w' := w5) rfl ?_
  exact tm_r rfl ⟨_, rfl, by decide, hs⟩
set_option maxHeartbeats 4000000 in
set_option maxRecDepth 100000 in
theorem tx_Bh_end_129 {d : Nat} {y129_1 : Int32} {ys129_0 : Int32} {z2 : Option Value} {z3 : Option Value} {z4 : Option Value} {w : MW} {Q : Int32 → MW → Prop} (hs : q_Bh_end_129 y129_1 ys129_0 w Q) : Tm (d + 805) 1 129 [some (.ref 0), some (.int y129_1), z2, z3, z4] [.int ys129_0] w (RI Q) := by
  unfold q_Bh_end_129 at hs
  refine tm_go 2 (pc' := 133) (L' := [some (.ref 0), some (.int y129_1), z2, (ksl z3), some (.int ys129_0)]) (S' := [.int ys129_0]) (w' := w) rfl ?_
  refine tm_i (p1 := 142) (p2 := 136) rfl (fun h10 => ?_) (fun h10 => ?_)
  · replace hs := hs.1 h10
    refine tm_go 1 (pc' := 143) (L' := [some (.ref 0), some (.int y129_1), z2, (ksl z3), some (.int ys129_0)]) (S' := [.int y129_1]) (w' := w) rfl ?_
    refine tm_i (p1 := 153) (p2 := 146) rfl (fun h11 => ?_) (fun h11 => ?_)
    · replace hs := hs.1 h11
      refine tm_go 2 (pc' := 155) (L' := [some (.ref 0), some (.int y129_1), z2, (ksl z3), some (.int ys129_0)]) (S' := [.int 1, .int y129_1]) (w' := w) rfl ?_
      refine tm_i (p1 := 165) (p2 := 158) rfl (fun h12 => ?_) (fun h12 => ?_)
      · replace hs := hs.1 h12
        refine tm_go 1 (pc' := 166) (L' := [some (.ref 0), some (.int y129_1), z2, (ksl z3), some (.int ys129_0)]) (S' := [.ref 0]) (w' := w) rfl ?_
        refine tm_c rfl (Nat.le_of_ble_eq_true rfl) (dm_Bh_takeProgram (d := d + 402) hs) (fun v w13 hq => ?_)
        obtain ⟨r13, rfl, hs⟩ := hq
        exact tm_r rfl ⟨_, rfl, hs⟩
      · replace hs := hs.2 h12
        refine tm_go 1 (pc' := 159) (L' := [some (.ref 0), some (.int y129_1), z2, (ksl z3), some (.int ys129_0)]) (S' := [.ref 0]) (w' := w) rfl ?_
        refine tm_c rfl (Nat.le_of_ble_eq_true rfl) (dm_Bh_takeRows (d := d + 804) hs) (fun v w14 hq => ?_)
        obtain ⟨r14, rfl, hs⟩ := hq
        refine tm_go 1 (pc' := 169) (L' := [some (.ref 0), some (.int y129_1), z2, (ksl z3), some (.int ys129_0)]) (S' := [.int r14]) (w' := w14) rfl ?_
        exact tm_r rfl ⟨_, rfl, hs⟩
    · replace hs := hs.2 h11
      refine tm_go 1 (pc' := 147) (L' := [some (.ref 0), some (.int y129_1), z2, (ksl z3), some (.int ys129_0)]) (S' := [.ref 0]) (w' := w) rfl ?_
      refine tm_c rfl (Nat.le_of_ble_eq_true rfl) (dm_Bh_takePlant (d := d + 801) hs) (fun v w15 hq => ?_)
      obtain ⟨r15, rfl, hs⟩ := hq
      refine tm_go 1 (pc' := 169) (L' := [some (.ref 0), some (.int y129_1), z2, (ksl z3), some (.int ys129_0)]) (S' := [.int r15]) (w' := w15) rfl ?_
      exact tm_r rfl ⟨_, rfl, hs⟩
  · replace hs := hs.2 h10
    refine tm_go 3 (pc' := 141) (L' := [some (.ref 0), some (.int y129_1), z2, (ksl z3), some (.int ys129_0)]) (S' := [.int (((-3) : Int32) - ys129_0)]) (w' := w) rfl ?_
    exact tm_r rfl ⟨_, rfl, hs⟩
set_option maxHeartbeats 4000000 in
set_option maxRecDepth 100000 in
theorem tx_Bh_end_58 {d : Nat} {y58_1 : Int32} {y58_3 : Int32} {ys58_0 : Int32} {z2 : Option Value} {z4 : Option Value} {w : MW} {Q : Int32 → MW → Prop} (hs : q_Bh_end_58 y58_1 y58_3 ys58_0 w Q) : Tm (d + 805) 1 58 [some (.ref 0), some (.int y58_1), z2, some (.int y58_3), z4] [.int ys58_0, .ref 1] w (RI Q) := by
  unfold q_Bh_end_58 at hs
  refine tm_go 2 (pc' := 62) (L' := [some (.ref 0), some (.int y58_1), z2, some (.int y58_3), z4]) (S' := [.int y58_3]) (w' := (sI w 1 2 ys58_0)) rfl ?_
  refine tm_i (p1 := 75) (p2 := 65) rfl (fun h3 => ?_) (fun h3 => ?_)
  · replace hs := hs.1 h3
    refine tm_go 1 (pc' := 76) (L' := [some (.ref 0), some (.int y58_1), z2, some (.int y58_3), z4]) (S' := [.int (-1)]) (w' := (sI w 1 2 ys58_0)) rfl ?_
    exact tm_r rfl ⟨_, rfl, hs⟩
  · replace hs := hs.2 h3
    refine tm_go 2 (pc' := 69) (L' := [some (.ref 0), some (.int y58_1), z2, some (.int y58_3), z4]) (S' := [.ref 1]) (w' := (sI w 1 2 ys58_0)) rfl ?_
    refine tm_c rfl (Nat.le_of_ble_eq_true rfl) (dm_Tp_isText (d := d + 803) hs) (fun v w4 hq => ?_)
    obtain ⟨r4, rfl, hz4, hs⟩ := hq
    refine tm_i (p1 := 77) (p2 := 75) rfl (fun h5 => ?_) (fun h5 => ?_)
    · replace hs := hs.1 h5
      refine tm_go 1 (pc' := 78) (L' := [some (.ref 0), some (.int y58_1), z2, some (.int y58_3), z4]) (S' := [.int y58_1]) (w' := w4) rfl ?_
      refine tm_i (p1 := 95) (p2 := 81) rfl (fun h6 => ?_) (fun h6 => ?_)
      · replace hs := hs.1 h6
        refine tm_go 2 (pc' := 97) (L' := [some (.ref 0), some (.int y58_1), z2, some (.int y58_3), z4]) (S' := [.int 1, .int y58_1]) (w' := w4) rfl ?_
        refine tm_i (p1 := 114) (p2 := 100) rfl (fun h7 => ?_) (fun h7 => ?_)
        · replace hs := hs.1 h7
          refine tm_go 5 (pc' := 123) (L' := [some (.ref 0), some (.int y58_1), z2, some (.int y58_3), z4]) (S' := [.ref 0, .ref 1, .ref 87]) (w' := w4) rfl ?_
          obtain ⟨b8, hs⟩ := hs
          refine tm_g (pc' := 126) (k := 0) (j := 10) rfl b8 ?_
          refine tm_c rfl (Nat.le_of_ble_eq_true rfl) (dm_Rd_read_1_108 (d := d + 0) hs) (fun v w9 hq => ?_)
          obtain ⟨r9, rfl, hs⟩ := hq
          exact tx_Bh_end_129 hs 
        · replace hs := hs.2 h7
          refine tm_go 1 (pc' := 101) (L' := [some (.ref 0), some (.int y58_1), z2, some (.int y58_3), z4]) (S' := [.ref 0]) (w' := w4) rfl ?_
          obtain ⟨b16, hs⟩ := hs
          refine tm_g (pc' := 104) (k := 0) (j := 9) rfl b16 ?_
          refine tm_go 2 (pc' := 108) (L' := [some (.ref 0), some (.int y58_1), z2, some (.int y58_3), z4]) (S' := [.ref 1, .ref 99]) (w' := w4) rfl ?_
          refine tm_c rfl (Nat.le_of_ble_eq_true rfl) (dm_Ro_reads99_1 (d := d + 400) hs) (fun v w17 hq => ?_)
          obtain ⟨r17, rfl, hs⟩ := hq
          refine tm_go 1 (pc' := 129) (L' := [some (.ref 0), some (.int y58_1), z2, some (.int y58_3), z4]) (S' := [.int r17]) (w' := w17) rfl ?_
          exact tx_Bh_end_129 hs 
      · replace hs := hs.2 h6
        refine tm_go 1 (pc' := 82) (L' := [some (.ref 0), some (.int y58_1), z2, some (.int y58_3), z4]) (S' := [.ref 0]) (w' := w4) rfl ?_
        obtain ⟨b18, hs⟩ := hs
        refine tm_g (pc' := 85) (k := 0) (j := 8) rfl b18 ?_
        refine tm_go 2 (pc' := 89) (L' := [some (.ref 0), some (.int y58_1), z2, some (.int y58_3), z4]) (S' := [.ref 1, .ref 91]) (w' := w4) rfl ?_
        refine tm_c rfl (Nat.le_of_ble_eq_true rfl) (dm_Pl_reads91_1 (d := d + 799) hs) (fun v w19 hq => ?_)
        obtain ⟨r19, rfl, hs⟩ := hq
        refine tm_go 1 (pc' := 129) (L' := [some (.ref 0), some (.int y58_1), z2, some (.int y58_3), z4]) (S' := [.int r19]) (w' := w19) rfl ?_
        exact tx_Bh_end_129 hs 
    · replace hs := hs.2 h5
      refine tm_go 1 (pc' := 76) (L' := [some (.ref 0), some (.int y58_1), z2, some (.int y58_3), z4]) (S' := [.int (-1)]) (w' := w4) rfl ?_
      exact tm_r rfl ⟨_, rfl, hs⟩
set_option maxHeartbeats 4000000 in
set_option maxRecDepth 100000 in
theorem tx_Bh_end_36 {d : Nat} {y36_1 : Int32} {y36_2 : Int32} {ys36_0 : Int32} {z3 : Option Value} {z4 : Option Value} {w : MW} {Q : Int32 → MW → Prop} (hs : q_Bh_end_36 y36_1 y36_2 ys36_0 w Q) : Tm (d + 805) 1 36 [some (.ref 0), some (.int y36_1), some (.int y36_2), z3, z4] [.int ys36_0] w (RI Q) := by
  unfold q_Bh_end_36 at hs
  refine tm_go 8 (pc' := 50) (L' := [some (.ref 0), some (.int y36_1), some (.int y36_2), some (.int ys36_0), z4]) (S' := [.int ys36_0, .ref 1]) (w' := (sI w 1 1 0)) rfl ?_
  refine tm_i (p1 := 57) (p2 := 53) rfl (fun h2 => ?_) (fun h2 => ?_)
  · replace hs := hs.1 h2
    refine tm_go 1 (pc' := 58) (L' := [some (.ref 0), some (.int y36_1), some (.int y36_2), some (.int ys36_0), z4]) (S' := [.int 0, .ref 1]) (w' := (sI w 1 1 0)) rfl ?_
    exact tx_Bh_end_58 hs 
  · replace hs := hs.2 h2
    refine tm_go 2 (pc' := 58) (L' := [some (.ref 0), some (.int y36_1), some (.int y36_2), some (.int ys36_0), z4]) (S' := [.int y36_2, .ref 1]) (w' := (sI w 1 1 0)) rfl ?_
    exact tx_Bh_end_58 hs 
set_option maxHeartbeats 4000000 in
set_option maxRecDepth 100000 in
theorem dm_Bh_end {d : Nat} {w : MW} {a0 : Int32} {b0 : Int32} {Q : Int32 → MW → Prop} (hs : p_Bh_end w a0 b0 Q) : Tc (d + 805) 1 [.ref 0, .int a0, .int b0] w (RI Q) := by
  unfold p_Bh_end at hs
  refine tm_go 1 (pc' := 1) (L' := [some (.ref 0), some (.int a0), some (.int b0), none, none]) (S' := [.int a0]) (w' := w) rfl ?_
  refine tm_i (p1 := 35) (p2 := 4) rfl (fun h1 => ?_) (fun h1 => ?_)
  · replace hs := hs.1 h1
    refine tm_go 1 (pc' := 36) (L' := [some (.ref 0), some (.int a0), some (.int b0), none, none]) (S' := [.int 0]) (w' := w) rfl ?_
    exact tx_Bh_end_36 hs 
  · replace hs := hs.2 h1
    refine tm_go 2 (pc' := 6) (L' := [some (.ref 0), some (.int a0), some (.int b0), none, none]) (S' := [.int 2, .int a0]) (w' := w) rfl ?_
    refine tm_i (p1 := 35) (p2 := 9) rfl (fun h20 => ?_) (fun h20 => ?_)
    · replace hs := hs.1 h20
      refine tm_go 1 (pc' := 36) (L' := [some (.ref 0), some (.int a0), some (.int b0), none, none]) (S' := [.int 0]) (w' := w) rfl ?_
      exact tx_Bh_end_36 hs 
    · replace hs := hs.2 h20
      refine tm_go 1 (pc' := 10) (L' := [some (.ref 0), some (.int a0), some (.int b0), none, none]) (S' := [.int b0]) (w' := w) rfl ?_
      refine tm_i (p1 := 35) (p2 := 13) rfl (fun h21 => ?_) (fun h21 => ?_)
      · replace hs := hs.1 h21
        refine tm_go 1 (pc' := 36) (L' := [some (.ref 0), some (.int a0), some (.int b0), none, none]) (S' := [.int 0]) (w' := w) rfl ?_
        exact tx_Bh_end_36 hs 
      · replace hs := hs.2 h21
        refine tm_go 2 (pc' := 17) (L' := [some (.ref 0), some (.int a0), some (.int b0), none, none]) (S' := [.int 4000, .int b0]) (w' := w) rfl ?_
        refine tm_i (p1 := 35) (p2 := 20) rfl (fun h22 => ?_) (fun h22 => ?_)
        · replace hs := hs.1 h22
          refine tm_go 1 (pc' := 36) (L' := [some (.ref 0), some (.int a0), some (.int b0), none, none]) (S' := [.int 0]) (w' := w) rfl ?_
          exact tx_Bh_end_36 hs 
        · replace hs := hs.2 h22
          refine tm_go 4 (pc' := 28) (L' := [some (.ref 0), some (.int a0), some (.int b0), none, none]) (S' := [.int (w.1 1 1), .int b0]) (w' := w) rfl ?_
          refine tm_i (p1 := 35) (p2 := 31) rfl (fun h23 => ?_) (fun h23 => ?_)
          · replace hs := hs.1 h23
            refine tm_go 1 (pc' := 36) (L' := [some (.ref 0), some (.int a0), some (.int b0), none, none]) (S' := [.int 0]) (w' := w) rfl ?_
            exact tx_Bh_end_36 hs 
          · replace hs := hs.2 h23
            refine tm_go 2 (pc' := 36) (L' := [some (.ref 0), some (.int a0), some (.int b0), none, none]) (S' := [.int 1]) (w' := w) rfl ?_
            exact tx_Bh_end_36 hs 
set_option maxHeartbeats 4000000 in
set_option maxRecDepth 100000 in
theorem dm_Bh_isLiquid {d : Nat} {w : MW} {a0 : Int32} {Q : Int32 → MW → Prop} (hs : p_Bh_isLiquid w a0 Q) : Tc (d + 0) 6 [.int a0] w (RZ Q) := by
  unfold p_Bh_isLiquid at hs
  refine tm_go 2 (pc' := 2) (L' := [some (.int a0)]) (S' := [.int 1, .int a0]) (w' := w) rfl ?_
  refine tm_i (p1 := 15) (p2 := 5) rfl (fun h1 => ?_) (fun h1 => ?_)
  · replace hs := hs.1 h1
    refine tm_go 1 (pc' := 16) (L' := [some (.int a0)]) (S' := [.int 0]) (w' := w) rfl ?_
    exact tm_r rfl ⟨_, rfl, by decide, hs⟩
  · replace hs := hs.2 h1
    refine tm_go 2 (pc' := 8) (L' := [some (.int a0)]) (S' := [.int 14, .int a0]) (w' := w) rfl ?_
    refine tm_i (p1 := 15) (p2 := 11) rfl (fun h2 => ?_) (fun h2 => ?_)
    · replace hs := hs.1 h2
      refine tm_go 1 (pc' := 16) (L' := [some (.int a0)]) (S' := [.int 0]) (w' := w) rfl ?_
      exact tm_r rfl ⟨_, rfl, by decide, hs⟩
    · replace hs := hs.2 h2
      refine tm_go 2 (pc' := 16) (L' := [some (.int a0)]) (S' := [.int 1]) (w' := w) rfl ?_
      exact tm_r rfl ⟨_, rfl, by decide, hs⟩
set_option maxHeartbeats 4000000 in
set_option maxRecDepth 100000 in
theorem tx_Ar_fill1_43_6 {d : Nat} {x6_1 : Int64} {x6_4 : Int32} {E : MW → Prop} {Q : MW → Prop} (n : Nat) : ∀ (x6_3 : Int32)   (w : MW), q_Ar_fill1_43_6 x6_1 x6_4 E Q n x6_3 w → (∀  (v0 : Option Value) (v1 : Option Value) (v2 : Option Value) (v3 : Option Value) (v4 : Option Value) (w : MW), E  w → Tm (d + 0) 344 22 [v0, v1, v2, v3, v4] [] w (RV Q)) → Tm (d + 0) 344 6 [some (.ref 43), some (.long x6_1), none, some (.int x6_3), some (.int x6_4)] [] w (RV Q) := by
  induction n with
  | zero => intro x6_3  w hs; rw [q_Ar_fill1_43_6.eq_1] at hs; exact hs.elim
  | succ n ih =>
    intro x6_3  w hs hE
    rw [q_Ar_fill1_43_6.eq_2] at hs
    refine tm_go 2 (pc' := 9) (L' := [some (.ref 43), some (.long x6_1), none, some (.int x6_3), some (.int x6_4)]) (S' := [.int x6_4, .int x6_3]) (w' := w) rfl ?_
    refine tm_i (p1 := 22) (p2 := 12) rfl (fun h1 => ?_) (fun h1 => ?_)
    · replace hs := hs.1 h1
      exact hE _ _ _ _ _ _ hs
    · replace hs := hs.2 h1
      refine tm_go 3 (pc' := 15) (L' := [some (.ref 43), some (.long x6_1), none, some (.int x6_3), some (.int x6_4)]) (S' := [.long x6_1, .int x6_3, .ref 43]) (w' := w) rfl ?_
      obtain ⟨b2, hs⟩ := hs
      refine tm_k (pc' := 16) (L' := [some (.ref 43), some (.long x6_1), none, some (.int x6_3), some (.int x6_4)]) (S' := []) (w' := (sJ w 43 x6_3.toInt.toNat x6_1)) rfl b2 ?_
      refine tm_go 2 (pc' := 6) (L' := [some (.ref 43), some (.long x6_1), none, some (.int (x6_3 + (1 : Int32))), some (.int x6_4)]) (S' := []) (w' := (sJ w 43 x6_3.toInt.toNat x6_1)) rfl ?_
      exact ih _ _ hs hE
set_option maxHeartbeats 4000000 in
set_option maxRecDepth 100000 in
theorem dm_Ar_fill1_43 {d : Nat} {w : MW} {a0 : Int64} {Q : MW → Prop} (hs : p_Ar_fill1_43 w a0 Q) : Tc (d + 0) 344 [.ref 43, .long a0] w (RV Q) := by
  unfold p_Ar_fill1_43 at hs
  refine tm_go 5 (pc' := 6) (L' := [some (.ref 43), some (.long a0), none, some (.int 0), some (.int 15)]) (S' := []) (w' := w) rfl ?_
  refine tx_Ar_fill1_43_6 FU _ _ hs (fun  z3_0 z3_1 z3_2 z3_3 z3_4 w3 hs => ?_)
  exact tm_r rfl ⟨rfl, hs⟩
set_option maxHeartbeats 4000000 in
set_option maxRecDepth 100000 in
theorem tx_Sf_findRivals_2 {d : Nat} {E : MW → Prop} {Q : Int32 → MW → Prop} (n : Nat) : ∀ (x2_1 : Int32)  (z2 : Option Value) (z3 : Option Value) (z4 : Option Value) (w : MW), q_Sf_findRivals_2  E Q n x2_1 w → (∀  (v1 : Option Value) (v2 : Option Value) (v3 : Option Value) (v4 : Option Value) (w : MW), E  w → Tm (d + 0) 234 53 [some (.ref 42), v1, v2, v3, v4] [] w (RZ Q)) → Tm (d + 0) 234 2 [some (.ref 42), some (.int x2_1), z2, z3, z4] [] w (RZ Q) := by
  induction n with
  | zero => intro x2_1 z2 z3 z4 w hs; rw [q_Sf_findRivals_2.eq_1] at hs; exact hs.elim
  | succ n ih =>
    intro x2_1 z2 z3 z4 w hs hE
    rw [q_Sf_findRivals_2.eq_2] at hs
    refine tm_go 3 (pc' := 7) (L' := [some (.ref 42), some (.int x2_1), z2, z3, z4]) (S' := [.ref 7, .int x2_1]) (w' := w) rfl ?_
    obtain ⟨b1, hs⟩ := hs
    refine tm_g (pc' := 10) (k := 7) (j := 0) rfl b1 ?_
    refine tm_go 3 (pc' := 17) (L' := [some (.ref 42), some (.int x2_1), z2, z3, z4]) (S' := [.ref 7, .int (w.1 8 0), .int x2_1]) (w' := w) rfl ?_
    obtain ⟨b2, hs⟩ := hs
    refine tm_g (pc' := 20) (k := 7) (j := 0) rfl b2 ?_
    refine tm_go 2 (pc' := 24) (L' := [some (.ref 42), some (.int x2_1), z2, z3, z4]) (S' := [.int ((w.1 8 0) + (w.1 8 1)), .int x2_1]) (w' := w) rfl ?_
    refine tm_i (p1 := 53) (p2 := 27) rfl (fun h3 => ?_) (fun h3 => ?_)
    · replace hs := hs.1 h3
      exact hE _ _ _ _ _ hs
    · replace hs := hs.2 h3
      refine tm_go 6 (pc' := 39) (L' := [some (.ref 42), some (.int x2_1), z2, z3, z4]) (S' := [.int x2_1, .ref 17, .ref 43]) (w' := w) rfl ?_
      obtain ⟨b4, hs⟩ := hs
      refine tm_k (pc' := 40) (L' := [some (.ref 42), some (.int x2_1), z2, z3, z4]) (S' := [.int (w.1 17 x2_1.toInt.toNat), .ref 43]) (w' := w) rfl b4 ?_
      refine tm_go 1 (pc' := 41) (L' := [some (.ref 42), some (.int x2_1), z2, z3, z4]) (S' := [.int (w.1 17 x2_1.toInt.toNat), .ref 43, .int (w.1 17 x2_1.toInt.toNat), .ref 43]) (w' := w) rfl ?_
      obtain ⟨b5, hs⟩ := hs
      refine tm_k (pc' := 42) (L' := [some (.ref 42), some (.int x2_1), z2, z3, z4]) (S' := [.long (w.2.1 43 ((w.1 17 x2_1.toInt.toNat).toInt.toNat)), .int (w.1 17 x2_1.toInt.toNat), .ref 43]) (w' := w) rfl b5 ?_
      refine tm_go 4 (pc' := 46) (L' := [some (.ref 42), some (.int x2_1), z2, z3, z4]) (S' := [.long ((w.2.1 43 ((w.1 17 x2_1.toInt.toNat).toInt.toNat)) ||| ((1 : Int64) <<< (x2_1.toInt64 &&& 63))), .int (w.1 17 x2_1.toInt.toNat), .ref 43]) (w' := w) rfl ?_
      obtain ⟨b6, hs⟩ := hs
      refine tm_k (pc' := 47) (L' := [some (.ref 42), some (.int x2_1), z2, z3, z4]) (S' := []) (w' := (sJ w 43 ((w.1 17 x2_1.toInt.toNat).toInt.toNat) ((w.2.1 43 ((w.1 17 x2_1.toInt.toNat).toInt.toNat)) ||| ((1 : Int64) <<< (x2_1.toInt64 &&& 63))))) rfl b6 ?_
      refine tm_go 2 (pc' := 2) (L' := [some (.ref 42), some (.int (x2_1 + (1 : Int32))), z2, z3, z4]) (S' := []) (w' := (sJ w 43 ((w.1 17 x2_1.toInt.toNat).toInt.toNat) ((w.2.1 43 ((w.1 17 x2_1.toInt.toNat).toInt.toNat)) ||| ((1 : Int64) <<< (x2_1.toInt64 &&& 63))))) rfl ?_
      exact ih _ _ _ _ _ hs hE
set_option maxHeartbeats 4000000 in
set_option maxRecDepth 100000 in
theorem tx_Sf_findRivals_57 {d : Nat} {E : Int32 → MW → Prop} {Q : Int32 → MW → Prop} (n : Nat) : ∀ (x57_1 : Int32) (x57_2 : Int32)  (z3 : Option Value) (z4 : Option Value) (w : MW), q_Sf_findRivals_57  E Q n x57_1 x57_2 w → (∀ (e57_1 : Int32)  (v2 : Option Value) (v3 : Option Value) (v4 : Option Value) (w : MW), E e57_1 w → Tm (d + 0) 234 90 [some (.ref 42), some (.int e57_1), v2, v3, v4] [] w (RZ Q)) → Tm (d + 0) 234 57 [some (.ref 42), some (.int x57_1), some (.int x57_2), z3, z4] [] w (RZ Q) := by
  induction n with
  | zero => intro x57_1 x57_2 z3 z4 w hs; rw [q_Sf_findRivals_57.eq_1] at hs; exact hs.elim
  | succ n ih =>
    intro x57_1 x57_2 z3 z4 w hs hE
    rw [q_Sf_findRivals_57.eq_2] at hs
    refine tm_go 2 (pc' := 60) (L' := [some (.ref 42), some (.int x57_1), some (.int x57_2), z3, z4]) (S' := [.int 14, .int x57_2]) (w' := w) rfl ?_
    refine tm_i (p1 := 90) (p2 := 63) rfl (fun h8 => ?_) (fun h8 => ?_)
    · replace hs := hs.1 h8
      exact hE _ _ _ _ _ hs
    · replace hs := hs.2 h8
      refine tm_go 4 (pc' := 69) (L' := [some (.ref 42), some (.int x57_1), some (.int x57_2), z3, z4]) (S' := [.int x57_2, .ref 43, .int x57_1]) (w' := w) rfl ?_
      obtain ⟨b9, hs⟩ := hs
      refine tm_k (pc' := 70) (L' := [some (.ref 42), some (.int x57_1), some (.int x57_2), z3, z4]) (S' := [.long (w.2.1 43 x57_2.toInt.toNat), .int x57_1]) (w' := w) rfl b9 ?_
      refine tm_go 2 (pc' := 72) (L' := [some (.ref 42), some (.int x57_1), some (.int x57_2), z3, z4]) (S' := [.int (lg_cmp (w.2.1 43 x57_2.toInt.toNat) (0 : Int64)), .int x57_1]) (w' := w) rfl ?_
      refine tm_i (p1 := 81) (p2 := 75) rfl (fun h10 => ?_) (fun h10 => ?_)
      · replace hs := hs.1 h10
        refine tm_go 5 (pc' := 57) (L' := [some (.ref 42), some (.int (x57_1 ||| (0 : Int32))), some (.int (x57_2 + (1 : Int32))), z3, z4]) (S' := []) (w' := w) rfl ?_
        exact ih _ _ _ _ _ hs hE
      · replace hs := hs.2 h10
        refine tm_go 8 (pc' := 57) (L' := [some (.ref 42), some (.int (x57_1 ||| ((1 : Int32) <<< (x57_2 &&& 31)))), some (.int (x57_2 + (1 : Int32))), z3, z4]) (S' := []) (w' := w) rfl ?_
        exact ih _ _ _ _ _ hs hE
set_option maxHeartbeats 4000000 in
set_option maxRecDepth 100000 in
theorem tx_Sf_findRivals_143 {d : Nat} {x94_1 : Int32} {y143_2 : Int32} {y143_3 : Int32} {ys143_0 : Int32} {ys143_1 : Int32} {z4 : Option Value} {w : MW} {A : Int32 → Int32 → MW → Prop} {E : Int32 → MW → Prop} {Q : Int32 → MW → Prop} (hs : q_Sf_findRivals_143 x94_1 y143_2 y143_3 ys143_0 ys143_1 w A E Q) (hA : ∀ (x94_2 : Int32) (x94_3 : Int32)  (z4 : Option Value) (w : MW), A x94_2 x94_3 w → Tm (d + 0) 234 94 [some (.ref 42), some (.int x94_1), some (.int x94_2), some (.int x94_3), z4] [] w (RZ Q)) (hE : ∀ (e94_2 : Int32)  (v0 : Option Value) (v1 : Option Value) (v3 : Option Value) (v4 : Option Value) (w : MW), E e94_2 w → Tm (d + 0) 234 169 [v0, v1, some (.int e94_2), v3, v4] [] w (RZ Q)) : Tm (d + 0) 234 143 [some (.ref 42), some (.int x94_1), some (.int y143_2), some (.int y143_3), z4] [.int ys143_0, .int ys143_1, .ref 44] w (RZ Q) := by
  unfold q_Sf_findRivals_143 at hs
  obtain ⟨b16, hs⟩ := hs
  refine tm_k (pc' := 144) (L' := [some (.ref 42), some (.int x94_1), some (.int y143_2), some (.int y143_3), z4]) (S' := []) (w' := (sI w 44 ys143_1.toInt.toNat ys143_0)) rfl b16 ?_
  refine tm_go 1 (pc' := 145) (L' := [some (.ref 42), some (.int x94_1), some (.int y143_2), some (.int y143_3), z4]) (S' := [.int y143_2]) (w' := (sI w 44 ys143_1.toInt.toNat ys143_0)) rfl ?_
  refine tm_i (p1 := 157) (p2 := 148) rfl (fun h17 => ?_) (fun h17 => ?_)
  · replace hs := hs.1 h17
    refine tm_go 5 (pc' := 94) (L' := [some (.ref 42), some (.int x94_1), some (.int 1), some (.int (y143_3 + (1 : Int32))), z4]) (S' := []) (w' := (sI w 44 ys143_1.toInt.toNat ys143_0)) rfl ?_
    exact hA _ _ _ _ hs
  · replace hs := hs.2 h17
    refine tm_go 3 (pc' := 153) (L' := [some (.ref 42), some (.int x94_1), some (.int y143_2), some (.int y143_3), z4]) (S' := [.int y143_3, .ref 44]) (w' := (sI w 44 ys143_1.toInt.toNat ys143_0)) rfl ?_
    obtain ⟨b18, hs⟩ := hs
    refine tm_k (pc' := 154) (L' := [some (.ref 42), some (.int x94_1), some (.int y143_2), some (.int y143_3), z4]) (S' := [.int ((sI w 44 ys143_1.toInt.toNat ys143_0).1 44 y143_3.toInt.toNat)]) (w' := (sI w 44 ys143_1.toInt.toNat ys143_0)) rfl b18 ?_
    refine tm_i (p1 := 161) (p2 := 157) rfl (fun h19 => ?_) (fun h19 => ?_)
    · replace hs := hs.1 h19
      refine tm_go 4 (pc' := 94) (L' := [some (.ref 42), some (.int x94_1), some (.int 0), some (.int (y143_3 + (1 : Int32))), z4]) (S' := []) (w' := (sI w 44 ys143_1.toInt.toNat ys143_0)) rfl ?_
      exact hA _ _ _ _ hs
    · replace hs := hs.2 h19
      refine tm_go 5 (pc' := 94) (L' := [some (.ref 42), some (.int x94_1), some (.int 1), some (.int (y143_3 + (1 : Int32))), z4]) (S' := []) (w' := (sI w 44 ys143_1.toInt.toNat ys143_0)) rfl ?_
      exact hA _ _ _ _ hs
set_option maxHeartbeats 4000000 in
set_option maxRecDepth 100000 in
theorem tx_Sf_findRivals_94 {d : Nat} {x94_1 : Int32} {E : Int32 → MW → Prop} {Q : Int32 → MW → Prop} (n : Nat) : ∀ (x94_2 : Int32) (x94_3 : Int32)  (z4 : Option Value) (w : MW), q_Sf_findRivals_94 x94_1 E Q n x94_2 x94_3 w → (∀ (e94_2 : Int32)  (v0 : Option Value) (v1 : Option Value) (v3 : Option Value) (v4 : Option Value) (w : MW), E e94_2 w → Tm (d + 0) 234 169 [v0, v1, some (.int e94_2), v3, v4] [] w (RZ Q)) → Tm (d + 0) 234 94 [some (.ref 42), some (.int x94_1), some (.int x94_2), some (.int x94_3), z4] [] w (RZ Q) := by
  induction n with
  | zero => intro x94_2 x94_3 z4 w hs; rw [q_Sf_findRivals_94.eq_1] at hs; exact hs.elim
  | succ n ih =>
    intro x94_2 x94_3 z4 w hs hE
    rw [q_Sf_findRivals_94.eq_2] at hs
    refine tm_go 2 (pc' := 97) (L' := [some (.ref 42), some (.int x94_1), some (.int x94_2), some (.int x94_3), z4]) (S' := [.int 14, .int x94_3]) (w' := w) rfl ?_
    refine tm_i (p1 := 169) (p2 := 100) rfl (fun h12 => ?_) (fun h12 => ?_)
    · replace hs := hs.1 h12
      exact hE _ _ _ _ _ _ hs
    · replace hs := hs.2 h12
      refine tm_go 5 (pc' := 109) (L' := [some (.ref 42), some (.int x94_1), some (.int x94_2), some (.int x94_3), z4]) (S' := [.int x94_3, .ref 22, .int x94_1]) (w' := w) rfl ?_
      obtain ⟨b13, hs⟩ := hs
      refine tm_k (pc' := 110) (L' := [some (.ref 42), some (.int x94_1), some (.int x94_2), some (.int x94_3), z4]) (S' := [.int (w.1 22 x94_3.toInt.toNat), .int x94_1]) (w' := w) rfl b13 ?_
      refine tm_go 16 (pc' := 131) (L' := [some (.ref 42), some (.int x94_1), some (.int x94_2), some (.int x94_3), some (.int ((x94_1 &&& ((w.1 22 x94_3.toInt.toNat) ^^^ ((-1) : Int32))) &&& (((1 : Int32) <<< (x94_3 &&& 31)) ^^^ ((-1) : Int32))))]) (S' := [.int x94_3, .ref 43, .int x94_3, .ref 44]) (w' := w) rfl ?_
      obtain ⟨b14, hs⟩ := hs
      refine tm_k (pc' := 132) (L' := [some (.ref 42), some (.int x94_1), some (.int x94_2), some (.int x94_3), some (.int ((x94_1 &&& ((w.1 22 x94_3.toInt.toNat) ^^^ ((-1) : Int32))) &&& (((1 : Int32) <<< (x94_3 &&& 31)) ^^^ ((-1) : Int32))))]) (S' := [.long (w.2.1 43 x94_3.toInt.toNat), .int x94_3, .ref 44]) (w' := w) rfl b14 ?_
      refine tm_go 2 (pc' := 134) (L' := [some (.ref 42), some (.int x94_1), some (.int x94_2), some (.int x94_3), some (.int ((x94_1 &&& ((w.1 22 x94_3.toInt.toNat) ^^^ ((-1) : Int32))) &&& (((1 : Int32) <<< (x94_3 &&& 31)) ^^^ ((-1) : Int32))))]) (S' := [.int (lg_cmp (w.2.1 43 x94_3.toInt.toNat) (0 : Int64)), .int x94_3, .ref 44]) (w' := w) rfl ?_
      refine tm_i (p1 := 142) (p2 := 137) rfl (fun h15 => ?_) (fun h15 => ?_)
      · replace hs := hs.1 h15
        refine tm_go 1 (pc' := 143) (L' := [some (.ref 42), some (.int x94_1), some (.int x94_2), some (.int x94_3), some (.int ((x94_1 &&& ((w.1 22 x94_3.toInt.toNat) ^^^ ((-1) : Int32))) &&& (((1 : Int32) <<< (x94_3 &&& 31)) ^^^ ((-1) : Int32))))]) (S' := [.int 0, .int x94_3, .ref 44]) (w' := w) rfl ?_
        exact tx_Sf_findRivals_143 hs (fun q0 q1 q2 q3 hs => ih q0 q1 q2 q3 hs hE) hE
      · replace hs := hs.2 h15
        refine tm_go 2 (pc' := 143) (L' := [some (.ref 42), some (.int x94_1), some (.int x94_2), some (.int x94_3), some (.int ((x94_1 &&& ((w.1 22 x94_3.toInt.toNat) ^^^ ((-1) : Int32))) &&& (((1 : Int32) <<< (x94_3 &&& 31)) ^^^ ((-1) : Int32))))]) (S' := [.int ((x94_1 &&& ((w.1 22 x94_3.toInt.toNat) ^^^ ((-1) : Int32))) &&& (((1 : Int32) <<< (x94_3 &&& 31)) ^^^ ((-1) : Int32))), .int x94_3, .ref 44]) (w' := w) rfl ?_
        exact tx_Sf_findRivals_143 hs (fun q0 q1 q2 q3 hs => ih q0 q1 q2 q3 hs hE) hE
set_option maxHeartbeats 4000000 in
set_option maxRecDepth 100000 in
theorem dm_Sf_findRivals {d : Nat} {w : MW} {Q : Int32 → MW → Prop} (hs : p_Sf_findRivals w Q) : Tc (d + 0) 234 [.ref 42] w (RZ Q) := by
  unfold p_Sf_findRivals at hs
  refine tm_go 2 (pc' := 2) (L' := [some (.ref 42), some (.int 0), none, none, none]) (S' := []) (w' := w) rfl ?_
  refine tx_Sf_findRivals_2 FU _ _ _ _ _ hs (fun  z7_1 z7_2 z7_3 z7_4 w7 hs => ?_)
  refine tm_go 4 (pc' := 57) (L' := [some (.ref 42), some (.int 0), some (.int 1), z7_3, z7_4]) (S' := []) (w' := w7) rfl ?_
  refine tx_Sf_findRivals_57 FU _ _ _ _ _ hs (fun e57_1_11 z11_2 z11_3 z11_4 w11 hs => ?_)
  refine tm_go 4 (pc' := 94) (L' := [some (.ref 42), some (.int e57_1_11), some (.int 0), some (.int 1), z11_4]) (S' := []) (w' := w11) rfl ?_
  refine tx_Sf_findRivals_94 FU _ _ _ _ hs (fun e94_2_20 z20_0 z20_1 z20_3 z20_4 w20 hs => ?_)
  refine tm_go 1 (pc' := 170) (L' := [z20_0, z20_1, some (.int e94_2_20), z20_3, z20_4]) (S' := [.int e94_2_20]) (w' := w20) rfl ?_
  obtain ⟨b21, hs⟩ := hs
  exact tm_rk rfl b21 ⟨_, rfl, b21, hs⟩
set_option maxHeartbeats 4000000 in
set_option maxRecDepth 100000 in
theorem tx_Ar_fill1_46_6 {d : Nat} {x6_1 : Int64} {x6_4 : Int32} {E : MW → Prop} {Q : MW → Prop} (n : Nat) : ∀ (x6_3 : Int32)   (w : MW), q_Ar_fill1_46_6 x6_1 x6_4 E Q n x6_3 w → (∀  (v0 : Option Value) (v1 : Option Value) (v2 : Option Value) (v3 : Option Value) (v4 : Option Value) (w : MW), E  w → Tm (d + 0) 344 22 [v0, v1, v2, v3, v4] [] w (RV Q)) → Tm (d + 0) 344 6 [some (.ref 46), some (.long x6_1), none, some (.int x6_3), some (.int x6_4)] [] w (RV Q) := by
  induction n with
  | zero => intro x6_3  w hs; rw [q_Ar_fill1_46_6.eq_1] at hs; exact hs.elim
  | succ n ih =>
    intro x6_3  w hs hE
    rw [q_Ar_fill1_46_6.eq_2] at hs
    refine tm_go 2 (pc' := 9) (L' := [some (.ref 46), some (.long x6_1), none, some (.int x6_3), some (.int x6_4)]) (S' := [.int x6_4, .int x6_3]) (w' := w) rfl ?_
    refine tm_i (p1 := 22) (p2 := 12) rfl (fun h1 => ?_) (fun h1 => ?_)
    · replace hs := hs.1 h1
      exact hE _ _ _ _ _ _ hs
    · replace hs := hs.2 h1
      refine tm_go 3 (pc' := 15) (L' := [some (.ref 46), some (.long x6_1), none, some (.int x6_3), some (.int x6_4)]) (S' := [.long x6_1, .int x6_3, .ref 46]) (w' := w) rfl ?_
      obtain ⟨b2, hs⟩ := hs
      refine tm_k (pc' := 16) (L' := [some (.ref 46), some (.long x6_1), none, some (.int x6_3), some (.int x6_4)]) (S' := []) (w' := (sJ w 46 x6_3.toInt.toNat x6_1)) rfl b2 ?_
      refine tm_go 2 (pc' := 6) (L' := [some (.ref 46), some (.long x6_1), none, some (.int (x6_3 + (1 : Int32))), some (.int x6_4)]) (S' := []) (w' := (sJ w 46 x6_3.toInt.toNat x6_1)) rfl ?_
      exact ih _ _ hs hE
set_option maxHeartbeats 4000000 in
set_option maxRecDepth 100000 in
theorem dm_Ar_fill1_46 {d : Nat} {w : MW} {a0 : Int64} {Q : MW → Prop} (hs : p_Ar_fill1_46 w a0 Q) : Tc (d + 0) 344 [.ref 46, .long a0] w (RV Q) := by
  unfold p_Ar_fill1_46 at hs
  refine tm_go 5 (pc' := 6) (L' := [some (.ref 46), some (.long a0), none, some (.int 0), some (.int 44)]) (S' := []) (w' := w) rfl ?_
  refine tx_Ar_fill1_46_6 FU _ _ hs (fun  z3_0 z3_1 z3_2 z3_3 z3_4 w3 hs => ?_)
  exact tm_r rfl ⟨rfl, hs⟩
set_option maxHeartbeats 4000000 in
set_option maxRecDepth 100000 in
theorem tx_Sf_link_160 {d : Nat} {x160_1 : Int32} {x160_2 : Int32} {x160_4 : Int32} {x160_5 : Int32} {x160_6 : Int32} {x160_8 : Int32} {E : MW → Prop} {Q : MW → Prop} (n : Nat) : ∀ (x160_9 : Int32)  (z7 : Option Value) (z10 : Option Value) (w : MW), q_Sf_link_160 x160_1 x160_2 x160_4 x160_5 x160_6 x160_8 E Q n x160_9 w → (∀  (v5 : Option Value) (v6 : Option Value) (v7 : Option Value) (v8 : Option Value) (v9 : Option Value) (v10 : Option Value) (w : MW), E  w → Tm (d + 1) 236 222 [some (.ref 42), some (.int x160_1), some (.int x160_2), some (.ref 8), some (.int x160_4), v5, v6, v7, v8, v9, v10] [] w (RV Q)) → Tm (d + 1) 236 160 [some (.ref 42), some (.int x160_1), some (.int x160_2), some (.ref 8), some (.int x160_4), some (.int x160_5), some (.int x160_6), z7, some (.int x160_8), some (.int x160_9), z10] [] w (RV Q) := by
  induction n with
  | zero => intro x160_9 z7 z10 w hs; rw [q_Sf_link_160.eq_1] at hs; exact hs.elim
  | succ n ih =>
    intro x160_9 z7 z10 w hs hE
    rw [q_Sf_link_160.eq_2] at hs
    refine tm_go 2 (pc' := 163) (L' := [some (.ref 42), some (.int x160_1), some (.int x160_2), some (.ref 8), some (.int x160_4), some (.int x160_5), some (.int x160_6), z7, some (.int x160_8), some (.int x160_9), z10]) (S' := [.int 4, .int x160_9]) (w' := w) rfl ?_
    refine tm_i (p1 := 222) (p2 := 166) rfl (fun h12 => ?_) (fun h12 => ?_)
    · replace hs := hs.1 h12
      exact hE _ _ _ _ _ _ _ hs
    · replace hs := hs.2 h12
      refine tm_go 7 (pc' := 177) (L' := [some (.ref 42), some (.int x160_1), some (.int x160_2), some (.ref 8), some (.int x160_4), some (.int x160_5), some (.int x160_6), z7, some (.int x160_8), some (.int x160_9), z10]) (S' := [.int ((x160_5 * (4 : Int32)) + x160_9), .ref 15]) (w' := w) rfl ?_
      obtain ⟨b13, hs⟩ := hs
      refine tm_k (pc' := 178) (L' := [some (.ref 42), some (.int x160_1), some (.int x160_2), some (.ref 8), some (.int x160_4), some (.int x160_5), some (.int x160_6), z7, some (.int x160_8), some (.int x160_9), z10]) (S' := [.int (w.1 15 (((x160_5 * (4 : Int32)) + x160_9).toInt.toNat))]) (w' := w) rfl b13 ?_
      refine tm_go 6 (pc' := 187) (L' := [some (.ref 42), some (.int x160_1), some (.int x160_2), some (.ref 8), some (.int x160_4), some (.int x160_5), some (.int x160_6), z7, some (.int x160_8), some (.int x160_9), some (.int (w.1 15 (((x160_5 * (4 : Int32)) + x160_9).toInt.toNat)))]) (S' := [.int ((x160_8 >>> (x160_9 &&& 31)) &&& (1 : Int32))]) (w' := w) rfl ?_
      refine tm_i (p1 := 216) (p2 := 190) rfl (fun h14 => ?_) (fun h14 => ?_)
      · replace hs := hs.1 h14
        refine tm_go 2 (pc' := 160) (L' := [some (.ref 42), some (.int x160_1), some (.int x160_2), some (.ref 8), some (.int x160_4), some (.int x160_5), some (.int x160_6), z7, some (.int x160_8), some (.int (x160_9 + (1 : Int32))), some (.int (w.1 15 (((x160_5 * (4 : Int32)) + x160_9).toInt.toNat)))]) (S' := []) (w' := w) rfl ?_
        exact ih _ _ _ _ hs hE
      · replace hs := hs.2 h14
        refine tm_go 1 (pc' := 192) (L' := [some (.ref 42), some (.int x160_1), some (.int x160_2), some (.ref 8), some (.int x160_4), some (.int x160_5), some (.int x160_6), z7, some (.int x160_8), some (.int x160_9), some (.int (w.1 15 (((x160_5 * (4 : Int32)) + x160_9).toInt.toNat)))]) (S' := [.int (w.1 15 (((x160_5 * (4 : Int32)) + x160_9).toInt.toNat))]) (w' := w) rfl ?_
        refine tm_i (p1 := 216) (p2 := 195) rfl (fun h15 => ?_) (fun h15 => ?_)
        · replace hs := hs.1 h15
          refine tm_go 2 (pc' := 160) (L' := [some (.ref 42), some (.int x160_1), some (.int x160_2), some (.ref 8), some (.int x160_4), some (.int x160_5), some (.int x160_6), z7, some (.int x160_8), some (.int (x160_9 + (1 : Int32))), some (.int (w.1 15 (((x160_5 * (4 : Int32)) + x160_9).toInt.toNat)))]) (S' := []) (w' := w) rfl ?_
          exact ih _ _ _ _ hs hE
        · replace hs := hs.2 h15
          refine tm_go 4 (pc' := 202) (L' := [some (.ref 42), some (.int x160_1), some (.int x160_2), some (.ref 8), some (.int x160_4), some (.int x160_5), some (.int x160_6), z7, some (.int x160_8), some (.int x160_9), some (.int (w.1 15 (((x160_5 * (4 : Int32)) + x160_9).toInt.toNat)))]) (S' := [.int x160_6, .ref 46, .int x160_6, .ref 46]) (w' := w) rfl ?_
          obtain ⟨b16, hs⟩ := hs
          refine tm_k (pc' := 203) (L' := [some (.ref 42), some (.int x160_1), some (.int x160_2), some (.ref 8), some (.int x160_4), some (.int x160_5), some (.int x160_6), z7, some (.int x160_8), some (.int x160_9), some (.int (w.1 15 (((x160_5 * (4 : Int32)) + x160_9).toInt.toNat)))]) (S' := [.long (w.2.1 46 x160_6.toInt.toNat), .int x160_6, .ref 46]) (w' := w) rfl b16 ?_
          refine tm_go 9 (pc' := 215) (L' := [some (.ref 42), some (.int x160_1), some (.int x160_2), some (.ref 8), some (.int x160_4), some (.int x160_5), some (.int x160_6), z7, some (.int x160_8), some (.int x160_9), some (.int (w.1 15 (((x160_5 * (4 : Int32)) + x160_9).toInt.toNat)))]) (S' := [.long ((w.2.1 46 x160_6.toInt.toNat) ||| ((1 : Int64) <<< (((w.1 8 0) + ((w.1 15 (((x160_5 * (4 : Int32)) + x160_9).toInt.toNat)) >>> ((1 : Int32) &&& 31))).toInt64 &&& 63))), .int x160_6, .ref 46]) (w' := w) rfl ?_
          obtain ⟨b17, hs⟩ := hs
          refine tm_k (pc' := 216) (L' := [some (.ref 42), some (.int x160_1), some (.int x160_2), some (.ref 8), some (.int x160_4), some (.int x160_5), some (.int x160_6), z7, some (.int x160_8), some (.int x160_9), some (.int (w.1 15 (((x160_5 * (4 : Int32)) + x160_9).toInt.toNat)))]) (S' := []) (w' := (sJ w 46 x160_6.toInt.toNat ((w.2.1 46 x160_6.toInt.toNat) ||| ((1 : Int64) <<< (((w.1 8 0) + ((w.1 15 (((x160_5 * (4 : Int32)) + x160_9).toInt.toNat)) >>> ((1 : Int32) &&& 31))).toInt64 &&& 63))))) rfl b17 ?_
          refine tm_go 2 (pc' := 160) (L' := [some (.ref 42), some (.int x160_1), some (.int x160_2), some (.ref 8), some (.int x160_4), some (.int x160_5), some (.int x160_6), z7, some (.int x160_8), some (.int (x160_9 + (1 : Int32))), some (.int (w.1 15 (((x160_5 * (4 : Int32)) + x160_9).toInt.toNat)))]) (S' := []) (w' := (sJ w 46 x160_6.toInt.toNat ((w.2.1 46 x160_6.toInt.toNat) ||| ((1 : Int64) <<< (((w.1 8 0) + ((w.1 15 (((x160_5 * (4 : Int32)) + x160_9).toInt.toNat)) >>> ((1 : Int32) &&& 31))).toInt64 &&& 63))))) rfl ?_
          exact ih _ _ _ _ hs hE
set_option maxHeartbeats 4000000 in
set_option maxRecDepth 100000 in
theorem tx_Sf_link_142 {d : Nat} {x19_1 : Int32} {x19_2 : Int32} {y142_4 : Int32} {y142_5 : Int32} {y142_6 : Int32} {ys142_0 : Int32} {z7 : Option Value} {z8 : Option Value} {z9 : Option Value} {z10 : Option Value} {w : MW} {A : Int32 → MW → Prop} {E : MW → Prop} {Q : MW → Prop} (hs : q_Sf_link_142 x19_1 x19_2 y142_4 y142_5 y142_6 ys142_0 w A E Q) (hA : ∀ (x19_4 : Int32)  (z5 : Option Value) (z6 : Option Value) (z7 : Option Value) (z8 : Option Value) (z9 : Option Value) (z10 : Option Value) (w : MW), A x19_4 w → Tm (d + 1) 236 19 [some (.ref 42), some (.int x19_1), some (.int x19_2), some (.ref 8), some (.int x19_4), z5, z6, z7, z8, z9, z10] [] w (RV Q)) (hE : ∀  (v0 : Option Value) (v1 : Option Value) (v2 : Option Value) (v3 : Option Value) (v4 : Option Value) (v5 : Option Value) (v6 : Option Value) (v7 : Option Value) (v8 : Option Value) (v9 : Option Value) (v10 : Option Value) (w : MW), E  w → Tm (d + 1) 236 228 [v0, v1, v2, v3, v4, v5, v6, v7, v8, v9, v10] [] w (RV Q)) : Tm (d + 1) 236 142 [some (.ref 42), some (.int x19_1), some (.int x19_2), some (.ref 8), some (.int y142_4), some (.int y142_5), some (.int y142_6), z7, z8, z9, z10] [.int ys142_0] w (RV Q) := by
  unfold q_Sf_link_142 at hs
  refine tm_go 4 (pc' := 149) (L' := [some (.ref 42), some (.int x19_1), some (.int x19_2), some (.ref 8), some (.int y142_4), some (.int y142_5), some (.int y142_6), z7, z8, z9, z10]) (S' := [.int y142_4, .ref 14, .int 4, .int ys142_0]) (w' := w) rfl ?_
  obtain ⟨b11, hs⟩ := hs
  refine tm_k (pc' := 150) (L' := [some (.ref 42), some (.int x19_1), some (.int x19_2), some (.ref 8), some (.int y142_4), some (.int y142_5), some (.int y142_6), z7, z8, z9, z10]) (S' := [.int (w.1 14 y142_4.toInt.toNat), .int 4, .int ys142_0]) (w' := w) rfl b11 ?_
  refine tm_go 7 (pc' := 160) (L' := [some (.ref 42), some (.int x19_1), some (.int x19_2), some (.ref 8), some (.int y142_4), some (.int y142_5), some (.int y142_6), (ksl z7), some (.int ((ys142_0 >>> (((4 : Int32) * (w.1 14 y142_4.toInt.toNat)) &&& 31)) &&& (15 : Int32))), some (.int 0), z10]) (S' := []) (w' := w) rfl ?_
  refine tx_Sf_link_160 FU _ _ _ _ hs (fun  z18_5 z18_6 z18_7 z18_8 z18_9 z18_10 w18 hs => ?_)
  refine tm_go 2 (pc' := 19) (L' := [some (.ref 42), some (.int x19_1), some (.int x19_2), some (.ref 8), some (.int (y142_4 + (1 : Int32))), z18_5, z18_6, z18_7, z18_8, z18_9, z18_10]) (S' := []) (w' := w18) rfl ?_
  exact hA _ _ _ _ _ _ _ _ hs
set_option maxHeartbeats 4000000 in
set_option maxRecDepth 100000 in
theorem tx_Sf_link_98 {d : Nat} {x19_1 : Int32} {x19_2 : Int32} {y98_4 : Int32} {y98_5 : Int32} {y98_6 : Int32} {z7 : Option Value} {z8 : Option Value} {z9 : Option Value} {z10 : Option Value} {w : MW} {A : Int32 → MW → Prop} {E : MW → Prop} {Q : MW → Prop} (hs : q_Sf_link_98 x19_1 x19_2 y98_4 y98_5 y98_6 w A E Q) (hA : ∀ (x19_4 : Int32)  (z5 : Option Value) (z6 : Option Value) (z7 : Option Value) (z8 : Option Value) (z9 : Option Value) (z10 : Option Value) (w : MW), A x19_4 w → Tm (d + 1) 236 19 [some (.ref 42), some (.int x19_1), some (.int x19_2), some (.ref 8), some (.int x19_4), z5, z6, z7, z8, z9, z10] [] w (RV Q)) (hE : ∀  (v0 : Option Value) (v1 : Option Value) (v2 : Option Value) (v3 : Option Value) (v4 : Option Value) (v5 : Option Value) (v6 : Option Value) (v7 : Option Value) (v8 : Option Value) (v9 : Option Value) (v10 : Option Value) (w : MW), E  w → Tm (d + 1) 236 228 [v0, v1, v2, v3, v4, v5, v6, v7, v8, v9, v10] [] w (RV Q)) : Tm (d + 1) 236 98 [some (.ref 42), some (.int x19_1), some (.int x19_2), some (.ref 8), some (.int y98_4), some (.int y98_5), some (.int y98_6), z7, z8, z9, z10] [] w (RV Q) := by
  unfold q_Sf_link_98 at hs
  refine tm_go 1 (pc' := 100) (L' := [some (.ref 42), some (.int x19_1), some (.int x19_2), some (.ref 8), some (.int y98_4), some (.int y98_5), some (.int y98_6), z7, z8, z9, z10]) (S' := [.int y98_5]) (w' := w) rfl ?_
  refine tm_i (p1 := 222) (p2 := 103) rfl (fun h6 => ?_) (fun h6 => ?_)
  · replace hs := hs.1 h6
    refine tm_go 2 (pc' := 19) (L' := [some (.ref 42), some (.int x19_1), some (.int x19_2), some (.ref 8), some (.int (y98_4 + (1 : Int32))), some (.int y98_5), some (.int y98_6), z7, z8, z9, z10]) (S' := []) (w' := w) rfl ?_
    exact hA _ _ _ _ _ _ _ _ hs
  · replace hs := hs.2 h6
    refine tm_go 4 (pc' := 112) (L' := [some (.ref 42), some (.int x19_1), some (.int x19_2), some (.ref 8), some (.int y98_4), some (.int y98_5), some (.int y98_6), z7, z8, z9, z10]) (S' := [.int y98_5, .ref 9, .ref 1001]) (w' := w) rfl ?_
    obtain ⟨b7, hs⟩ := hs
    refine tm_k (pc' := 113) (L' := [some (.ref 42), some (.int x19_1), some (.int x19_2), some (.ref 8), some (.int y98_4), some (.int y98_5), some (.int y98_6), z7, z8, z9, z10]) (S' := [.int (w.1 9 y98_5.toInt.toNat), .ref 1001]) (w' := w) rfl b7 ?_
    refine tm_go 6 (pc' := 125) (L' := [some (.ref 42), some (.int x19_1), some (.int x19_2), some (.ref 8), some (.int y98_4), some (.int y98_5), some (.int y98_6), z7, z8, z9, z10]) (S' := [.int y98_5, .ref 16, .int ((w.1 9 y98_5.toInt.toNat) * (10 : Int32)), .ref 1001]) (w' := w) rfl ?_
    obtain ⟨b8, hs⟩ := hs
    refine tm_k (pc' := 126) (L' := [some (.ref 42), some (.int x19_1), some (.int x19_2), some (.ref 8), some (.int y98_4), some (.int y98_5), some (.int y98_6), z7, z8, z9, z10]) (S' := [.int (w.1 16 y98_5.toInt.toNat), .int ((w.1 9 y98_5.toInt.toNat) * (10 : Int32)), .ref 1001]) (w' := w) rfl b8 ?_
    refine tm_go 1 (pc' := 127) (L' := [some (.ref 42), some (.int x19_1), some (.int x19_2), some (.ref 8), some (.int y98_4), some (.int y98_5), some (.int y98_6), z7, z8, z9, z10]) (S' := [.int (((w.1 9 y98_5.toInt.toNat) * (10 : Int32)) + (w.1 16 y98_5.toInt.toNat)), .ref 1001]) (w' := w) rfl ?_
    obtain ⟨b9, hs⟩ := hs
    refine tm_k (pc' := 128) (L' := [some (.ref 42), some (.int x19_1), some (.int x19_2), some (.ref 8), some (.int y98_4), some (.int y98_5), some (.int y98_6), z7, z8, z9, z10]) (S' := [.int ((stT 1001).getD ((((w.1 9 y98_5.toInt.toNat) * (10 : Int32)) + (w.1 16 y98_5.toInt.toNat)).toInt.toNat) 0)]) (w' := w) rfl b9 ?_
    refine tm_go 3 (pc' := 133) (L' := [some (.ref 42), some (.int x19_1), some (.int x19_2), some (.ref 8), some (.int y98_4), some (.int y98_5), some (.int y98_6), some (.int ((stT 1001).getD ((((w.1 9 y98_5.toInt.toNat) * (10 : Int32)) + (w.1 16 y98_5.toInt.toNat)).toInt.toNat) 0)), z8, z9, z10]) (S' := [.int x19_1, .int y98_5]) (w' := w) rfl ?_
    refine tm_i (p1 := 140) (p2 := 136) rfl (fun h10 => ?_) (fun h10 => ?_)
    · replace hs := hs.1 h10
      refine tm_go 1 (pc' := 142) (L' := [some (.ref 42), some (.int x19_1), some (.int x19_2), some (.ref 8), some (.int y98_4), some (.int y98_5), some (.int y98_6), some (.int ((stT 1001).getD ((((w.1 9 y98_5.toInt.toNat) * (10 : Int32)) + (w.1 16 y98_5.toInt.toNat)).toInt.toNat) 0)), z8, z9, z10]) (S' := [.int ((stT 1001).getD ((((w.1 9 y98_5.toInt.toNat) * (10 : Int32)) + (w.1 16 y98_5.toInt.toNat)).toInt.toNat) 0)]) (w' := w) rfl ?_
      exact tx_Sf_link_142 hs hA hE
    · replace hs := hs.2 h10
      refine tm_go 2 (pc' := 142) (L' := [some (.ref 42), some (.int x19_1), some (.int x19_2), some (.ref 8), some (.int y98_4), some (.int y98_5), some (.int y98_6), some (.int ((stT 1001).getD ((((w.1 9 y98_5.toInt.toNat) * (10 : Int32)) + (w.1 16 y98_5.toInt.toNat)).toInt.toNat) 0)), z8, z9, z10]) (S' := [.int x19_2]) (w' := w) rfl ?_
      exact tx_Sf_link_142 hs hA hE
set_option maxHeartbeats 4000000 in
set_option maxRecDepth 100000 in
theorem tx_Sf_link_19 {d : Nat} {x19_1 : Int32} {x19_2 : Int32} {E : MW → Prop} {Q : MW → Prop} (n : Nat) : ∀ (x19_4 : Int32)  (z5 : Option Value) (z6 : Option Value) (z7 : Option Value) (z8 : Option Value) (z9 : Option Value) (z10 : Option Value) (w : MW), q_Sf_link_19 x19_1 x19_2 E Q n x19_4 w → (∀  (v0 : Option Value) (v1 : Option Value) (v2 : Option Value) (v3 : Option Value) (v4 : Option Value) (v5 : Option Value) (v6 : Option Value) (v7 : Option Value) (v8 : Option Value) (v9 : Option Value) (v10 : Option Value) (w : MW), E  w → Tm (d + 1) 236 228 [v0, v1, v2, v3, v4, v5, v6, v7, v8, v9, v10] [] w (RV Q)) → Tm (d + 1) 236 19 [some (.ref 42), some (.int x19_1), some (.int x19_2), some (.ref 8), some (.int x19_4), z5, z6, z7, z8, z9, z10] [] w (RV Q) := by
  induction n with
  | zero => intro x19_4 z5 z6 z7 z8 z9 z10 w hs; rw [q_Sf_link_19.eq_1] at hs; exact hs.elim
  | succ n ih =>
    intro x19_4 z5 z6 z7 z8 z9 z10 w hs hE
    rw [q_Sf_link_19.eq_2] at hs
    refine tm_go 5 (pc' := 27) (L' := [some (.ref 42), some (.int x19_1), some (.int x19_2), some (.ref 8), some (.int x19_4), z5, z6, z7, z8, z9, z10]) (S' := [.int ((2 : Int32) * (w.1 8 1)), .int x19_4]) (w' := w) rfl ?_
    refine tm_i (p1 := 228) (p2 := 30) rfl (fun h3 => ?_) (fun h3 => ?_)
    · replace hs := hs.1 h3
      exact hE _ _ _ _ _ _ _ _ _ _ _ _ hs
    · replace hs := hs.2 h3
      refine tm_go 3 (pc' := 36) (L' := [some (.ref 42), some (.int x19_1), some (.int x19_2), some (.ref 8), some (.int x19_4), z5, z6, z7, z8, z9, z10]) (S' := [.int x19_4, .ref 13]) (w' := w) rfl ?_
      obtain ⟨b4, hs⟩ := hs
      refine tm_k (pc' := 37) (L' := [some (.ref 42), some (.int x19_1), some (.int x19_2), some (.ref 8), some (.int x19_4), z5, z6, z7, z8, z9, z10]) (S' := [.int (w.1 13 x19_4.toInt.toNat)]) (w' := w) rfl b4 ?_
      refine tm_go 9 (pc' := 52) (L' := [some (.ref 42), some (.int x19_1), some (.int x19_2), some (.ref 8), some (.int x19_4), some (.int (w.1 13 x19_4.toInt.toNat)), some (.int ((w.1 8 0) + (x19_4 >>> ((1 : Int32) &&& 31)))), z7, z8, z9, z10]) (S' := [.int (w.1 13 x19_4.toInt.toNat)]) (w' := w) rfl ?_
      refine tm_i (p1 := 98) (p2 := 55) rfl (fun h5 => ?_) (fun h5 => ?_)
      · replace hs := hs.1 h5
        exact tx_Sf_link_98 hs (fun q0 q1 q2 q3 q4 q5 q6 q7 hs => ih q0 q1 q2 q3 q4 q5 q6 q7 hs hE) hE
      · replace hs := hs.2 h5
        refine tm_go 3 (pc' := 61) (L' := [some (.ref 42), some (.int x19_1), some (.int x19_2), some (.ref 8), some (.int x19_4), some (.int (w.1 13 x19_4.toInt.toNat)), some (.int ((w.1 8 0) + (x19_4 >>> ((1 : Int32) &&& 31)))), z7, z8, z9, z10]) (S' := [.int (w.1 13 x19_4.toInt.toNat), .ref 9]) (w' := w) rfl ?_
        obtain ⟨b19, hs⟩ := hs
        refine tm_k (pc' := 62) (L' := [some (.ref 42), some (.int x19_1), some (.int x19_2), some (.ref 8), some (.int x19_4), some (.int (w.1 13 x19_4.toInt.toNat)), some (.int ((w.1 8 0) + (x19_4 >>> ((1 : Int32) &&& 31)))), z7, z8, z9, z10]) (S' := [.int (w.1 9 ((w.1 13 x19_4.toInt.toNat).toInt.toNat))]) (w' := w) rfl b19 ?_
        refine tm_go 1 (pc' := 64) (L' := [some (.ref 42), some (.int x19_1), some (.int x19_2), some (.ref 8), some (.int x19_4), some (.int (w.1 13 x19_4.toInt.toNat)), some (.int ((w.1 8 0) + (x19_4 >>> ((1 : Int32) &&& 31)))), z7, z8, z9, z10]) (S' := [.int 9, .int (w.1 9 ((w.1 13 x19_4.toInt.toNat).toInt.toNat))]) (w' := w) rfl ?_
        refine tm_i (p1 := 98) (p2 := 67) rfl (fun h20 => ?_) (fun h20 => ?_)
        · replace hs := hs.1 h20
          exact tx_Sf_link_98 hs (fun q0 q1 q2 q3 q4 q5 q6 q7 hs => ih q0 q1 q2 q3 q4 q5 q6 q7 hs hE) hE
        · replace hs := hs.2 h20
          refine tm_go 4 (pc' := 74) (L' := [some (.ref 42), some (.int x19_1), some (.int x19_2), some (.ref 8), some (.int x19_4), some (.int (w.1 13 x19_4.toInt.toNat)), some (.int ((w.1 8 0) + (x19_4 >>> ((1 : Int32) &&& 31)))), z7, z8, z9, z10]) (S' := [.int (w.1 13 x19_4.toInt.toNat), .ref 46, .int (w.1 13 x19_4.toInt.toNat), .ref 46]) (w' := w) rfl ?_
          obtain ⟨b21, hs⟩ := hs
          refine tm_k (pc' := 75) (L' := [some (.ref 42), some (.int x19_1), some (.int x19_2), some (.ref 8), some (.int x19_4), some (.int (w.1 13 x19_4.toInt.toNat)), some (.int ((w.1 8 0) + (x19_4 >>> ((1 : Int32) &&& 31)))), z7, z8, z9, z10]) (S' := [.long (w.2.1 46 ((w.1 13 x19_4.toInt.toNat).toInt.toNat)), .int (w.1 13 x19_4.toInt.toNat), .ref 46]) (w' := w) rfl b21 ?_
          refine tm_go 4 (pc' := 80) (L' := [some (.ref 42), some (.int x19_1), some (.int x19_2), some (.ref 8), some (.int x19_4), some (.int (w.1 13 x19_4.toInt.toNat)), some (.int ((w.1 8 0) + (x19_4 >>> ((1 : Int32) &&& 31)))), z7, z8, z9, z10]) (S' := [.long ((w.2.1 46 ((w.1 13 x19_4.toInt.toNat).toInt.toNat)) ||| ((1 : Int64) <<< (((w.1 8 0) + (x19_4 >>> ((1 : Int32) &&& 31))).toInt64 &&& 63))), .int (w.1 13 x19_4.toInt.toNat), .ref 46]) (w' := w) rfl ?_
          obtain ⟨b22, hs⟩ := hs
          refine tm_k (pc' := 81) (L' := [some (.ref 42), some (.int x19_1), some (.int x19_2), some (.ref 8), some (.int x19_4), some (.int (w.1 13 x19_4.toInt.toNat)), some (.int ((w.1 8 0) + (x19_4 >>> ((1 : Int32) &&& 31)))), z7, z8, z9, z10]) (S' := []) (w' := (sJ w 46 ((w.1 13 x19_4.toInt.toNat).toInt.toNat) ((w.2.1 46 ((w.1 13 x19_4.toInt.toNat).toInt.toNat)) ||| ((1 : Int64) <<< (((w.1 8 0) + (x19_4 >>> ((1 : Int32) &&& 31))).toInt64 &&& 63))))) rfl b22 ?_
          refine tm_go 4 (pc' := 88) (L' := [some (.ref 42), some (.int x19_1), some (.int x19_2), some (.ref 8), some (.int x19_4), some (.int (w.1 13 x19_4.toInt.toNat)), some (.int ((w.1 8 0) + (x19_4 >>> ((1 : Int32) &&& 31)))), z7, z8, z9, z10]) (S' := [.int ((w.1 8 0) + (x19_4 >>> ((1 : Int32) &&& 31))), .ref 46, .int ((w.1 8 0) + (x19_4 >>> ((1 : Int32) &&& 31))), .ref 46]) (w' := (sJ w 46 ((w.1 13 x19_4.toInt.toNat).toInt.toNat) ((w.2.1 46 ((w.1 13 x19_4.toInt.toNat).toInt.toNat)) ||| ((1 : Int64) <<< (((w.1 8 0) + (x19_4 >>> ((1 : Int32) &&& 31))).toInt64 &&& 63))))) rfl ?_
          obtain ⟨b23, hs⟩ := hs
          refine tm_k (pc' := 89) (L' := [some (.ref 42), some (.int x19_1), some (.int x19_2), some (.ref 8), some (.int x19_4), some (.int (w.1 13 x19_4.toInt.toNat)), some (.int ((w.1 8 0) + (x19_4 >>> ((1 : Int32) &&& 31)))), z7, z8, z9, z10]) (S' := [.long ((sJ w 46 ((w.1 13 x19_4.toInt.toNat).toInt.toNat) ((w.2.1 46 ((w.1 13 x19_4.toInt.toNat).toInt.toNat)) ||| ((1 : Int64) <<< (((w.1 8 0) + (x19_4 >>> ((1 : Int32) &&& 31))).toInt64 &&& 63)))).2.1 46 (((w.1 8 0) + (x19_4 >>> ((1 : Int32) &&& 31))).toInt.toNat)), .int ((w.1 8 0) + (x19_4 >>> ((1 : Int32) &&& 31))), .ref 46]) (w' := (sJ w 46 ((w.1 13 x19_4.toInt.toNat).toInt.toNat) ((w.2.1 46 ((w.1 13 x19_4.toInt.toNat).toInt.toNat)) ||| ((1 : Int64) <<< (((w.1 8 0) + (x19_4 >>> ((1 : Int32) &&& 31))).toInt64 &&& 63))))) rfl b23 ?_
          refine tm_go 4 (pc' := 94) (L' := [some (.ref 42), some (.int x19_1), some (.int x19_2), some (.ref 8), some (.int x19_4), some (.int (w.1 13 x19_4.toInt.toNat)), some (.int ((w.1 8 0) + (x19_4 >>> ((1 : Int32) &&& 31)))), z7, z8, z9, z10]) (S' := [.long (((sJ w 46 ((w.1 13 x19_4.toInt.toNat).toInt.toNat) ((w.2.1 46 ((w.1 13 x19_4.toInt.toNat).toInt.toNat)) ||| ((1 : Int64) <<< (((w.1 8 0) + (x19_4 >>> ((1 : Int32) &&& 31))).toInt64 &&& 63)))).2.1 46 (((w.1 8 0) + (x19_4 >>> ((1 : Int32) &&& 31))).toInt.toNat)) ||| ((1 : Int64) <<< ((w.1 13 x19_4.toInt.toNat).toInt64 &&& 63))), .int ((w.1 8 0) + (x19_4 >>> ((1 : Int32) &&& 31))), .ref 46]) (w' := (sJ w 46 ((w.1 13 x19_4.toInt.toNat).toInt.toNat) ((w.2.1 46 ((w.1 13 x19_4.toInt.toNat).toInt.toNat)) ||| ((1 : Int64) <<< (((w.1 8 0) + (x19_4 >>> ((1 : Int32) &&& 31))).toInt64 &&& 63))))) rfl ?_
          obtain ⟨b24, hs⟩ := hs
          refine tm_k (pc' := 95) (L' := [some (.ref 42), some (.int x19_1), some (.int x19_2), some (.ref 8), some (.int x19_4), some (.int (w.1 13 x19_4.toInt.toNat)), some (.int ((w.1 8 0) + (x19_4 >>> ((1 : Int32) &&& 31)))), z7, z8, z9, z10]) (S' := []) (w' := (sJ (sJ w 46 ((w.1 13 x19_4.toInt.toNat).toInt.toNat) ((w.2.1 46 ((w.1 13 x19_4.toInt.toNat).toInt.toNat)) ||| ((1 : Int64) <<< (((w.1 8 0) + (x19_4 >>> ((1 : Int32) &&& 31))).toInt64 &&& 63)))) 46 (((w.1 8 0) + (x19_4 >>> ((1 : Int32) &&& 31))).toInt.toNat) (((sJ w 46 ((w.1 13 x19_4.toInt.toNat).toInt.toNat) ((w.2.1 46 ((w.1 13 x19_4.toInt.toNat).toInt.toNat)) ||| ((1 : Int64) <<< (((w.1 8 0) + (x19_4 >>> ((1 : Int32) &&& 31))).toInt64 &&& 63)))).2.1 46 (((w.1 8 0) + (x19_4 >>> ((1 : Int32) &&& 31))).toInt.toNat)) ||| ((1 : Int64) <<< ((w.1 13 x19_4.toInt.toNat).toInt64 &&& 63))))) rfl b24 ?_
          refine tm_go 3 (pc' := 19) (L' := [some (.ref 42), some (.int x19_1), some (.int x19_2), some (.ref 8), some (.int (x19_4 + (1 : Int32))), some (.int (w.1 13 x19_4.toInt.toNat)), some (.int ((w.1 8 0) + (x19_4 >>> ((1 : Int32) &&& 31)))), z7, z8, z9, z10]) (S' := []) (w' := (sJ (sJ w 46 ((w.1 13 x19_4.toInt.toNat).toInt.toNat) ((w.2.1 46 ((w.1 13 x19_4.toInt.toNat).toInt.toNat)) ||| ((1 : Int64) <<< (((w.1 8 0) + (x19_4 >>> ((1 : Int32) &&& 31))).toInt64 &&& 63)))) 46 (((w.1 8 0) + (x19_4 >>> ((1 : Int32) &&& 31))).toInt.toNat) (((sJ w 46 ((w.1 13 x19_4.toInt.toNat).toInt.toNat) ((w.2.1 46 ((w.1 13 x19_4.toInt.toNat).toInt.toNat)) ||| ((1 : Int64) <<< (((w.1 8 0) + (x19_4 >>> ((1 : Int32) &&& 31))).toInt64 &&& 63)))).2.1 46 (((w.1 8 0) + (x19_4 >>> ((1 : Int32) &&& 31))).toInt.toNat)) ||| ((1 : Int64) <<< ((w.1 13 x19_4.toInt.toNat).toInt64 &&& 63))))) rfl ?_
          exact ih _ _ _ _ _ _ _ _ hs hE
set_option maxHeartbeats 4000000 in
set_option maxRecDepth 100000 in
theorem dm_Sf_link {d : Nat} {w : MW} {a0 : Int32} {b0 : Int32} {Q : MW → Prop} (hs : p_Sf_link w a0 b0 Q) : Tc (d + 1) 236 [.ref 42, .int a0, .int b0] w (RV Q) := by
  unfold p_Sf_link at hs
  refine tm_go 2 (pc' := 4) (L' := [some (.ref 42), some (.int a0), some (.int b0), none, none, none, none, none, none, none, none]) (S' := [.ref 7]) (w' := w) rfl ?_
  obtain ⟨b1, hs⟩ := hs
  refine tm_g (pc' := 7) (k := 7) (j := 0) rfl b1 ?_
  refine tm_go 4 (pc' := 13) (L' := [some (.ref 42), some (.int a0), some (.int b0), some (.ref 8), none, none, none, none, none, none, none]) (S' := [.long 0, .ref 46]) (w' := w) rfl ?_
  refine tm_c rfl (Nat.le_of_ble_eq_true rfl) (dm_Ar_fill1_46 (d := d + 0) hs) (fun v w2 hq => ?_)
  obtain ⟨rfl, hs⟩ := hq
  refine tm_go 2 (pc' := 19) (L' := [some (.ref 42), some (.int a0), some (.int b0), some (.ref 8), some (.int 0), none, none, none, none, none, none]) (S' := []) (w' := w2) rfl ?_
  refine tx_Sf_link_19 FU _ _ _ _ _ _ _ _ hs (fun  z25_0 z25_1 z25_2 z25_3 z25_4 z25_5 z25_6 z25_7 z25_8 z25_9 z25_10 w25 hs => ?_)
  exact tm_r rfl ⟨rfl, hs⟩
set_option maxHeartbeats 4000000 in
set_option maxRecDepth 100000 in
theorem tx_In_numberOfTrailingZeros_62 {d : Nat} {y62_0 : Int32} {y62_1 : Int32}  {w : MW} {Q : Int32 → MW → Prop} (hs : q_In_numberOfTrailingZeros_62 y62_0 y62_1 w Q) : Tm (d + 0) 342 62 [some (.int y62_0), some (.int y62_1)] [] w (RI Q) := by
  unfold q_In_numberOfTrailingZeros_62 at hs
  refine tm_go 2 (pc' := 64) (L' := [some (.int y62_0), some (.int y62_1)]) (S' := [.int 4, .int y62_0]) (w' := w) rfl ?_
  refine tm_i (p1 := 74) (p2 := 67) rfl (fun h5 => ?_) (fun h5 => ?_)
  · replace hs := hs.1 h5
    refine tm_go 5 (pc' := 79) (L' := [some (.int y62_0), some (.int y62_1)]) (S' := [.int (y62_1 + ((y62_0.toUInt32 >>> ((1 : Int32).toUInt32 &&& Int32.toUInt32 31)).toInt32))]) (w' := w) rfl ?_
    exact tm_r rfl ⟨_, rfl, hs⟩
  · replace hs := hs.2 h5
    refine tm_go 10 (pc' := 79) (L' := [some (.int ((y62_0.toUInt32 >>> ((2 : Int32).toUInt32 &&& Int32.toUInt32 31)).toInt32)), some (.int (y62_1 + (2 : Int32)))]) (S' := [.int ((y62_1 + (2 : Int32)) + ((((y62_0.toUInt32 >>> ((2 : Int32).toUInt32 &&& Int32.toUInt32 31)).toInt32).toUInt32 >>> ((1 : Int32).toUInt32 &&& Int32.toUInt32 31)).toInt32))]) (w' := w) rfl ?_
    exact tm_r rfl ⟨_, rfl, hs⟩
set_option maxHeartbeats 4000000 in
set_option maxRecDepth 100000 in
theorem tx_In_numberOfTrailingZeros_34 {d : Nat} {y34_0 : Int32} {y34_1 : Int32}  {w : MW} {Q : Int32 → MW → Prop} (hs : q_In_numberOfTrailingZeros_34 y34_0 y34_1 w Q) : Tm (d + 0) 342 34 [some (.int y34_0), some (.int y34_1)] [] w (RI Q) := by
  unfold q_In_numberOfTrailingZeros_34 at hs
  refine tm_go 2 (pc' := 38) (L' := [some (.int y34_0), some (.int y34_1)]) (S' := [.int 256, .int y34_0]) (w' := w) rfl ?_
  refine tm_i (p1 := 49) (p2 := 41) rfl (fun h3 => ?_) (fun h3 => ?_)
  · replace hs := hs.1 h3
    refine tm_go 2 (pc' := 52) (L' := [some (.int y34_0), some (.int y34_1)]) (S' := [.int 16, .int y34_0]) (w' := w) rfl ?_
    refine tm_i (p1 := 62) (p2 := 55) rfl (fun h4 => ?_) (fun h4 => ?_)
    · replace hs := hs.1 h4
      exact tx_In_numberOfTrailingZeros_62 hs 
    · replace hs := hs.2 h4
      refine tm_go 5 (pc' := 62) (L' := [some (.int ((y34_0.toUInt32 >>> ((4 : Int32).toUInt32 &&& Int32.toUInt32 31)).toInt32)), some (.int (y34_1 + (4 : Int32)))]) (S' := []) (w' := w) rfl ?_
      exact tx_In_numberOfTrailingZeros_62 hs 
  · replace hs := hs.2 h3
    refine tm_go 7 (pc' := 52) (L' := [some (.int ((y34_0.toUInt32 >>> ((8 : Int32).toUInt32 &&& Int32.toUInt32 31)).toInt32)), some (.int (y34_1 + (8 : Int32)))]) (S' := [.int 16, .int ((y34_0.toUInt32 >>> ((8 : Int32).toUInt32 &&& Int32.toUInt32 31)).toInt32)]) (w' := w) rfl ?_
    refine tm_i (p1 := 62) (p2 := 55) rfl (fun h6 => ?_) (fun h6 => ?_)
    · replace hs := hs.1 h6
      exact tx_In_numberOfTrailingZeros_62 hs 
    · replace hs := hs.2 h6
      refine tm_go 5 (pc' := 62) (L' := [some (.int ((((y34_0.toUInt32 >>> ((8 : Int32).toUInt32 &&& Int32.toUInt32 31)).toInt32).toUInt32 >>> ((4 : Int32).toUInt32 &&& Int32.toUInt32 31)).toInt32)), some (.int ((y34_1 + (8 : Int32)) + (4 : Int32)))]) (S' := []) (w' := w) rfl ?_
      exact tx_In_numberOfTrailingZeros_62 hs 
set_option maxHeartbeats 4000000 in
set_option maxRecDepth 100000 in
theorem dm_In_numberOfTrailingZeros {d : Nat} {w : MW} {a0 : Int32} {Q : Int32 → MW → Prop} (hs : p_In_numberOfTrailingZeros w a0 Q) : Tc (d + 0) 342 [.int a0] w (RI Q) := by
  unfold p_In_numberOfTrailingZeros at hs
  refine tm_go 9 (pc' := 9) (L' := [some (.int ((a0 ^^^ ((-1) : Int32)) &&& (a0 - (1 : Int32)))), none]) (S' := [.int ((a0 ^^^ ((-1) : Int32)) &&& (a0 - (1 : Int32)))]) (w' := w) rfl ?_
  refine tm_i (p1 := 17) (p2 := 12) rfl (fun h1 => ?_) (fun h1 => ?_)
  · replace hs := hs.1 h1
    refine tm_go 4 (pc' := 23) (L' := [some (.int ((a0 ^^^ ((-1) : Int32)) &&& (a0 - (1 : Int32)))), some (.int 1)]) (S' := [.int 65536, .int ((a0 ^^^ ((-1) : Int32)) &&& (a0 - (1 : Int32)))]) (w' := w) rfl ?_
    refine tm_i (p1 := 34) (p2 := 26) rfl (fun h2 => ?_) (fun h2 => ?_)
    · replace hs := hs.1 h2
      exact tx_In_numberOfTrailingZeros_34 hs 
    · replace hs := hs.2 h2
      refine tm_go 5 (pc' := 34) (L' := [some (.int ((((a0 ^^^ ((-1) : Int32)) &&& (a0 - (1 : Int32))).toUInt32 >>> ((16 : Int32).toUInt32 &&& Int32.toUInt32 31)).toInt32)), some (.int ((1 : Int32) + (16 : Int32)))]) (S' := []) (w' := w) rfl ?_
      exact tx_In_numberOfTrailingZeros_34 hs 
  · replace hs := hs.2 h1
    refine tm_go 3 (pc' := 16) (L' := [some (.int ((a0 ^^^ ((-1) : Int32)) &&& (a0 - (1 : Int32)))), none]) (S' := [.int (((a0 ^^^ ((-1) : Int32)) &&& (a0 - (1 : Int32))) &&& (32 : Int32))]) (w' := w) rfl ?_
    exact tm_r rfl ⟨_, rfl, hs⟩
set_option maxHeartbeats 4000000 in
set_option maxRecDepth 100000 in
theorem dm_Lo_numberOfTrailingZeros {d : Nat} {w : MW} {a0 : Int64} {Q : Int32 → MW → Prop} (hs : p_Lo_numberOfTrailingZeros w a0 Q) : Tc (d + 1) 341 [.long a0] w (RI Q) := by
  unfold p_Lo_numberOfTrailingZeros at hs
  refine tm_go 4 (pc' := 4) (L' := [some (.long a0), none, some (.int (Int64.toInt32 a0))]) (S' := [.int (Int64.toInt32 a0)]) (w' := w) rfl ?_
  refine tm_i (p1 := 21) (p2 := 7) rfl (fun h1 => ?_) (fun h1 => ?_)
  · replace hs := hs.1 h1
    refine tm_go 1 (pc' := 22) (L' := [some (.long a0), none, some (.int (Int64.toInt32 a0))]) (S' := [.int (Int64.toInt32 a0)]) (w' := w) rfl ?_
    refine tm_c rfl (Nat.le_of_ble_eq_true rfl) (dm_In_numberOfTrailingZeros (d := d + 0) hs) (fun v w2 hq => ?_)
    obtain ⟨r2, rfl, hs⟩ := hq
    exact tm_r rfl ⟨_, rfl, hs⟩
  · replace hs := hs.2 h1
    refine tm_go 5 (pc' := 14) (L' := [some (.long a0), none, some (.int (Int64.toInt32 a0))]) (S' := [.int (Int64.toInt32 ((a0.toUInt64 >>> ((32 : Int32).toInt64.toUInt64 &&& Int64.toUInt64 63)).toInt64)), .int 32]) (w' := w) rfl ?_
    refine tm_c rfl (Nat.le_of_ble_eq_true rfl) (dm_In_numberOfTrailingZeros (d := d + 0) hs) (fun v w3 hq => ?_)
    obtain ⟨r3, rfl, hs⟩ := hq
    refine tm_go 2 (pc' := 25) (L' := [some (.long a0), none, some (.int (Int64.toInt32 a0))]) (S' := [.int ((32 : Int32) + r3)]) (w' := w3) rfl ?_
    exact tm_r rfl ⟨_, rfl, hs⟩
set_option maxHeartbeats 4000000 in
set_option maxRecDepth 100000 in
theorem tx_Sf_meet_49 {d : Nat} {x49_1 : Int32} {E : MW → Prop} {Q : Int32 → MW → Prop} (n : Nat) : ∀ (x49_2 : Int64) (x49_4 : Int32)  (z5 : Option Value) (z6 : Option Value) (z7 : Option Value) (w : MW), q_Sf_meet_49 x49_1 E Q n x49_2 x49_4 w → (∀  (v2 : Option Value) (v3 : Option Value) (v4 : Option Value) (v5 : Option Value) (v6 : Option Value) (v7 : Option Value) (w : MW), E  w → Tm (d + 2) 235 113 [some (.ref 42), some (.int x49_1), v2, v3, v4, v5, v6, v7] [] w (RZ Q)) → Tm (d + 2) 235 49 [some (.ref 42), some (.int x49_1), some (.long x49_2), none, some (.int x49_4), z5, z6, z7] [] w (RZ Q) := by
  induction n with
  | zero => intro x49_2 x49_4 z5 z6 z7 w hs; rw [q_Sf_meet_49.eq_1] at hs; exact hs.elim
  | succ n ih =>
    intro x49_2 x49_4 z5 z6 z7 w hs hE
    rw [q_Sf_meet_49.eq_2] at hs
    refine tm_go 2 (pc' := 53) (L' := [some (.ref 42), some (.int x49_1), some (.long x49_2), none, some (.int x49_4), z5, z6, z7]) (S' := [.int 44, .int x49_4]) (w' := w) rfl ?_
    refine tm_i (p1 := 113) (p2 := 56) rfl (fun h7 => ?_) (fun h7 => ?_)
    · replace hs := hs.1 h7
      exact hE _ _ _ _ _ _ _ hs
    · replace hs := hs.2 h7
      refine tm_go 3 (pc' := 59) (L' := [some (.ref 42), some (.int x49_1), some (.long x49_2), none, some (.int x49_4), z5, z6, z7]) (S' := [.int (lg_cmp x49_2 (0 : Int64))]) (w' := w) rfl ?_
      refine tm_i (p1 := 113) (p2 := 62) rfl (fun h8 => ?_) (fun h8 => ?_)
      · replace hs := hs.1 h8
        exact hE _ _ _ _ _ _ _ hs
      · replace hs := hs.2 h8
        refine tm_go 3 (pc' := 67) (L' := [some (.ref 42), some (.int x49_1), some (.long x49_2), none, some (.int x49_4), z5, z6, z7]) (S' := [.long x49_2, .ref 46]) (w' := w) rfl ?_
        refine tm_c rfl (Nat.le_of_ble_eq_true rfl) (dm_Lo_numberOfTrailingZeros (d := d + 0) hs) (fun v w9 hq => ?_)
        obtain ⟨r9, rfl, hs⟩ := hq
        refine tm_go 2 (pc' := 73) (L' := [some (.ref 42), some (.int x49_1), some (.long x49_2), none, some (.int x49_4), z5, z6, z7]) (S' := [.int (r9 - r9 / (44 : Int32) * (44 : Int32)), .ref 46]) (w' := w9) rfl ?_
        obtain ⟨b10, hs⟩ := hs
        refine tm_k (pc' := 74) (L' := [some (.ref 42), some (.int x49_1), some (.long x49_2), none, some (.int x49_4), z5, z6, z7]) (S' := [.long (w9.2.1 46 ((r9 - r9 / (44 : Int32) * (44 : Int32)).toInt.toNat))]) (w' := w9) rfl b10 ?_
        refine tm_go 3 (pc' := 79) (L' := [some (.ref 42), some (.int x49_1), some (.long x49_2), none, some (.int x49_4), z5, z6, z7]) (S' := [.int x49_1, .ref 45, .long (w9.2.1 46 ((r9 - r9 / (44 : Int32) * (44 : Int32)).toInt.toNat))]) (w' := w9) rfl ?_
        obtain ⟨b11, hs⟩ := hs
        refine tm_k (pc' := 80) (L' := [some (.ref 42), some (.int x49_1), some (.long x49_2), none, some (.int x49_4), z5, z6, z7]) (S' := [.long (w9.2.1 45 x49_1.toInt.toNat), .long (w9.2.1 46 ((r9 - r9 / (44 : Int32) * (44 : Int32)).toInt.toNat))]) (w' := w9) rfl b11 ?_
        refine tm_go 16 (pc' := 102) (L' := [some (.ref 42), some (.int x49_1), some (.long ((x49_2 &&& (x49_2 - (1 : Int64))) ||| ((w9.2.1 46 ((r9 - r9 / (44 : Int32) * (44 : Int32)).toInt.toNat)) &&& ((w9.2.1 45 x49_1.toInt.toNat) ^^^ ((-1) : Int64))))), none, some (.int x49_4), some (.long ((w9.2.1 46 ((r9 - r9 / (44 : Int32) * (44 : Int32)).toInt.toNat)) &&& ((w9.2.1 45 x49_1.toInt.toNat) ^^^ ((-1) : Int64)))), none, z7]) (S' := [.int x49_1, .ref 45, .int x49_1, .ref 45]) (w' := w9) rfl ?_
        obtain ⟨b12, hs⟩ := hs
        refine tm_k (pc' := 103) (L' := [some (.ref 42), some (.int x49_1), some (.long ((x49_2 &&& (x49_2 - (1 : Int64))) ||| ((w9.2.1 46 ((r9 - r9 / (44 : Int32) * (44 : Int32)).toInt.toNat)) &&& ((w9.2.1 45 x49_1.toInt.toNat) ^^^ ((-1) : Int64))))), none, some (.int x49_4), some (.long ((w9.2.1 46 ((r9 - r9 / (44 : Int32) * (44 : Int32)).toInt.toNat)) &&& ((w9.2.1 45 x49_1.toInt.toNat) ^^^ ((-1) : Int64)))), none, z7]) (S' := [.long (w9.2.1 45 x49_1.toInt.toNat), .int x49_1, .ref 45]) (w' := w9) rfl b12 ?_
        refine tm_go 2 (pc' := 106) (L' := [some (.ref 42), some (.int x49_1), some (.long ((x49_2 &&& (x49_2 - (1 : Int64))) ||| ((w9.2.1 46 ((r9 - r9 / (44 : Int32) * (44 : Int32)).toInt.toNat)) &&& ((w9.2.1 45 x49_1.toInt.toNat) ^^^ ((-1) : Int64))))), none, some (.int x49_4), some (.long ((w9.2.1 46 ((r9 - r9 / (44 : Int32) * (44 : Int32)).toInt.toNat)) &&& ((w9.2.1 45 x49_1.toInt.toNat) ^^^ ((-1) : Int64)))), none, z7]) (S' := [.long ((w9.2.1 45 x49_1.toInt.toNat) ||| ((w9.2.1 46 ((r9 - r9 / (44 : Int32) * (44 : Int32)).toInt.toNat)) &&& ((w9.2.1 45 x49_1.toInt.toNat) ^^^ ((-1) : Int64)))), .int x49_1, .ref 45]) (w' := w9) rfl ?_
        obtain ⟨b13, hs⟩ := hs
        refine tm_k (pc' := 107) (L' := [some (.ref 42), some (.int x49_1), some (.long ((x49_2 &&& (x49_2 - (1 : Int64))) ||| ((w9.2.1 46 ((r9 - r9 / (44 : Int32) * (44 : Int32)).toInt.toNat)) &&& ((w9.2.1 45 x49_1.toInt.toNat) ^^^ ((-1) : Int64))))), none, some (.int x49_4), some (.long ((w9.2.1 46 ((r9 - r9 / (44 : Int32) * (44 : Int32)).toInt.toNat)) &&& ((w9.2.1 45 x49_1.toInt.toNat) ^^^ ((-1) : Int64)))), none, z7]) (S' := []) (w' := (sJ w9 45 x49_1.toInt.toNat ((w9.2.1 45 x49_1.toInt.toNat) ||| ((w9.2.1 46 ((r9 - r9 / (44 : Int32) * (44 : Int32)).toInt.toNat)) &&& ((w9.2.1 45 x49_1.toInt.toNat) ^^^ ((-1) : Int64)))))) rfl b13 ?_
        refine tm_go 2 (pc' := 49) (L' := [some (.ref 42), some (.int x49_1), some (.long ((x49_2 &&& (x49_2 - (1 : Int64))) ||| ((w9.2.1 46 ((r9 - r9 / (44 : Int32) * (44 : Int32)).toInt.toNat)) &&& ((w9.2.1 45 x49_1.toInt.toNat) ^^^ ((-1) : Int64))))), none, some (.int (x49_4 + (1 : Int32))), some (.long ((w9.2.1 46 ((r9 - r9 / (44 : Int32) * (44 : Int32)).toInt.toNat)) &&& ((w9.2.1 45 x49_1.toInt.toNat) ^^^ ((-1) : Int64)))), none, z7]) (S' := []) (w' := (sJ w9 45 x49_1.toInt.toNat ((w9.2.1 45 x49_1.toInt.toNat) ||| ((w9.2.1 46 ((r9 - r9 / (44 : Int32) * (44 : Int32)).toInt.toNat)) &&& ((w9.2.1 45 x49_1.toInt.toNat) ^^^ ((-1) : Int64)))))) rfl ?_
        exact ih _ _ _ _ _ _ hs hE
set_option maxHeartbeats 4000000 in
set_option maxRecDepth 100000 in
theorem tx_Sf_meet_173 {d : Nat} {x116_1 : Int32} {y173_4 : Int32} {ys173_0 : Int32} {z2 : Option Value} {z3 : Option Value} {z5 : Option Value} {z6 : Option Value} {z7 : Option Value} {w : MW} {A : Int32 → MW → Prop} {E : MW → Prop} {Q : Int32 → MW → Prop} (hs : q_Sf_meet_173 x116_1 y173_4 ys173_0 w A E Q) (hA : ∀ (x116_4 : Int32)  (z2 : Option Value) (z3 : Option Value) (z5 : Option Value) (z6 : Option Value) (z7 : Option Value) (w : MW), A x116_4 w → Tm (d + 2) 235 116 [some (.ref 42), some (.int x116_1), z2, z3, some (.int x116_4), z5, z6, z7] [] w (RZ Q)) (hE : ∀  (v2 : Option Value) (v3 : Option Value) (v4 : Option Value) (v5 : Option Value) (v6 : Option Value) (v7 : Option Value) (w : MW), E  w → Tm (d + 2) 235 232 [some (.ref 42), some (.int x116_1), v2, v3, v4, v5, v6, v7] [] w (RZ Q)) : Tm (d + 2) 235 173 [some (.ref 42), some (.int x116_1), z2, z3, some (.int y173_4), z5, z6, z7] [.int ys173_0] w (RZ Q) := by
  unfold q_Sf_meet_173 at hs
  refine tm_go 4 (pc' := 181) (L' := [some (.ref 42), some (.int x116_1), z2, z3, some (.int y173_4), z5, (ksl z6), some (.int ys173_0)]) (S' := [.int (w.1 42 7), .int ys173_0]) (w' := w) rfl ?_
  refine tm_i (p1 := 209) (p2 := 184) rfl (fun h18 => ?_) (fun h18 => ?_)
  · replace hs := hs.1 h18
    refine tm_go 11 (pc' := 116) (L' := [some (.ref 42), some (.int x116_1), z2, (ksl z3), some (.int (y173_4 + (1 : Int32))), z5, (ksl z6), some (.int ys173_0)]) (S' := []) (w' := (sI (sI (sI w 42 7 ys173_0) 42 8 y173_4) 42 9 x116_1)) rfl ?_
    exact hA _ _ _ _ _ _ _ hs
  · replace hs := hs.2 h18
    refine tm_go 3 (pc' := 190) (L' := [some (.ref 42), some (.int x116_1), z2, z3, some (.int y173_4), z5, (ksl z6), some (.int ys173_0)]) (S' := [.int (w.1 42 7), .int ys173_0]) (w' := w) rfl ?_
    refine tm_i (p1 := 226) (p2 := 193) rfl (fun h19 => ?_) (fun h19 => ?_)
    · replace hs := hs.1 h19
      refine tm_go 2 (pc' := 116) (L' := [some (.ref 42), some (.int x116_1), z2, (ksl z3), some (.int (y173_4 + (1 : Int32))), z5, (ksl z6), some (.int ys173_0)]) (S' := []) (w' := w) rfl ?_
      exact hA _ _ _ _ _ _ _ hs
    · replace hs := hs.2 h19
      refine tm_go 2 (pc' := 197) (L' := [some (.ref 42), some (.int x116_1), z2, z3, some (.int y173_4), z5, (ksl z6), some (.int ys173_0)]) (S' := [.int 44, .int ys173_0]) (w' := w) rfl ?_
      refine tm_i (p1 := 226) (p2 := 200) rfl (fun h20 => ?_) (fun h20 => ?_)
      · replace hs := hs.1 h20
        refine tm_go 2 (pc' := 116) (L' := [some (.ref 42), some (.int x116_1), z2, (ksl z3), some (.int (y173_4 + (1 : Int32))), z5, (ksl z6), some (.int ys173_0)]) (S' := []) (w' := w) rfl ?_
        exact hA _ _ _ _ _ _ _ hs
      · replace hs := hs.2 h20
        refine tm_go 3 (pc' := 206) (L' := [some (.ref 42), some (.int x116_1), z2, z3, some (.int y173_4), z5, (ksl z6), some (.int ys173_0)]) (S' := [.int (w.1 42 8), .int y173_4]) (w' := w) rfl ?_
        refine tm_i (p1 := 226) (p2 := 209) rfl (fun h21 => ?_) (fun h21 => ?_)
        · replace hs := hs.1 h21
          refine tm_go 2 (pc' := 116) (L' := [some (.ref 42), some (.int x116_1), z2, (ksl z3), some (.int (y173_4 + (1 : Int32))), z5, (ksl z6), some (.int ys173_0)]) (S' := []) (w' := w) rfl ?_
          exact hA _ _ _ _ _ _ _ hs
        · replace hs := hs.2 h21
          refine tm_go 11 (pc' := 116) (L' := [some (.ref 42), some (.int x116_1), z2, (ksl z3), some (.int (y173_4 + (1 : Int32))), z5, (ksl z6), some (.int ys173_0)]) (S' := []) (w' := (sI (sI (sI w 42 7 ys173_0) 42 8 y173_4) 42 9 x116_1)) rfl ?_
          exact hA _ _ _ _ _ _ _ hs
set_option maxHeartbeats 4000000 in
set_option maxRecDepth 100000 in
theorem tx_Sf_meet_116 {d : Nat} {x116_1 : Int32} {E : MW → Prop} {Q : Int32 → MW → Prop} (n : Nat) : ∀ (x116_4 : Int32)  (z2 : Option Value) (z3 : Option Value) (z5 : Option Value) (z6 : Option Value) (z7 : Option Value) (w : MW), q_Sf_meet_116 x116_1 E Q n x116_4 w → (∀  (v2 : Option Value) (v3 : Option Value) (v4 : Option Value) (v5 : Option Value) (v6 : Option Value) (v7 : Option Value) (w : MW), E  w → Tm (d + 2) 235 232 [some (.ref 42), some (.int x116_1), v2, v3, v4, v5, v6, v7] [] w (RZ Q)) → Tm (d + 2) 235 116 [some (.ref 42), some (.int x116_1), z2, z3, some (.int x116_4), z5, z6, z7] [] w (RZ Q) := by
  induction n with
  | zero => intro x116_4 z2 z3 z5 z6 z7 w hs; rw [q_Sf_meet_116.eq_1] at hs; exact hs.elim
  | succ n ih =>
    intro x116_4 z2 z3 z5 z6 z7 w hs hE
    rw [q_Sf_meet_116.eq_2] at hs
    refine tm_go 2 (pc' := 119) (L' := [some (.ref 42), some (.int x116_1), z2, z3, some (.int x116_4), z5, z6, z7]) (S' := [.int x116_1, .int x116_4]) (w' := w) rfl ?_
    refine tm_i (p1 := 232) (p2 := 122) rfl (fun h15 => ?_) (fun h15 => ?_)
    · replace hs := hs.1 h15
      exact hE _ _ _ _ _ _ _ hs
    · replace hs := hs.2 h15
      refine tm_go 3 (pc' := 127) (L' := [some (.ref 42), some (.int x116_1), z2, z3, some (.int x116_4), z5, z6, z7]) (S' := [.int x116_1, .ref 44]) (w' := w) rfl ?_
      obtain ⟨b16, hs⟩ := hs
      refine tm_k (pc' := 128) (L' := [some (.ref 42), some (.int x116_1), z2, z3, some (.int x116_4), z5, z6, z7]) (S' := [.int (w.1 44 x116_1.toInt.toNat)]) (w' := w) rfl b16 ?_
      refine tm_go 4 (pc' := 133) (L' := [some (.ref 42), some (.int x116_1), z2, z3, some (.int x116_4), z5, z6, z7]) (S' := [.int (((w.1 44 x116_1.toInt.toNat) >>> (x116_4 &&& 31)) &&& (1 : Int32))]) (w' := w) rfl ?_
      refine tm_i (p1 := 153) (p2 := 136) rfl (fun h17 => ?_) (fun h17 => ?_)
      · replace hs := hs.1 h17
        refine tm_go 8 (pc' := 173) (L' := [some (.ref 42), some (.int x116_1), z2, z3, some (.int x116_4), some (.long 0), none, z7]) (S' := [.int 44]) (w' := w) rfl ?_
        exact tx_Sf_meet_173 hs (fun q0 q1 q2 q3 q4 q5 q6 hs => ih q0 q1 q2 q3 q4 q5 q6 hs hE) hE
      · replace hs := hs.2 h17
        refine tm_go 3 (pc' := 141) (L' := [some (.ref 42), some (.int x116_1), z2, z3, some (.int x116_4), z5, z6, z7]) (S' := [.int x116_1, .ref 45]) (w' := w) rfl ?_
        obtain ⟨b22, hs⟩ := hs
        refine tm_k (pc' := 142) (L' := [some (.ref 42), some (.int x116_1), z2, z3, some (.int x116_4), z5, z6, z7]) (S' := [.long (w.2.1 45 x116_1.toInt.toNat)]) (w' := w) rfl b22 ?_
        refine tm_go 3 (pc' := 148) (L' := [some (.ref 42), some (.int x116_1), z2, z3, some (.int x116_4), z5, z6, z7]) (S' := [.int x116_4, .ref 45, .long (w.2.1 45 x116_1.toInt.toNat)]) (w' := w) rfl ?_
        obtain ⟨b23, hs⟩ := hs
        refine tm_k (pc' := 149) (L' := [some (.ref 42), some (.int x116_1), z2, z3, some (.int x116_4), z5, z6, z7]) (S' := [.long (w.2.1 45 x116_4.toInt.toNat), .long (w.2.1 45 x116_1.toInt.toNat)]) (w' := w) rfl b23 ?_
        refine tm_go 6 (pc' := 160) (L' := [some (.ref 42), some (.int x116_1), z2, z3, some (.int x116_4), some (.long ((w.2.1 45 x116_1.toInt.toNat) &&& (w.2.1 45 x116_4.toInt.toNat))), none, z7]) (S' := [.int (lg_cmp ((w.2.1 45 x116_1.toInt.toNat) &&& (w.2.1 45 x116_4.toInt.toNat)) (0 : Int64))]) (w' := w) rfl ?_
        refine tm_i (p1 := 168) (p2 := 163) rfl (fun h24 => ?_) (fun h24 => ?_)
        · replace hs := hs.1 h24
          refine tm_go 1 (pc' := 170) (L' := [some (.ref 42), some (.int x116_1), z2, z3, some (.int x116_4), some (.long ((w.2.1 45 x116_1.toInt.toNat) &&& (w.2.1 45 x116_4.toInt.toNat))), none, z7]) (S' := [.long ((w.2.1 45 x116_1.toInt.toNat) &&& (w.2.1 45 x116_4.toInt.toNat))]) (w' := w) rfl ?_
          refine tm_c rfl (Nat.le_of_ble_eq_true rfl) (dm_Lo_numberOfTrailingZeros (d := d + 0) hs) (fun v w25 hq => ?_)
          obtain ⟨r25, rfl, hs⟩ := hq
          exact tx_Sf_meet_173 hs (fun q0 q1 q2 q3 q4 q5 q6 hs => ih q0 q1 q2 q3 q4 q5 q6 hs hE) hE
        · replace hs := hs.2 h24
          refine tm_go 2 (pc' := 173) (L' := [some (.ref 42), some (.int x116_1), z2, z3, some (.int x116_4), some (.long ((w.2.1 45 x116_1.toInt.toNat) &&& (w.2.1 45 x116_4.toInt.toNat))), none, z7]) (S' := [.int 44]) (w' := w) rfl ?_
          exact tx_Sf_meet_173 hs (fun q0 q1 q2 q3 q4 q5 q6 hs => ih q0 q1 q2 q3 q4 q5 q6 hs hE) hE
set_option maxHeartbeats 4000000 in
set_option maxRecDepth 100000 in
theorem tx_Sf_meet_8 {d : Nat} {E : MW → Prop} {Q : Int32 → MW → Prop} (n : Nat) : ∀ (x8_1 : Int32)  (z2 : Option Value) (z3 : Option Value) (z4 : Option Value) (z5 : Option Value) (z6 : Option Value) (z7 : Option Value) (w : MW), q_Sf_meet_8  E Q n x8_1 w → (∀  (v1 : Option Value) (v2 : Option Value) (v3 : Option Value) (v4 : Option Value) (v5 : Option Value) (v6 : Option Value) (v7 : Option Value) (w : MW), E  w → Tm (d + 2) 235 238 [some (.ref 42), v1, v2, v3, v4, v5, v6, v7] [] w (RZ Q)) → Tm (d + 2) 235 8 [some (.ref 42), some (.int x8_1), z2, z3, z4, z5, z6, z7] [] w (RZ Q) := by
  induction n with
  | zero => intro x8_1 z2 z3 z4 z5 z6 z7 w hs; rw [q_Sf_meet_8.eq_1] at hs; exact hs.elim
  | succ n ih =>
    intro x8_1 z2 z3 z4 z5 z6 z7 w hs hE
    rw [q_Sf_meet_8.eq_2] at hs
    refine tm_go 2 (pc' := 11) (L' := [some (.ref 42), some (.int x8_1), z2, z3, z4, z5, z6, z7]) (S' := [.int 14, .int x8_1]) (w' := w) rfl ?_
    refine tm_i (p1 := 238) (p2 := 14) rfl (fun h1 => ?_) (fun h1 => ?_)
    · replace hs := hs.1 h1
      exact hE _ _ _ _ _ _ _ _ hs
    · replace hs := hs.2 h1
      refine tm_go 6 (pc' := 24) (L' := [some (.ref 42), some (.int x8_1), z2, z3, z4, z5, z6, z7]) (S' := [.int x8_1, .ref 43, .int x8_1, .ref 45]) (w' := w) rfl ?_
      obtain ⟨b2, hs⟩ := hs
      refine tm_k (pc' := 25) (L' := [some (.ref 42), some (.int x8_1), z2, z3, z4, z5, z6, z7]) (S' := [.long (w.2.1 43 x8_1.toInt.toNat), .int x8_1, .ref 45]) (w' := w) rfl b2 ?_
      obtain ⟨b3, hs⟩ := hs
      refine tm_k (pc' := 26) (L' := [some (.ref 42), some (.int x8_1), z2, z3, z4, z5, z6, z7]) (S' := []) (w' := (sJ w 45 x8_1.toInt.toNat (w.2.1 43 x8_1.toInt.toNat))) rfl b3 ?_
      refine tm_go 3 (pc' := 31) (L' := [some (.ref 42), some (.int x8_1), z2, z3, z4, z5, z6, z7]) (S' := [.int x8_1, .ref 44]) (w' := (sJ w 45 x8_1.toInt.toNat (w.2.1 43 x8_1.toInt.toNat))) rfl ?_
      obtain ⟨b4, hs⟩ := hs
      refine tm_k (pc' := 32) (L' := [some (.ref 42), some (.int x8_1), z2, z3, z4, z5, z6, z7]) (S' := [.int (w.1 44 x8_1.toInt.toNat)]) (w' := (sJ w 45 x8_1.toInt.toNat (w.2.1 43 x8_1.toInt.toNat))) rfl b4 ?_
      refine tm_i (p1 := 39) (p2 := 35) rfl (fun h5 => ?_) (fun h5 => ?_)
      · replace hs := hs.1 h5
        refine tm_go 3 (pc' := 44) (L' := [some (.ref 42), some (.int x8_1), z2, z3, z4, z5, z6, z7]) (S' := [.int x8_1, .ref 43]) (w' := (sJ w 45 x8_1.toInt.toNat (w.2.1 43 x8_1.toInt.toNat))) rfl ?_
        obtain ⟨b6, hs⟩ := hs
        refine tm_k (pc' := 45) (L' := [some (.ref 42), some (.int x8_1), z2, z3, z4, z5, z6, z7]) (S' := [.long (w.2.1 43 x8_1.toInt.toNat)]) (w' := (sJ w 45 x8_1.toInt.toNat (w.2.1 43 x8_1.toInt.toNat))) rfl b6 ?_
        refine tm_go 3 (pc' := 49) (L' := [some (.ref 42), some (.int x8_1), some (.long (w.2.1 43 x8_1.toInt.toNat)), none, some (.int 0), z5, z6, z7]) (S' := []) (w' := (sJ w 45 x8_1.toInt.toNat (w.2.1 43 x8_1.toInt.toNat))) rfl ?_
        refine tx_Sf_meet_49 FU _ _ _ _ _ _ hs (fun  z14_2 z14_3 z14_4 z14_5 z14_6 z14_7 w14 hs => ?_)
        refine tm_go 2 (pc' := 116) (L' := [some (.ref 42), some (.int x8_1), z14_2, (ksl z14_3), some (.int 1), z14_5, z14_6, z14_7]) (S' := []) (w' := w14) rfl ?_
        refine tx_Sf_meet_116 FU _ _ _ _ _ _ _ hs (fun  z26_2 z26_3 z26_4 z26_5 z26_6 z26_7 w26 hs => ?_)
        refine tm_go 2 (pc' := 8) (L' := [some (.ref 42), some (.int (x8_1 + (1 : Int32))), z26_2, z26_3, z26_4, z26_5, z26_6, z26_7]) (S' := []) (w' := w26) rfl ?_
        exact ih _ _ _ _ _ _ _ _ hs hE
      · replace hs := hs.2 h5
        refine tm_go 5 (pc' := 49) (L' := [some (.ref 42), some (.int x8_1), some (.long 0), none, some (.int 0), z5, z6, z7]) (S' := []) (w' := (sJ w 45 x8_1.toInt.toNat (w.2.1 43 x8_1.toInt.toNat))) rfl ?_
        refine tx_Sf_meet_49 FU _ _ _ _ _ _ hs (fun  z27_2 z27_3 z27_4 z27_5 z27_6 z27_7 w27 hs => ?_)
        refine tm_go 2 (pc' := 116) (L' := [some (.ref 42), some (.int x8_1), z27_2, (ksl z27_3), some (.int 1), z27_5, z27_6, z27_7]) (S' := []) (w' := w27) rfl ?_
        refine tx_Sf_meet_116 FU _ _ _ _ _ _ _ hs (fun  z28_2 z28_3 z28_4 z28_5 z28_6 z28_7 w28 hs => ?_)
        refine tm_go 2 (pc' := 8) (L' := [some (.ref 42), some (.int (x8_1 + (1 : Int32))), z28_2, z28_3, z28_4, z28_5, z28_6, z28_7]) (S' := []) (w' := w28) rfl ?_
        exact ih _ _ _ _ _ _ _ _ hs hE
set_option maxHeartbeats 4000000 in
set_option maxRecDepth 100000 in
theorem dm_Sf_meet {d : Nat} {w : MW} {Q : Int32 → MW → Prop} (hs : p_Sf_meet w Q) : Tc (d + 2) 235 [.ref 42] w (RZ Q) := by
  unfold p_Sf_meet at hs
  refine tm_go 5 (pc' := 8) (L' := [some (.ref 42), some (.int 1), none, none, none, none, none, none]) (S' := []) (w' := (sI w 42 7 44)) rfl ?_
  refine tx_Sf_meet_8 FU _ _ _ _ _ _ _ _ hs (fun  z29_1 z29_2 z29_3 z29_4 z29_5 z29_6 z29_7 w29 hs => ?_)
  refine tm_go 3 (pc' := 244) (L' := [some (.ref 42), z29_1, z29_2, z29_3, z29_4, z29_5, z29_6, z29_7]) (S' := [.int 44, .int (w29.1 42 7)]) (w' := w29) rfl ?_
  refine tm_i (p1 := 251) (p2 := 247) rfl (fun h30 => ?_) (fun h30 => ?_)
  · replace hs := hs.1 h30
    refine tm_go 1 (pc' := 252) (L' := [some (.ref 42), z29_1, z29_2, z29_3, z29_4, z29_5, z29_6, z29_7]) (S' := [.int 0]) (w' := w29) rfl ?_
    exact tm_r rfl ⟨_, rfl, by decide, hs⟩
  · replace hs := hs.2 h30
    refine tm_go 2 (pc' := 252) (L' := [some (.ref 42), z29_1, z29_2, z29_3, z29_4, z29_5, z29_6, z29_7]) (S' := [.int 1]) (w' := w29) rfl ?_
    exact tm_r rfl ⟨_, rfl, by decide, hs⟩
set_option maxHeartbeats 4000000 in
set_option maxRecDepth 100000 in
theorem tx_Sf_otherPasses_31 {d : Nat} {y31_1 : Int32} {y31_2 : Int32} {y31_3 : Int32} {z4 : Option Value} {z5 : Option Value} {w : MW} {Q : Int32 → MW → Prop} (hs : q_Sf_otherPasses_31 y31_1 y31_2 y31_3 w Q) : Tm (d + 1) 233 31 [some (.ref 42), some (.int y31_1), some (.int y31_2), some (.int y31_3), z4, z5] [] w (RI Q) := by
  unfold q_Sf_otherPasses_31 at hs
  refine tm_go 8 (pc' := 46) (L' := [some (.ref 42), some (.int y31_1), some (.int y31_2), some (.int y31_3), z4, z5]) (S' := [.int y31_1, .ref 16, .int (y31_3 * (10 : Int32)), .ref 1001]) (w' := w) rfl ?_
  obtain ⟨b5, hs⟩ := hs
  refine tm_k (pc' := 47) (L' := [some (.ref 42), some (.int y31_1), some (.int y31_2), some (.int y31_3), z4, z5]) (S' := [.int (w.1 16 y31_1.toInt.toNat), .int (y31_3 * (10 : Int32)), .ref 1001]) (w' := w) rfl b5 ?_
  refine tm_go 1 (pc' := 48) (L' := [some (.ref 42), some (.int y31_1), some (.int y31_2), some (.int y31_3), z4, z5]) (S' := [.int ((y31_3 * (10 : Int32)) + (w.1 16 y31_1.toInt.toNat)), .ref 1001]) (w' := w) rfl ?_
  obtain ⟨b6, hs⟩ := hs
  refine tm_k (pc' := 49) (L' := [some (.ref 42), some (.int y31_1), some (.int y31_2), some (.int y31_3), z4, z5]) (S' := [.int ((stT 1001).getD (((y31_3 * (10 : Int32)) + (w.1 16 y31_1.toInt.toNat)).toInt.toNat) 0)]) (w' := w) rfl b6 ?_
  refine tm_go 7 (pc' := 60) (L' := [some (.ref 42), some (.int y31_1), some (.int y31_2), some (.int y31_3), some (.int ((stT 1001).getD (((y31_3 * (10 : Int32)) + (w.1 16 y31_1.toInt.toNat)).toInt.toNat) 0)), z5]) (S' := [.int ((y31_3 * (10 : Int32)) + y31_2), .ref 1001]) (w' := w) rfl ?_
  obtain ⟨b7, hs⟩ := hs
  refine tm_k (pc' := 61) (L' := [some (.ref 42), some (.int y31_1), some (.int y31_2), some (.int y31_3), some (.int ((stT 1001).getD (((y31_3 * (10 : Int32)) + (w.1 16 y31_1.toInt.toNat)).toInt.toNat) 0)), z5]) (S' := [.int ((stT 1001).getD (((y31_3 * (10 : Int32)) + y31_2).toInt.toNat) 0)]) (w' := w) rfl b7 ?_
  refine tm_go 9 (pc' := 77) (L' := [some (.ref 42), some (.int y31_1), some (.int y31_2), some (.int y31_3), some (.int ((stT 1001).getD (((y31_3 * (10 : Int32)) + (w.1 16 y31_1.toInt.toNat)).toInt.toNat) 0)), some (.int ((stT 1001).getD (((y31_3 * (10 : Int32)) + y31_2).toInt.toNat) 0))]) (S' := [.ref 7, .ref 1002, .int (((stT 1001).getD (((y31_3 * (10 : Int32)) + y31_2).toInt.toNat) 0) &&& (((stT 1001).getD (((y31_3 * (10 : Int32)) + (w.1 16 y31_1.toInt.toNat)).toInt.toNat) 0) ^^^ ((-1) : Int32)))]) (w' := w) rfl ?_
  obtain ⟨b8, hs⟩ := hs
  refine tm_g (pc' := 80) (k := 7) (j := 0) rfl b8 ?_
  refine tm_go 2 (pc' := 84) (L' := [some (.ref 42), some (.int y31_1), some (.int y31_2), some (.int y31_3), some (.int ((stT 1001).getD (((y31_3 * (10 : Int32)) + (w.1 16 y31_1.toInt.toNat)).toInt.toNat) 0)), some (.int ((stT 1001).getD (((y31_3 * (10 : Int32)) + y31_2).toInt.toNat) 0))]) (S' := [.int y31_1, .ref 11, .ref 1002, .int (((stT 1001).getD (((y31_3 * (10 : Int32)) + y31_2).toInt.toNat) 0) &&& (((stT 1001).getD (((y31_3 * (10 : Int32)) + (w.1 16 y31_1.toInt.toNat)).toInt.toNat) 0) ^^^ ((-1) : Int32)))]) (w' := w) rfl ?_
  obtain ⟨b9, hs⟩ := hs
  refine tm_k (pc' := 85) (L' := [some (.ref 42), some (.int y31_1), some (.int y31_2), some (.int y31_3), some (.int ((stT 1001).getD (((y31_3 * (10 : Int32)) + (w.1 16 y31_1.toInt.toNat)).toInt.toNat) 0)), some (.int ((stT 1001).getD (((y31_3 * (10 : Int32)) + y31_2).toInt.toNat) 0))]) (S' := [.int (w.1 11 y31_1.toInt.toNat), .ref 1002, .int (((stT 1001).getD (((y31_3 * (10 : Int32)) + y31_2).toInt.toNat) 0) &&& (((stT 1001).getD (((y31_3 * (10 : Int32)) + (w.1 16 y31_1.toInt.toNat)).toInt.toNat) 0) ^^^ ((-1) : Int32)))]) (w' := w) rfl b9 ?_
  refine tm_go 1 (pc' := 86) (L' := [some (.ref 42), some (.int y31_1), some (.int y31_2), some (.int y31_3), some (.int ((stT 1001).getD (((y31_3 * (10 : Int32)) + (w.1 16 y31_1.toInt.toNat)).toInt.toNat) 0)), some (.int ((stT 1001).getD (((y31_3 * (10 : Int32)) + y31_2).toInt.toNat) 0))]) (S' := [.int 4, .int (w.1 11 y31_1.toInt.toNat), .ref 1002, .int (((stT 1001).getD (((y31_3 * (10 : Int32)) + y31_2).toInt.toNat) 0) &&& (((stT 1001).getD (((y31_3 * (10 : Int32)) + (w.1 16 y31_1.toInt.toNat)).toInt.toNat) 0) ^^^ ((-1) : Int32)))]) (w' := w) rfl ?_
  refine tm_c rfl (Nat.le_of_ble_eq_true rfl) (dm_Ma_min (d := d + 0) hs) (fun v w10 hq => ?_)
  obtain ⟨r10, rfl, hs⟩ := hq
  obtain ⟨b11, hs⟩ := hs
  refine tm_k (pc' := 90) (L' := [some (.ref 42), some (.int y31_1), some (.int y31_2), some (.int y31_3), some (.int ((stT 1001).getD (((y31_3 * (10 : Int32)) + (w.1 16 y31_1.toInt.toNat)).toInt.toNat) 0)), some (.int ((stT 1001).getD (((y31_3 * (10 : Int32)) + y31_2).toInt.toNat) 0))]) (S' := [.int ((stT 1002).getD r10.toInt.toNat 0), .int (((stT 1001).getD (((y31_3 * (10 : Int32)) + y31_2).toInt.toNat) 0) &&& (((stT 1001).getD (((y31_3 * (10 : Int32)) + (w.1 16 y31_1.toInt.toNat)).toInt.toNat) 0) ^^^ ((-1) : Int32)))]) (w' := w10) rfl b11 ?_
  refine tm_go 1 (pc' := 91) (L' := [some (.ref 42), some (.int y31_1), some (.int y31_2), some (.int y31_3), some (.int ((stT 1001).getD (((y31_3 * (10 : Int32)) + (w.1 16 y31_1.toInt.toNat)).toInt.toNat) 0)), some (.int ((stT 1001).getD (((y31_3 * (10 : Int32)) + y31_2).toInt.toNat) 0))]) (S' := [.int ((((stT 1001).getD (((y31_3 * (10 : Int32)) + y31_2).toInt.toNat) 0) &&& (((stT 1001).getD (((y31_3 * (10 : Int32)) + (w.1 16 y31_1.toInt.toNat)).toInt.toNat) 0) ^^^ ((-1) : Int32))) &&& ((stT 1002).getD r10.toInt.toNat 0))]) (w' := w10) rfl ?_
  refine tm_i (p1 := 99) (p2 := 94) rfl (fun h12 => ?_) (fun h12 => ?_)
  · replace hs := hs.1 h12
    refine tm_go 1 (pc' := 100) (L' := [some (.ref 42), some (.int y31_1), some (.int y31_2), some (.int y31_3), some (.int ((stT 1001).getD (((y31_3 * (10 : Int32)) + (w.1 16 y31_1.toInt.toNat)).toInt.toNat) 0)), some (.int ((stT 1001).getD (((y31_3 * (10 : Int32)) + y31_2).toInt.toNat) 0))]) (S' := [.int 0]) (w' := w10) rfl ?_
    exact tm_r rfl ⟨_, rfl, hs⟩
  · replace hs := hs.2 h12
    refine tm_go 2 (pc' := 100) (L' := [some (.ref 42), some (.int y31_1), some (.int y31_2), some (.int y31_3), some (.int ((stT 1001).getD (((y31_3 * (10 : Int32)) + (w.1 16 y31_1.toInt.toNat)).toInt.toNat) 0)), some (.int ((stT 1001).getD (((y31_3 * (10 : Int32)) + y31_2).toInt.toNat) 0))]) (S' := [.int ((stT 1001).getD (((y31_3 * (10 : Int32)) + y31_2).toInt.toNat) 0)]) (w' := w10) rfl ?_
    exact tm_r rfl ⟨_, rfl, hs⟩
set_option maxHeartbeats 4000000 in
set_option maxRecDepth 100000 in
theorem dm_Sf_otherPasses {d : Nat} {w : MW} {a0 : Int32} {b0 : Int32} {Q : Int32 → MW → Prop} (hs : p_Sf_otherPasses w a0 b0 Q) : Tc (d + 1) 233 [.ref 42, .int a0, .int b0] w (RI Q) := by
  unfold p_Sf_otherPasses at hs
  refine tm_go 2 (pc' := 4) (L' := [some (.ref 42), some (.int a0), some (.int b0), none, none, none]) (S' := [.ref 7]) (w' := w) rfl ?_
  obtain ⟨b1, hs⟩ := hs
  refine tm_g (pc' := 7) (k := 7) (j := 0) rfl b1 ?_
  refine tm_go 2 (pc' := 11) (L' := [some (.ref 42), some (.int a0), some (.int b0), none, none, none]) (S' := [.int a0, .ref 9]) (w' := w) rfl ?_
  obtain ⟨b2, hs⟩ := hs
  refine tm_k (pc' := 12) (L' := [some (.ref 42), some (.int a0), some (.int b0), none, none, none]) (S' := [.int (w.1 9 a0.toInt.toNat)]) (w' := w) rfl b2 ?_
  refine tm_go 3 (pc' := 16) (L' := [some (.ref 42), some (.int a0), some (.int b0), some (.int (w.1 9 a0.toInt.toNat)), none, none]) (S' := [.int 8, .int (w.1 9 a0.toInt.toNat)]) (w' := w) rfl ?_
  refine tm_i (p1 := 29) (p2 := 19) rfl (fun h3 => ?_) (fun h3 => ?_)
  · replace hs := hs.1 h3
    refine tm_go 1 (pc' := 30) (L' := [some (.ref 42), some (.int a0), some (.int b0), some (.int (w.1 9 a0.toInt.toNat)), none, none]) (S' := [.int 0]) (w' := w) rfl ?_
    exact tm_r rfl ⟨_, rfl, hs⟩
  · replace hs := hs.2 h3
    refine tm_go 2 (pc' := 21) (L' := [some (.ref 42), some (.int a0), some (.int b0), some (.int (w.1 9 a0.toInt.toNat)), none, none]) (S' := [.int 4, .int (w.1 9 a0.toInt.toNat)]) (w' := w) rfl ?_
    refine tm_i (p1 := 31) (p2 := 24) rfl (fun h4 => ?_) (fun h4 => ?_)
    · replace hs := hs.1 h4
      exact tx_Sf_otherPasses_31 hs 
    · replace hs := hs.2 h4
      refine tm_go 2 (pc' := 26) (L' := [some (.ref 42), some (.int a0), some (.int b0), some (.int (w.1 9 a0.toInt.toNat)), none, none]) (S' := [.int 1, .int b0]) (w' := w) rfl ?_
      refine tm_i (p1 := 31) (p2 := 29) rfl (fun h13 => ?_) (fun h13 => ?_)
      · replace hs := hs.1 h13
        exact tx_Sf_otherPasses_31 hs 
      · replace hs := hs.2 h13
        refine tm_go 1 (pc' := 30) (L' := [some (.ref 42), some (.int a0), some (.int b0), some (.int (w.1 9 a0.toInt.toNat)), none, none]) (S' := [.int 0]) (w' := w) rfl ?_
        exact tm_r rfl ⟨_, rfl, hs⟩
set_option maxHeartbeats 4000000 in
set_option maxRecDepth 100000 in
theorem tx_Wa_addSources_43_42 {d : Nat} {x42_2 : Int32} {x42_3 : Int32} {E : Int64 → MW → Prop} {Q : MW → Prop} (n : Nat) : ∀ (x42_4 : Int64) (x42_6 : Int32) (x42_7 : Int32)   (w : MW), q_Wa_addSources_43_42 x42_2 x42_3 E Q n x42_4 x42_6 x42_7 w → (∀ (e42_4 : Int64)  (v6 : Option Value) (v7 : Option Value) (w : MW), E e42_4 w → Tm (d + 0) 278 84 [some (.ref 26), some (.ref 43), some (.int x42_2), some (.int x42_3), some (.long e42_4), none, v6, v7] [] w (RV Q)) → Tm (d + 0) 278 42 [some (.ref 26), some (.ref 43), some (.int x42_2), some (.int x42_3), some (.long x42_4), none, some (.int x42_6), some (.int x42_7)] [] w (RV Q) := by
  induction n with
  | zero => intro x42_4 x42_6 x42_7  w hs; rw [q_Wa_addSources_43_42.eq_1] at hs; exact hs.elim
  | succ n ih =>
    intro x42_4 x42_6 x42_7  w hs hE
    rw [q_Wa_addSources_43_42.eq_2] at hs
    refine tm_go 4 (pc' := 49) (L' := [some (.ref 26), some (.ref 43), some (.int x42_2), some (.int x42_3), some (.long x42_4), none, some (.int x42_6), some (.int x42_7)]) (S' := [.int x42_3, .ref 31, .int x42_7]) (w' := w) rfl ?_
    obtain ⟨b5, hs⟩ := hs
    refine tm_k (pc' := 50) (L' := [some (.ref 26), some (.ref 43), some (.int x42_2), some (.int x42_3), some (.long x42_4), none, some (.int x42_6), some (.int x42_7)]) (S' := [.int (w.1 31 x42_3.toInt.toNat), .int x42_7]) (w' := w) rfl b5 ?_
    refine tm_i (p1 := 84) (p2 := 53) rfl (fun h6 => ?_) (fun h6 => ?_)
    · replace hs := hs.1 h6
      exact hE _ _ _ _ hs
    · replace hs := hs.2 h6
      refine tm_go 1 (pc' := 55) (L' := [some (.ref 26), some (.ref 43), some (.int x42_2), some (.int x42_3), some (.long x42_4), none, some (.int x42_6), some (.int x42_7)]) (S' := [.int x42_6]) (w' := w) rfl ?_
      refine tm_i (p1 := 84) (p2 := 58) rfl (fun h7 => ?_) (fun h7 => ?_)
      · replace hs := hs.1 h7
        exact hE _ _ _ _ hs
      · replace hs := hs.2 h7
        refine tm_go 11 (pc' := 75) (L' := [some (.ref 26), some (.ref 43), some (.int x42_2), some (.int x42_3), some (.long (x42_4 ||| ((1 : Int64) <<< ((x42_2 + x42_6).toInt64 &&& 63)))), none, some (.int x42_6), some (.int x42_7)]) (S' := [.int x42_6, .ref 35]) (w' := w) rfl ?_
        obtain ⟨b8, hs⟩ := hs
        refine tm_k (pc' := 76) (L' := [some (.ref 26), some (.ref 43), some (.int x42_2), some (.int x42_3), some (.long (x42_4 ||| ((1 : Int64) <<< ((x42_2 + x42_6).toInt64 &&& 63)))), none, some (.int x42_6), some (.int x42_7)]) (S' := [.int (w.1 35 x42_6.toInt.toNat)]) (w' := w) rfl b8 ?_
        refine tm_go 3 (pc' := 42) (L' := [some (.ref 26), some (.ref 43), some (.int x42_2), some (.int x42_3), some (.long (x42_4 ||| ((1 : Int64) <<< ((x42_2 + x42_6).toInt64 &&& 63)))), none, some (.int (w.1 35 x42_6.toInt.toNat)), some (.int (x42_7 + (1 : Int32)))]) (S' := []) (w' := w) rfl ?_
        exact ih _ _ _ _ hs hE
set_option maxHeartbeats 4000000 in
set_option maxRecDepth 100000 in
theorem tx_Wa_addSources_43_13 {d : Nat} {x13_2 : Int32} {E : MW → Prop} {Q : MW → Prop} (n : Nat) : ∀ (x13_3 : Int32)  (z4 : Option Value) (z5 : Option Value) (z6 : Option Value) (z7 : Option Value) (w : MW), q_Wa_addSources_43_13 x13_2 E Q n x13_3 w → (∀  (v0 : Option Value) (v1 : Option Value) (v2 : Option Value) (v3 : Option Value) (v4 : Option Value) (v5 : Option Value) (v6 : Option Value) (v7 : Option Value) (w : MW), E  w → Tm (d + 0) 278 103 [v0, v1, v2, v3, v4, v5, v6, v7] [] w (RV Q)) → Tm (d + 0) 278 13 [some (.ref 26), some (.ref 43), some (.int x13_2), some (.int x13_3), z4, z5, z6, z7] [] w (RV Q) := by
  induction n with
  | zero => intro x13_3 z4 z5 z6 z7 w hs; rw [q_Wa_addSources_43_13.eq_1] at hs; exact hs.elim
  | succ n ih =>
    intro x13_3 z4 z5 z6 z7 w hs hE
    rw [q_Wa_addSources_43_13.eq_2] at hs
    refine tm_go 3 (pc' := 18) (L' := [some (.ref 26), some (.ref 43), some (.int x13_2), some (.int x13_3), z4, z5, z6, z7]) (S' := [.int (w.1 26 1), .int x13_3]) (w' := w) rfl ?_
    refine tm_i (p1 := 103) (p2 := 21) rfl (fun h2 => ?_) (fun h2 => ?_)
    · replace hs := hs.1 h2
      exact hE _ _ _ _ _ _ _ _ _ hs
    · replace hs := hs.2 h2
      refine tm_go 4 (pc' := 27) (L' := [some (.ref 26), some (.ref 43), some (.int x13_2), some (.int x13_3), z4, z5, z6, z7]) (S' := [.int x13_3, .ref 28, .long 1]) (w' := w) rfl ?_
      obtain ⟨b3, hs⟩ := hs
      refine tm_k (pc' := 28) (L' := [some (.ref 26), some (.ref 43), some (.int x13_2), some (.int x13_3), z4, z5, z6, z7]) (S' := [.int (w.1 28 x13_3.toInt.toNat), .long 1]) (w' := w) rfl b3 ?_
      refine tm_go 5 (pc' := 36) (L' := [some (.ref 26), some (.ref 43), some (.int x13_2), some (.int x13_3), some (.long ((1 : Int64) <<< ((w.1 28 x13_3.toInt.toNat).toInt64 &&& 63))), none, z6, z7]) (S' := [.int x13_3, .ref 32]) (w' := w) rfl ?_
      obtain ⟨b4, hs⟩ := hs
      refine tm_k (pc' := 37) (L' := [some (.ref 26), some (.ref 43), some (.int x13_2), some (.int x13_3), some (.long ((1 : Int64) <<< ((w.1 28 x13_3.toInt.toNat).toInt64 &&& 63))), none, z6, z7]) (S' := [.int (w.1 32 x13_3.toInt.toNat)]) (w' := w) rfl b4 ?_
      refine tm_go 3 (pc' := 42) (L' := [some (.ref 26), some (.ref 43), some (.int x13_2), some (.int x13_3), some (.long ((1 : Int64) <<< ((w.1 28 x13_3.toInt.toNat).toInt64 &&& 63))), none, some (.int (w.1 32 x13_3.toInt.toNat)), some (.int 0)]) (S' := []) (w' := w) rfl ?_
      refine tx_Wa_addSources_43_42 FU _ _ _ _ hs (fun e42_4_9 z9_6 z9_7 w9 hs => ?_)
      refine tm_go 4 (pc' := 90) (L' := [some (.ref 26), some (.ref 43), some (.int x13_2), some (.int x13_3), some (.long e42_4_9), none, z9_6, z9_7]) (S' := [.int x13_3, .ref 30, .ref 43]) (w' := w9) rfl ?_
      obtain ⟨b10, hs⟩ := hs
      refine tm_k (pc' := 91) (L' := [some (.ref 26), some (.ref 43), some (.int x13_2), some (.int x13_3), some (.long e42_4_9), none, z9_6, z9_7]) (S' := [.int (w9.1 30 x13_3.toInt.toNat), .ref 43]) (w' := w9) rfl b10 ?_
      refine tm_go 1 (pc' := 92) (L' := [some (.ref 26), some (.ref 43), some (.int x13_2), some (.int x13_3), some (.long e42_4_9), none, z9_6, z9_7]) (S' := [.int (w9.1 30 x13_3.toInt.toNat), .ref 43, .int (w9.1 30 x13_3.toInt.toNat), .ref 43]) (w' := w9) rfl ?_
      obtain ⟨b11, hs⟩ := hs
      refine tm_k (pc' := 93) (L' := [some (.ref 26), some (.ref 43), some (.int x13_2), some (.int x13_3), some (.long e42_4_9), none, z9_6, z9_7]) (S' := [.long (w9.2.1 43 ((w9.1 30 x13_3.toInt.toNat).toInt.toNat)), .int (w9.1 30 x13_3.toInt.toNat), .ref 43]) (w' := w9) rfl b11 ?_
      refine tm_go 2 (pc' := 96) (L' := [some (.ref 26), some (.ref 43), some (.int x13_2), some (.int x13_3), some (.long e42_4_9), none, z9_6, z9_7]) (S' := [.long ((w9.2.1 43 ((w9.1 30 x13_3.toInt.toNat).toInt.toNat)) ||| e42_4_9), .int (w9.1 30 x13_3.toInt.toNat), .ref 43]) (w' := w9) rfl ?_
      obtain ⟨b12, hs⟩ := hs
      refine tm_k (pc' := 97) (L' := [some (.ref 26), some (.ref 43), some (.int x13_2), some (.int x13_3), some (.long e42_4_9), none, z9_6, z9_7]) (S' := []) (w' := (sJ w9 43 ((w9.1 30 x13_3.toInt.toNat).toInt.toNat) ((w9.2.1 43 ((w9.1 30 x13_3.toInt.toNat).toInt.toNat)) ||| e42_4_9))) rfl b12 ?_
      refine tm_go 2 (pc' := 13) (L' := [some (.ref 26), some (.ref 43), some (.int x13_2), some (.int (x13_3 + (1 : Int32))), some (.long e42_4_9), none, z9_6, z9_7]) (S' := []) (w' := (sJ w9 43 ((w9.1 30 x13_3.toInt.toNat).toInt.toNat) ((w9.2.1 43 ((w9.1 30 x13_3.toInt.toNat).toInt.toNat)) ||| e42_4_9))) rfl ?_
      exact ih _ _ _ _ _ _ hs hE
set_option maxHeartbeats 4000000 in
set_option maxRecDepth 100000 in
theorem dm_Wa_addSources_43 {d : Nat} {w : MW} {Q : MW → Prop} (hs : p_Wa_addSources_43 w Q) : Tc (d + 0) 278 [.ref 26, .ref 43] w (RV Q) := by
  unfold p_Wa_addSources_43 at hs
  refine tm_go 2 (pc' := 4) (L' := [some (.ref 26), some (.ref 43), none, none, none, none, none, none]) (S' := [.ref 7]) (w' := w) rfl ?_
  obtain ⟨b1, hs⟩ := hs
  refine tm_g (pc' := 7) (k := 7) (j := 0) rfl b1 ?_
  refine tm_go 4 (pc' := 13) (L' := [some (.ref 26), some (.ref 43), some (.int (w.1 8 0)), some (.int 0), none, none, none, none]) (S' := []) (w' := w) rfl ?_
  refine tx_Wa_addSources_43_13 FU _ _ _ _ _ _ hs (fun  z13_0 z13_1 z13_2 z13_3 z13_4 z13_5 z13_6 z13_7 w13 hs => ?_)
  exact tm_r rfl ⟨rfl, hs⟩
set_option maxHeartbeats 4000000 in
set_option maxRecDepth 100000 in
theorem tx_Sf_isSafe_103 {d : Nat} {y103_2 : Int32} {y103_3 : Int32} {z1 : Option Value} {w : MW} {A : Int32 → Int32 → MW → Prop} {E : MW → Prop} {Q : Int32 → MW → Prop} (hs : q_Sf_isSafe_103 y103_2 y103_3 w A E Q) (hA : ∀ (x57_1 : Int32) (x57_2 : Int32)  (z3 : Option Value) (w : MW), A x57_1 x57_2 w → Tm (d + 3) 232 57 [some (.ref 42), some (.int x57_1), some (.int x57_2), z3] [] w (RZ Q)) (hE : ∀  (v0 : Option Value) (v1 : Option Value) (v2 : Option Value) (v3 : Option Value) (w : MW), E  w → Tm (d + 3) 232 136 [v0, v1, v2, v3] [] w (RZ Q)) : Tm (d + 3) 232 103 [some (.ref 42), z1, some (.int y103_2), some (.int y103_3)] [] w (RZ Q) := by
  unfold q_Sf_isSafe_103 at hs
  refine tm_go 5 (pc' := 109) (L' := [some (.ref 42), z1, some (.int y103_2), some (.int y103_3)]) (S' := [.int y103_3, .int (y103_2 / (10 : Int32)), .ref 42]) (w' := w) rfl ?_
  refine tm_c rfl (Nat.le_of_ble_eq_true rfl) (dm_Sf_link (d := d + 1) hs) (fun v w13 hq => ?_)
  obtain ⟨rfl, hs⟩ := hq
  refine tm_go 1 (pc' := 113) (L' := [some (.ref 42), z1, some (.int y103_2), some (.int y103_3)]) (S' := [.ref 42]) (w' := w13) rfl ?_
  refine tm_c rfl (Nat.le_of_ble_eq_true rfl) (dm_Sf_meet (d := d + 0) hs) (fun v w14 hq => ?_)
  obtain ⟨r14, rfl, hz14, hs⟩ := hq
  refine tm_i (p1 := 128) (p2 := 119) rfl (fun h15 => ?_) (fun h15 => ?_)
  · replace hs := hs.1 h15
    refine tm_go 4 (pc' := 57) (L' := [some (.ref 42), some (.int y103_3), some (.int (y103_2 + (1 : Int32))), some (.int y103_3)]) (S' := []) (w' := w14) rfl ?_
    exact hA _ _ _ _ hs
  · replace hs := hs.2 h15
    refine tm_go 6 (pc' := 127) (L' := [some (.ref 42), z1, some (.int y103_2), some (.int y103_3)]) (S' := [.int 0]) (w' := (sI w14 42 6 ((2 : Int32) + y103_2))) rfl ?_
    exact tm_r rfl ⟨_, rfl, by decide, hs⟩
set_option maxHeartbeats 4000000 in
set_option maxRecDepth 100000 in
theorem tx_Sf_isSafe_57 {d : Nat} {E : MW → Prop} {Q : Int32 → MW → Prop} (n : Nat) : ∀ (x57_1 : Int32) (x57_2 : Int32)  (z3 : Option Value) (w : MW), q_Sf_isSafe_57  E Q n x57_1 x57_2 w → (∀  (v0 : Option Value) (v1 : Option Value) (v2 : Option Value) (v3 : Option Value) (w : MW), E  w → Tm (d + 3) 232 136 [v0, v1, v2, v3] [] w (RZ Q)) → Tm (d + 3) 232 57 [some (.ref 42), some (.int x57_1), some (.int x57_2), z3] [] w (RZ Q) := by
  induction n with
  | zero => intro x57_1 x57_2 z3 w hs; rw [q_Sf_isSafe_57.eq_1] at hs; exact hs.elim
  | succ n ih =>
    intro x57_1 x57_2 z3 w hs hE
    rw [q_Sf_isSafe_57.eq_2] at hs
    refine tm_go 4 (pc' := 64) (L' := [some (.ref 42), some (.int x57_1), some (.int x57_2), z3]) (S' := [.ref 7, .int 10, .int x57_2]) (w' := w) rfl ?_
    obtain ⟨b8, hs⟩ := hs
    refine tm_g (pc' := 67) (k := 7) (j := 0) rfl b8 ?_
    refine tm_go 2 (pc' := 71) (L' := [some (.ref 42), some (.int x57_1), some (.int x57_2), z3]) (S' := [.int ((10 : Int32) * (w.1 8 0)), .int x57_2]) (w' := w) rfl ?_
    refine tm_i (p1 := 136) (p2 := 74) rfl (fun h9 => ?_) (fun h9 => ?_)
    · replace hs := hs.1 h9
      exact hE _ _ _ _ _ hs
    · replace hs := hs.2 h9
      refine tm_go 7 (pc' := 83) (L' := [some (.ref 42), some (.int x57_1), some (.int x57_2), z3]) (S' := [.int (x57_2 - x57_2 / (10 : Int32) * (10 : Int32)), .int (x57_2 / (10 : Int32)), .ref 42]) (w' := w) rfl ?_
      refine tm_c rfl (Nat.le_of_ble_eq_true rfl) (dm_Sf_otherPasses (d := d + 1) hs) (fun v w10 hq => ?_)
      obtain ⟨r10, rfl, hs⟩ := hq
      refine tm_go 2 (pc' := 88) (L' := [some (.ref 42), some (.int x57_1), some (.int x57_2), some (.int r10)]) (S' := [.int r10]) (w' := w10) rfl ?_
      refine tm_i (p1 := 128) (p2 := 91) rfl (fun h11 => ?_) (fun h11 => ?_)
      · replace hs := hs.1 h11
        refine tm_go 4 (pc' := 57) (L' := [some (.ref 42), some (.int r10), some (.int (x57_2 + (1 : Int32))), some (.int r10)]) (S' := []) (w' := w10) rfl ?_
        exact ih _ _ _ _ hs hE
      · replace hs := hs.2 h11
        refine tm_go 2 (pc' := 93) (L' := [some (.ref 42), some (.int x57_1), some (.int x57_2), some (.int r10)]) (S' := [.int x57_1, .int r10]) (w' := w10) rfl ?_
        refine tm_i (p1 := 103) (p2 := 96) rfl (fun h12 => ?_) (fun h12 => ?_)
        · replace hs := hs.1 h12
          exact tx_Sf_isSafe_103 hs (fun q0 q1 q2 q3 hs => ih q0 q1 q2 q3 hs hE) hE
        · replace hs := hs.2 h12
          refine tm_go 3 (pc' := 100) (L' := [some (.ref 42), some (.int x57_1), some (.int x57_2), some (.int r10)]) (S' := [.int (x57_2 - x57_2 / (10 : Int32) * (10 : Int32))]) (w' := w10) rfl ?_
          refine tm_i (p1 := 128) (p2 := 103) rfl (fun h16 => ?_) (fun h16 => ?_)
          · replace hs := hs.1 h16
            refine tm_go 4 (pc' := 57) (L' := [some (.ref 42), some (.int r10), some (.int (x57_2 + (1 : Int32))), some (.int r10)]) (S' := []) (w' := w10) rfl ?_
            exact ih _ _ _ _ hs hE
          · replace hs := hs.2 h16
            exact tx_Sf_isSafe_103 hs (fun q0 q1 q2 q3 hs => ih q0 q1 q2 q3 hs hE) hE
set_option maxHeartbeats 4000000 in
set_option maxRecDepth 100000 in
theorem dm_Sf_isSafe {d : Nat} {w : MW} {Q : Int32 → MW → Prop} (hs : p_Sf_isSafe w Q) : Tc (d + 3) 232 [.ref 42] w (RZ Q) := by
  unfold p_Sf_isSafe at hs
  refine tm_go 6 (pc' := 10) (L' := [some (.ref 42), none, none, none]) (S' := [.long 0, .ref 43]) (w' := (sI w 42 6 0)) rfl ?_
  refine tm_c rfl (Nat.le_of_ble_eq_true rfl) (dm_Ar_fill1_43 (d := d + 2) hs) (fun v w1 hq => ?_)
  obtain ⟨rfl, hs⟩ := hq
  refine tm_go 4 (pc' := 21) (L' := [some (.ref 42), none, none, none]) (S' := [.ref 43, .ref 26]) (w' := w1) rfl ?_
  refine tm_c rfl (Nat.le_of_ble_eq_true rfl) (dm_Wa_addSources_43 (d := d + 2) hs) (fun v w2 hq => ?_)
  obtain ⟨rfl, hs⟩ := hq
  refine tm_go 1 (pc' := 25) (L' := [some (.ref 42), none, none, none]) (S' := [.ref 42]) (w' := w2) rfl ?_
  refine tm_c rfl (Nat.le_of_ble_eq_true rfl) (dm_Sf_findRivals (d := d + 2) hs) (fun v w3 hq => ?_)
  obtain ⟨r3, rfl, hz3, hs⟩ := hq
  refine tm_i (p1 := 33) (p2 := 31) rfl (fun h4 => ?_) (fun h4 => ?_)
  · replace hs := hs.1 h4
    refine tm_go 3 (pc' := 36) (L' := [some (.ref 42), none, none, none]) (S' := [.int 0, .int (-1), .ref 42]) (w' := w3) rfl ?_
    refine tm_c rfl (Nat.le_of_ble_eq_true rfl) (dm_Sf_link (d := d + 1) hs) (fun v w5 hq => ?_)
    obtain ⟨rfl, hs⟩ := hq
    refine tm_go 1 (pc' := 40) (L' := [some (.ref 42), none, none, none]) (S' := [.ref 42]) (w' := w5) rfl ?_
    refine tm_c rfl (Nat.le_of_ble_eq_true rfl) (dm_Sf_meet (d := d + 0) hs) (fun v w6 hq => ?_)
    obtain ⟨r6, rfl, hz6, hs⟩ := hq
    refine tm_i (p1 := 53) (p2 := 46) rfl (fun h7 => ?_) (fun h7 => ?_)
    · replace hs := hs.1 h7
      refine tm_go 4 (pc' := 57) (L' := [some (.ref 42), some (.int 0), some (.int 0), none]) (S' := []) (w' := w6) rfl ?_
      refine tx_Sf_isSafe_57 FU _ _ _ _ hs (fun  z17_0 z17_1 z17_2 z17_3 w17 hs => ?_)
      refine tm_go 1 (pc' := 137) (L' := [z17_0, z17_1, z17_2, z17_3]) (S' := [.int 1]) (w' := w17) rfl ?_
      exact tm_r rfl ⟨_, rfl, by decide, hs⟩
    · replace hs := hs.2 h7
      refine tm_go 4 (pc' := 52) (L' := [some (.ref 42), none, none, none]) (S' := [.int 0]) (w' := (sI w6 42 6 1)) rfl ?_
      exact tm_r rfl ⟨_, rfl, by decide, hs⟩
  · replace hs := hs.2 h4
    refine tm_go 1 (pc' := 32) (L' := [some (.ref 42), none, none, none]) (S' := [.int 1]) (w' := w3) rfl ?_
    exact tm_r rfl ⟨_, rfl, by decide, hs⟩
