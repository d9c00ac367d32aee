set_option maxHeartbeats 4000000 in
set_option maxRecDepth 100000 in
theorem tx_Wa_closeAll_7 {d : Nat} {E : MW → Prop} {Q : MW → Prop} (n : Nat) : ∀ (x7_1 : Int32)   (w : MW), q_Wa_closeAll_7  E Q n x7_1 w → (∀  (v0 : Option Value) (v1 : Option Value) (w : MW), E  w → Tm (d + 1) 273 23 [v0, v1] [] w (RV Q)) → Tm (d + 1) 273 7 [some (.ref 26), some (.int x7_1)] [] w (RV Q) := by
  induction n with
  | zero => intro x7_1  w hs; rw [q_Wa_closeAll_7.eq_1] at hs; exact hs.elim
  | succ n ih =>
    intro x7_1  w hs hE
    rw [q_Wa_closeAll_7.eq_2] at hs
    refine tm_go 1 (pc' := 8) (L' := [some (.ref 26), some (.int x7_1)]) (S' := [.int x7_1]) (w' := w) rfl ?_
    refine tm_i (p1 := 23) (p2 := 11) rfl (fun h1 => ?_) (fun h1 => ?_)
    · replace hs := hs.1 h1
      exact hE _ _ _ hs
    · replace hs := hs.2 h1
      refine tm_go 3 (pc' := 14) (L' := [some (.ref 26), some (.int x7_1)]) (S' := [.int 0, .int x7_1, .ref 26]) (w' := w) rfl ?_
      refine tm_c rfl (Nat.le_of_ble_eq_true rfl) (dm_Wa_remove (d := d + 0) hs) (fun v w2 hq => ?_)
      obtain ⟨rfl, hs⟩ := hq
      refine tm_go 2 (pc' := 7) (L' := [some (.ref 26), some (.int (x7_1 + ((-1) : Int32)))]) (S' := []) (w' := w2) rfl ?_
      exact ih _ _ hs hE
set_option maxHeartbeats 4000000 in
set_option maxRecDepth 100000 in
theorem dm_Wa_closeAll {d : Nat} {w : MW} {Q : MW → Prop} (hs : p_Wa_closeAll w Q) : Tc (d + 1) 273 [.ref 26] w (RV Q) := by
  unfold p_Wa_closeAll at hs
  refine tm_go 5 (pc' := 7) (L' := [some (.ref 26), some (.int ((w.1 26 1) - (1 : Int32)))]) (S' := []) (w' := w) rfl ?_
  refine tx_Wa_closeAll_7 FU _ _ hs (fun  z3_0 z3_1 w3 hs => ?_)
  exact tm_r rfl ⟨rfl, hs⟩
set_option maxHeartbeats 4000000 in
set_option maxRecDepth 100000 in
theorem dm_Bh_takeProgram {d : Nat} {w : MW} {Q : Int32 → MW → Prop} (hs : p_Bh_takeProgram w Q) : Tc (d + 402) 4 [.ref 0] w (RI Q) := by
  unfold p_Bh_takeProgram at hs
  refine tm_go 2 (pc' := 4) (L' := [some (.ref 0), none]) (S' := [.ref 61]) (w' := w) rfl ?_
  obtain ⟨b1, hs⟩ := hs
  refine tm_g (pc' := 7) (k := 61) (j := 3) rfl b1 ?_
  refine tm_go 4 (pc' := 13) (L' := [some (.ref 0), some (.ref 62)]) (S' := [.ref 0, .ref 61]) (w' := w) rfl ?_
  obtain ⟨b2, hs⟩ := hs
  refine tm_g (pc' := 16) (k := 0) (j := 10) rfl b2 ?_
  refine tm_c rfl (Nat.le_of_ble_eq_true rfl) (dm_Ru_take_108 (d := d + 0) hs) (fun v w3 hq => ?_)
  obtain ⟨rfl, hs⟩ := hq
  refine tm_go 5 (pc' := 28) (L' := [some (.ref 0), some (.ref 62)]) (S' := [.ref 26]) (w' := (sR w3 0 10 (some 62))) rfl ?_
  refine tm_c rfl (Nat.le_of_ble_eq_true rfl) (dm_Wa_closeAll (d := d + 400) hs) (fun v w4 hq => ?_)
  obtain ⟨rfl, hs⟩ := hq
  refine tm_go 2 (pc' := 35) (L' := [some (.ref 0), some (.ref 62)]) (S' := [.ref 61]) (w' := w4) rfl ?_
  obtain ⟨b5, hs⟩ := hs
  refine tm_g (pc' := 38) (k := 61) (j := 3) rfl b5 ?_
  refine tm_go 1 (pc' := 41) (L' := [some (.ref 0), some (.ref 62)]) (S' := [.int (w4.1 108 0)]) (w' := w4) rfl ?_
  exact tm_r rfl ⟨_, rfl, hs⟩
set_option maxHeartbeats 4000000 in
set_option maxRecDepth 100000 in
theorem dm_Bh_takeRows {d : Nat} {w : MW} {Q : Int32 → MW → Prop} (hs : p_Bh_takeRows w Q) : Tc (d + 0) 3 [.ref 0] w (RI Q) := by
  unfold p_Bh_takeRows at hs
  refine tm_go 2 (pc' := 4) (L' := [some (.ref 0), none]) (S' := [.ref 47]) (w' := w) rfl ?_
  obtain ⟨b1, hs⟩ := hs
  refine tm_g (pc' := 7) (k := 47) (j := 3) rfl b1 ?_
  refine tm_go 2 (pc' := 9) (L' := [some (.ref 0), some (.ref 48)]) (S' := [.ref 0]) (w' := w) rfl ?_
  obtain ⟨b2, hs⟩ := hs
  refine tm_g (pc' := 12) (k := 0) (j := 9) rfl b2 ?_
  refine tm_go 6 (pc' := 24) (L' := [some (.ref 0), some (.ref 48)]) (S' := [.ref 0, .ref 47]) (w' := (sI w 99 1 (w.1 48 1))) rfl ?_
  obtain ⟨b3, hs⟩ := hs
  refine tm_g (pc' := 27) (k := 0) (j := 9) rfl b3 ?_
  refine tm_go 8 (pc' := 45) (L' := [some (.ref 0), some (.ref 48)]) (S' := [.int (w.1 99 0)]) (w' := (sR (sR (sI w 99 1 (w.1 48 1)) 47 3 (some 99)) 0 9 (some 48))) rfl ?_
  exact tm_r rfl ⟨_, rfl, hs⟩
set_option maxHeartbeats 4000000 in
set_option maxRecDepth 100000 in
theorem tx_Pl_addThings91_43 {d : Nat} {E : MW → Prop} {Q : Int32 → MW → Prop} (n : Nat) : ∀ (x43_3 : Int32)  (z1 : Option Value) (z2 : Option Value) (w : MW), q_Pl_addThings91_43  E Q n x43_3 w → (∀  (v1 : Option Value) (v2 : Option Value) (v3 : Option Value) (w : MW), E  w → Tm (d + 0) 144 68 [some (.ref 91), v1, v2, v3] [] w (RZ Q)) → Tm (d + 0) 144 43 [some (.ref 91), z1, z2, some (.int x43_3)] [] w (RZ Q) := by
  induction n with
  | zero => intro x43_3 z1 z2 w hs; rw [q_Pl_addThings91_43.eq_1] at hs; exact hs.elim
  | succ n ih =>
    intro x43_3 z1 z2 w hs hE
    rw [q_Pl_addThings91_43.eq_2] at hs
    refine tm_go 2 (pc' := 45) (L' := [some (.ref 91), z1, z2, some (.int x43_3)]) (S' := [.int 4, .int x43_3]) (w' := w) rfl ?_
    refine tm_i (p1 := 68) (p2 := 48) rfl (fun h5 => ?_) (fun h5 => ?_)
    · replace hs := hs.1 h5
      exact hE _ _ _ _ hs
    · replace hs := hs.2 h5
      refine tm_go 9 (pc' := 61) (L' := [some (.ref 91), z1, z2, some (.int x43_3)]) (S' := [.int (-1), .int (((w.1 91 0) * (4 : Int32)) + x43_3), .ref 98]) (w' := w) rfl ?_
      obtain ⟨b6, hs⟩ := hs
      refine tm_k (pc' := 62) (L' := [some (.ref 91), z1, z2, some (.int x43_3)]) (S' := []) (w' := (sI w 98 ((((w.1 91 0) * (4 : Int32)) + x43_3).toInt.toNat) (-1))) rfl b6 ?_
      refine tm_go 2 (pc' := 43) (L' := [some (.ref 91), z1, (ksl z2), some (.int (x43_3 + (1 : Int32)))]) (S' := []) (w' := (sI w 98 ((((w.1 91 0) * (4 : Int32)) + x43_3).toInt.toNat) (-1))) rfl ?_
      exact ih _ _ _ _ hs hE
set_option maxHeartbeats 4000000 in
set_option maxRecDepth 100000 in
theorem dm_Pl_addThings91 {d : Nat} {w : MW} {a0 : Int32} {b0 : Int32} {Q : Int32 → MW → Prop} (hs : p_Pl_addThings91 w a0 b0 Q) : Tc (d + 0) 144 [.ref 91, .int a0, .int b0] w (RZ Q) := by
  unfold p_Pl_addThings91 at hs
  refine tm_go 3 (pc' := 6) (L' := [some (.ref 91), some (.int a0), some (.int b0), none]) (S' := [.int 20, .int (w.1 91 0)]) (w' := w) rfl ?_
  refine tm_i (p1 := 11) (p2 := 9) rfl (fun h1 => ?_) (fun h1 => ?_)
  · replace hs := hs.1 h1
    refine tm_go 5 (pc' := 20) (L' := [some (.ref 91), some (.int a0), some (.int b0), none]) (S' := [.int a0, .int (w.1 91 0), .ref 92]) (w' := w) rfl ?_
    obtain ⟨b2, hs⟩ := hs
    refine tm_k (pc' := 21) (L' := [some (.ref 91), some (.int a0), some (.int b0), none]) (S' := []) (w' := (sI w 92 ((w.1 91 0).toInt.toNat) a0)) rfl b2 ?_
    refine tm_go 5 (pc' := 30) (L' := [some (.ref 91), some (.int a0), some (.int b0), none]) (S' := [.int b0, .int (w.1 91 0), .ref 93]) (w' := (sI w 92 ((w.1 91 0).toInt.toNat) a0)) rfl ?_
    obtain ⟨b3, hs⟩ := hs
    refine tm_k (pc' := 31) (L' := [some (.ref 91), some (.int a0), some (.int b0), none]) (S' := []) (w' := (sI (sI w 92 ((w.1 91 0).toInt.toNat) a0) 93 ((w.1 91 0).toInt.toNat) b0)) rfl b3 ?_
    refine tm_go 5 (pc' := 40) (L' := [some (.ref 91), some (.int a0), some (.int b0), none]) (S' := [.int 0, .int (w.1 91 0), .ref 94]) (w' := (sI (sI w 92 ((w.1 91 0).toInt.toNat) a0) 93 ((w.1 91 0).toInt.toNat) b0)) rfl ?_
    obtain ⟨b4, hs⟩ := hs
    refine tm_k (pc' := 41) (L' := [some (.ref 91), some (.int a0), some (.int b0), none]) (S' := []) (w' := (sI (sI (sI w 92 ((w.1 91 0).toInt.toNat) a0) 93 ((w.1 91 0).toInt.toNat) b0) 94 ((w.1 91 0).toInt.toNat) 0)) rfl b4 ?_
    refine tm_go 2 (pc' := 43) (L' := [some (.ref 91), some (.int a0), some (.int b0), some (.int 0)]) (S' := []) (w' := (sI (sI (sI w 92 ((w.1 91 0).toInt.toNat) a0) 93 ((w.1 91 0).toInt.toNat) b0) 94 ((w.1 91 0).toInt.toNat) 0)) rfl ?_
    refine tx_Pl_addThings91_43 FU _ _ _ _ hs (fun  z7_1 z7_2 z7_3 w7 hs => ?_)
    refine tm_go 7 (pc' := 79) (L' := [some (.ref 91), z7_1, z7_2, z7_3]) (S' := [.int 1]) (w' := (sI w7 91 0 ((w7.1 91 0) + (1 : Int32)))) rfl ?_
    exact tm_r rfl ⟨_, rfl, by decide, hs⟩
  · replace hs := hs.2 h1
    refine tm_go 1 (pc' := 10) (L' := [some (.ref 91), some (.int a0), some (.int b0), none]) (S' := [.int 0]) (w' := w) rfl ?_
    exact tm_r rfl ⟨_, rfl, by decide, hs⟩
set_option maxHeartbeats 4000000 in
set_option maxRecDepth 100000 in
theorem dm_Tp_at {d : Nat} {w : MW} {a0 : Int32} {Q : Int32 → MW → Prop} (hs : p_Tp_at w a0 Q) : Tc (d + 0) 257 [.ref 1, .int a0] w (RI Q) := by
  unfold p_Tp_at at hs
  refine tm_go 1 (pc' := 1) (L' := [some (.ref 1), some (.int a0)]) (S' := [.int a0]) (w' := w) rfl ?_
  refine tm_i (p1 := 23) (p2 := 4) rfl (fun h1 => ?_) (fun h1 => ?_)
  · replace hs := hs.1 h1
    refine tm_go 1 (pc' := 24) (L' := [some (.ref 1), some (.int a0)]) (S' := [.int (-1)]) (w' := w) rfl ?_
    exact tm_r rfl ⟨_, rfl, hs⟩
  · replace hs := hs.2 h1
    refine tm_go 3 (pc' := 9) (L' := [some (.ref 1), some (.int a0)]) (S' := [.int (w.1 1 2), .int a0]) (w' := w) rfl ?_
    refine tm_i (p1 := 23) (p2 := 12) rfl (fun h2 => ?_) (fun h2 => ?_)
    · replace hs := hs.1 h2
      refine tm_go 1 (pc' := 24) (L' := [some (.ref 1), some (.int a0)]) (S' := [.int (-1)]) (w' := w) rfl ?_
      exact tm_r rfl ⟨_, rfl, hs⟩
    · replace hs := hs.2 h2
      refine tm_go 6 (pc' := 20) (L' := [some (.ref 1), some (.int a0)]) (S' := [.int ((4 : Int32) * (1005 : Int32)), .int a0]) (w' := w) rfl ?_
      refine tm_i (p1 := 25) (p2 := 23) rfl (fun h3 => ?_) (fun h3 => ?_)
      · replace hs := hs.1 h3
        refine tm_go 5 (pc' := 32) (L' := [some (.ref 1), some (.int a0)]) (S' := [.int (a0 >>> ((2 : Int32) &&& 31)), .ref 2]) (w' := w) rfl ?_
        obtain ⟨b4, hs⟩ := hs
        refine tm_k (pc' := 33) (L' := [some (.ref 1), some (.int a0)]) (S' := [.int (w.1 2 ((a0 >>> ((2 : Int32) &&& 31)).toInt.toNat))]) (w' := w) rfl b4 ?_
        refine tm_go 10 (pc' := 47) (L' := [some (.ref 1), some (.int a0)]) (S' := [.int ((((w.1 2 ((a0 >>> ((2 : Int32) &&& 31)).toInt.toNat)).toUInt32 >>> (((24 : Int32) - ((8 : Int32) * (a0 &&& (3 : Int32)))).toUInt32 &&& Int32.toUInt32 31)).toInt32) &&& (255 : Int32))]) (w' := w) rfl ?_
        exact tm_r rfl ⟨_, rfl, hs⟩
      · replace hs := hs.2 h3
        refine tm_go 1 (pc' := 24) (L' := [some (.ref 1), some (.int a0)]) (S' := [.int (-1)]) (w' := w) rfl ?_
        exact tm_r rfl ⟨_, rfl, hs⟩
set_option maxHeartbeats 4000000 in
set_option maxRecDepth 100000 in
theorem dm_Pl_endsLines91 {d : Nat} {w : MW} {Q : Int32 → MW → Prop} (hs : p_Pl_endsLines91 w Q) : Tc (d + 1) 141 [.ref 91] w (RZ Q) := by
  unfold p_Pl_endsLines91 at hs
  refine tm_go 1 (pc' := 1) (L' := [some (.ref 91)]) (S' := [.ref 91]) (w' := w) rfl ?_
  obtain ⟨b1, hs⟩ := hs
  refine tm_g (pc' := 4) (k := 91) (j := 9) rfl b1 ?_
  refine tm_go 2 (pc' := 8) (L' := [some (.ref 91)]) (S' := [.int (w.1 91 10), .ref 1]) (w' := w) rfl ?_
  refine tm_c rfl (Nat.le_of_ble_eq_true rfl) (dm_Tp_at (d := d + 0) hs) (fun v w2 hq => ?_)
  obtain ⟨r2, rfl, hs⟩ := hq
  refine tm_go 1 (pc' := 13) (L' := [some (.ref 91)]) (S' := [.int 10, .int r2]) (w' := w2) rfl ?_
  refine tm_i (p1 := 20) (p2 := 16) rfl (fun h3 => ?_) (fun h3 => ?_)
  · replace hs := hs.1 h3
    refine tm_go 1 (pc' := 21) (L' := [some (.ref 91)]) (S' := [.int 0]) (w' := w2) rfl ?_
    exact tm_r rfl ⟨_, rfl, by decide, hs⟩
  · replace hs := hs.2 h3
    refine tm_go 2 (pc' := 21) (L' := [some (.ref 91)]) (S' := [.int 1]) (w' := w2) rfl ?_
    exact tm_r rfl ⟨_, rfl, by decide, hs⟩
set_option maxHeartbeats 4000000 in
set_option maxRecDepth 100000 in
theorem dm_Pl_joinss91 {d : Nat} {w : MW} {a0 : Int32} {b0 : Int32} {Q : Int32 → MW → Prop} (hs : p_Pl_joinss91 w a0 b0 Q) : Tc (d + 0) 146 [.ref 91, .int a0, .int b0] w (RZ Q) := by
  unfold p_Pl_joinss91 at hs
  refine tm_go 4 (pc' := 6) (L' := [some (.ref 91), some (.int a0), some (.int b0)]) (S' := [.int b0, .int a0, .ref 96]) (w' := w) rfl ?_
  obtain ⟨b1, hs⟩ := hs
  refine tm_k (pc' := 7) (L' := [some (.ref 91), some (.int a0), some (.int b0)]) (S' := []) (w' := (sI w 96 a0.toInt.toNat b0)) rfl b1 ?_
  refine tm_go 4 (pc' := 13) (L' := [some (.ref 91), some (.int a0), some (.int b0)]) (S' := [.int 0, .int a0, .ref 97]) (w' := (sI w 96 a0.toInt.toNat b0)) rfl ?_
  obtain ⟨b2, hs⟩ := hs
  refine tm_k (pc' := 14) (L' := [some (.ref 91), some (.int a0), some (.int b0)]) (S' := []) (w' := (sI (sI w 96 a0.toInt.toNat b0) 97 a0.toInt.toNat 0)) rfl b2 ?_
  refine tm_go 2 (pc' := 16) (L' := [some (.ref 91), some (.int a0), some (.int b0)]) (S' := [.int (-1), .int b0]) (w' := (sI (sI w 96 a0.toInt.toNat b0) 97 a0.toInt.toNat 0)) rfl ?_
  refine tm_i (p1 := 21) (p2 := 19) rfl (fun h3 => ?_) (fun h3 => ?_)
  · replace hs := hs.1 h3
    refine tm_go 3 (pc' := 26) (L' := [some (.ref 91), some (.int a0), some (.int b0)]) (S' := [.int (w.1 91 0), .int b0]) (w' := (sI (sI w 96 a0.toInt.toNat b0) 97 a0.toInt.toNat 0)) rfl ?_
    refine tm_i (p1 := 48) (p2 := 29) rfl (fun h4 => ?_) (fun h4 => ?_)
    · replace hs := hs.1 h4
      refine tm_go 1 (pc' := 49) (L' := [some (.ref 91), some (.int a0), some (.int b0)]) (S' := [.int 0]) (w' := (sI (sI w 96 a0.toInt.toNat b0) 97 a0.toInt.toNat 0)) rfl ?_
      exact tm_r rfl ⟨_, rfl, by decide, hs⟩
    · replace hs := hs.2 h4
      refine tm_go 3 (pc' := 34) (L' := [some (.ref 91), some (.int a0), some (.int b0)]) (S' := [.int b0, .ref 94]) (w' := (sI (sI w 96 a0.toInt.toNat b0) 97 a0.toInt.toNat 0)) rfl ?_
      obtain ⟨b5, hs⟩ := hs
      refine tm_k (pc' := 35) (L' := [some (.ref 91), some (.int a0), some (.int b0)]) (S' := [.int (w.1 94 b0.toInt.toNat)]) (w' := (sI (sI w 96 a0.toInt.toNat b0) 97 a0.toInt.toNat 0)) rfl b5 ?_
      refine tm_go 4 (pc' := 43) (L' := [some (.ref 91), some (.int a0), some (.int b0)]) (S' := [.int b0, .ref 92, .ref 1000, .int (w.1 94 b0.toInt.toNat)]) (w' := (sI (sI w 96 a0.toInt.toNat b0) 97 a0.toInt.toNat 0)) rfl ?_
      obtain ⟨b6, hs⟩ := hs
      refine tm_k (pc' := 44) (L' := [some (.ref 91), some (.int a0), some (.int b0)]) (S' := [.int (w.1 92 b0.toInt.toNat), .ref 1000, .int (w.1 94 b0.toInt.toNat)]) (w' := (sI (sI w 96 a0.toInt.toNat b0) 97 a0.toInt.toNat 0)) rfl b6 ?_
      obtain ⟨b7, hs⟩ := hs
      refine tm_k (pc' := 45) (L' := [some (.ref 91), some (.int a0), some (.int b0)]) (S' := [.int ((stT 1000).getD ((w.1 92 b0.toInt.toNat).toInt.toNat) 0), .int (w.1 94 b0.toInt.toNat)]) (w' := (sI (sI w 96 a0.toInt.toNat b0) 97 a0.toInt.toNat 0)) rfl b7 ?_
      refine tm_i (p1 := 50) (p2 := 48) rfl (fun h8 => ?_) (fun h8 => ?_)
      · replace hs := hs.1 h8
        refine tm_go 3 (pc' := 55) (L' := [some (.ref 91), some (.int a0), some (.int b0)]) (S' := [.int b0, .ref 92]) (w' := (sI (sI w 96 a0.toInt.toNat b0) 97 a0.toInt.toNat 0)) rfl ?_
        obtain ⟨b9, hs⟩ := hs
        refine tm_k (pc' := 56) (L' := [some (.ref 91), some (.int a0), some (.int b0)]) (S' := [.int (w.1 92 b0.toInt.toNat)]) (w' := (sI (sI w 96 a0.toInt.toNat b0) 97 a0.toInt.toNat 0)) rfl b9 ?_
        refine tm_go 1 (pc' := 58) (L' := [some (.ref 91), some (.int a0), some (.int b0)]) (S' := [.int 9, .int (w.1 92 b0.toInt.toNat)]) (w' := (sI (sI w 96 a0.toInt.toNat b0) 97 a0.toInt.toNat 0)) rfl ?_
        refine tm_i (p1 := 89) (p2 := 61) rfl (fun h10 => ?_) (fun h10 => ?_)
        · replace hs := hs.1 h10
          refine tm_go 4 (pc' := 95) (L' := [some (.ref 91), some (.int a0), some (.int b0)]) (S' := [.int b0, .ref 94, .int b0, .ref 94]) (w' := (sI (sI w 96 a0.toInt.toNat b0) 97 a0.toInt.toNat 0)) rfl ?_
          obtain ⟨b11, hs⟩ := hs
          refine tm_k (pc' := 96) (L' := [some (.ref 91), some (.int a0), some (.int b0)]) (S' := [.int (w.1 94 b0.toInt.toNat), .int b0, .ref 94]) (w' := (sI (sI w 96 a0.toInt.toNat b0) 97 a0.toInt.toNat 0)) rfl b11 ?_
          refine tm_go 2 (pc' := 98) (L' := [some (.ref 91), some (.int a0), some (.int b0)]) (S' := [.int ((w.1 94 b0.toInt.toNat) + (1 : Int32)), .int b0, .ref 94]) (w' := (sI (sI w 96 a0.toInt.toNat b0) 97 a0.toInt.toNat 0)) rfl ?_
          obtain ⟨b12, hs⟩ := hs
          refine tm_k (pc' := 99) (L' := [some (.ref 91), some (.int a0), some (.int b0)]) (S' := []) (w' := (sI (sI (sI w 96 a0.toInt.toNat b0) 97 a0.toInt.toNat 0) 94 b0.toInt.toNat ((w.1 94 b0.toInt.toNat) + (1 : Int32)))) rfl b12 ?_
          refine tm_go 1 (pc' := 100) (L' := [some (.ref 91), some (.int a0), some (.int b0)]) (S' := [.int 1]) (w' := (sI (sI (sI w 96 a0.toInt.toNat b0) 97 a0.toInt.toNat 0) 94 b0.toInt.toNat ((w.1 94 b0.toInt.toNat) + (1 : Int32)))) rfl ?_
          exact tm_r rfl ⟨_, rfl, by decide, hs⟩
        · replace hs := hs.2 h10
          refine tm_go 6 (pc' := 71) (L' := [some (.ref 91), some (.int a0), some (.int b0)]) (S' := [.int b0, .ref 94, .int a0, .ref 97]) (w' := (sI (sI w 96 a0.toInt.toNat b0) 97 a0.toInt.toNat 0)) rfl ?_
          obtain ⟨b13, hs⟩ := hs
          refine tm_k (pc' := 72) (L' := [some (.ref 91), some (.int a0), some (.int b0)]) (S' := [.int (w.1 94 b0.toInt.toNat), .int a0, .ref 97]) (w' := (sI (sI w 96 a0.toInt.toNat b0) 97 a0.toInt.toNat 0)) rfl b13 ?_
          obtain ⟨b14, hs⟩ := hs
          refine tm_k (pc' := 73) (L' := [some (.ref 91), some (.int a0), some (.int b0)]) (S' := []) (w' := (sI (sI (sI w 96 a0.toInt.toNat b0) 97 a0.toInt.toNat 0) 97 a0.toInt.toNat (w.1 94 b0.toInt.toNat))) rfl b14 ?_
          refine tm_go 8 (pc' := 85) (L' := [some (.ref 91), some (.int a0), some (.int b0)]) (S' := [.int b0, .ref 94, .int (b0 * (4 : Int32)), .ref 98]) (w' := (sI (sI (sI w 96 a0.toInt.toNat b0) 97 a0.toInt.toNat 0) 97 a0.toInt.toNat (w.1 94 b0.toInt.toNat))) rfl ?_
          obtain ⟨b15, hs⟩ := hs
          refine tm_k (pc' := 86) (L' := [some (.ref 91), some (.int a0), some (.int b0)]) (S' := [.int (w.1 94 b0.toInt.toNat), .int (b0 * (4 : Int32)), .ref 98]) (w' := (sI (sI (sI w 96 a0.toInt.toNat b0) 97 a0.toInt.toNat 0) 97 a0.toInt.toNat (w.1 94 b0.toInt.toNat))) rfl b15 ?_
          refine tm_go 2 (pc' := 88) (L' := [some (.ref 91), some (.int a0), some (.int b0)]) (S' := [.int a0, .int ((b0 * (4 : Int32)) + (w.1 94 b0.toInt.toNat)), .ref 98]) (w' := (sI (sI (sI w 96 a0.toInt.toNat b0) 97 a0.toInt.toNat 0) 97 a0.toInt.toNat (w.1 94 b0.toInt.toNat))) rfl ?_
          obtain ⟨b16, hs⟩ := hs
          refine tm_k (pc' := 89) (L' := [some (.ref 91), some (.int a0), some (.int b0)]) (S' := []) (w' := (sI (sI (sI (sI w 96 a0.toInt.toNat b0) 97 a0.toInt.toNat 0) 97 a0.toInt.toNat (w.1 94 b0.toInt.toNat)) 98 (((b0 * (4 : Int32)) + (w.1 94 b0.toInt.toNat)).toInt.toNat) a0)) rfl b16 ?_
          refine tm_go 4 (pc' := 95) (L' := [some (.ref 91), some (.int a0), some (.int b0)]) (S' := [.int b0, .ref 94, .int b0, .ref 94]) (w' := (sI (sI (sI (sI w 96 a0.toInt.toNat b0) 97 a0.toInt.toNat 0) 97 a0.toInt.toNat (w.1 94 b0.toInt.toNat)) 98 (((b0 * (4 : Int32)) + (w.1 94 b0.toInt.toNat)).toInt.toNat) a0)) rfl ?_
          obtain ⟨b17, hs⟩ := hs
          refine tm_k (pc' := 96) (L' := [some (.ref 91), some (.int a0), some (.int b0)]) (S' := [.int (w.1 94 b0.toInt.toNat), .int b0, .ref 94]) (w' := (sI (sI (sI (sI w 96 a0.toInt.toNat b0) 97 a0.toInt.toNat 0) 97 a0.toInt.toNat (w.1 94 b0.toInt.toNat)) 98 (((b0 * (4 : Int32)) + (w.1 94 b0.toInt.toNat)).toInt.toNat) a0)) rfl b17 ?_
          refine tm_go 2 (pc' := 98) (L' := [some (.ref 91), some (.int a0), some (.int b0)]) (S' := [.int ((w.1 94 b0.toInt.toNat) + (1 : Int32)), .int b0, .ref 94]) (w' := (sI (sI (sI (sI w 96 a0.toInt.toNat b0) 97 a0.toInt.toNat 0) 97 a0.toInt.toNat (w.1 94 b0.toInt.toNat)) 98 (((b0 * (4 : Int32)) + (w.1 94 b0.toInt.toNat)).toInt.toNat) a0)) rfl ?_
          obtain ⟨b18, hs⟩ := hs
          refine tm_k (pc' := 99) (L' := [some (.ref 91), some (.int a0), some (.int b0)]) (S' := []) (w' := (sI (sI (sI (sI (sI w 96 a0.toInt.toNat b0) 97 a0.toInt.toNat 0) 97 a0.toInt.toNat (w.1 94 b0.toInt.toNat)) 98 (((b0 * (4 : Int32)) + (w.1 94 b0.toInt.toNat)).toInt.toNat) a0) 94 b0.toInt.toNat ((w.1 94 b0.toInt.toNat) + (1 : Int32)))) rfl b18 ?_
          refine tm_go 1 (pc' := 100) (L' := [some (.ref 91), some (.int a0), some (.int b0)]) (S' := [.int 1]) (w' := (sI (sI (sI (sI (sI w 96 a0.toInt.toNat b0) 97 a0.toInt.toNat 0) 97 a0.toInt.toNat (w.1 94 b0.toInt.toNat)) 98 (((b0 * (4 : Int32)) + (w.1 94 b0.toInt.toNat)).toInt.toNat) a0) 94 b0.toInt.toNat ((w.1 94 b0.toInt.toNat) + (1 : Int32)))) rfl ?_
          exact tm_r rfl ⟨_, rfl, by decide, hs⟩
      · replace hs := hs.2 h8
        refine tm_go 1 (pc' := 49) (L' := [some (.ref 91), some (.int a0), some (.int b0)]) (S' := [.int 0]) (w' := (sI (sI w 96 a0.toInt.toNat b0) 97 a0.toInt.toNat 0)) rfl ?_
        exact tm_r rfl ⟨_, rfl, by decide, hs⟩
  · replace hs := hs.2 h3
    refine tm_go 1 (pc' := 20) (L' := [some (.ref 91), some (.int a0), some (.int b0)]) (S' := [.int 1]) (w' := (sI (sI w 96 a0.toInt.toNat b0) 97 a0.toInt.toNat 0)) rfl ?_
    exact tm_r rfl ⟨_, rfl, by decide, hs⟩
set_option maxHeartbeats 4000000 in
set_option maxRecDepth 100000 in
theorem dm_Pl_addPipes91 {d : Nat} {w : MW} {a0 : Int32} {b0 : Int32} {c0 : Int32} {Q : Int32 → MW → Prop} (hs : p_Pl_addPipes91 w a0 b0 c0 Q) : Tc (d + 1) 145 [.ref 91, .int a0, .int b0, .int c0] w (RZ Q) := by
  unfold p_Pl_addPipes91 at hs
  refine tm_go 3 (pc' := 6) (L' := [some (.ref 91), some (.int a0), some (.int b0), some (.int c0)]) (S' := [.int 24, .int (w.1 91 1)]) (w' := w) rfl ?_
  refine tm_i (p1 := 21) (p2 := 9) rfl (fun h1 => ?_) (fun h1 => ?_)
  · replace hs := hs.1 h1
    refine tm_go 1 (pc' := 22) (L' := [some (.ref 91), some (.int a0), some (.int b0), some (.int c0)]) (S' := [.int 0]) (w' := w) rfl ?_
    exact tm_r rfl ⟨_, rfl, by decide, hs⟩
  · replace hs := hs.2 h1
    refine tm_go 2 (pc' := 11) (L' := [some (.ref 91), some (.int a0), some (.int b0), some (.int c0)]) (S' := [.int 1, .int c0]) (w' := w) rfl ?_
    refine tm_i (p1 := 21) (p2 := 14) rfl (fun h2 => ?_) (fun h2 => ?_)
    · replace hs := hs.1 h2
      refine tm_go 1 (pc' := 22) (L' := [some (.ref 91), some (.int a0), some (.int b0), some (.int c0)]) (S' := [.int 0]) (w' := w) rfl ?_
      exact tm_r rfl ⟨_, rfl, by decide, hs⟩
    · replace hs := hs.2 h2
      refine tm_go 2 (pc' := 18) (L' := [some (.ref 91), some (.int a0), some (.int b0), some (.int c0)]) (S' := [.int 200, .int c0]) (w' := w) rfl ?_
      refine tm_i (p1 := 23) (p2 := 21) rfl (fun h3 => ?_) (fun h3 => ?_)
      · replace hs := hs.1 h3
        refine tm_go 5 (pc' := 32) (L' := [some (.ref 91), some (.int a0), some (.int b0), some (.int c0)]) (S' := [.int c0, .int (w.1 91 1), .ref 95]) (w' := w) rfl ?_
        obtain ⟨b4, hs⟩ := hs
        refine tm_k (pc' := 33) (L' := [some (.ref 91), some (.int a0), some (.int b0), some (.int c0)]) (S' := []) (w' := (sI w 95 ((w.1 91 1).toInt.toNat) c0)) rfl b4 ?_
        refine tm_go 6 (pc' := 41) (L' := [some (.ref 91), some (.int a0), some (.int b0), some (.int c0)]) (S' := [.int a0, .int ((2 : Int32) * (w.1 91 1)), .ref 91]) (w' := (sI w 95 ((w.1 91 1).toInt.toNat) c0)) rfl ?_
        refine tm_c rfl (Nat.le_of_ble_eq_true rfl) (dm_Pl_joinss91 (d := d + 0) hs) (fun v w5 hq => ?_)
        obtain ⟨r5, rfl, hz5, hs⟩ := hq
        refine tm_i (p1 := 63) (p2 := 47) rfl (fun h6 => ?_) (fun h6 => ?_)
        · replace hs := hs.1 h6
          refine tm_go 1 (pc' := 64) (L' := [some (.ref 91), some (.int a0), some (.int b0), some (.int c0)]) (S' := [.int 0]) (w' := w5) rfl ?_
          exact tm_r rfl ⟨_, rfl, by decide, hs⟩
        · replace hs := hs.2 h6
          refine tm_go 8 (pc' := 57) (L' := [some (.ref 91), some (.int a0), some (.int b0), some (.int c0)]) (S' := [.int b0, .int (((2 : Int32) * (w5.1 91 1)) + (1 : Int32)), .ref 91]) (w' := w5) rfl ?_
          refine tm_c rfl (Nat.le_of_ble_eq_true rfl) (dm_Pl_joinss91 (d := d + 0) hs) (fun v w7 hq => ?_)
          obtain ⟨r7, rfl, hz7, hs⟩ := hq
          refine tm_i (p1 := 65) (p2 := 63) rfl (fun h8 => ?_) (fun h8 => ?_)
          · replace hs := hs.1 h8
            refine tm_go 7 (pc' := 76) (L' := [some (.ref 91), some (.int a0), some (.int b0), some (.int c0)]) (S' := [.int 1]) (w' := (sI w7 91 1 ((w7.1 91 1) + (1 : Int32)))) rfl ?_
            exact tm_r rfl ⟨_, rfl, by decide, hs⟩
          · replace hs := hs.2 h8
            refine tm_go 1 (pc' := 64) (L' := [some (.ref 91), some (.int a0), some (.int b0), some (.int c0)]) (S' := [.int 0]) (w' := w7) rfl ?_
            exact tm_r rfl ⟨_, rfl, by decide, hs⟩
      · replace hs := hs.2 h3
        refine tm_go 1 (pc' := 22) (L' := [some (.ref 91), some (.int a0), some (.int b0), some (.int c0)]) (S' := [.int 0]) (w' := w) rfl ?_
        exact tm_r rfl ⟨_, rfl, by decide, hs⟩
set_option maxHeartbeats 4000000 in
set_option maxRecDepth 100000 in
theorem dm_Tp_isDigit {d : Nat} {w : MW} {a0 : Int32} {Q : Int32 → MW → Prop} (hs : p_Tp_isDigit w a0 Q) : Tc (d + 0) 258 [.int a0] w (RZ Q) := by
  unfold p_Tp_isDigit at hs
  refine tm_go 2 (pc' := 3) (L' := [some (.int a0)]) (S' := [.int 48, .int a0]) (w' := w) rfl ?_
  refine tm_i (p1 := 16) (p2 := 6) rfl (fun h1 => ?_) (fun h1 => ?_)
  · replace hs := hs.1 h1
    refine tm_go 1 (pc' := 17) (L' := [some (.int a0)]) (S' := [.int 0]) (w' := w) rfl ?_
    exact tm_r rfl ⟨_, rfl, by decide, hs⟩
  · replace hs := hs.2 h1
    refine tm_go 2 (pc' := 9) (L' := [some (.int a0)]) (S' := [.int 57, .int a0]) (w' := w) rfl ?_
    refine tm_i (p1 := 16) (p2 := 12) rfl (fun h2 => ?_) (fun h2 => ?_)
    · replace hs := hs.1 h2
      refine tm_go 1 (pc' := 17) (L' := [some (.int a0)]) (S' := [.int 0]) (w' := w) rfl ?_
      exact tm_r rfl ⟨_, rfl, by decide, hs⟩
    · replace hs := hs.2 h2
      refine tm_go 2 (pc' := 17) (L' := [some (.int a0)]) (S' := [.int 1]) (w' := w) rfl ?_
      exact tm_r rfl ⟨_, rfl, by decide, hs⟩
set_option maxHeartbeats 4000000 in
set_option maxRecDepth 100000 in
theorem tx_Pl_takesNumbers91_41 {d : Nat} {y41_1 : Int32}  {w : MW} {A : Int32 → MW → Prop} {E : Int32 → MW → Prop} {Q : Int32 → MW → Prop} (hs : q_Pl_takesNumbers91_41 y41_1 w A E Q) (hA : ∀ (x7_1 : Int32)   (w : MW), A x7_1 w → Tm (d + 1) 143 7 [some (.ref 91), some (.int x7_1)] [] w (RZ Q)) (hE : ∀ (e7_1 : Int32)  (v0 : Option Value) (w : MW), E e7_1 w → Tm (d + 1) 143 83 [v0, some (.int e7_1)] [] w (RZ Q)) : Tm (d + 1) 143 41 [some (.ref 91), some (.int y41_1)] [] w (RZ Q) := by
  unfold q_Pl_takesNumbers91_41 at hs
  refine tm_go 6 (pc' := 50) (L' := [some (.ref 91), some (.int y41_1)]) (S' := [.ref 91, .int ((w.1 91 11) * (10 : Int32)), .ref 91]) (w' := w) rfl ?_
  obtain ⟨b7, hs⟩ := hs
  refine tm_g (pc' := 53) (k := 91) (j := 9) rfl b7 ?_
  refine tm_go 2 (pc' := 57) (L' := [some (.ref 91), some (.int y41_1)]) (S' := [.int (w.1 91 10), .ref 1, .int ((w.1 91 11) * (10 : Int32)), .ref 91]) (w' := w) rfl ?_
  refine tm_c rfl (Nat.le_of_ble_eq_true rfl) (dm_Tp_at (d := d + 0) hs) (fun v w8 hq => ?_)
  obtain ⟨r8, rfl, hs⟩ := hq
  refine tm_go 12 (pc' := 7) (L' := [some (.ref 91), some (.int (y41_1 + (1 : Int32)))]) (S' := []) (w' := (sI (sI w8 91 11 ((((w.1 91 11) * (10 : Int32)) + r8) - (48 : Int32))) 91 10 ((w8.1 91 10) + (1 : Int32)))) rfl ?_
  exact hA _ _ hs
set_option maxHeartbeats 4000000 in
set_option maxRecDepth 100000 in
theorem tx_Pl_takesNumbers91_7 {d : Nat} {E : Int32 → MW → Prop} {Q : Int32 → MW → Prop} (n : Nat) : ∀ (x7_1 : Int32)   (w : MW), q_Pl_takesNumbers91_7  E Q n x7_1 w → (∀ (e7_1 : Int32)  (v0 : Option Value) (w : MW), E e7_1 w → Tm (d + 1) 143 83 [v0, some (.int e7_1)] [] w (RZ Q)) → Tm (d + 1) 143 7 [some (.ref 91), some (.int x7_1)] [] w (RZ Q) := by
  induction n with
  | zero => intro x7_1  w hs; rw [q_Pl_takesNumbers91_7.eq_1] at hs; exact hs.elim
  | succ n ih =>
    intro x7_1  w hs hE
    rw [q_Pl_takesNumbers91_7.eq_2] at hs
    refine tm_go 2 (pc' := 10) (L' := [some (.ref 91), some (.int x7_1)]) (S' := [.int 7, .int x7_1]) (w' := w) rfl ?_
    refine tm_i (p1 := 83) (p2 := 13) rfl (fun h1 => ?_) (fun h1 => ?_)
    · replace hs := hs.1 h1
      exact hE _ _ _ hs
    · replace hs := hs.2 h1
      refine tm_go 1 (pc' := 14) (L' := [some (.ref 91), some (.int x7_1)]) (S' := [.ref 91]) (w' := w) rfl ?_
      obtain ⟨b2, hs⟩ := hs
      refine tm_g (pc' := 17) (k := 91) (j := 9) rfl b2 ?_
      refine tm_go 2 (pc' := 21) (L' := [some (.ref 91), some (.int x7_1)]) (S' := [.int (w.1 91 10), .ref 1]) (w' := w) rfl ?_
      refine tm_c rfl (Nat.le_of_ble_eq_true rfl) (dm_Tp_at (d := d + 0) hs) (fun v w3 hq => ?_)
      obtain ⟨r3, rfl, hs⟩ := hq
      refine tm_c rfl (Nat.le_of_ble_eq_true rfl) (dm_Tp_isDigit (d := d + 0) hs) (fun v w4 hq => ?_)
      obtain ⟨r4, rfl, hz4, hs⟩ := hq
      refine tm_i (p1 := 83) (p2 := 30) rfl (fun h5 => ?_) (fun h5 => ?_)
      · replace hs := hs.1 h5
        exact hE _ _ _ hs
      · replace hs := hs.2 h5
        refine tm_go 1 (pc' := 31) (L' := [some (.ref 91), some (.int x7_1)]) (S' := [.int x7_1]) (w' := w4) rfl ?_
        refine tm_i (p1 := 41) (p2 := 34) rfl (fun h6 => ?_) (fun h6 => ?_)
        · replace hs := hs.1 h6
          exact tx_Pl_takesNumbers91_41 hs (fun q0 q1 hs => ih q0 q1 hs hE) hE
        · replace hs := hs.2 h6
          refine tm_go 2 (pc' := 38) (L' := [some (.ref 91), some (.int x7_1)]) (S' := [.int (w4.1 91 11)]) (w' := w4) rfl ?_
          refine tm_i (p1 := 83) (p2 := 41) rfl (fun h9 => ?_) (fun h9 => ?_)
          · replace hs := hs.1 h9
            exact hE _ _ _ hs
          · replace hs := hs.2 h9
            exact tx_Pl_takesNumbers91_41 hs (fun q0 q1 hs => ih q0 q1 hs hE) hE
set_option maxHeartbeats 4000000 in
set_option maxRecDepth 100000 in
theorem dm_Pl_takesNumbers91 {d : Nat} {w : MW} {Q : Int32 → MW → Prop} (hs : p_Pl_takesNumbers91 w Q) : Tc (d + 1) 143 [.ref 91] w (RZ Q) := by
  unfold p_Pl_takesNumbers91 at hs
  refine tm_go 5 (pc' := 7) (L' := [some (.ref 91), some (.int 0)]) (S' := []) (w' := (sI w 91 11 0)) rfl ?_
  refine tx_Pl_takesNumbers91_7 FU _ _ hs (fun e7_1_10 z10_0 w10 hs => ?_)
  refine tm_go 1 (pc' := 84) (L' := [z10_0, some (.int e7_1_10)]) (S' := [.int e7_1_10]) (w' := w10) rfl ?_
  refine tm_i (p1 := 91) (p2 := 87) rfl (fun h11 => ?_) (fun h11 => ?_)
  · replace hs := hs.1 h11
    refine tm_go 1 (pc' := 92) (L' := [z10_0, some (.int e7_1_10)]) (S' := [.int 0]) (w' := w10) rfl ?_
    exact tm_r rfl ⟨_, rfl, by decide, hs⟩
  · replace hs := hs.2 h11
    refine tm_go 2 (pc' := 92) (L' := [z10_0, some (.int e7_1_10)]) (S' := [.int 1]) (w' := w10) rfl ?_
    exact tm_r rfl ⟨_, rfl, by decide, hs⟩
set_option maxHeartbeats 4000000 in
set_option maxRecDepth 100000 in
theorem dm_Pl_takesPipeEnds91 {d : Nat} {w : MW} {Q : Int32 → MW → Prop} (hs : p_Pl_takesPipeEnds91 w Q) : Tc (d + 2) 142 [.ref 91] w (RZ Q) := by
  unfold p_Pl_takesPipeEnds91 at hs
  refine tm_go 1 (pc' := 1) (L' := [some (.ref 91)]) (S' := [.ref 91]) (w' := w) rfl ?_
  obtain ⟨b1, hs⟩ := hs
  refine tm_g (pc' := 4) (k := 91) (j := 9) rfl b1 ?_
  refine tm_go 2 (pc' := 8) (L' := [some (.ref 91)]) (S' := [.int (w.1 91 10), .ref 1]) (w' := w) rfl ?_
  refine tm_c rfl (Nat.le_of_ble_eq_true rfl) (dm_Tp_at (d := d + 1) hs) (fun v w2 hq => ?_)
  obtain ⟨r2, rfl, hs⟩ := hq
  refine tm_go 1 (pc' := 13) (L' := [some (.ref 91)]) (S' := [.int 45, .int r2]) (w' := w2) rfl ?_
  refine tm_i (p1 := 33) (p2 := 16) rfl (fun h3 => ?_) (fun h3 => ?_)
  · replace hs := hs.1 h3
    refine tm_go 1 (pc' := 34) (L' := [some (.ref 91)]) (S' := [.ref 91]) (w' := w2) rfl ?_
    refine tm_c rfl (Nat.le_of_ble_eq_true rfl) (dm_Pl_takesNumbers91 (d := d + 0) hs) (fun v w4 hq => ?_)
    obtain ⟨r4, rfl, hz4, hs⟩ := hq
    exact tm_rk rfl hz4 ⟨_, rfl, hz4, hs⟩
  · replace hs := hs.2 h3
    refine tm_go 10 (pc' := 32) (L' := [some (.ref 91)]) (S' := [.int 1]) (w' := (sI (sI w2 91 10 ((w2.1 91 10) + (1 : Int32))) 91 11 (-1))) rfl ?_
    exact tm_r rfl ⟨_, rfl, by decide, hs⟩
set_option maxHeartbeats 4000000 in
set_option maxRecDepth 100000 in
theorem tx_Pl_takess91_2005_2 {d : Nat} {E : MW → Prop} {Q : Int32 → MW → Prop} (n : Nat) : ∀ (x2_2 : Int32)   (w : MW), q_Pl_takess91_2005_2  E Q n x2_2 w → (∀  (v0 : Option Value) (v1 : Option Value) (v2 : Option Value) (w : MW), E  w → Tm (d + 1) 140 47 [v0, v1, v2] [] w (RZ Q)) → Tm (d + 1) 140 2 [some (.ref 91), some (.ref 2005), some (.int x2_2)] [] w (RZ Q) := by
  induction n with
  | zero => intro x2_2  w hs; rw [q_Pl_takess91_2005_2.eq_1] at hs; exact hs.elim
  | succ n ih =>
    intro x2_2  w hs hE
    rw [q_Pl_takess91_2005_2.eq_2] at hs
    refine tm_go 3 (pc' := 7) (L' := [some (.ref 91), some (.ref 2005), some (.int x2_2)]) (S' := [.int 1, .int x2_2]) (w' := w) rfl ?_
    refine tm_i (p1 := 47) (p2 := 10) rfl (fun h1 => ?_) (fun h1 => ?_)
    · replace hs := hs.1 h1
      exact hE _ _ _ _ hs
    · replace hs := hs.2 h1
      refine tm_go 1 (pc' := 11) (L' := [some (.ref 91), some (.ref 2005), some (.int x2_2)]) (S' := [.ref 91]) (w' := w) rfl ?_
      obtain ⟨b2, hs⟩ := hs
      refine tm_g (pc' := 14) (k := 91) (j := 9) rfl b2 ?_
      refine tm_go 2 (pc' := 18) (L' := [some (.ref 91), some (.ref 2005), some (.int x2_2)]) (S' := [.int (w.1 91 10), .ref 1]) (w' := w) rfl ?_
      refine tm_c rfl (Nat.le_of_ble_eq_true rfl) (dm_Tp_at (d := d + 0) hs) (fun v w3 hq => ?_)
      obtain ⟨r3, rfl, hs⟩ := hq
      refine tm_go 2 (pc' := 23) (L' := [some (.ref 91), some (.ref 2005), some (.int x2_2)]) (S' := [.int x2_2, .ref 2005, .int r3]) (w' := w3) rfl ?_
      obtain ⟨b4, hs⟩ := hs
      refine tm_k (pc' := 26) (L' := [some (.ref 91), some (.ref 2005), some (.int x2_2)]) (S' := [.int (chT 5 x2_2), .int r3]) (w' := w3) rfl ⟨by decide, by decide, Nat.le_of_ble_eq_true rfl, b4⟩ ?_
      refine tm_i (p1 := 31) (p2 := 29) rfl (fun h5 => ?_) (fun h5 => ?_)
      · replace hs := hs.1 h5
        refine tm_go 8 (pc' := 2) (L' := [some (.ref 91), some (.ref 2005), some (.int (x2_2 + (1 : Int32)))]) (S' := []) (w' := (sI w3 91 10 ((w3.1 91 10) + (1 : Int32)))) rfl ?_
        exact ih _ _ hs hE
      · replace hs := hs.2 h5
        refine tm_go 1 (pc' := 30) (L' := [some (.ref 91), some (.ref 2005), some (.int x2_2)]) (S' := [.int 0]) (w' := w3) rfl ?_
        exact tm_r rfl ⟨_, rfl, by decide, hs⟩
set_option maxHeartbeats 4000000 in
set_option maxRecDepth 100000 in
theorem dm_Pl_takess91_2005 {d : Nat} {w : MW} {Q : Int32 → MW → Prop} (hs : p_Pl_takess91_2005 w Q) : Tc (d + 1) 140 [.ref 91, .ref 2005] w (RZ Q) := by
  unfold p_Pl_takess91_2005 at hs
  refine tm_go 2 (pc' := 2) (L' := [some (.ref 91), some (.ref 2005), some (.int 0)]) (S' := []) (w' := w) rfl ?_
  refine tx_Pl_takess91_2005_2 FU _ _ hs (fun  z6_0 z6_1 z6_2 w6 hs => ?_)
  refine tm_go 1 (pc' := 48) (L' := [z6_0, z6_1, z6_2]) (S' := [.int 1]) (w' := w6) rfl ?_
  exact tm_r rfl ⟨_, rfl, by decide, hs⟩
set_option maxHeartbeats 4000000 in
set_option maxRecDepth 100000 in
theorem dm_Pl_readPipes91 {d : Nat} {w : MW} {Q : Int32 → MW → Prop} (hs : p_Pl_readPipes91 w Q) : Tc (d + 3) 139 [.ref 91] w (RZ Q) := by
  unfold p_Pl_readPipes91 at hs
  refine tm_go 1 (pc' := 1) (L' := [some (.ref 91), none, none]) (S' := [.ref 91]) (w' := w) rfl ?_
  refine tm_c rfl (Nat.le_of_ble_eq_true rfl) (dm_Pl_takesPipeEnds91 (d := d + 0) hs) (fun v w1 hq => ?_)
  obtain ⟨r1, rfl, hz1, hs⟩ := hq
  refine tm_i (p1 := 9) (p2 := 7) rfl (fun h2 => ?_) (fun h2 => ?_)
  · replace hs := hs.1 h2
    refine tm_go 5 (pc' := 17) (L' := [some (.ref 91), some (.int (w1.1 91 11)), none]) (S' := [.ref 2005, .ref 91]) (w' := w1) rfl ?_
    refine tm_c rfl (Nat.le_of_ble_eq_true rfl) (dm_Pl_takess91_2005 (d := d + 1) hs) (fun v w3 hq => ?_)
    obtain ⟨r3, rfl, hz3, hs⟩ := hq
    refine tm_i (p1 := 30) (p2 := 23) rfl (fun h4 => ?_) (fun h4 => ?_)
    · replace hs := hs.1 h4
      refine tm_go 1 (pc' := 31) (L' := [some (.ref 91), some (.int (w1.1 91 11)), none]) (S' := [.int 0]) (w' := w3) rfl ?_
      exact tm_r rfl ⟨_, rfl, by decide, hs⟩
    · replace hs := hs.2 h4
      refine tm_go 1 (pc' := 24) (L' := [some (.ref 91), some (.int (w1.1 91 11)), none]) (S' := [.ref 91]) (w' := w3) rfl ?_
      refine tm_c rfl (Nat.le_of_ble_eq_true rfl) (dm_Pl_takesPipeEnds91 (d := d + 0) hs) (fun v w5 hq => ?_)
      obtain ⟨r5, rfl, hz5, hs⟩ := hq
      refine tm_i (p1 := 32) (p2 := 30) rfl (fun h6 => ?_) (fun h6 => ?_)
      · replace hs := hs.1 h6
        refine tm_go 5 (pc' := 40) (L' := [some (.ref 91), some (.int (w1.1 91 11)), some (.int (w5.1 91 11))]) (S' := [.ref 2005, .ref 91]) (w' := w5) rfl ?_
        refine tm_c rfl (Nat.le_of_ble_eq_true rfl) (dm_Pl_takess91_2005 (d := d + 1) hs) (fun v w7 hq => ?_)
        obtain ⟨r7, rfl, hz7, hs⟩ := hq
        refine tm_i (p1 := 77) (p2 := 46) rfl (fun h8 => ?_) (fun h8 => ?_)
        · replace hs := hs.1 h8
          refine tm_go 1 (pc' := 78) (L' := [some (.ref 91), some (.int (w1.1 91 11)), some (.int (w5.1 91 11))]) (S' := [.int 0]) (w' := w7) rfl ?_
          exact tm_r rfl ⟨_, rfl, by decide, hs⟩
        · replace hs := hs.2 h8
          refine tm_go 1 (pc' := 47) (L' := [some (.ref 91), some (.int (w1.1 91 11)), some (.int (w5.1 91 11))]) (S' := [.ref 91]) (w' := w7) rfl ?_
          refine tm_c rfl (Nat.le_of_ble_eq_true rfl) (dm_Pl_takesNumbers91 (d := d + 1) hs) (fun v w9 hq => ?_)
          obtain ⟨r9, rfl, hz9, hs⟩ := hq
          refine tm_i (p1 := 77) (p2 := 53) rfl (fun h10 => ?_) (fun h10 => ?_)
          · replace hs := hs.1 h10
            refine tm_go 1 (pc' := 78) (L' := [some (.ref 91), some (.int (w1.1 91 11)), some (.int (w5.1 91 11))]) (S' := [.int 0]) (w' := w9) rfl ?_
            exact tm_r rfl ⟨_, rfl, by decide, hs⟩
          · replace hs := hs.2 h10
            refine tm_go 1 (pc' := 54) (L' := [some (.ref 91), some (.int (w1.1 91 11)), some (.int (w5.1 91 11))]) (S' := [.ref 91]) (w' := w9) rfl ?_
            refine tm_c rfl (Nat.le_of_ble_eq_true rfl) (dm_Pl_endsLines91 (d := d + 1) hs) (fun v w11 hq => ?_)
            obtain ⟨r11, rfl, hz11, hs⟩ := hq
            refine tm_i (p1 := 77) (p2 := 60) rfl (fun h12 => ?_) (fun h12 => ?_)
            · replace hs := hs.1 h12
              refine tm_go 1 (pc' := 78) (L' := [some (.ref 91), some (.int (w1.1 91 11)), some (.int (w5.1 91 11))]) (S' := [.int 0]) (w' := w11) rfl ?_
              exact tm_r rfl ⟨_, rfl, by decide, hs⟩
            · replace hs := hs.2 h12
              refine tm_go 5 (pc' := 67) (L' := [some (.ref 91), some (.int (w1.1 91 11)), some (.int (w5.1 91 11))]) (S' := [.int (w11.1 91 11), .int (w5.1 91 11), .int (w1.1 91 11), .ref 91]) (w' := w11) rfl ?_
              refine tm_c rfl (Nat.le_of_ble_eq_true rfl) (dm_Pl_addPipes91 (d := d + 1) hs) (fun v w13 hq => ?_)
              obtain ⟨r13, rfl, hz13, hs⟩ := hq
              refine tm_i (p1 := 77) (p2 := 73) rfl (fun h14 => ?_) (fun h14 => ?_)
              · replace hs := hs.1 h14
                refine tm_go 1 (pc' := 78) (L' := [some (.ref 91), some (.int (w1.1 91 11)), some (.int (w5.1 91 11))]) (S' := [.int 0]) (w' := w13) rfl ?_
                exact tm_r rfl ⟨_, rfl, by decide, hs⟩
              · replace hs := hs.2 h14
                refine tm_go 2 (pc' := 78) (L' := [some (.ref 91), some (.int (w1.1 91 11)), some (.int (w5.1 91 11))]) (S' := [.int 1]) (w' := w13) rfl ?_
                exact tm_r rfl ⟨_, rfl, by decide, hs⟩
      · replace hs := hs.2 h6
        refine tm_go 1 (pc' := 31) (L' := [some (.ref 91), some (.int (w1.1 91 11)), none]) (S' := [.int 0]) (w' := w5) rfl ?_
        exact tm_r rfl ⟨_, rfl, by decide, hs⟩
  · replace hs := hs.2 h2
    refine tm_go 1 (pc' := 8) (L' := [some (.ref 91), none, none]) (S' := [.int 0]) (w' := w1) rfl ?_
    exact tm_r rfl ⟨_, rfl, by decide, hs⟩
set_option maxHeartbeats 4000000 in
set_option maxRecDepth 100000 in
theorem tx_Pl_takess91_2001_2 {d : Nat} {E : MW → Prop} {Q : Int32 → MW → Prop} (n : Nat) : ∀ (x2_2 : Int32)   (w : MW), q_Pl_takess91_2001_2  E Q n x2_2 w → (∀  (v0 : Option Value) (v1 : Option Value) (v2 : Option Value) (w : MW), E  w → Tm (d + 1) 140 47 [v0, v1, v2] [] w (RZ Q)) → Tm (d + 1) 140 2 [some (.ref 91), some (.ref 2001), some (.int x2_2)] [] w (RZ Q) := by
  induction n with
  | zero => intro x2_2  w hs; rw [q_Pl_takess91_2001_2.eq_1] at hs; exact hs.elim
  | succ n ih =>
    intro x2_2  w hs hE
    rw [q_Pl_takess91_2001_2.eq_2] at hs
    refine tm_go 3 (pc' := 7) (L' := [some (.ref 91), some (.ref 2001), some (.int x2_2)]) (S' := [.int 5, .int x2_2]) (w' := w) rfl ?_
    refine tm_i (p1 := 47) (p2 := 10) rfl (fun h1 => ?_) (fun h1 => ?_)
    · replace hs := hs.1 h1
      exact hE _ _ _ _ hs
    · replace hs := hs.2 h1
      refine tm_go 1 (pc' := 11) (L' := [some (.ref 91), some (.ref 2001), some (.int x2_2)]) (S' := [.ref 91]) (w' := w) rfl ?_
      obtain ⟨b2, hs⟩ := hs
      refine tm_g (pc' := 14) (k := 91) (j := 9) rfl b2 ?_
      refine tm_go 2 (pc' := 18) (L' := [some (.ref 91), some (.ref 2001), some (.int x2_2)]) (S' := [.int (w.1 91 10), .ref 1]) (w' := w) rfl ?_
      refine tm_c rfl (Nat.le_of_ble_eq_true rfl) (dm_Tp_at (d := d + 0) hs) (fun v w3 hq => ?_)
      obtain ⟨r3, rfl, hs⟩ := hq
      refine tm_go 2 (pc' := 23) (L' := [some (.ref 91), some (.ref 2001), some (.int x2_2)]) (S' := [.int x2_2, .ref 2001, .int r3]) (w' := w3) rfl ?_
      obtain ⟨b4, hs⟩ := hs
      refine tm_k (pc' := 26) (L' := [some (.ref 91), some (.ref 2001), some (.int x2_2)]) (S' := [.int (chT 1 x2_2), .int r3]) (w' := w3) rfl ⟨by decide, by decide, Nat.le_of_ble_eq_true rfl, b4⟩ ?_
      refine tm_i (p1 := 31) (p2 := 29) rfl (fun h5 => ?_) (fun h5 => ?_)
      · replace hs := hs.1 h5
        refine tm_go 8 (pc' := 2) (L' := [some (.ref 91), some (.ref 2001), some (.int (x2_2 + (1 : Int32)))]) (S' := []) (w' := (sI w3 91 10 ((w3.1 91 10) + (1 : Int32)))) rfl ?_
        exact ih _ _ hs hE
      · replace hs := hs.2 h5
        refine tm_go 1 (pc' := 30) (L' := [some (.ref 91), some (.ref 2001), some (.int x2_2)]) (S' := [.int 0]) (w' := w3) rfl ?_
        exact tm_r rfl ⟨_, rfl, by decide, hs⟩
set_option maxHeartbeats 4000000 in
set_option maxRecDepth 100000 in
theorem dm_Pl_takess91_2001 {d : Nat} {w : MW} {Q : Int32 → MW → Prop} (hs : p_Pl_takess91_2001 w Q) : Tc (d + 1) 140 [.ref 91, .ref 2001] w (RZ Q) := by
  unfold p_Pl_takess91_2001 at hs
  refine tm_go 2 (pc' := 2) (L' := [some (.ref 91), some (.ref 2001), some (.int 0)]) (S' := []) (w' := w) rfl ?_
  refine tx_Pl_takess91_2001_2 FU _ _ hs (fun  z6_0 z6_1 z6_2 w6 hs => ?_)
  refine tm_go 1 (pc' := 48) (L' := [z6_0, z6_1, z6_2]) (S' := [.int 1]) (w' := w6) rfl ?_
  exact tm_r rfl ⟨_, rfl, by decide, hs⟩
set_option maxHeartbeats 4000000 in
set_option maxRecDepth 100000 in
theorem tx_Pl_takess91_2002_2 {d : Nat} {E : MW → Prop} {Q : Int32 → MW → Prop} (n : Nat) : ∀ (x2_2 : Int32)   (w : MW), q_Pl_takess91_2002_2  E Q n x2_2 w → (∀  (v0 : Option Value) (v1 : Option Value) (v2 : Option Value) (w : MW), E  w → Tm (d + 1) 140 47 [v0, v1, v2] [] w (RZ Q)) → Tm (d + 1) 140 2 [some (.ref 91), some (.ref 2002), some (.int x2_2)] [] w (RZ Q) := by
  induction n with
  | zero => intro x2_2  w hs; rw [q_Pl_takess91_2002_2.eq_1] at hs; exact hs.elim
  | succ n ih =>
    intro x2_2  w hs hE
    rw [q_Pl_takess91_2002_2.eq_2] at hs
    refine tm_go 3 (pc' := 7) (L' := [some (.ref 91), some (.ref 2002), some (.int x2_2)]) (S' := [.int 6, .int x2_2]) (w' := w) rfl ?_
    refine tm_i (p1 := 47) (p2 := 10) rfl (fun h1 => ?_) (fun h1 => ?_)
    · replace hs := hs.1 h1
      exact hE _ _ _ _ hs
    · replace hs := hs.2 h1
      refine tm_go 1 (pc' := 11) (L' := [some (.ref 91), some (.ref 2002), some (.int x2_2)]) (S' := [.ref 91]) (w' := w) rfl ?_
      obtain ⟨b2, hs⟩ := hs
      refine tm_g (pc' := 14) (k := 91) (j := 9) rfl b2 ?_
      refine tm_go 2 (pc' := 18) (L' := [some (.ref 91), some (.ref 2002), some (.int x2_2)]) (S' := [.int (w.1 91 10), .ref 1]) (w' := w) rfl ?_
      refine tm_c rfl (Nat.le_of_ble_eq_true rfl) (dm_Tp_at (d := d + 0) hs) (fun v w3 hq => ?_)
      obtain ⟨r3, rfl, hs⟩ := hq
      refine tm_go 2 (pc' := 23) (L' := [some (.ref 91), some (.ref 2002), some (.int x2_2)]) (S' := [.int x2_2, .ref 2002, .int r3]) (w' := w3) rfl ?_
      obtain ⟨b4, hs⟩ := hs
      refine tm_k (pc' := 26) (L' := [some (.ref 91), some (.ref 2002), some (.int x2_2)]) (S' := [.int (chT 2 x2_2), .int r3]) (w' := w3) rfl ⟨by decide, by decide, Nat.le_of_ble_eq_true rfl, b4⟩ ?_
      refine tm_i (p1 := 31) (p2 := 29) rfl (fun h5 => ?_) (fun h5 => ?_)
      · replace hs := hs.1 h5
        refine tm_go 8 (pc' := 2) (L' := [some (.ref 91), some (.ref 2002), some (.int (x2_2 + (1 : Int32)))]) (S' := []) (w' := (sI w3 91 10 ((w3.1 91 10) + (1 : Int32)))) rfl ?_
        exact ih _ _ hs hE
      · replace hs := hs.2 h5
        refine tm_go 1 (pc' := 30) (L' := [some (.ref 91), some (.ref 2002), some (.int x2_2)]) (S' := [.int 0]) (w' := w3) rfl ?_
        exact tm_r rfl ⟨_, rfl, by decide, hs⟩
set_option maxHeartbeats 4000000 in
set_option maxRecDepth 100000 in
theorem dm_Pl_takess91_2002 {d : Nat} {w : MW} {Q : Int32 → MW → Prop} (hs : p_Pl_takess91_2002 w Q) : Tc (d + 1) 140 [.ref 91, .ref 2002] w (RZ Q) := by
  unfold p_Pl_takess91_2002 at hs
  refine tm_go 2 (pc' := 2) (L' := [some (.ref 91), some (.ref 2002), some (.int 0)]) (S' := []) (w' := w) rfl ?_
  refine tx_Pl_takess91_2002_2 FU _ _ hs (fun  z6_0 z6_1 z6_2 w6 hs => ?_)
  refine tm_go 1 (pc' := 48) (L' := [z6_0, z6_1, z6_2]) (S' := [.int 1]) (w' := w6) rfl ?_
  exact tm_r rfl ⟨_, rfl, by decide, hs⟩
set_option maxHeartbeats 4000000 in
set_option maxRecDepth 100000 in
theorem tx_Pl_takess91_2003_2 {d : Nat} {E : MW → Prop} {Q : Int32 → MW → Prop} (n : Nat) : ∀ (x2_2 : Int32)   (w : MW), q_Pl_takess91_2003_2  E Q n x2_2 w → (∀  (v0 : Option Value) (v1 : Option Value) (v2 : Option Value) (w : MW), E  w → Tm (d + 1) 140 47 [v0, v1, v2] [] w (RZ Q)) → Tm (d + 1) 140 2 [some (.ref 91), some (.ref 2003), some (.int x2_2)] [] w (RZ Q) := by
  induction n with
  | zero => intro x2_2  w hs; rw [q_Pl_takess91_2003_2.eq_1] at hs; exact hs.elim
  | succ n ih =>
    intro x2_2  w hs hE
    rw [q_Pl_takess91_2003_2.eq_2] at hs
    refine tm_go 3 (pc' := 7) (L' := [some (.ref 91), some (.ref 2003), some (.int x2_2)]) (S' := [.int 4, .int x2_2]) (w' := w) rfl ?_
    refine tm_i (p1 := 47) (p2 := 10) rfl (fun h1 => ?_) (fun h1 => ?_)
    · replace hs := hs.1 h1
      exact hE _ _ _ _ hs
    · replace hs := hs.2 h1
      refine tm_go 1 (pc' := 11) (L' := [some (.ref 91), some (.ref 2003), some (.int x2_2)]) (S' := [.ref 91]) (w' := w) rfl ?_
      obtain ⟨b2, hs⟩ := hs
      refine tm_g (pc' := 14) (k := 91) (j := 9) rfl b2 ?_
      refine tm_go 2 (pc' := 18) (L' := [some (.ref 91), some (.ref 2003), some (.int x2_2)]) (S' := [.int (w.1 91 10), .ref 1]) (w' := w) rfl ?_
      refine tm_c rfl (Nat.le_of_ble_eq_true rfl) (dm_Tp_at (d := d + 0) hs) (fun v w3 hq => ?_)
      obtain ⟨r3, rfl, hs⟩ := hq
      refine tm_go 2 (pc' := 23) (L' := [some (.ref 91), some (.ref 2003), some (.int x2_2)]) (S' := [.int x2_2, .ref 2003, .int r3]) (w' := w3) rfl ?_
      obtain ⟨b4, hs⟩ := hs
      refine tm_k (pc' := 26) (L' := [some (.ref 91), some (.ref 2003), some (.int x2_2)]) (S' := [.int (chT 3 x2_2), .int r3]) (w' := w3) rfl ⟨by decide, by decide, Nat.le_of_ble_eq_true rfl, b4⟩ ?_
      refine tm_i (p1 := 31) (p2 := 29) rfl (fun h5 => ?_) (fun h5 => ?_)
      · replace hs := hs.1 h5
        refine tm_go 8 (pc' := 2) (L' := [some (.ref 91), some (.ref 2003), some (.int (x2_2 + (1 : Int32)))]) (S' := []) (w' := (sI w3 91 10 ((w3.1 91 10) + (1 : Int32)))) rfl ?_
        exact ih _ _ hs hE
      · replace hs := hs.2 h5
        refine tm_go 1 (pc' := 30) (L' := [some (.ref 91), some (.ref 2003), some (.int x2_2)]) (S' := [.int 0]) (w' := w3) rfl ?_
        exact tm_r rfl ⟨_, rfl, by decide, hs⟩
set_option maxHeartbeats 4000000 in
set_option maxRecDepth 100000 in
theorem dm_Pl_takess91_2003 {d : Nat} {w : MW} {Q : Int32 → MW → Prop} (hs : p_Pl_takess91_2003 w Q) : Tc (d + 1) 140 [.ref 91, .ref 2003] w (RZ Q) := by
  unfold p_Pl_takess91_2003 at hs
  refine tm_go 2 (pc' := 2) (L' := [some (.ref 91), some (.ref 2003), some (.int 0)]) (S' := []) (w' := w) rfl ?_
  refine tx_Pl_takess91_2003_2 FU _ _ hs (fun  z6_0 z6_1 z6_2 w6 hs => ?_)
  refine tm_go 1 (pc' := 48) (L' := [z6_0, z6_1, z6_2]) (S' := [.int 1]) (w' := w6) rfl ?_
  exact tm_r rfl ⟨_, rfl, by decide, hs⟩
set_option maxHeartbeats 4000000 in
set_option maxRecDepth 100000 in
theorem tx_Pl_takess91_2004_2 {d : Nat} {E : MW → Prop} {Q : Int32 → MW → Prop} (n : Nat) : ∀ (x2_2 : Int32)   (w : MW), q_Pl_takess91_2004_2  E Q n x2_2 w → (∀  (v0 : Option Value) (v1 : Option Value) (v2 : Option Value) (w : MW), E  w → Tm (d + 1) 140 47 [v0, v1, v2] [] w (RZ Q)) → Tm (d + 1) 140 2 [some (.ref 91), some (.ref 2004), some (.int x2_2)] [] w (RZ Q) := by
  induction n with
  | zero => intro x2_2  w hs; rw [q_Pl_takess91_2004_2.eq_1] at hs; exact hs.elim
  | succ n ih =>
    intro x2_2  w hs hE
    rw [q_Pl_takess91_2004_2.eq_2] at hs
    refine tm_go 3 (pc' := 7) (L' := [some (.ref 91), some (.ref 2004), some (.int x2_2)]) (S' := [.int 5, .int x2_2]) (w' := w) rfl ?_
    refine tm_i (p1 := 47) (p2 := 10) rfl (fun h1 => ?_) (fun h1 => ?_)
    · replace hs := hs.1 h1
      exact hE _ _ _ _ hs
    · replace hs := hs.2 h1
      refine tm_go 1 (pc' := 11) (L' := [some (.ref 91), some (.ref 2004), some (.int x2_2)]) (S' := [.ref 91]) (w' := w) rfl ?_
      obtain ⟨b2, hs⟩ := hs
      refine tm_g (pc' := 14) (k := 91) (j := 9) rfl b2 ?_
      refine tm_go 2 (pc' := 18) (L' := [some (.ref 91), some (.ref 2004), some (.int x2_2)]) (S' := [.int (w.1 91 10), .ref 1]) (w' := w) rfl ?_
      refine tm_c rfl (Nat.le_of_ble_eq_true rfl) (dm_Tp_at (d := d + 0) hs) (fun v w3 hq => ?_)
      obtain ⟨r3, rfl, hs⟩ := hq
      refine tm_go 2 (pc' := 23) (L' := [some (.ref 91), some (.ref 2004), some (.int x2_2)]) (S' := [.int x2_2, .ref 2004, .int r3]) (w' := w3) rfl ?_
      obtain ⟨b4, hs⟩ := hs
      refine tm_k (pc' := 26) (L' := [some (.ref 91), some (.ref 2004), some (.int x2_2)]) (S' := [.int (chT 4 x2_2), .int r3]) (w' := w3) rfl ⟨by decide, by decide, Nat.le_of_ble_eq_true rfl, b4⟩ ?_
      refine tm_i (p1 := 31) (p2 := 29) rfl (fun h5 => ?_) (fun h5 => ?_)
      · replace hs := hs.1 h5
        refine tm_go 8 (pc' := 2) (L' := [some (.ref 91), some (.ref 2004), some (.int (x2_2 + (1 : Int32)))]) (S' := []) (w' := (sI w3 91 10 ((w3.1 91 10) + (1 : Int32)))) rfl ?_
        exact ih _ _ hs hE
      · replace hs := hs.2 h5
        refine tm_go 1 (pc' := 30) (L' := [some (.ref 91), some (.ref 2004), some (.int x2_2)]) (S' := [.int 0]) (w' := w3) rfl ?_
        exact tm_r rfl ⟨_, rfl, by decide, hs⟩
set_option maxHeartbeats 4000000 in
set_option maxRecDepth 100000 in
theorem dm_Pl_takess91_2004 {d : Nat} {w : MW} {Q : Int32 → MW → Prop} (hs : p_Pl_takess91_2004 w Q) : Tc (d + 1) 140 [.ref 91, .ref 2004] w (RZ Q) := by
  unfold p_Pl_takess91_2004 at hs
  refine tm_go 2 (pc' := 2) (L' := [some (.ref 91), some (.ref 2004), some (.int 0)]) (S' := []) (w' := w) rfl ?_
  refine tx_Pl_takess91_2004_2 FU _ _ hs (fun  z6_0 z6_1 z6_2 w6 hs => ?_)
  refine tm_go 1 (pc' := 48) (L' := [z6_0, z6_1, z6_2]) (S' := [.int 1]) (w' := w6) rfl ?_
  exact tm_r rfl ⟨_, rfl, by decide, hs⟩
set_option maxHeartbeats 4000000 in
set_option maxRecDepth 100000 in
theorem tx_Pl_readLines91_207 {d : Nat}  {w : MW} {Q : Int32 → MW → Prop} (hs : q_Pl_readLines91_207  w Q) : Tm (d + 4) 138 207 [some (.ref 91)] [] w (RZ Q) := by
  unfold q_Pl_readLines91_207 at hs
  refine tm_go 2 (pc' := 210) (L' := [some (.ref 91)]) (S' := [.ref 2004, .ref 91]) (w' := w) rfl ?_
  refine tm_c rfl (Nat.le_of_ble_eq_true rfl) (dm_Pl_takess91_2004 (d := d + 2) hs) (fun v w10 hq => ?_)
  obtain ⟨r10, rfl, hz10, hs⟩ := hq
  refine tm_i (p1 := 227) (p2 := 216) rfl (fun h11 => ?_) (fun h11 => ?_)
  · replace hs := hs.1 h11
    refine tm_go 1 (pc' := 228) (L' := [some (.ref 91)]) (S' := [.int 0]) (w' := w10) rfl ?_
    exact tm_r rfl ⟨_, rfl, by decide, hs⟩
  · replace hs := hs.2 h11
    refine tm_go 1 (pc' := 217) (L' := [some (.ref 91)]) (S' := [.ref 91]) (w' := w10) rfl ?_
    refine tm_c rfl (Nat.le_of_ble_eq_true rfl) (dm_Pl_readPipes91 (d := d + 0) hs) (fun v w12 hq => ?_)
    obtain ⟨r12, rfl, hz12, hs⟩ := hq
    refine tm_i (p1 := 227) (p2 := 223) rfl (fun h13 => ?_) (fun h13 => ?_)
    · replace hs := hs.1 h13
      refine tm_go 1 (pc' := 228) (L' := [some (.ref 91)]) (S' := [.int 0]) (w' := w12) rfl ?_
      exact tm_r rfl ⟨_, rfl, by decide, hs⟩
    · replace hs := hs.2 h13
      refine tm_go 2 (pc' := 228) (L' := [some (.ref 91)]) (S' := [.int 1]) (w' := w12) rfl ?_
      exact tm_r rfl ⟨_, rfl, by decide, hs⟩
set_option maxHeartbeats 4000000 in
set_option maxRecDepth 100000 in
theorem dm_Pl_readLines91 {d : Nat} {w : MW} {Q : Int32 → MW → Prop} (hs : p_Pl_readLines91 w Q) : Tc (d + 4) 138 [.ref 91] w (RZ Q) := by
  unfold p_Pl_readLines91 at hs
  refine tm_go 1 (pc' := 1) (L' := [some (.ref 91)]) (S' := [.ref 91]) (w' := w) rfl ?_
  obtain ⟨b1, hs⟩ := hs
  refine tm_g (pc' := 4) (k := 91) (j := 9) rfl b1 ?_
  refine tm_go 2 (pc' := 8) (L' := [some (.ref 91)]) (S' := [.int (w.1 91 10), .ref 1]) (w' := w) rfl ?_
  refine tm_c rfl (Nat.le_of_ble_eq_true rfl) (dm_Tp_at (d := d + 3) hs) (fun v w2 hq => ?_)
  obtain ⟨r2, rfl, hs⟩ := hq
  refine tm_go 1 (pc' := 13) (L' := [some (.ref 91)]) (S' := [.int 116, .int r2]) (w' := w2) rfl ?_
  refine tm_i (p1 := 75) (p2 := 16) rfl (fun h3 => ?_) (fun h3 => ?_)
  · replace hs := hs.1 h3
    refine tm_go 1 (pc' := 76) (L' := [some (.ref 91)]) (S' := [.ref 91]) (w' := w2) rfl ?_
    obtain ⟨b4, hs⟩ := hs
    refine tm_g (pc' := 79) (k := 91) (j := 9) rfl b4 ?_
    refine tm_go 2 (pc' := 83) (L' := [some (.ref 91)]) (S' := [.int (w2.1 91 10), .ref 1]) (w' := w2) rfl ?_
    refine tm_c rfl (Nat.le_of_ble_eq_true rfl) (dm_Tp_at (d := d + 3) hs) (fun v w5 hq => ?_)
    obtain ⟨r5, rfl, hs⟩ := hq
    refine tm_go 1 (pc' := 88) (L' := [some (.ref 91)]) (S' := [.int 118, .int r5]) (w' := w5) rfl ?_
    refine tm_i (p1 := 141) (p2 := 91) rfl (fun h6 => ?_) (fun h6 => ?_)
    · replace hs := hs.1 h6
      refine tm_go 1 (pc' := 142) (L' := [some (.ref 91)]) (S' := [.ref 91]) (w' := w5) rfl ?_
      obtain ⟨b7, hs⟩ := hs
      refine tm_g (pc' := 145) (k := 91) (j := 9) rfl b7 ?_
      refine tm_go 2 (pc' := 149) (L' := [some (.ref 91)]) (S' := [.int (w5.1 91 10), .ref 1]) (w' := w5) rfl ?_
      refine tm_c rfl (Nat.le_of_ble_eq_true rfl) (dm_Tp_at (d := d + 3) hs) (fun v w8 hq => ?_)
      obtain ⟨r8, rfl, hs⟩ := hq
      refine tm_go 1 (pc' := 154) (L' := [some (.ref 91)]) (S' := [.int 112, .int r8]) (w' := w8) rfl ?_
      refine tm_i (p1 := 207) (p2 := 157) rfl (fun h9 => ?_) (fun h9 => ?_)
      · replace hs := hs.1 h9
        exact tx_Pl_readLines91_207 hs 
      · replace hs := hs.2 h9
        refine tm_go 1 (pc' := 158) (L' := [some (.ref 91)]) (S' := [.ref 91]) (w' := w8) rfl ?_
        obtain ⟨b14, hs⟩ := hs
        refine tm_g (pc' := 161) (k := 91) (j := 9) rfl b14 ?_
        refine tm_go 4 (pc' := 167) (L' := [some (.ref 91)]) (S' := [.int ((w8.1 91 10) + (1 : Int32)), .ref 1]) (w' := w8) rfl ?_
        refine tm_c rfl (Nat.le_of_ble_eq_true rfl) (dm_Tp_at (d := d + 3) hs) (fun v w15 hq => ?_)
        obtain ⟨r15, rfl, hs⟩ := hq
        refine tm_go 1 (pc' := 172) (L' := [some (.ref 91)]) (S' := [.int 117, .int r15]) (w' := w15) rfl ?_
        refine tm_i (p1 := 207) (p2 := 175) rfl (fun h16 => ?_) (fun h16 => ?_)
        · replace hs := hs.1 h16
          exact tx_Pl_readLines91_207 hs 
        · replace hs := hs.2 h16
          refine tm_go 2 (pc' := 178) (L' := [some (.ref 91)]) (S' := [.ref 2003, .ref 91]) (w' := w15) rfl ?_
          refine tm_c rfl (Nat.le_of_ble_eq_true rfl) (dm_Pl_takess91_2003 (d := d + 2) hs) (fun v w17 hq => ?_)
          obtain ⟨r17, rfl, hz17, hs⟩ := hq
          refine tm_i (p1 := 205) (p2 := 184) rfl (fun h18 => ?_) (fun h18 => ?_)
          · replace hs := hs.1 h18
            refine tm_go 1 (pc' := 206) (L' := [some (.ref 91)]) (S' := [.int 0]) (w' := w17) rfl ?_
            exact tm_r rfl ⟨_, rfl, by decide, hs⟩
          · replace hs := hs.2 h18
            refine tm_go 1 (pc' := 185) (L' := [some (.ref 91)]) (S' := [.ref 91]) (w' := w17) rfl ?_
            refine tm_c rfl (Nat.le_of_ble_eq_true rfl) (dm_Pl_endsLines91 (d := d + 2) hs) (fun v w19 hq => ?_)
            obtain ⟨r19, rfl, hz19, hs⟩ := hq
            refine tm_i (p1 := 205) (p2 := 191) rfl (fun h20 => ?_) (fun h20 => ?_)
            · replace hs := hs.1 h20
              refine tm_go 1 (pc' := 206) (L' := [some (.ref 91)]) (S' := [.int 0]) (w' := w19) rfl ?_
              exact tm_r rfl ⟨_, rfl, by decide, hs⟩
            · replace hs := hs.2 h20
              refine tm_go 3 (pc' := 195) (L' := [some (.ref 91)]) (S' := [.int 0, .int 8, .ref 91]) (w' := w19) rfl ?_
              refine tm_c rfl (Nat.le_of_ble_eq_true rfl) (dm_Pl_addThings91 (d := d + 3) hs) (fun v w21 hq => ?_)
              obtain ⟨r21, rfl, hz21, hs⟩ := hq
              refine tm_i (p1 := 205) (p2 := 201) rfl (fun h22 => ?_) (fun h22 => ?_)
              · replace hs := hs.1 h22
                refine tm_go 1 (pc' := 206) (L' := [some (.ref 91)]) (S' := [.int 0]) (w' := w21) rfl ?_
                exact tm_r rfl ⟨_, rfl, by decide, hs⟩
              · replace hs := hs.2 h22
                refine tm_go 2 (pc' := 206) (L' := [some (.ref 91)]) (S' := [.int 1]) (w' := w21) rfl ?_
                exact tm_r rfl ⟨_, rfl, by decide, hs⟩
    · replace hs := hs.2 h6
      refine tm_go 2 (pc' := 94) (L' := [some (.ref 91)]) (S' := [.ref 2002, .ref 91]) (w' := w5) rfl ?_
      refine tm_c rfl (Nat.le_of_ble_eq_true rfl) (dm_Pl_takess91_2002 (d := d + 2) hs) (fun v w23 hq => ?_)
      obtain ⟨r23, rfl, hz23, hs⟩ := hq
      refine tm_i (p1 := 139) (p2 := 100) rfl (fun h24 => ?_) (fun h24 => ?_)
      · replace hs := hs.1 h24
        refine tm_go 1 (pc' := 140) (L' := [some (.ref 91)]) (S' := [.int 0]) (w' := w23) rfl ?_
        exact tm_r rfl ⟨_, rfl, by decide, hs⟩
      · replace hs := hs.2 h24
        refine tm_go 1 (pc' := 101) (L' := [some (.ref 91)]) (S' := [.ref 91]) (w' := w23) rfl ?_
        refine tm_c rfl (Nat.le_of_ble_eq_true rfl) (dm_Pl_takesNumbers91 (d := d + 2) hs) (fun v w25 hq => ?_)
        obtain ⟨r25, rfl, hz25, hs⟩ := hq
        refine tm_i (p1 := 139) (p2 := 107) rfl (fun h26 => ?_) (fun h26 => ?_)
        · replace hs := hs.1 h26
          refine tm_go 1 (pc' := 140) (L' := [some (.ref 91)]) (S' := [.int 0]) (w' := w25) rfl ?_
          exact tm_r rfl ⟨_, rfl, by decide, hs⟩
        · replace hs := hs.2 h26
          refine tm_go 1 (pc' := 108) (L' := [some (.ref 91)]) (S' := [.ref 91]) (w' := w25) rfl ?_
          refine tm_c rfl (Nat.le_of_ble_eq_true rfl) (dm_Pl_endsLines91 (d := d + 2) hs) (fun v w27 hq => ?_)
          obtain ⟨r27, rfl, hz27, hs⟩ := hq
          refine tm_i (p1 := 139) (p2 := 114) rfl (fun h28 => ?_) (fun h28 => ?_)
          · replace hs := hs.1 h28
            refine tm_go 1 (pc' := 140) (L' := [some (.ref 91)]) (S' := [.int 0]) (w' := w27) rfl ?_
            exact tm_r rfl ⟨_, rfl, by decide, hs⟩
          · replace hs := hs.2 h28
            refine tm_go 3 (pc' := 120) (L' := [some (.ref 91)]) (S' := [.int 7, .int (w27.1 91 11)]) (w' := w27) rfl ?_
            refine tm_i (p1 := 139) (p2 := 123) rfl (fun h29 => ?_) (fun h29 => ?_)
            · replace hs := hs.1 h29
              refine tm_go 1 (pc' := 140) (L' := [some (.ref 91)]) (S' := [.int 0]) (w' := w27) rfl ?_
              exact tm_r rfl ⟨_, rfl, by decide, hs⟩
            · replace hs := hs.2 h29
              refine tm_go 4 (pc' := 129) (L' := [some (.ref 91)]) (S' := [.int 0, .int (w27.1 91 11), .ref 91]) (w' := w27) rfl ?_
              refine tm_c rfl (Nat.le_of_ble_eq_true rfl) (dm_Pl_addThings91 (d := d + 3) hs) (fun v w30 hq => ?_)
              obtain ⟨r30, rfl, hz30, hs⟩ := hq
              refine tm_i (p1 := 139) (p2 := 135) rfl (fun h31 => ?_) (fun h31 => ?_)
              · replace hs := hs.1 h31
                refine tm_go 1 (pc' := 140) (L' := [some (.ref 91)]) (S' := [.int 0]) (w' := w30) rfl ?_
                exact tm_r rfl ⟨_, rfl, by decide, hs⟩
              · replace hs := hs.2 h31
                refine tm_go 2 (pc' := 140) (L' := [some (.ref 91)]) (S' := [.int 1]) (w' := w30) rfl ?_
                exact tm_r rfl ⟨_, rfl, by decide, hs⟩
  · replace hs := hs.2 h3
    refine tm_go 2 (pc' := 19) (L' := [some (.ref 91)]) (S' := [.ref 2001, .ref 91]) (w' := w2) rfl ?_
    refine tm_c rfl (Nat.le_of_ble_eq_true rfl) (dm_Pl_takess91_2001 (d := d + 2) hs) (fun v w32 hq => ?_)
    obtain ⟨r32, rfl, hz32, hs⟩ := hq
    refine tm_i (p1 := 73) (p2 := 25) rfl (fun h33 => ?_) (fun h33 => ?_)
    · replace hs := hs.1 h33
      refine tm_go 1 (pc' := 74) (L' := [some (.ref 91)]) (S' := [.int 0]) (w' := w32) rfl ?_
      exact tm_r rfl ⟨_, rfl, by decide, hs⟩
    · replace hs := hs.2 h33
      refine tm_go 1 (pc' := 26) (L' := [some (.ref 91)]) (S' := [.ref 91]) (w' := w32) rfl ?_
      refine tm_c rfl (Nat.le_of_ble_eq_true rfl) (dm_Pl_takesNumbers91 (d := d + 2) hs) (fun v w34 hq => ?_)
      obtain ⟨r34, rfl, hz34, hs⟩ := hq
      refine tm_i (p1 := 73) (p2 := 32) rfl (fun h35 => ?_) (fun h35 => ?_)
      · replace hs := hs.1 h35
        refine tm_go 1 (pc' := 74) (L' := [some (.ref 91)]) (S' := [.int 0]) (w' := w34) rfl ?_
        exact tm_r rfl ⟨_, rfl, by decide, hs⟩
      · replace hs := hs.2 h35
        refine tm_go 1 (pc' := 33) (L' := [some (.ref 91)]) (S' := [.ref 91]) (w' := w34) rfl ?_
        refine tm_c rfl (Nat.le_of_ble_eq_true rfl) (dm_Pl_endsLines91 (d := d + 2) hs) (fun v w36 hq => ?_)
        obtain ⟨r36, rfl, hz36, hs⟩ := hq
        refine tm_i (p1 := 73) (p2 := 39) rfl (fun h37 => ?_) (fun h37 => ?_)
        · replace hs := hs.1 h37
          refine tm_go 1 (pc' := 74) (L' := [some (.ref 91)]) (S' := [.int 0]) (w' := w36) rfl ?_
          exact tm_r rfl ⟨_, rfl, by decide, hs⟩
        · replace hs := hs.2 h37
          refine tm_go 3 (pc' := 44) (L' := [some (.ref 91)]) (S' := [.int 1, .int (w36.1 91 11)]) (w' := w36) rfl ?_
          refine tm_i (p1 := 73) (p2 := 47) rfl (fun h38 => ?_) (fun h38 => ?_)
          · replace hs := hs.1 h38
            refine tm_go 1 (pc' := 74) (L' := [some (.ref 91)]) (S' := [.int 0]) (w' := w36) rfl ?_
            exact tm_r rfl ⟨_, rfl, by decide, hs⟩
          · replace hs := hs.2 h38
            refine tm_go 3 (pc' := 53) (L' := [some (.ref 91)]) (S' := [.int 100000, .int (w36.1 91 11)]) (w' := w36) rfl ?_
            refine tm_i (p1 := 73) (p2 := 56) rfl (fun h39 => ?_) (fun h39 => ?_)
            · replace hs := hs.1 h39
              refine tm_go 1 (pc' := 74) (L' := [some (.ref 91)]) (S' := [.int 0]) (w' := w36) rfl ?_
              exact tm_r rfl ⟨_, rfl, by decide, hs⟩
            · replace hs := hs.2 h39
              refine tm_go 4 (pc' := 63) (L' := [some (.ref 91)]) (S' := [.int (w36.1 91 11), .int 9, .ref 91]) (w' := w36) rfl ?_
              refine tm_c rfl (Nat.le_of_ble_eq_true rfl) (dm_Pl_addThings91 (d := d + 3) hs) (fun v w40 hq => ?_)
              obtain ⟨r40, rfl, hz40, hs⟩ := hq
              refine tm_i (p1 := 73) (p2 := 69) rfl (fun h41 => ?_) (fun h41 => ?_)
              · replace hs := hs.1 h41
                refine tm_go 1 (pc' := 74) (L' := [some (.ref 91)]) (S' := [.int 0]) (w' := w40) rfl ?_
                exact tm_r rfl ⟨_, rfl, by decide, hs⟩
              · replace hs := hs.2 h41
                refine tm_go 2 (pc' := 74) (L' := [some (.ref 91)]) (S' := [.int 1]) (w' := w40) rfl ?_
                exact tm_r rfl ⟨_, rfl, by decide, hs⟩
set_option maxHeartbeats 4000000 in
set_option maxRecDepth 100000 in
theorem tx_Pl_reads91_1_22 {d : Nat} {E : MW → Prop} {Q : Int32 → MW → Prop} (n : Nat) : ∀ (x22_2 : Int32)   (w : MW), q_Pl_reads91_1_22  E Q n x22_2 w → (∀  (v0 : Option Value) (v1 : Option Value) (v2 : Option Value) (w : MW), E  w → Tm (d + 5) 137 68 [v0, v1, v2] [] w (RI Q)) → Tm (d + 5) 137 22 [some (.ref 91), some (.ref 1), some (.int x22_2)] [] w (RI Q) := by
  induction n with
  | zero => intro x22_2  w hs; rw [q_Pl_reads91_1_22.eq_1] at hs; exact hs.elim
  | succ n ih =>
    intro x22_2  w hs hE
    rw [q_Pl_reads91_1_22.eq_2] at hs
    refine tm_go 2 (pc' := 26) (L' := [some (.ref 91), some (.ref 1), some (.int x22_2)]) (S' := [.int 4000, .int x22_2]) (w' := w) rfl ?_
    refine tm_i (p1 := 68) (p2 := 29) rfl (fun h1 => ?_) (fun h1 => ?_)
    · replace hs := hs.1 h1
      exact hE _ _ _ _ hs
    · replace hs := hs.2 h1
      refine tm_go 4 (pc' := 37) (L' := [some (.ref 91), some (.ref 1), some (.int x22_2)]) (S' := [.int (w.1 1 2), .int (w.1 91 10)]) (w' := w) rfl ?_
      refine tm_i (p1 := 68) (p2 := 40) rfl (fun h2 => ?_) (fun h2 => ?_)
      · replace hs := hs.1 h2
        exact hE _ _ _ _ hs
      · replace hs := hs.2 h2
        refine tm_go 1 (pc' := 41) (L' := [some (.ref 91), some (.ref 1), some (.int x22_2)]) (S' := [.ref 91]) (w' := w) rfl ?_
        refine tm_c rfl (Nat.le_of_ble_eq_true rfl) (dm_Pl_readLines91 (d := d + 0) hs) (fun v w3 hq => ?_)
        obtain ⟨r3, rfl, hz3, hs⟩ := hq
        refine tm_i (p1 := 52) (p2 := 47) rfl (fun h4 => ?_) (fun h4 => ?_)
        · replace hs := hs.1 h4
          refine tm_go 8 (pc' := 22) (L' := [some (.ref 91), some (.ref 1), some (.int (x22_2 + (1 : Int32)))]) (S' := []) (w' := (sI w3 91 10 ((w3.1 91 10) + (1 : Int32)))) rfl ?_
          exact ih _ _ hs hE
        · replace hs := hs.2 h4
          refine tm_go 2 (pc' := 51) (L' := [some (.ref 91), some (.ref 1), some (.int x22_2)]) (S' := [.int (w3.1 91 10)]) (w' := w3) rfl ?_
          exact tm_r rfl ⟨_, rfl, hs⟩
set_option maxHeartbeats 4000000 in
set_option maxRecDepth 100000 in
theorem dm_Pl_reads91_1 {d : Nat} {w : MW} {Q : Int32 → MW → Prop} (hs : p_Pl_reads91_1 w Q) : Tc (d + 5) 137 [.ref 91, .ref 1] w (RI Q) := by
  unfold p_Pl_reads91_1 at hs
  refine tm_go 14 (pc' := 22) (L' := [some (.ref 91), some (.ref 1), some (.int 0)]) (S' := []) (w' := (sI (sI (sI (sR w 91 9 (some 1)) 91 0 0) 91 1 0) 91 10 0)) rfl ?_
  refine tx_Pl_reads91_1_22 FU _ _ hs (fun  z5_0 z5_1 z5_2 w5 hs => ?_)
  refine tm_go 1 (pc' := 69) (L' := [z5_0, z5_1, z5_2]) (S' := [.int (-1)]) (w' := w5) rfl ?_
  exact tm_r rfl ⟨_, rfl, hs⟩
set_option maxHeartbeats 4000000 in
set_option maxRecDepth 100000 in
theorem dm_Ma_max {d : Nat} {w : MW} {a0 : Int32} {b0 : Int32} {Q : Int32 → MW → Prop} (hs : p_Ma_max w a0 b0 Q) : Tc (d + 0) 339 [.int a0, .int b0] w (RI Q) := by
  unfold p_Ma_max at hs
  refine tm_go 2 (pc' := 2) (L' := [some (.int a0), some (.int b0)]) (S' := [.int b0, .int a0]) (w' := w) rfl ?_
  refine tm_i (p1 := 9) (p2 := 5) rfl (fun h1 => ?_) (fun h1 => ?_)
  · replace hs := hs.1 h1
    refine tm_go 1 (pc' := 10) (L' := [some (.int a0), some (.int b0)]) (S' := [.int b0]) (w' := w) rfl ?_
    exact tm_r rfl ⟨_, rfl, hs⟩
  · replace hs := hs.2 h1
    refine tm_go 2 (pc' := 10) (L' := [some (.int a0), some (.int b0)]) (S' := [.int a0]) (w' := w) rfl ?_
    exact tm_r rfl ⟨_, rfl, hs⟩
set_option maxHeartbeats 4000000 in
set_option maxRecDepth 100000 in
theorem dm_Ma_min {d : Nat} {w : MW} {a0 : Int32} {b0 : Int32} {Q : Int32 → MW → Prop} (hs : p_Ma_min w a0 b0 Q) : Tc (d + 0) 338 [.int a0, .int b0] w (RI Q) := by
  unfold p_Ma_min at hs
  refine tm_go 2 (pc' := 2) (L' := [some (.int a0), some (.int b0)]) (S' := [.int b0, .int a0]) (w' := w) rfl ?_
  refine tm_i (p1 := 9) (p2 := 5) rfl (fun h1 => ?_) (fun h1 => ?_)
  · replace hs := hs.1 h1
    refine tm_go 1 (pc' := 10) (L' := [some (.int a0), some (.int b0)]) (S' := [.int b0]) (w' := w) rfl ?_
    exact tm_r rfl ⟨_, rfl, hs⟩
  · replace hs := hs.2 h1
    refine tm_go 2 (pc' := 10) (L' := [some (.int a0), some (.int b0)]) (S' := [.int a0]) (w' := w) rfl ?_
    exact tm_r rfl ⟨_, rfl, hs⟩
set_option maxHeartbeats 4000000 in
set_option maxRecDepth 100000 in
theorem dm_Pr_addNames108 {d : Nat} {w : MW} {a0 : Int64} {b0 : Int32} {c0 : Int32} {e0 : Int32} {Q : MW → Prop} (hs : p_Pr_addNames108 w a0 b0 c0 e0 Q) : Tc (d + 0) 153 [.ref 108, .long a0, .int b0, .int c0, .int e0] w (RV Q) := by
  unfold p_Pr_addNames108 at hs
  refine tm_go 3 (pc' := 6) (L' := [some (.ref 108), some (.long a0), none, some (.int b0), some (.int c0), some (.int e0)]) (S' := [.int 40, .int (w.1 108 10)]) (w' := w) rfl ?_
  refine tm_i (p1 := 81) (p2 := 9) rfl (fun h1 => ?_) (fun h1 => ?_)
  · replace hs := hs.1 h1
    exact tm_r rfl ⟨rfl, hs⟩
  · replace hs := hs.2 h1
    refine tm_go 5 (pc' := 18) (L' := [some (.ref 108), some (.long a0), none, some (.int b0), some (.int c0), some (.int e0)]) (S' := [.long a0, .int (w.1 108 10), .ref 116]) (w' := w) rfl ?_
    obtain ⟨b2, hs⟩ := hs
    refine tm_k (pc' := 19) (L' := [some (.ref 108), some (.long a0), none, some (.int b0), some (.int c0), some (.int e0)]) (S' := []) (w' := (sJ w 116 ((w.1 108 10).toInt.toNat) a0)) rfl b2 ?_
    refine tm_go 5 (pc' := 28) (L' := [some (.ref 108), some (.long a0), none, some (.int b0), some (.int c0), some (.int e0)]) (S' := [.int b0, .int (w.1 108 10), .ref 117]) (w' := (sJ w 116 ((w.1 108 10).toInt.toNat) a0)) rfl ?_
    obtain ⟨b3, hs⟩ := hs
    refine tm_k (pc' := 29) (L' := [some (.ref 108), some (.long a0), none, some (.int b0), some (.int c0), some (.int e0)]) (S' := []) (w' := (sI (sJ w 116 ((w.1 108 10).toInt.toNat) a0) 117 ((w.1 108 10).toInt.toNat) b0)) rfl b3 ?_
    refine tm_go 5 (pc' := 39) (L' := [some (.ref 108), some (.long a0), none, some (.int b0), some (.int c0), some (.int e0)]) (S' := [.int c0, .int (w.1 108 10), .ref 118]) (w' := (sI (sJ w 116 ((w.1 108 10).toInt.toNat) a0) 117 ((w.1 108 10).toInt.toNat) b0)) rfl ?_
    obtain ⟨b4, hs⟩ := hs
    refine tm_k (pc' := 40) (L' := [some (.ref 108), some (.long a0), none, some (.int b0), some (.int c0), some (.int e0)]) (S' := []) (w' := (sI (sI (sJ w 116 ((w.1 108 10).toInt.toNat) a0) 117 ((w.1 108 10).toInt.toNat) b0) 118 ((w.1 108 10).toInt.toNat) c0)) rfl b4 ?_
    refine tm_go 5 (pc' := 50) (L' := [some (.ref 108), some (.long a0), none, some (.int b0), some (.int c0), some (.int e0)]) (S' := [.int e0, .int (w.1 108 10), .ref 119]) (w' := (sI (sI (sJ w 116 ((w.1 108 10).toInt.toNat) a0) 117 ((w.1 108 10).toInt.toNat) b0) 118 ((w.1 108 10).toInt.toNat) c0)) rfl ?_
    obtain ⟨b5, hs⟩ := hs
    refine tm_k (pc' := 51) (L' := [some (.ref 108), some (.long a0), none, some (.int b0), some (.int c0), some (.int e0)]) (S' := []) (w' := (sI (sI (sI (sJ w 116 ((w.1 108 10).toInt.toNat) a0) 117 ((w.1 108 10).toInt.toNat) b0) 118 ((w.1 108 10).toInt.toNat) c0) 119 ((w.1 108 10).toInt.toNat) e0)) rfl b5 ?_
    refine tm_go 5 (pc' := 60) (L' := [some (.ref 108), some (.long a0), none, some (.int b0), some (.int c0), some (.int e0)]) (S' := [.long 0, .int (w.1 108 10), .ref 120]) (w' := (sI (sI (sI (sJ w 116 ((w.1 108 10).toInt.toNat) a0) 117 ((w.1 108 10).toInt.toNat) b0) 118 ((w.1 108 10).toInt.toNat) c0) 119 ((w.1 108 10).toInt.toNat) e0)) rfl ?_
    obtain ⟨b6, hs⟩ := hs
    refine tm_k (pc' := 61) (L' := [some (.ref 108), some (.long a0), none, some (.int b0), some (.int c0), some (.int e0)]) (S' := []) (w' := (sJ (sI (sI (sI (sJ w 116 ((w.1 108 10).toInt.toNat) a0) 117 ((w.1 108 10).toInt.toNat) b0) 118 ((w.1 108 10).toInt.toNat) c0) 119 ((w.1 108 10).toInt.toNat) e0) 120 ((w.1 108 10).toInt.toNat) 0)) rfl b6 ?_
    refine tm_go 5 (pc' := 70) (L' := [some (.ref 108), some (.long a0), none, some (.int b0), some (.int c0), some (.int e0)]) (S' := [.int 5, .int (w.1 108 10), .ref 121]) (w' := (sJ (sI (sI (sI (sJ w 116 ((w.1 108 10).toInt.toNat) a0) 117 ((w.1 108 10).toInt.toNat) b0) 118 ((w.1 108 10).toInt.toNat) c0) 119 ((w.1 108 10).toInt.toNat) e0) 120 ((w.1 108 10).toInt.toNat) 0)) rfl ?_
    obtain ⟨b7, hs⟩ := hs
    refine tm_k (pc' := 71) (L' := [some (.ref 108), some (.long a0), none, some (.int b0), some (.int c0), some (.int e0)]) (S' := []) (w' := (sI (sJ (sI (sI (sI (sJ w 116 ((w.1 108 10).toInt.toNat) a0) 117 ((w.1 108 10).toInt.toNat) b0) 118 ((w.1 108 10).toInt.toNat) c0) 119 ((w.1 108 10).toInt.toNat) e0) 120 ((w.1 108 10).toInt.toNat) 0) 121 ((w.1 108 10).toInt.toNat) 5)) rfl b7 ?_
    refine tm_go 6 (pc' := 81) (L' := [some (.ref 108), some (.long a0), none, some (.int b0), some (.int c0), some (.int e0)]) (S' := []) (w' := (sI (sI (sJ (sI (sI (sI (sJ w 116 ((w.1 108 10).toInt.toNat) a0) 117 ((w.1 108 10).toInt.toNat) b0) 118 ((w.1 108 10).toInt.toNat) c0) 119 ((w.1 108 10).toInt.toNat) e0) 120 ((w.1 108 10).toInt.toNat) 0) 121 ((w.1 108 10).toInt.toNat) 5) 108 10 ((w.1 108 10) + (1 : Int32)))) rfl ?_
    exact tm_r rfl ⟨rfl, hs⟩
set_option maxHeartbeats 4000000 in
set_option maxRecDepth 100000 in
theorem dm_Pr_clears108 {d : Nat} {w : MW} {Q : MW → Prop} (hs : p_Pr_clears108 w Q) : Tc (d + 0) 151 [.ref 108] w (RV Q) := by
  unfold p_Pr_clears108 at hs
  refine tm_go 12 (pc' := 20) (L' := [some (.ref 108)]) (S' := []) (w' := (sI (sI (sI (sI w 108 0 0) 108 1 0) 108 2 (-1)) 108 10 0)) rfl ?_
  exact tm_r rfl ⟨rfl, hs⟩
set_option maxHeartbeats 4000000 in
set_option maxRecDepth 100000 in
theorem dm_Rd_fail {d : Nat} {w : MW} {Q : MW → Prop} (hs : p_Rd_fail w Q) : Tc (d + 0) 160 [.ref 87] w (RV Q) := by
  unfold p_Rd_fail at hs
  refine tm_go 2 (pc' := 4) (L' := [some (.ref 87)]) (S' := [.int (w.1 87 9)]) (w' := w) rfl ?_
  refine tm_i (p1 := 15) (p2 := 7) rfl (fun h1 => ?_) (fun h1 => ?_)
  · replace hs := hs.1 h1
    exact tm_r rfl ⟨rfl, hs⟩
  · replace hs := hs.2 h1
    refine tm_go 4 (pc' := 15) (L' := [some (.ref 87)]) (S' := []) (w' := (sI w 87 9 (w.1 87 4))) rfl ?_
    exact tm_r rfl ⟨rfl, hs⟩
set_option maxHeartbeats 4000000 in
set_option maxRecDepth 100000 in
theorem dm_Rd_makeNode {d : Nat} {w : MW} {a0 : Int32} {b0 : Int32} {Q : Int32 → MW → Prop} (hs : p_Rd_makeNode w a0 b0 Q) : Tc (d + 1) 168 [.ref 87, .int a0, .int b0] w (RI Q) := by
  unfold p_Rd_makeNode at hs
  refine tm_go 1 (pc' := 1) (L' := [some (.ref 87), some (.int a0), some (.int b0), none]) (S' := [.ref 87]) (w' := w) rfl ?_
  obtain ⟨b1, hs⟩ := hs
  refine tm_g (pc' := 4) (k := 87) (j := 1) rfl b1 ?_
  refine tm_go 2 (pc' := 10) (L' := [some (.ref 87), some (.int a0), some (.int b0), none]) (S' := [.int 300, .int (w.1 108 1)]) (w' := w) rfl ?_
  refine tm_c rfl (Nat.le_of_ble_eq_true rfl) (dm_Ma_min (d := d + 0) hs) (fun v w2 hq => ?_)
  obtain ⟨r2, rfl, hs⟩ := hq
  refine tm_go 2 (pc' := 15) (L' := [some (.ref 87), some (.int a0), some (.int b0), some (.int r2)]) (S' := [.ref 87]) (w' := w2) rfl ?_
  obtain ⟨b3, hs⟩ := hs
  refine tm_g (pc' := 18) (k := 87) (j := 1) rfl b3 ?_
  refine tm_go 3 (pc' := 23) (L' := [some (.ref 87), some (.int a0), some (.int b0), some (.int r2)]) (S' := [.int a0, .int r2, .ref 109]) (w' := w2) rfl ?_
  obtain ⟨b4, hs⟩ := hs
  refine tm_k (pc' := 24) (L' := [some (.ref 87), some (.int a0), some (.int b0), some (.int r2)]) (S' := []) (w' := (sI w2 109 r2.toInt.toNat a0)) rfl b4 ?_
  refine tm_go 1 (pc' := 25) (L' := [some (.ref 87), some (.int a0), some (.int b0), some (.int r2)]) (S' := [.ref 87]) (w' := (sI w2 109 r2.toInt.toNat a0)) rfl ?_
  obtain ⟨b5, hs⟩ := hs
  refine tm_g (pc' := 28) (k := 87) (j := 1) rfl b5 ?_
  refine tm_go 3 (pc' := 33) (L' := [some (.ref 87), some (.int a0), some (.int b0), some (.int r2)]) (S' := [.int b0, .int r2, .ref 110]) (w' := (sI w2 109 r2.toInt.toNat a0)) rfl ?_
  obtain ⟨b6, hs⟩ := hs
  refine tm_k (pc' := 34) (L' := [some (.ref 87), some (.int a0), some (.int b0), some (.int r2)]) (S' := []) (w' := (sI (sI w2 109 r2.toInt.toNat a0) 110 r2.toInt.toNat b0)) rfl b6 ?_
  refine tm_go 1 (pc' := 35) (L' := [some (.ref 87), some (.int a0), some (.int b0), some (.int r2)]) (S' := [.ref 87]) (w' := (sI (sI w2 109 r2.toInt.toNat a0) 110 r2.toInt.toNat b0)) rfl ?_
  obtain ⟨b7, hs⟩ := hs
  refine tm_g (pc' := 38) (k := 87) (j := 1) rfl b7 ?_
  refine tm_go 3 (pc' := 43) (L' := [some (.ref 87), some (.int a0), some (.int b0), some (.int r2)]) (S' := [.int r2, .int r2, .ref 111]) (w' := (sI (sI w2 109 r2.toInt.toNat a0) 110 r2.toInt.toNat b0)) rfl ?_
  obtain ⟨b8, hs⟩ := hs
  refine tm_k (pc' := 44) (L' := [some (.ref 87), some (.int a0), some (.int b0), some (.int r2)]) (S' := []) (w' := (sI (sI (sI w2 109 r2.toInt.toNat a0) 110 r2.toInt.toNat b0) 111 r2.toInt.toNat r2)) rfl b8 ?_
  refine tm_go 1 (pc' := 45) (L' := [some (.ref 87), some (.int a0), some (.int b0), some (.int r2)]) (S' := [.ref 87]) (w' := (sI (sI (sI w2 109 r2.toInt.toNat a0) 110 r2.toInt.toNat b0) 111 r2.toInt.toNat r2)) rfl ?_
  obtain ⟨b9, hs⟩ := hs
  refine tm_g (pc' := 48) (k := 87) (j := 1) rfl b9 ?_
  refine tm_go 3 (pc' := 53) (L' := [some (.ref 87), some (.int a0), some (.int b0), some (.int r2)]) (S' := [.int r2, .int r2, .ref 112]) (w' := (sI (sI (sI w2 109 r2.toInt.toNat a0) 110 r2.toInt.toNat b0) 111 r2.toInt.toNat r2)) rfl ?_
  obtain ⟨b10, hs⟩ := hs
  refine tm_k (pc' := 54) (L' := [some (.ref 87), some (.int a0), some (.int b0), some (.int r2)]) (S' := []) (w' := (sI (sI (sI (sI w2 109 r2.toInt.toNat a0) 110 r2.toInt.toNat b0) 111 r2.toInt.toNat r2) 112 r2.toInt.toNat r2)) rfl b10 ?_
  refine tm_go 1 (pc' := 55) (L' := [some (.ref 87), some (.int a0), some (.int b0), some (.int r2)]) (S' := [.ref 87]) (w' := (sI (sI (sI (sI w2 109 r2.toInt.toNat a0) 110 r2.toInt.toNat b0) 111 r2.toInt.toNat r2) 112 r2.toInt.toNat r2)) rfl ?_
  obtain ⟨b11, hs⟩ := hs
  refine tm_g (pc' := 58) (k := 87) (j := 1) rfl b11 ?_
  refine tm_go 3 (pc' := 63) (L' := [some (.ref 87), some (.int a0), some (.int b0), some (.int r2)]) (S' := [.int (-1), .int r2, .ref 113]) (w' := (sI (sI (sI (sI w2 109 r2.toInt.toNat a0) 110 r2.toInt.toNat b0) 111 r2.toInt.toNat r2) 112 r2.toInt.toNat r2)) rfl ?_
  obtain ⟨b12, hs⟩ := hs
  refine tm_k (pc' := 64) (L' := [some (.ref 87), some (.int a0), some (.int b0), some (.int r2)]) (S' := []) (w' := (sI (sI (sI (sI (sI w2 109 r2.toInt.toNat a0) 110 r2.toInt.toNat b0) 111 r2.toInt.toNat r2) 112 r2.toInt.toNat r2) 113 r2.toInt.toNat (-1))) rfl b12 ?_
  refine tm_go 1 (pc' := 65) (L' := [some (.ref 87), some (.int a0), some (.int b0), some (.int r2)]) (S' := [.ref 87]) (w' := (sI (sI (sI (sI (sI w2 109 r2.toInt.toNat a0) 110 r2.toInt.toNat b0) 111 r2.toInt.toNat r2) 112 r2.toInt.toNat r2) 113 r2.toInt.toNat (-1))) rfl ?_
  obtain ⟨b13, hs⟩ := hs
  refine tm_g (pc' := 68) (k := 87) (j := 1) rfl b13 ?_
  refine tm_go 3 (pc' := 73) (L' := [some (.ref 87), some (.int a0), some (.int b0), some (.int r2)]) (S' := [.int (-1), .int r2, .ref 114]) (w' := (sI (sI (sI (sI (sI w2 109 r2.toInt.toNat a0) 110 r2.toInt.toNat b0) 111 r2.toInt.toNat r2) 112 r2.toInt.toNat r2) 113 r2.toInt.toNat (-1))) rfl ?_
  obtain ⟨b14, hs⟩ := hs
  refine tm_k (pc' := 74) (L' := [some (.ref 87), some (.int a0), some (.int b0), some (.int r2)]) (S' := []) (w' := (sI (sI (sI (sI (sI (sI w2 109 r2.toInt.toNat a0) 110 r2.toInt.toNat b0) 111 r2.toInt.toNat r2) 112 r2.toInt.toNat r2) 113 r2.toInt.toNat (-1)) 114 r2.toInt.toNat (-1))) rfl b14 ?_
  refine tm_go 4 (pc' := 80) (L' := [some (.ref 87), some (.int a0), some (.int b0), some (.int r2)]) (S' := [.int 1, .int r2, .ref 88]) (w' := (sI (sI (sI (sI (sI (sI w2 109 r2.toInt.toNat a0) 110 r2.toInt.toNat b0) 111 r2.toInt.toNat r2) 112 r2.toInt.toNat r2) 113 r2.toInt.toNat (-1)) 114 r2.toInt.toNat (-1))) rfl ?_
  obtain ⟨b15, hs⟩ := hs
  refine tm_k (pc' := 81) (L' := [some (.ref 87), some (.int a0), some (.int b0), some (.int r2)]) (S' := []) (w' := (sI (sI (sI (sI (sI (sI (sI w2 109 r2.toInt.toNat a0) 110 r2.toInt.toNat b0) 111 r2.toInt.toNat r2) 112 r2.toInt.toNat r2) 113 r2.toInt.toNat (-1)) 114 r2.toInt.toNat (-1)) 88 r2.toInt.toNat 1)) rfl b15 ?_
  refine tm_go 4 (pc' := 87) (L' := [some (.ref 87), some (.int a0), some (.int b0), some (.int r2)]) (S' := [.int 0, .int r2, .ref 89]) (w' := (sI (sI (sI (sI (sI (sI (sI w2 109 r2.toInt.toNat a0) 110 r2.toInt.toNat b0) 111 r2.toInt.toNat r2) 112 r2.toInt.toNat r2) 113 r2.toInt.toNat (-1)) 114 r2.toInt.toNat (-1)) 88 r2.toInt.toNat 1)) rfl ?_
  obtain ⟨b16, hs⟩ := hs
  refine tm_k (pc' := 88) (L' := [some (.ref 87), some (.int a0), some (.int b0), some (.int r2)]) (S' := []) (w' := (sI (sI (sI (sI (sI (sI (sI (sI w2 109 r2.toInt.toNat a0) 110 r2.toInt.toNat b0) 111 r2.toInt.toNat r2) 112 r2.toInt.toNat r2) 113 r2.toInt.toNat (-1)) 114 r2.toInt.toNat (-1)) 88 r2.toInt.toNat 1) 89 r2.toInt.toNat 0)) rfl b16 ?_
  refine tm_go 1 (pc' := 89) (L' := [some (.ref 87), some (.int a0), some (.int b0), some (.int r2)]) (S' := [.ref 87]) (w' := (sI (sI (sI (sI (sI (sI (sI (sI w2 109 r2.toInt.toNat a0) 110 r2.toInt.toNat b0) 111 r2.toInt.toNat r2) 112 r2.toInt.toNat r2) 113 r2.toInt.toNat (-1)) 114 r2.toInt.toNat (-1)) 88 r2.toInt.toNat 1) 89 r2.toInt.toNat 0)) rfl ?_
  obtain ⟨b17, hs⟩ := hs
  refine tm_g (pc' := 92) (k := 87) (j := 1) rfl b17 ?_
  refine tm_go 6 (pc' := 102) (L' := [some (.ref 87), some (.int a0), some (.int b0), some (.int r2)]) (S' := [.int 300, .int r2]) (w' := (sI (sI (sI (sI (sI (sI (sI (sI (sI w2 109 r2.toInt.toNat a0) 110 r2.toInt.toNat b0) 111 r2.toInt.toNat r2) 112 r2.toInt.toNat r2) 113 r2.toInt.toNat (-1)) 114 r2.toInt.toNat (-1)) 88 r2.toInt.toNat 1) 89 r2.toInt.toNat 0) 108 1 (r2 + (1 : Int32)))) rfl ?_
  refine tm_i (p1 := 109) (p2 := 105) rfl (fun h18 => ?_) (fun h18 => ?_)
  · replace hs := hs.1 h18
    refine tm_go 1 (pc' := 110) (L' := [some (.ref 87), some (.int a0), some (.int b0), some (.int r2)]) (S' := [.int r2]) (w' := (sI (sI (sI (sI (sI (sI (sI (sI (sI w2 109 r2.toInt.toNat a0) 110 r2.toInt.toNat b0) 111 r2.toInt.toNat r2) 112 r2.toInt.toNat r2) 113 r2.toInt.toNat (-1)) 114 r2.toInt.toNat (-1)) 88 r2.toInt.toNat 1) 89 r2.toInt.toNat 0) 108 1 (r2 + (1 : Int32)))) rfl ?_
    exact tm_r rfl ⟨_, rfl, hs⟩
  · replace hs := hs.2 h18
    refine tm_go 1 (pc' := 106) (L' := [some (.ref 87), some (.int a0), some (.int b0), some (.int r2)]) (S' := [.ref 87]) (w' := (sI (sI (sI (sI (sI (sI (sI (sI (sI w2 109 r2.toInt.toNat a0) 110 r2.toInt.toNat b0) 111 r2.toInt.toNat r2) 112 r2.toInt.toNat r2) 113 r2.toInt.toNat (-1)) 114 r2.toInt.toNat (-1)) 88 r2.toInt.toNat 1) 89 r2.toInt.toNat 0) 108 1 (r2 + (1 : Int32)))) rfl ?_
    refine tm_c rfl (Nat.le_of_ble_eq_true rfl) (dm_Rd_fail (d := d + 0) hs) (fun v w19 hq => ?_)
    obtain ⟨rfl, hs⟩ := hq
    refine tm_go 1 (pc' := 110) (L' := [some (.ref 87), some (.int a0), some (.int b0), some (.int r2)]) (S' := [.int r2]) (w' := w19) rfl ?_
    exact tm_r rfl ⟨_, rfl, hs⟩
set_option maxHeartbeats 4000000 in
set_option maxRecDepth 100000 in
theorem dm_Rd_isMark {d : Nat} {w : MW} {a0 : Int32} {Q : Int32 → MW → Prop} (hs : p_Rd_isMark w a0 Q) : Tc (d + 0) 163 [.int a0] w (RZ Q) := by
  unfold p_Rd_isMark at hs
  refine tm_go 2 (pc' := 3) (L' := [some (.int a0)]) (S' := [.int 123, .int a0]) (w' := w) rfl ?_
  refine tm_i (p1 := 72) (p2 := 6) rfl (fun h1 => ?_) (fun h1 => ?_)
  · replace hs := hs.1 h1
    refine tm_go 2 (pc' := 77) (L' := [some (.int a0)]) (S' := [.int 1]) (w' := w) rfl ?_
    exact tm_r rfl ⟨_, rfl, by decide, hs⟩
  · replace hs := hs.2 h1
    refine tm_go 2 (pc' := 9) (L' := [some (.int a0)]) (S' := [.int 125, .int a0]) (w' := w) rfl ?_
    refine tm_i (p1 := 72) (p2 := 12) rfl (fun h2 => ?_) (fun h2 => ?_)
    · replace hs := hs.1 h2
      refine tm_go 2 (pc' := 77) (L' := [some (.int a0)]) (S' := [.int 1]) (w' := w) rfl ?_
      exact tm_r rfl ⟨_, rfl, by decide, hs⟩
    · replace hs := hs.2 h2
      refine tm_go 2 (pc' := 15) (L' := [some (.int a0)]) (S' := [.int 40, .int a0]) (w' := w) rfl ?_
      refine tm_i (p1 := 72) (p2 := 18) rfl (fun h3 => ?_) (fun h3 => ?_)
      · replace hs := hs.1 h3
        refine tm_go 2 (pc' := 77) (L' := [some (.int a0)]) (S' := [.int 1]) (w' := w) rfl ?_
        exact tm_r rfl ⟨_, rfl, by decide, hs⟩
      · replace hs := hs.2 h3
        refine tm_go 2 (pc' := 21) (L' := [some (.int a0)]) (S' := [.int 41, .int a0]) (w' := w) rfl ?_
        refine tm_i (p1 := 72) (p2 := 24) rfl (fun h4 => ?_) (fun h4 => ?_)
        · replace hs := hs.1 h4
          refine tm_go 2 (pc' := 77) (L' := [some (.int a0)]) (S' := [.int 1]) (w' := w) rfl ?_
          exact tm_r rfl ⟨_, rfl, by decide, hs⟩
        · replace hs := hs.2 h4
          refine tm_go 2 (pc' := 27) (L' := [some (.int a0)]) (S' := [.int 59, .int a0]) (w' := w) rfl ?_
          refine tm_i (p1 := 72) (p2 := 30) rfl (fun h5 => ?_) (fun h5 => ?_)
          · replace hs := hs.1 h5
            refine tm_go 2 (pc' := 77) (L' := [some (.int a0)]) (S' := [.int 1]) (w' := w) rfl ?_
            exact tm_r rfl ⟨_, rfl, by decide, hs⟩
          · replace hs := hs.2 h5
            refine tm_go 2 (pc' := 33) (L' := [some (.int a0)]) (S' := [.int 43, .int a0]) (w' := w) rfl ?_
            refine tm_i (p1 := 72) (p2 := 36) rfl (fun h6 => ?_) (fun h6 => ?_)
            · replace hs := hs.1 h6
              refine tm_go 2 (pc' := 77) (L' := [some (.int a0)]) (S' := [.int 1]) (w' := w) rfl ?_
              exact tm_r rfl ⟨_, rfl, by decide, hs⟩
            · replace hs := hs.2 h6
              refine tm_go 2 (pc' := 39) (L' := [some (.int a0)]) (S' := [.int 45, .int a0]) (w' := w) rfl ?_
              refine tm_i (p1 := 72) (p2 := 42) rfl (fun h7 => ?_) (fun h7 => ?_)
              · replace hs := hs.1 h7
                refine tm_go 2 (pc' := 77) (L' := [some (.int a0)]) (S' := [.int 1]) (w' := w) rfl ?_
                exact tm_r rfl ⟨_, rfl, by decide, hs⟩
              · replace hs := hs.2 h7
                refine tm_go 2 (pc' := 45) (L' := [some (.int a0)]) (S' := [.int 42, .int a0]) (w' := w) rfl ?_
                refine tm_i (p1 := 72) (p2 := 48) rfl (fun h8 => ?_) (fun h8 => ?_)
                · replace hs := hs.1 h8
                  refine tm_go 2 (pc' := 77) (L' := [some (.int a0)]) (S' := [.int 1]) (w' := w) rfl ?_
                  exact tm_r rfl ⟨_, rfl, by decide, hs⟩
                · replace hs := hs.2 h8
                  refine tm_go 2 (pc' := 51) (L' := [some (.int a0)]) (S' := [.int 47, .int a0]) (w' := w) rfl ?_
                  refine tm_i (p1 := 72) (p2 := 54) rfl (fun h9 => ?_) (fun h9 => ?_)
                  · replace hs := hs.1 h9
                    refine tm_go 2 (pc' := 77) (L' := [some (.int a0)]) (S' := [.int 1]) (w' := w) rfl ?_
                    exact tm_r rfl ⟨_, rfl, by decide, hs⟩
                  · replace hs := hs.2 h9
                    refine tm_go 2 (pc' := 57) (L' := [some (.int a0)]) (S' := [.int 60, .int a0]) (w' := w) rfl ?_
                    refine tm_i (p1 := 72) (p2 := 60) rfl (fun h10 => ?_) (fun h10 => ?_)
                    · replace hs := hs.1 h10
                      refine tm_go 2 (pc' := 77) (L' := [some (.int a0)]) (S' := [.int 1]) (w' := w) rfl ?_
                      exact tm_r rfl ⟨_, rfl, by decide, hs⟩
                    · replace hs := hs.2 h10
                      refine tm_go 2 (pc' := 63) (L' := [some (.int a0)]) (S' := [.int 61, .int a0]) (w' := w) rfl ?_
                      refine tm_i (p1 := 72) (p2 := 66) rfl (fun h11 => ?_) (fun h11 => ?_)
                      · replace hs := hs.1 h11
                        refine tm_go 2 (pc' := 77) (L' := [some (.int a0)]) (S' := [.int 1]) (w' := w) rfl ?_
                        exact tm_r rfl ⟨_, rfl, by decide, hs⟩
                      · replace hs := hs.2 h11
                        refine tm_go 2 (pc' := 69) (L' := [some (.int a0)]) (S' := [.int 62, .int a0]) (w' := w) rfl ?_
                        refine tm_i (p1 := 76) (p2 := 72) rfl (fun h12 => ?_) (fun h12 => ?_)
                        · replace hs := hs.1 h12
                          refine tm_go 1 (pc' := 77) (L' := [some (.int a0)]) (S' := [.int 0]) (w' := w) rfl ?_
                          exact tm_r rfl ⟨_, rfl, by decide, hs⟩
                        · replace hs := hs.2 h12
                          refine tm_go 2 (pc' := 77) (L' := [some (.int a0)]) (S' := [.int 1]) (w' := w) rfl ?_
                          exact tm_r rfl ⟨_, rfl, by decide, hs⟩
set_option maxHeartbeats 4000000 in
set_option maxRecDepth 100000 in
theorem dm_Rd_refuseByte {d : Nat} {w : MW} {a0 : Int32} {Q : MW → Prop} (hs : p_Rd_refuseByte w a0 Q) : Tc (d + 1) 162 [.ref 87, .int a0] w (RV Q) := by
  unfold p_Rd_refuseByte at hs
  refine tm_go 7 (pc' := 12) (L' := [some (.ref 87), some (.int a0)]) (S' := [.ref 87]) (w' := (sI (sI w 87 3 33) 87 4 a0)) rfl ?_
  refine tm_c rfl (Nat.le_of_ble_eq_true rfl) (dm_Rd_fail (d := d + 0) hs) (fun v w1 hq => ?_)
  obtain ⟨rfl, hs⟩ := hq
  exact tm_r rfl ⟨rfl, hs⟩
set_option maxHeartbeats 4000000 in
set_option maxRecDepth 100000 in
theorem dm_Rd_digitOf {d : Nat} {w : MW} {a0 : Int32} {Q : Int32 → MW → Prop} (hs : p_Rd_digitOf w a0 Q) : Tc (d + 0) 165 [.int a0] w (RI Q) := by
  unfold p_Rd_digitOf at hs
  refine tm_go 2 (pc' := 3) (L' := [some (.int a0)]) (S' := [.int 97, .int a0]) (w' := w) rfl ?_
  refine tm_i (p1 := 15) (p2 := 6) rfl (fun h1 => ?_) (fun h1 => ?_)
  · replace hs := hs.1 h1
    refine tm_go 5 (pc' := 22) (L' := [some (.int a0)]) (S' := [.int ((a0 - (48 : Int32)) + (27 : Int32))]) (w' := w) rfl ?_
    exact tm_r rfl ⟨_, rfl, hs⟩
  · replace hs := hs.2 h1
    refine tm_go 6 (pc' := 22) (L' := [some (.int a0)]) (S' := [.int ((a0 - (97 : Int32)) + (1 : Int32))]) (w' := w) rfl ?_
    exact tm_r rfl ⟨_, rfl, hs⟩
set_option maxHeartbeats 4000000 in
set_option maxRecDepth 100000 in
theorem dm_Tp_isLetter {d : Nat} {w : MW} {a0 : Int32} {Q : Int32 → MW → Prop} (hs : p_Tp_isLetter w a0 Q) : Tc (d + 0) 259 [.int a0] w (RZ Q) := by
  unfold p_Tp_isLetter at hs
  refine tm_go 2 (pc' := 3) (L' := [some (.int a0)]) (S' := [.int 97, .int a0]) (w' := w) rfl ?_
  refine tm_i (p1 := 16) (p2 := 6) rfl (fun h1 => ?_) (fun h1 => ?_)
  · replace hs := hs.1 h1
    refine tm_go 1 (pc' := 17) (L' := [some (.int a0)]) (S' := [.int 0]) (w' := w) rfl ?_
    exact tm_r rfl ⟨_, rfl, by decide, hs⟩
  · replace hs := hs.2 h1
    refine tm_go 2 (pc' := 9) (L' := [some (.int a0)]) (S' := [.int 122, .int a0]) (w' := w) rfl ?_
    refine tm_i (p1 := 16) (p2 := 12) rfl (fun h2 => ?_) (fun h2 => ?_)
    · replace hs := hs.1 h2
      refine tm_go 1 (pc' := 17) (L' := [some (.int a0)]) (S' := [.int 0]) (w' := w) rfl ?_
      exact tm_r rfl ⟨_, rfl, by decide, hs⟩
    · replace hs := hs.2 h2
      refine tm_go 2 (pc' := 17) (L' := [some (.int a0)]) (S' := [.int 1]) (w' := w) rfl ?_
      exact tm_r rfl ⟨_, rfl, by decide, hs⟩
set_option maxHeartbeats 4000000 in
set_option maxRecDepth 100000 in
theorem tx_Rd_scanLetters_39 {d : Nat} {y39_1 : Int32} {y39_2 : Int32}  {w : MW} {A : Int32 → Int32 → MW → Prop} {E : MW → Prop} {Q : MW → Prop} (hs : q_Rd_scanLetters_39 y39_1 y39_2 w A E Q) (hA : ∀ (x19_1 : Int32) (x19_2 : Int32)   (w : MW), A x19_1 x19_2 w → Tm (d + 1) 164 19 [some (.ref 87), some (.int x19_1), some (.int x19_2)] [] w (RV Q)) (hE : ∀  (v1 : Option Value) (v2 : Option Value) (w : MW), E  w → Tm (d + 1) 164 85 [some (.ref 87), v1, v2] [] w (RV Q)) : Tm (d + 1) 164 39 [some (.ref 87), some (.int y39_1), some (.int y39_2)] [] w (RV Q) := by
  unfold q_Rd_scanLetters_39 at hs
  refine tm_go 6 (pc' := 49) (L' := [some (.ref 87), some (.int y39_1), some (.int y39_2)]) (S' := [.int y39_1, .long ((w.2.1 87 5) * (37 : Int64)), .ref 87]) (w' := w) rfl ?_
  refine tm_c rfl (Nat.le_of_ble_eq_true rfl) (dm_Rd_digitOf (d := d + 0) hs) (fun v w6 hq => ?_)
  obtain ⟨r6, rfl, hs⟩ := hq
  refine tm_go 10 (pc' := 68) (L' := [some (.ref 87), some (.int y39_1), some (.int y39_2)]) (S' := [.ref 87]) (w' := (sI (sJ w6 87 5 (((w.2.1 87 5) * (37 : Int64)) + (Int32.toInt64 r6))) 87 2 ((w6.1 87 2) + (1 : Int32)))) rfl ?_
  obtain ⟨b7, hs⟩ := hs
  refine tm_g (pc' := 71) (k := 87) (j := 0) rfl b7 ?_
  refine tm_go 2 (pc' := 75) (L' := [some (.ref 87), some (.int y39_1), some (.int y39_2)]) (S' := [.int ((w6.1 87 2) + (1 : Int32)), .ref 1]) (w' := (sI (sJ w6 87 5 (((w.2.1 87 5) * (37 : Int64)) + (Int32.toInt64 r6))) 87 2 ((w6.1 87 2) + (1 : Int32)))) rfl ?_
  refine tm_c rfl (Nat.le_of_ble_eq_true rfl) (dm_Tp_at (d := d + 0) hs) (fun v w8 hq => ?_)
  obtain ⟨r8, rfl, hs⟩ := hq
  refine tm_go 3 (pc' := 19) (L' := [some (.ref 87), some (.int r8), some (.int (y39_2 + (1 : Int32)))]) (S' := []) (w' := w8) rfl ?_
  exact hA _ _ _ hs
set_option maxHeartbeats 4000000 in
set_option maxRecDepth 100000 in
theorem tx_Rd_scanLetters_19 {d : Nat} {E : MW → Prop} {Q : MW → Prop} (n : Nat) : ∀ (x19_1 : Int32) (x19_2 : Int32)   (w : MW), q_Rd_scanLetters_19  E Q n x19_1 x19_2 w → (∀  (v1 : Option Value) (v2 : Option Value) (w : MW), E  w → Tm (d + 1) 164 85 [some (.ref 87), v1, v2] [] w (RV Q)) → Tm (d + 1) 164 19 [some (.ref 87), some (.int x19_1), some (.int x19_2)] [] w (RV Q) := by
  induction n with
  | zero => intro x19_1 x19_2  w hs; rw [q_Rd_scanLetters_19.eq_1] at hs; exact hs.elim
  | succ n ih =>
    intro x19_1 x19_2  w hs hE
    rw [q_Rd_scanLetters_19.eq_2] at hs
    refine tm_go 2 (pc' := 22) (L' := [some (.ref 87), some (.int x19_1), some (.int x19_2)]) (S' := [.int 12, .int x19_2]) (w' := w) rfl ?_
    refine tm_i (p1 := 85) (p2 := 25) rfl (fun h3 => ?_) (fun h3 => ?_)
    · replace hs := hs.1 h3
      exact hE _ _ _ hs
    · replace hs := hs.2 h3
      refine tm_go 1 (pc' := 26) (L' := [some (.ref 87), some (.int x19_1), some (.int x19_2)]) (S' := [.int x19_1]) (w' := w) rfl ?_
      refine tm_c rfl (Nat.le_of_ble_eq_true rfl) (dm_Tp_isLetter (d := d + 0) hs) (fun v w4 hq => ?_)
      obtain ⟨r4, rfl, hz4, hs⟩ := hq
      refine tm_i (p1 := 39) (p2 := 32) rfl (fun h5 => ?_) (fun h5 => ?_)
      · replace hs := hs.1 h5
        exact tx_Rd_scanLetters_39 hs (fun q0 q1 q2 hs => ih q0 q1 q2 hs hE) hE
      · replace hs := hs.2 h5
        refine tm_go 1 (pc' := 33) (L' := [some (.ref 87), some (.int x19_1), some (.int x19_2)]) (S' := [.int x19_1]) (w' := w4) rfl ?_
        refine tm_c rfl (Nat.le_of_ble_eq_true rfl) (dm_Tp_isDigit (d := d + 0) hs) (fun v w9 hq => ?_)
        obtain ⟨r9, rfl, hz9, hs⟩ := hq
        refine tm_i (p1 := 85) (p2 := 39) rfl (fun h10 => ?_) (fun h10 => ?_)
        · replace hs := hs.1 h10
          exact hE _ _ _ hs
        · replace hs := hs.2 h10
          exact tx_Rd_scanLetters_39 hs (fun q0 q1 q2 hs => ih q0 q1 q2 hs hE) hE
set_option maxHeartbeats 4000000 in
set_option maxRecDepth 100000 in
theorem tx_Rd_scanLetters_93 {d : Nat} {E : MW → Prop} {Q : MW → Prop} (n : Nat) : ∀ (x93_2 : Int32)  (z1 : Option Value) (w : MW), q_Rd_scanLetters_93  E Q n x93_2 w → (∀  (v0 : Option Value) (v1 : Option Value) (v2 : Option Value) (w : MW), E  w → Tm (d + 1) 164 143 [v0, v1, v2] [] w (RV Q)) → Tm (d + 1) 164 93 [some (.ref 87), z1, some (.int x93_2)] [] w (RV Q) := by
  induction n with
  | zero => intro x93_2 z1 w hs; rw [q_Rd_scanLetters_93.eq_1] at hs; exact hs.elim
  | succ n ih =>
    intro x93_2 z1 w hs hE
    rw [q_Rd_scanLetters_93.eq_2] at hs
    refine tm_go 4 (pc' := 99) (L' := [some (.ref 87), z1, some (.int x93_2)]) (S' := [.int 26, .int x93_2]) (w' := w) rfl ?_
    refine tm_i (p1 := 143) (p2 := 102) rfl (fun h12 => ?_) (fun h12 => ?_)
    · replace hs := hs.1 h12
      exact hE _ _ _ _ hs
    · replace hs := hs.2 h12
      refine tm_go 3 (pc' := 108) (L' := [some (.ref 87), z1, some (.int x93_2)]) (S' := [.int 30, .int (w.1 87 3)]) (w' := w) rfl ?_
      refine tm_i (p1 := 143) (p2 := 111) rfl (fun h13 => ?_) (fun h13 => ?_)
      · replace hs := hs.1 h13
        exact hE _ _ _ _ hs
      · replace hs := hs.2 h13
        refine tm_go 4 (pc' := 117) (L' := [some (.ref 87), z1, some (.int x93_2)]) (S' := [.int x93_2, .ref 90, .ref 87]) (w' := w) rfl ?_
        obtain ⟨b14, hs⟩ := hs
        refine tm_k (pc' := 118) (L' := [some (.ref 87), z1, some (.int x93_2)]) (S' := [.long (w.2.1 90 x93_2.toInt.toNat), .ref 87]) (w' := w) rfl b14 ?_
        refine tm_go 3 (pc' := 123) (L' := [some (.ref 87), z1, some (.int x93_2)]) (S' := [.int (lg_cmp (w.2.1 90 x93_2.toInt.toNat) (w.2.1 87 5)), .ref 87]) (w' := w) rfl ?_
        refine tm_i (p1 := 132) (p2 := 126) rfl (fun h15 => ?_) (fun h15 => ?_)
        · replace hs := hs.1 h15
          refine tm_go 4 (pc' := 93) (L' := [some (.ref 87), (ksl z1), some (.int (x93_2 + (1 : Int32)))]) (S' := []) (w' := (sI w 87 3 30)) rfl ?_
          exact ih _ _ _ hs hE
        · replace hs := hs.2 h15
          refine tm_go 7 (pc' := 93) (L' := [some (.ref 87), (ksl z1), some (.int (x93_2 + (1 : Int32)))]) (S' := []) (w' := (sI w 87 3 (x93_2 + (1 : Int32)))) rfl ?_
          exact ih _ _ _ hs hE
set_option maxHeartbeats 4000000 in
set_option maxRecDepth 100000 in
theorem dm_Rd_scanLetters {d : Nat} {w : MW} {Q : MW → Prop} (hs : p_Rd_scanLetters w Q) : Tc (d + 1) 164 [.ref 87] w (RV Q) := by
  unfold p_Rd_scanLetters at hs
  refine tm_go 4 (pc' := 6) (L' := [some (.ref 87), none, none]) (S' := [.ref 87]) (w' := (sJ w 87 5 0)) rfl ?_
  obtain ⟨b1, hs⟩ := hs
  refine tm_g (pc' := 9) (k := 87) (j := 0) rfl b1 ?_
  refine tm_go 2 (pc' := 13) (L' := [some (.ref 87), none, none]) (S' := [.int (w.1 87 2), .ref 1]) (w' := (sJ w 87 5 0)) rfl ?_
  refine tm_c rfl (Nat.le_of_ble_eq_true rfl) (dm_Tp_at (d := d + 0) hs) (fun v w2 hq => ?_)
  obtain ⟨r2, rfl, hs⟩ := hq
  refine tm_go 3 (pc' := 19) (L' := [some (.ref 87), some (.int r2), some (.int 0)]) (S' := []) (w' := w2) rfl ?_
  refine tx_Rd_scanLetters_19 FU _ _ _ hs (fun  z11_1 z11_2 w11 hs => ?_)
  refine tm_go 5 (pc' := 93) (L' := [some (.ref 87), (ksl z11_1), some (.int 0)]) (S' := []) (w' := (sI w11 87 3 30)) rfl ?_
  refine tx_Rd_scanLetters_93 FU _ _ _ hs (fun  z16_0 z16_1 z16_2 w16 hs => ?_)
  exact tm_r rfl ⟨rfl, hs⟩
set_option maxHeartbeats 4000000 in
set_option maxRecDepth 100000 in
theorem tx_Rd_scanNumber_13 {d : Nat} {E : MW → Prop} {Q : MW → Prop} (n : Nat) : ∀ (x13_1 : Int32)   (w : MW), q_Rd_scanNumber_13  E Q n x13_1 w → (∀  (v1 : Option Value) (w : MW), E  w → Tm (d + 1) 166 81 [some (.ref 87), v1] [] w (RV Q)) → Tm (d + 1) 166 13 [some (.ref 87), some (.int x13_1)] [] w (RV Q) := by
  induction n with
  | zero => intro x13_1  w hs; rw [q_Rd_scanNumber_13.eq_1] at hs; exact hs.elim
  | succ n ih =>
    intro x13_1  w hs hE
    rw [q_Rd_scanNumber_13.eq_2] at hs
    refine tm_go 2 (pc' := 16) (L' := [some (.ref 87), some (.int x13_1)]) (S' := [.int 9, .int x13_1]) (w' := w) rfl ?_
    refine tm_i (p1 := 81) (p2 := 19) rfl (fun h1 => ?_) (fun h1 => ?_)
    · replace hs := hs.1 h1
      exact hE _ _ hs
    · replace hs := hs.2 h1
      refine tm_go 1 (pc' := 20) (L' := [some (.ref 87), some (.int x13_1)]) (S' := [.ref 87]) (w' := w) rfl ?_
      obtain ⟨b2, hs⟩ := hs
      refine tm_g (pc' := 23) (k := 87) (j := 0) rfl b2 ?_
      refine tm_go 2 (pc' := 27) (L' := [some (.ref 87), some (.int x13_1)]) (S' := [.int (w.1 87 2), .ref 1]) (w' := w) rfl ?_
      refine tm_c rfl (Nat.le_of_ble_eq_true rfl) (dm_Tp_at (d := d + 0) hs) (fun v w3 hq => ?_)
      obtain ⟨r3, rfl, hs⟩ := hq
      refine tm_c rfl (Nat.le_of_ble_eq_true rfl) (dm_Tp_isDigit (d := d + 0) hs) (fun v w4 hq => ?_)
      obtain ⟨r4, rfl, hz4, hs⟩ := hq
      refine tm_i (p1 := 81) (p2 := 36) rfl (fun h5 => ?_) (fun h5 => ?_)
      · replace hs := hs.1 h5
        exact hE _ _ hs
      · replace hs := hs.2 h5
        refine tm_go 6 (pc' := 46) (L' := [some (.ref 87), some (.int x13_1)]) (S' := [.ref 87, .long ((w4.2.1 87 6) * (10 : Int64)), .ref 87]) (w' := w4) rfl ?_
        obtain ⟨b6, hs⟩ := hs
        refine tm_g (pc' := 49) (k := 87) (j := 0) rfl b6 ?_
        refine tm_go 2 (pc' := 53) (L' := [some (.ref 87), some (.int x13_1)]) (S' := [.int (w4.1 87 2), .ref 1, .long ((w4.2.1 87 6) * (10 : Int64)), .ref 87]) (w' := w4) rfl ?_
        refine tm_c rfl (Nat.le_of_ble_eq_true rfl) (dm_Tp_at (d := d + 0) hs) (fun v w7 hq => ?_)
        obtain ⟨r7, rfl, hs⟩ := hq
        refine tm_go 13 (pc' := 13) (L' := [some (.ref 87), some (.int (x13_1 + (1 : Int32)))]) (S' := []) (w' := (sI (sJ w7 87 6 ((((w4.2.1 87 6) * (10 : Int64)) + (Int32.toInt64 r7)) - (48 : Int64))) 87 2 ((w7.1 87 2) + (1 : Int32)))) rfl ?_
        exact ih _ _ hs hE
set_option maxHeartbeats 4000000 in
set_option maxRecDepth 100000 in
theorem tx_Rd_scanNumber_172 {d : Nat} {E : MW → Prop} {Q : MW → Prop} (n : Nat) : ∀ (x172_1 : Int32)   (w : MW), q_Rd_scanNumber_172  E Q n x172_1 w → (∀  (v0 : Option Value) (v1 : Option Value) (w : MW), E  w → Tm (d + 1) 166 237 [v0, v1] [] w (RV Q)) → Tm (d + 1) 166 172 [some (.ref 87), some (.int x172_1)] [] w (RV Q) := by
  induction n with
  | zero => intro x172_1  w hs; rw [q_Rd_scanNumber_172.eq_1] at hs; exact hs.elim
  | succ n ih =>
    intro x172_1  w hs hE
    rw [q_Rd_scanNumber_172.eq_2] at hs
    refine tm_go 1 (pc' := 173) (L' := [some (.ref 87), some (.int x172_1)]) (S' := [.int x172_1]) (w' := w) rfl ?_
    refine tm_i (p1 := 237) (p2 := 176) rfl (fun h13 => ?_) (fun h13 => ?_)
    · replace hs := hs.1 h13
      exact hE _ _ _ hs
    · replace hs := hs.2 h13
      refine tm_go 1 (pc' := 177) (L' := [some (.ref 87), some (.int x172_1)]) (S' := [.ref 87]) (w' := w) rfl ?_
      obtain ⟨b14, hs⟩ := hs
      refine tm_g (pc' := 180) (k := 87) (j := 0) rfl b14 ?_
      refine tm_go 2 (pc' := 184) (L' := [some (.ref 87), some (.int x172_1)]) (S' := [.int (w.1 87 2), .ref 1]) (w' := w) rfl ?_
      refine tm_c rfl (Nat.le_of_ble_eq_true rfl) (dm_Tp_at (d := d + 0) hs) (fun v w15 hq => ?_)
      obtain ⟨r15, rfl, hs⟩ := hq
      refine tm_c rfl (Nat.le_of_ble_eq_true rfl) (dm_Tp_isDigit (d := d + 0) hs) (fun v w16 hq => ?_)
      obtain ⟨r16, rfl, hz16, hs⟩ := hq
      refine tm_i (p1 := 237) (p2 := 193) rfl (fun h17 => ?_) (fun h17 => ?_)
      · replace hs := hs.1 h17
        exact hE _ _ _ hs
      · replace hs := hs.2 h17
        refine tm_go 5 (pc' := 200) (L' := [some (.ref 87), some (.int x172_1)]) (S' := [.ref 87, .int x172_1, .long (w16.2.1 87 6), .ref 87]) (w' := w16) rfl ?_
        obtain ⟨b18, hs⟩ := hs
        refine tm_g (pc' := 203) (k := 87) (j := 0) rfl b18 ?_
        refine tm_go 2 (pc' := 207) (L' := [some (.ref 87), some (.int x172_1)]) (S' := [.int (w16.1 87 2), .ref 1, .int x172_1, .long (w16.2.1 87 6), .ref 87]) (w' := w16) rfl ?_
        refine tm_c rfl (Nat.le_of_ble_eq_true rfl) (dm_Tp_at (d := d + 0) hs) (fun v w19 hq => ?_)
        obtain ⟨r19, rfl, hs⟩ := hq
        refine tm_go 17 (pc' := 172) (L' := [some (.ref 87), some (.int (x172_1 / (10 : Int32)))]) (S' := []) (w' := (sI (sJ w19 87 6 ((w16.2.1 87 6) + (Int32.toInt64 (x172_1 * (r19 - (48 : Int32)))))) 87 2 ((w19.1 87 2) + (1 : Int32)))) rfl ?_
        exact ih _ _ hs hE
set_option maxHeartbeats 4000000 in
set_option maxRecDepth 100000 in
theorem tx_Rd_scanNumber_154 {d : Nat} {ys154_0 : Int32} {ys154_1 : Int32} {z1 : Option Value} {w : MW} {Q : MW → Prop} (hs : q_Rd_scanNumber_154 ys154_0 ys154_1 w Q) : Tm (d + 1) 166 154 [some (.ref 87), z1] [.int ys154_0, .int ys154_1, .ref 87] w (RV Q) := by
  unfold q_Rd_scanNumber_154 at hs
  refine tm_go 4 (pc' := 162) (L' := [some (.ref 87), z1]) (S' := [.int (w.1 87 7)]) (w' := (sI w 87 2 (ys154_1 + ys154_0))) rfl ?_
  refine tm_i (p1 := 170) (p2 := 165) rfl (fun h12 => ?_) (fun h12 => ?_)
  · replace hs := hs.1 h12
    refine tm_go 2 (pc' := 172) (L' := [some (.ref 87), some (.int 0)]) (S' := []) (w' := (sI w 87 2 (ys154_1 + ys154_0))) rfl ?_
    refine tx_Rd_scanNumber_172 FU _ _ hs (fun  z20_0 z20_1 w20 hs => ?_)
    exact tm_r rfl ⟨rfl, hs⟩
  · replace hs := hs.2 h12
    refine tm_go 3 (pc' := 172) (L' := [some (.ref 87), some (.int 100)]) (S' := []) (w' := (sI w 87 2 (ys154_1 + ys154_0))) rfl ?_
    refine tx_Rd_scanNumber_172 FU _ _ hs (fun  z21_0 z21_1 w21 hs => ?_)
    exact tm_r rfl ⟨rfl, hs⟩
set_option maxHeartbeats 4000000 in
set_option maxRecDepth 100000 in
theorem dm_Rd_scanNumber {d : Nat} {w : MW} {Q : MW → Prop} (hs : p_Rd_scanNumber w Q) : Tc (d + 1) 166 [.ref 87] w (RV Q) := by
  unfold p_Rd_scanNumber at hs
  refine tm_go 8 (pc' := 13) (L' := [some (.ref 87), some (.int 0)]) (S' := []) (w' := (sJ (sI w 87 3 31) 87 6 0)) rfl ?_
  refine tx_Rd_scanNumber_13 FU _ _ hs (fun  z8_1 w8 hs => ?_)
  refine tm_go 8 (pc' := 95) (L' := [some (.ref 87), z8_1]) (S' := [.ref 87, .ref 87]) (w' := (sJ w8 87 6 ((w8.2.1 87 6) * (1000 : Int64)))) rfl ?_
  obtain ⟨b9, hs⟩ := hs
  refine tm_g (pc' := 98) (k := 87) (j := 0) rfl b9 ?_
  refine tm_go 2 (pc' := 102) (L' := [some (.ref 87), z8_1]) (S' := [.int (w8.1 87 2), .ref 1, .ref 87]) (w' := (sJ w8 87 6 ((w8.2.1 87 6) * (1000 : Int64)))) rfl ?_
  refine tm_c rfl (Nat.le_of_ble_eq_true rfl) (dm_Tp_at (d := d + 0) hs) (fun v w10 hq => ?_)
  obtain ⟨r10, rfl, hs⟩ := hq
  refine tm_go 1 (pc' := 107) (L' := [some (.ref 87), z8_1]) (S' := [.int 46, .int r10, .ref 87]) (w' := w10) rfl ?_
  refine tm_i (p1 := 133) (p2 := 110) rfl (fun h11 => ?_) (fun h11 => ?_)
  · replace hs := hs.1 h11
    refine tm_go 9 (pc' := 154) (L' := [some (.ref 87), z8_1]) (S' := [.int 0, .int (w10.1 87 2), .ref 87]) (w' := (sI w10 87 7 0)) rfl ?_
    exact tx_Rd_scanNumber_154 hs 
  · replace hs := hs.2 h11
    refine tm_go 1 (pc' := 111) (L' := [some (.ref 87), z8_1]) (S' := [.ref 87, .ref 87]) (w' := w10) rfl ?_
    obtain ⟨b22, hs⟩ := hs
    refine tm_g (pc' := 114) (k := 87) (j := 0) rfl b22 ?_
    refine tm_go 4 (pc' := 120) (L' := [some (.ref 87), z8_1]) (S' := [.int ((w10.1 87 2) + (1 : Int32)), .ref 1, .ref 87]) (w' := w10) rfl ?_
    refine tm_c rfl (Nat.le_of_ble_eq_true rfl) (dm_Tp_at (d := d + 0) hs) (fun v w23 hq => ?_)
    obtain ⟨r23, rfl, hs⟩ := hq
    refine tm_c rfl (Nat.le_of_ble_eq_true rfl) (dm_Tp_isDigit (d := d + 0) hs) (fun v w24 hq => ?_)
    obtain ⟨r24, rfl, hz24, hs⟩ := hq
    refine tm_i (p1 := 133) (p2 := 129) rfl (fun h25 => ?_) (fun h25 => ?_)
    · replace hs := hs.1 h25
      refine tm_go 9 (pc' := 154) (L' := [some (.ref 87), z8_1]) (S' := [.int 0, .int (w24.1 87 2), .ref 87]) (w' := (sI w24 87 7 0)) rfl ?_
      exact tx_Rd_scanNumber_154 hs 
    · replace hs := hs.2 h25
      refine tm_go 11 (pc' := 154) (L' := [some (.ref 87), z8_1]) (S' := [.int 1, .int (w24.1 87 2), .ref 87]) (w' := (sI w24 87 7 1)) rfl ?_
      exact tx_Rd_scanNumber_154 hs 
set_option maxHeartbeats 4000000 in
set_option maxRecDepth 100000 in
theorem dm_Tp_isBlank {d : Nat} {w : MW} {a0 : Int32} {Q : Int32 → MW → Prop} (hs : p_Tp_isBlank w a0 Q) : Tc (d + 0) 260 [.int a0] w (RZ Q) := by
  unfold p_Tp_isBlank at hs
  refine tm_go 2 (pc' := 3) (L' := [some (.int a0)]) (S' := [.int 32, .int a0]) (w' := w) rfl ?_
  refine tm_i (p1 := 12) (p2 := 6) rfl (fun h1 => ?_) (fun h1 => ?_)
  · replace hs := hs.1 h1
    refine tm_go 2 (pc' := 17) (L' := [some (.int a0)]) (S' := [.int 1]) (w' := w) rfl ?_
    exact tm_r rfl ⟨_, rfl, by decide, hs⟩
  · replace hs := hs.2 h1
    refine tm_go 2 (pc' := 9) (L' := [some (.int a0)]) (S' := [.int 10, .int a0]) (w' := w) rfl ?_
    refine tm_i (p1 := 16) (p2 := 12) rfl (fun h2 => ?_) (fun h2 => ?_)
    · replace hs := hs.1 h2
      refine tm_go 1 (pc' := 17) (L' := [some (.int a0)]) (S' := [.int 0]) (w' := w) rfl ?_
      exact tm_r rfl ⟨_, rfl, by decide, hs⟩
    · replace hs := hs.2 h2
      refine tm_go 2 (pc' := 17) (L' := [some (.int a0)]) (S' := [.int 1]) (w' := w) rfl ?_
      exact tm_r rfl ⟨_, rfl, by decide, hs⟩
set_option maxHeartbeats 4000000 in
set_option maxRecDepth 100000 in
theorem tx_Rd_nextWord_0 {d : Nat} {E : MW → Prop} {Q : MW → Prop} (n : Nat) : ∀  (z1 : Option Value) (w : MW), q_Rd_nextWord_0  E Q n  w → (∀  (v1 : Option Value) (w : MW), E  w → Tm (d + 2) 161 44 [some (.ref 87), v1] [] w (RV Q)) → Tm (d + 2) 161 0 [some (.ref 87), z1] [] w (RV Q) := by
  induction n with
  | zero => intro  z1 w hs; rw [q_Rd_nextWord_0.eq_1] at hs; exact hs.elim
  | succ n ih =>
    intro  z1 w hs hE
    rw [q_Rd_nextWord_0.eq_2] at hs
    refine tm_go 3 (pc' := 5) (L' := [some (.ref 87), z1]) (S' := [.ref 87, .int (w.1 87 2)]) (w' := w) rfl ?_
    obtain ⟨b1, hs⟩ := hs
    refine tm_g (pc' := 8) (k := 87) (j := 0) rfl b1 ?_
    refine tm_go 1 (pc' := 11) (L' := [some (.ref 87), z1]) (S' := [.int (w.1 1 2), .int (w.1 87 2)]) (w' := w) rfl ?_
    refine tm_i (p1 := 44) (p2 := 14) rfl (fun h2 => ?_) (fun h2 => ?_)
    · replace hs := hs.1 h2
      exact hE _ _ hs
    · replace hs := hs.2 h2
      refine tm_go 1 (pc' := 15) (L' := [some (.ref 87), z1]) (S' := [.ref 87]) (w' := w) rfl ?_
      obtain ⟨b3, hs⟩ := hs
      refine tm_g (pc' := 18) (k := 87) (j := 0) rfl b3 ?_
      refine tm_go 2 (pc' := 22) (L' := [some (.ref 87), z1]) (S' := [.int (w.1 87 2), .ref 1]) (w' := w) rfl ?_
      refine tm_c rfl (Nat.le_of_ble_eq_true rfl) (dm_Tp_at (d := d + 1) hs) (fun v w4 hq => ?_)
      obtain ⟨r4, rfl, hs⟩ := hq
      refine tm_c rfl (Nat.le_of_ble_eq_true rfl) (dm_Tp_isBlank (d := d + 1) hs) (fun v w5 hq => ?_)
      obtain ⟨r5, rfl, hz5, hs⟩ := hq
      refine tm_i (p1 := 44) (p2 := 31) rfl (fun h6 => ?_) (fun h6 => ?_)
      · replace hs := hs.1 h6
        exact hE _ _ hs
      · replace hs := hs.2 h6
        refine tm_go 7 (pc' := 0) (L' := [some (.ref 87), z1]) (S' := []) (w' := (sI w5 87 2 ((w5.1 87 2) + (1 : Int32)))) rfl ?_
        exact ih _ _ hs hE
set_option maxHeartbeats 4000000 in
set_option maxRecDepth 100000 in
theorem tx_Rd_nextWord_144 {d : Nat} {z1 : Option Value} {w : MW} {Q : MW → Prop} (hs : q_Rd_nextWord_144  w Q) : Tm (d + 2) 161 144 [some (.ref 87), z1] [] w (RV Q) := by
  unfold q_Rd_nextWord_144 at hs
  refine tm_go 1 (pc' := 145) (L' := [some (.ref 87), z1]) (S' := [.ref 87]) (w' := w) rfl ?_
  obtain ⟨b20, hs⟩ := hs
  refine tm_g (pc' := 148) (k := 87) (j := 0) rfl b20 ?_
  refine tm_go 2 (pc' := 152) (L' := [some (.ref 87), z1]) (S' := [.int (w.1 87 2), .ref 1]) (w' := w) rfl ?_
  refine tm_c rfl (Nat.le_of_ble_eq_true rfl) (dm_Tp_at (d := d + 1) hs) (fun v w21 hq => ?_)
  obtain ⟨r21, rfl, hs⟩ := hq
  refine tm_go 2 (pc' := 157) (L' := [some (.ref 87), some (.int r21)]) (S' := [.int r21]) (w' := w21) rfl ?_
  refine tm_c rfl (Nat.le_of_ble_eq_true rfl) (dm_Tp_isLetter (d := d + 1) hs) (fun v w22 hq => ?_)
  obtain ⟨r22, rfl, hz22, hs⟩ := hq
  refine tm_i (p1 := 176) (p2 := 163) rfl (fun h23 => ?_) (fun h23 => ?_)
  · replace hs := hs.1 h23
    refine tm_go 3 (pc' := 181) (L' := [some (.ref 87), some (.int r21)]) (S' := [.int (w22.1 87 2), .ref 87]) (w' := w22) rfl ?_
    refine tm_c rfl (Nat.le_of_ble_eq_true rfl) (dm_Rd_refuseByte (d := d + 0) hs) (fun v w24 hq => ?_)
    obtain ⟨rfl, hs⟩ := hq
    exact tm_r rfl ⟨rfl, hs⟩
  · replace hs := hs.2 h23
    refine tm_go 1 (pc' := 164) (L' := [some (.ref 87), some (.int r21)]) (S' := [.int r21]) (w' := w22) rfl ?_
    refine tm_c rfl (Nat.le_of_ble_eq_true rfl) (dm_Tp_isDigit (d := d + 1) hs) (fun v w25 hq => ?_)
    obtain ⟨r25, rfl, hz25, hs⟩ := hq
    refine tm_i (p1 := 176) (p2 := 170) rfl (fun h26 => ?_) (fun h26 => ?_)
    · replace hs := hs.1 h26
      refine tm_go 3 (pc' := 181) (L' := [some (.ref 87), some (.int r21)]) (S' := [.int (w25.1 87 2), .ref 87]) (w' := w25) rfl ?_
      refine tm_c rfl (Nat.le_of_ble_eq_true rfl) (dm_Rd_refuseByte (d := d + 0) hs) (fun v w27 hq => ?_)
      obtain ⟨rfl, hs⟩ := hq
      exact tm_r rfl ⟨rfl, hs⟩
    · replace hs := hs.2 h26
      refine tm_go 2 (pc' := 173) (L' := [some (.ref 87), some (.int r21)]) (S' := [.int 46, .int r21]) (w' := w25) rfl ?_
      refine tm_i (p1 := 184) (p2 := 176) rfl (fun h28 => ?_) (fun h28 => ?_)
      · replace hs := hs.1 h28
        exact tm_r rfl ⟨rfl, hs⟩
      · replace hs := hs.2 h28
        refine tm_go 3 (pc' := 181) (L' := [some (.ref 87), some (.int r21)]) (S' := [.int (w25.1 87 2), .ref 87]) (w' := w25) rfl ?_
        refine tm_c rfl (Nat.le_of_ble_eq_true rfl) (dm_Rd_refuseByte (d := d + 0) hs) (fun v w29 hq => ?_)
        obtain ⟨rfl, hs⟩ := hq
        exact tm_r rfl ⟨rfl, hs⟩
set_option maxHeartbeats 4000000 in
set_option maxRecDepth 100000 in
theorem dm_Rd_nextWord {d : Nat} {w : MW} {Q : MW → Prop} (hs : p_Rd_nextWord w Q) : Tc (d + 2) 161 [.ref 87] w (RV Q) := by
  unfold p_Rd_nextWord at hs
  refine tx_Rd_nextWord_0 FU _ _ hs (fun  z7_1 w7 hs => ?_)
  refine tm_go 5 (pc' := 53) (L' := [some (.ref 87), z7_1]) (S' := [.ref 87]) (w' := (sI w7 87 4 (w7.1 87 2))) rfl ?_
  obtain ⟨b8, hs⟩ := hs
  refine tm_g (pc' := 56) (k := 87) (j := 0) rfl b8 ?_
  refine tm_go 2 (pc' := 60) (L' := [some (.ref 87), z7_1]) (S' := [.int (w7.1 87 2), .ref 1]) (w' := (sI w7 87 4 (w7.1 87 2))) rfl ?_
  refine tm_c rfl (Nat.le_of_ble_eq_true rfl) (dm_Tp_at (d := d + 1) hs) (fun v w9 hq => ?_)
  obtain ⟨r9, rfl, hs⟩ := hq
  refine tm_go 4 (pc' := 69) (L' := [some (.ref 87), some (.int r9)]) (S' := [.ref 87, .int (w9.1 87 2)]) (w' := w9) rfl ?_
  obtain ⟨b10, hs⟩ := hs
  refine tm_g (pc' := 72) (k := 87) (j := 0) rfl b10 ?_
  refine tm_go 1 (pc' := 75) (L' := [some (.ref 87), some (.int r9)]) (S' := [.int (w9.1 1 2), .int (w9.1 87 2)]) (w' := w9) rfl ?_
  refine tm_i (p1 := 85) (p2 := 78) rfl (fun h11 => ?_) (fun h11 => ?_)
  · replace hs := hs.1 h11
    refine tm_go 1 (pc' := 86) (L' := [some (.ref 87), some (.int r9)]) (S' := [.int r9]) (w' := w9) rfl ?_
    refine tm_c rfl (Nat.le_of_ble_eq_true rfl) (dm_Tp_isLetter (d := d + 1) hs) (fun v w12 hq => ?_)
    obtain ⟨r12, rfl, hz12, hs⟩ := hq
    refine tm_i (p1 := 99) (p2 := 92) rfl (fun h13 => ?_) (fun h13 => ?_)
    · replace hs := hs.1 h13
      refine tm_go 1 (pc' := 100) (L' := [some (.ref 87), some (.int r9)]) (S' := [.int r9]) (w' := w12) rfl ?_
      refine tm_c rfl (Nat.le_of_ble_eq_true rfl) (dm_Tp_isDigit (d := d + 1) hs) (fun v w14 hq => ?_)
      obtain ⟨r14, rfl, hz14, hs⟩ := hq
      refine tm_i (p1 := 113) (p2 := 106) rfl (fun h15 => ?_) (fun h15 => ?_)
      · replace hs := hs.1 h15
        refine tm_go 10 (pc' := 129) (L' := [some (.ref 87), some (.int r9)]) (S' := [.int r9]) (w' := (sI (sI w14 87 3 r9) 87 2 ((w14.1 87 2) + (1 : Int32)))) rfl ?_
        refine tm_c rfl (Nat.le_of_ble_eq_true rfl) (dm_Rd_isMark (d := d + 1) hs) (fun v w16 hq => ?_)
        obtain ⟨r16, rfl, hz16, hs⟩ := hq
        refine tm_i (p1 := 143) (p2 := 135) rfl (fun h17 => ?_) (fun h17 => ?_)
        · replace hs := hs.1 h17
          exact tm_r rfl ⟨rfl, hs⟩
        · replace hs := hs.2 h17
          refine tm_go 3 (pc' := 140) (L' := [some (.ref 87), some (.int r9)]) (S' := [.int (w16.1 87 4), .ref 87]) (w' := w16) rfl ?_
          refine tm_c rfl (Nat.le_of_ble_eq_true rfl) (dm_Rd_refuseByte (d := d + 0) hs) (fun v w18 hq => ?_)
          obtain ⟨rfl, hs⟩ := hq
          exact tm_r rfl ⟨rfl, hs⟩
      · replace hs := hs.2 h15
        refine tm_go 1 (pc' := 107) (L' := [some (.ref 87), some (.int r9)]) (S' := [.ref 87]) (w' := w14) rfl ?_
        refine tm_c rfl (Nat.le_of_ble_eq_true rfl) (dm_Rd_scanNumber (d := d + 0) hs) (fun v w19 hq => ?_)
        obtain ⟨rfl, hs⟩ := hq
        refine tm_go 1 (pc' := 144) (L' := [some (.ref 87), some (.int r9)]) (S' := []) (w' := w19) rfl ?_
        exact tx_Rd_nextWord_144 hs 
    · replace hs := hs.2 h13
      refine tm_go 1 (pc' := 93) (L' := [some (.ref 87), some (.int r9)]) (S' := [.ref 87]) (w' := w12) rfl ?_
      refine tm_c rfl (Nat.le_of_ble_eq_true rfl) (dm_Rd_scanLetters (d := d + 0) hs) (fun v w30 hq => ?_)
      obtain ⟨rfl, hs⟩ := hq
      refine tm_go 1 (pc' := 144) (L' := [some (.ref 87), some (.int r9)]) (S' := []) (w' := w30) rfl ?_
      exact tx_Rd_nextWord_144 hs 
  · replace hs := hs.2 h11
    refine tm_go 3 (pc' := 84) (L' := [some (.ref 87), some (.int r9)]) (S' := []) (w' := (sI w9 87 3 32)) rfl ?_
    exact tm_r rfl ⟨rfl, hs⟩
