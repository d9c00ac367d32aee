set_option maxHeartbeats 4000000 in
set_option maxRecDepth 100000 in
theorem tx_Mo_closeAll_0 {d : Nat} {E : MW → Prop} {Q : MW → Prop} (n : Nat) : ∀   (w : MW), q_Mo_closeAll_0  E Q n  w → (∀  (v0 : Option Value) (w : MW), E  w → Tm (d + 2) 78 20 [v0] [] w (RV Q)) → Tm (d + 2) 78 0 [some (.ref 127)] [] w (RV Q) := by
  induction n with
  | zero => intro   w hs; rw [q_Mo_closeAll_0.eq_1] at hs; exact hs.elim
  | succ n ih =>
    intro   w hs hE
    rw [q_Mo_closeAll_0.eq_2] at hs
    refine tm_go 2 (pc' := 4) (L' := [some (.ref 127)]) (S' := [.int (w.1 127 26)]) (w' := w) rfl ?_
    refine tm_i (p1 := 20) (p2 := 7) rfl (fun h1 => ?_) (fun h1 => ?_)
    · replace hs := hs.1 h1
      exact hE _ _ hs
    · replace hs := hs.2 h1
      refine tm_go 5 (pc' := 14) (L' := [some (.ref 127)]) (S' := [.int ((w.1 127 26) - (1 : Int32)), .ref 127]) (w' := w) rfl ?_
      refine tm_c rfl (Nat.le_of_ble_eq_true rfl) (dm_Mo_close (d := d + 0) hs) (fun v w2 hq => ?_)
      obtain ⟨rfl, hs⟩ := hq
      refine tm_go 1 (pc' := 0) (L' := [some (.ref 127)]) (S' := []) (w' := w2) rfl ?_
      exact ih _ hs hE
set_option maxHeartbeats 4000000 in
set_option maxRecDepth 100000 in
theorem dm_Mo_closeAll {d : Nat} {w : MW} {Q : MW → Prop} (hs : p_Mo_closeAll w Q) : Tc (d + 2) 78 [.ref 127] w (RV Q) := by
  unfold p_Mo_closeAll at hs
  refine tx_Mo_closeAll_0 FU _ hs (fun  z3_0 w3 hs => ?_)
  exact tm_r rfl ⟨rfl, hs⟩
set_option maxHeartbeats 4000000 in
set_option maxRecDepth 100000 in
theorem tx_Mo_build_122 {d : Nat} {E : MW → Prop} {Q : MW → Prop} (n : Nat) : ∀ (x122_2 : Int32)  (z1 : Option Value) (z3 : Option Value) (w : MW), q_Mo_build_122  E Q n x122_2 w → (∀  (v1 : Option Value) (v2 : Option Value) (v3 : Option Value) (w : MW), E  w → Tm (d + 0) 45 151 [some (.ref 127), v1, v2, v3] [] w (RV Q)) → Tm (d + 0) 45 122 [some (.ref 127), z1, some (.int x122_2), z3] [] w (RV Q) := by
  induction n with
  | zero => intro x122_2 z1 z3 w hs; rw [q_Mo_build_122.eq_1] at hs; exact hs.elim
  | succ n ih =>
    intro x122_2 z1 z3 w hs hE
    rw [q_Mo_build_122.eq_2] at hs
    refine tm_go 2 (pc' := 126) (L' := [some (.ref 127), z1, some (.int x122_2), z3]) (S' := [.int 200, .int x122_2]) (w' := w) rfl ?_
    refine tm_i (p1 := 151) (p2 := 129) rfl (fun h3 => ?_) (fun h3 => ?_)
    · replace hs := hs.1 h3
      exact hE _ _ _ _ hs
    · replace hs := hs.2 h3
      refine tm_go 9 (pc' := 144) (L' := [some (.ref 127), z1, some (.int x122_2), z3]) (S' := [.int 0, .int (((200 : Int32) * (w.1 127 11)) + x122_2), .ref 172]) (w' := w) rfl ?_
      obtain ⟨b4, hs⟩ := hs
      refine tm_k (pc' := 145) (L' := [some (.ref 127), z1, some (.int x122_2), z3]) (S' := []) (w' := (sI w 172 ((((200 : Int32) * (w.1 127 11)) + x122_2).toInt.toNat) (vp_nar .byte (0 : Int32)))) rfl b4 ?_
      refine tm_go 2 (pc' := 122) (L' := [some (.ref 127), (ksl z1), some (.int (x122_2 + (1 : Int32))), z3]) (S' := []) (w' := (sI w 172 ((((200 : Int32) * (w.1 127 11)) + x122_2).toInt.toNat) (vp_nar .byte (0 : Int32)))) rfl ?_
      exact ih _ _ _ _ hs hE
set_option maxHeartbeats 4000000 in
set_option maxRecDepth 100000 in
theorem tx_Mo_build_205 {d : Nat} {y205_2 : Int32} {y205_3 : Int32} {ys205_0 : Int32} {ys205_1 : Int32} {z1 : Option Value} {w : MW} {A : Int32 → MW → Prop} {E : MW → Prop} {Q : MW → Prop} (hs : q_Mo_build_205 y205_2 y205_3 ys205_0 ys205_1 w A E Q) (hA : ∀ (x153_2 : Int32)  (z1 : Option Value) (z3 : Option Value) (w : MW), A x153_2 w → Tm (d + 0) 45 153 [some (.ref 127), z1, some (.int x153_2), z3] [] w (RV Q)) (hE : ∀  (v1 : Option Value) (v2 : Option Value) (v3 : Option Value) (w : MW), E  w → Tm (d + 0) 45 226 [some (.ref 127), v1, v2, v3] [] w (RV Q)) : Tm (d + 0) 45 205 [some (.ref 127), z1, some (.int y205_2), some (.int y205_3)] [.int ys205_0, .int ys205_1, .ref 171] w (RV Q) := by
  unfold q_Mo_build_205 at hs
  obtain ⟨b11, hs⟩ := hs
  refine tm_k (pc' := 206) (L' := [some (.ref 127), z1, some (.int y205_2), some (.int y205_3)]) (S' := []) (w' := (sI w 171 ys205_1.toInt.toNat ys205_0)) rfl b11 ?_
  refine tm_go 1 (pc' := 207) (L' := [some (.ref 127), z1, some (.int y205_2), some (.int y205_3)]) (S' := [.int y205_3]) (w' := (sI w 171 ys205_1.toInt.toNat ys205_0)) rfl ?_
  refine tm_i (p1 := 220) (p2 := 210) rfl (fun h12 => ?_) (fun h12 => ?_)
  · replace hs := hs.1 h12
    refine tm_go 2 (pc' := 153) (L' := [some (.ref 127), (ksl z1), some (.int (y205_2 + (1 : Int32))), some (.int y205_3)]) (S' := []) (w' := (sI w 171 ys205_1.toInt.toNat ys205_0)) rfl ?_
    exact hA _ _ _ _ hs
  · replace hs := hs.2 h12
    refine tm_go 4 (pc' := 216) (L' := [some (.ref 127), z1, some (.int y205_2), some (.int y205_3)]) (S' := [.int y205_3, .ref 168, .int y205_3, .ref 168]) (w' := (sI w 171 ys205_1.toInt.toNat ys205_0)) rfl ?_
    obtain ⟨b13, hs⟩ := hs
    refine tm_k (pc' := 217) (L' := [some (.ref 127), z1, some (.int y205_2), some (.int y205_3)]) (S' := [.int (w.1 168 y205_3.toInt.toNat), .int y205_3, .ref 168]) (w' := (sI w 171 ys205_1.toInt.toNat ys205_0)) rfl b13 ?_
    refine tm_go 2 (pc' := 219) (L' := [some (.ref 127), z1, some (.int y205_2), some (.int y205_3)]) (S' := [.int ((w.1 168 y205_3.toInt.toNat) + (1 : Int32)), .int y205_3, .ref 168]) (w' := (sI w 171 ys205_1.toInt.toNat ys205_0)) rfl ?_
    obtain ⟨b14, hs⟩ := hs
    refine tm_k (pc' := 220) (L' := [some (.ref 127), z1, some (.int y205_2), some (.int y205_3)]) (S' := []) (w' := (sI (sI w 171 ys205_1.toInt.toNat ys205_0) 168 y205_3.toInt.toNat ((w.1 168 y205_3.toInt.toNat) + (1 : Int32)))) rfl b14 ?_
    refine tm_go 2 (pc' := 153) (L' := [some (.ref 127), (ksl z1), some (.int (y205_2 + (1 : Int32))), some (.int y205_3)]) (S' := []) (w' := (sI (sI w 171 ys205_1.toInt.toNat ys205_0) 168 y205_3.toInt.toNat ((w.1 168 y205_3.toInt.toNat) + (1 : Int32)))) rfl ?_
    exact hA _ _ _ _ hs
set_option maxHeartbeats 4000000 in
set_option maxRecDepth 100000 in
theorem tx_Mo_build_153 {d : Nat} {E : MW → Prop} {Q : MW → Prop} (n : Nat) : ∀ (x153_2 : Int32)  (z1 : Option Value) (z3 : Option Value) (w : MW), q_Mo_build_153  E Q n x153_2 w → (∀  (v1 : Option Value) (v2 : Option Value) (v3 : Option Value) (w : MW), E  w → Tm (d + 0) 45 226 [some (.ref 127), v1, v2, v3] [] w (RV Q)) → Tm (d + 0) 45 153 [some (.ref 127), z1, some (.int x153_2), z3] [] w (RV Q) := by
  induction n with
  | zero => intro x153_2 z1 z3 w hs; rw [q_Mo_build_153.eq_1] at hs; exact hs.elim
  | succ n ih =>
    intro x153_2 z1 z3 w hs hE
    rw [q_Mo_build_153.eq_2] at hs
    refine tm_go 2 (pc' := 155) (L' := [some (.ref 127), z1, some (.int x153_2), z3]) (S' := [.int 2, .int x153_2]) (w' := w) rfl ?_
    refine tm_i (p1 := 226) (p2 := 158) rfl (fun h6 => ?_) (fun h6 => ?_)
    · replace hs := hs.1 h6
      exact hE _ _ _ _ hs
    · replace hs := hs.2 h6
      refine tm_go 3 (pc' := 163) (L' := [some (.ref 127), z1, some (.int x153_2), z3]) (S' := [.int x153_2, .ref 178]) (w' := w) rfl ?_
      obtain ⟨b7, hs⟩ := hs
      refine tm_k (pc' := 164) (L' := [some (.ref 127), z1, some (.int x153_2), z3]) (S' := [.int (w.1 178 x153_2.toInt.toNat)]) (w' := w) rfl b7 ?_
      refine tm_go 10 (pc' := 178) (L' := [some (.ref 127), z1, some (.int x153_2), some (.int (w.1 178 x153_2.toInt.toNat))]) (S' := [.int (w.1 178 x153_2.toInt.toNat), .int (((2 : Int32) * (w.1 127 11)) + x153_2), .ref 170]) (w' := w) rfl ?_
      obtain ⟨b8, hs⟩ := hs
      refine tm_k (pc' := 179) (L' := [some (.ref 127), z1, some (.int x153_2), some (.int (w.1 178 x153_2.toInt.toNat))]) (S' := []) (w' := (sI w 170 ((((2 : Int32) * (w.1 127 11)) + x153_2).toInt.toNat) (w.1 178 x153_2.toInt.toNat))) rfl b8 ?_
      refine tm_go 9 (pc' := 192) (L' := [some (.ref 127), z1, some (.int x153_2), some (.int (w.1 178 x153_2.toInt.toNat))]) (S' := [.int (w.1 178 x153_2.toInt.toNat), .int (((2 : Int32) * (w.1 127 11)) + x153_2), .ref 171]) (w' := (sI w 170 ((((2 : Int32) * (w.1 127 11)) + x153_2).toInt.toNat) (w.1 178 x153_2.toInt.toNat))) rfl ?_
      refine tm_i (p1 := 199) (p2 := 195) rfl (fun h9 => ?_) (fun h9 => ?_)
      · replace hs := hs.1 h9
        refine tm_go 3 (pc' := 204) (L' := [some (.ref 127), z1, some (.int x153_2), some (.int (w.1 178 x153_2.toInt.toNat))]) (S' := [.int (w.1 178 x153_2.toInt.toNat), .ref 168, .int (((2 : Int32) * (w.1 127 11)) + x153_2), .ref 171]) (w' := (sI w 170 ((((2 : Int32) * (w.1 127 11)) + x153_2).toInt.toNat) (w.1 178 x153_2.toInt.toNat))) rfl ?_
        obtain ⟨b10, hs⟩ := hs
        refine tm_k (pc' := 205) (L' := [some (.ref 127), z1, some (.int x153_2), some (.int (w.1 178 x153_2.toInt.toNat))]) (S' := [.int (w.1 168 ((w.1 178 x153_2.toInt.toNat).toInt.toNat)), .int (((2 : Int32) * (w.1 127 11)) + x153_2), .ref 171]) (w' := (sI w 170 ((((2 : Int32) * (w.1 127 11)) + x153_2).toInt.toNat) (w.1 178 x153_2.toInt.toNat))) rfl b10 ?_
        exact tx_Mo_build_205 hs (fun q0 q1 q2 q3 hs => ih q0 q1 q2 q3 hs hE) hE
      · replace hs := hs.2 h9
        refine tm_go 2 (pc' := 205) (L' := [some (.ref 127), z1, some (.int x153_2), some (.int (w.1 178 x153_2.toInt.toNat))]) (S' := [.int (-1), .int (((2 : Int32) * (w.1 127 11)) + x153_2), .ref 171]) (w' := (sI w 170 ((((2 : Int32) * (w.1 127 11)) + x153_2).toInt.toNat) (w.1 178 x153_2.toInt.toNat))) rfl ?_
        exact tx_Mo_build_205 hs (fun q0 q1 q2 q3 hs => ih q0 q1 q2 q3 hs hE) hE
set_option maxHeartbeats 4000000 in
set_option maxRecDepth 100000 in
theorem tx_Mo_build_53 {d : Nat} {ys53_0 : Int32} {ys53_1 : Int32} {z1 : Option Value} {z2 : Option Value} {z3 : Option Value} {w : MW} {Q : MW → Prop} (hs : q_Mo_build_53 ys53_0 ys53_1 w Q) : Tm (d + 0) 45 53 [some (.ref 127), z1, z2, z3] [.int ys53_0, .int ys53_1, .ref 164] w (RV Q) := by
  unfold q_Mo_build_53 at hs
  obtain ⟨b19, hs⟩ := hs
  refine tm_k (pc' := 54) (L' := [some (.ref 127), z1, z2, z3]) (S' := []) (w' := (sI w 164 ys53_1.toInt.toNat ys53_0)) rfl b19 ?_
  refine tm_go 5 (pc' := 63) (L' := [some (.ref 127), z1, z2, z3]) (S' := [.int 0, .int (w.1 127 4), .ref 165]) (w' := (sI w 164 ys53_1.toInt.toNat ys53_0)) rfl ?_
  obtain ⟨b20, hs⟩ := hs
  refine tm_k (pc' := 64) (L' := [some (.ref 127), z1, z2, z3]) (S' := []) (w' := (sI (sI w 164 ys53_1.toInt.toNat ys53_0) 165 ((w.1 127 4).toInt.toNat) 0)) rfl b20 ?_
  refine tm_go 5 (pc' := 73) (L' := [some (.ref 127), z1, z2, z3]) (S' := [.int 0, .int (w.1 127 4), .ref 166]) (w' := (sI (sI w 164 ys53_1.toInt.toNat ys53_0) 165 ((w.1 127 4).toInt.toNat) 0)) rfl ?_
  obtain ⟨b21, hs⟩ := hs
  refine tm_k (pc' := 74) (L' := [some (.ref 127), z1, z2, z3]) (S' := []) (w' := (sI (sI (sI w 164 ys53_1.toInt.toNat ys53_0) 165 ((w.1 127 4).toInt.toNat) 0) 166 ((w.1 127 4).toInt.toNat) 0)) rfl b21 ?_
  refine tm_go 5 (pc' := 83) (L' := [some (.ref 127), z1, z2, z3]) (S' := [.int 0, .int (w.1 127 4), .ref 167]) (w' := (sI (sI (sI w 164 ys53_1.toInt.toNat ys53_0) 165 ((w.1 127 4).toInt.toNat) 0) 166 ((w.1 127 4).toInt.toNat) 0)) rfl ?_
  obtain ⟨b22, hs⟩ := hs
  refine tm_k (pc' := 84) (L' := [some (.ref 127), z1, z2, z3]) (S' := []) (w' := (sI (sI (sI (sI w 164 ys53_1.toInt.toNat ys53_0) 165 ((w.1 127 4).toInt.toNat) 0) 166 ((w.1 127 4).toInt.toNat) 0) 167 ((w.1 127 4).toInt.toNat) 0)) rfl b22 ?_
  refine tm_go 5 (pc' := 93) (L' := [some (.ref 127), z1, z2, z3]) (S' := [.int 0, .int (w.1 127 4), .ref 168]) (w' := (sI (sI (sI (sI w 164 ys53_1.toInt.toNat ys53_0) 165 ((w.1 127 4).toInt.toNat) 0) 166 ((w.1 127 4).toInt.toNat) 0) 167 ((w.1 127 4).toInt.toNat) 0)) rfl ?_
  obtain ⟨b23, hs⟩ := hs
  refine tm_k (pc' := 94) (L' := [some (.ref 127), z1, z2, z3]) (S' := []) (w' := (sI (sI (sI (sI (sI w 164 ys53_1.toInt.toNat ys53_0) 165 ((w.1 127 4).toInt.toNat) 0) 166 ((w.1 127 4).toInt.toNat) 0) 167 ((w.1 127 4).toInt.toNat) 0) 168 ((w.1 127 4).toInt.toNat) 0)) rfl b23 ?_
  refine tm_go 6 (pc' := 104) (L' := [some (.ref 127), z1, z2, z3]) (S' := []) (w' := (sI (sI (sI (sI (sI (sI w 164 ys53_1.toInt.toNat ys53_0) 165 ((w.1 127 4).toInt.toNat) 0) 166 ((w.1 127 4).toInt.toNat) 0) 167 ((w.1 127 4).toInt.toNat) 0) 168 ((w.1 127 4).toInt.toNat) 0) 127 4 ((w.1 127 4) + (1 : Int32)))) rfl ?_
  exact tm_r rfl ⟨rfl, hs⟩
set_option maxHeartbeats 4000000 in
set_option maxRecDepth 100000 in
theorem tx_Mo_build_30 {d : Nat} {y30_1 : Int32} {ys30_0 : Int32} {ys30_1 : Int32} {z2 : Option Value} {z3 : Option Value} {w : MW} {Q : MW → Prop} (hs : q_Mo_build_30 y30_1 ys30_0 ys30_1 w Q) : Tm (d + 0) 45 30 [some (.ref 127), some (.int y30_1), z2, z3] [.int ys30_0, .int ys30_1, .ref 163] w (RV Q) := by
  unfold q_Mo_build_30 at hs
  obtain ⟨b17, hs⟩ := hs
  refine tm_k (pc' := 31) (L' := [some (.ref 127), some (.int y30_1), z2, z3]) (S' := []) (w' := (sI w 163 ys30_1.toInt.toNat ys30_0)) rfl b17 ?_
  refine tm_go 5 (pc' := 40) (L' := [some (.ref 127), some (.int y30_1), z2, z3]) (S' := [.int y30_1, .int (w.1 127 4), .ref 164]) (w' := (sI w 163 ys30_1.toInt.toNat ys30_0)) rfl ?_
  refine tm_i (p1 := 52) (p2 := 43) rfl (fun h18 => ?_) (fun h18 => ?_)
  · replace hs := hs.1 h18
    refine tm_go 1 (pc' := 53) (L' := [some (.ref 127), some (.int y30_1), z2, z3]) (S' := [.int 0, .int (w.1 127 4), .ref 164]) (w' := (sI w 163 ys30_1.toInt.toNat ys30_0)) rfl ?_
    exact tx_Mo_build_53 hs 
  · replace hs := hs.2 h18
    refine tm_go 5 (pc' := 53) (L' := [some (.ref 127), some (.int y30_1), z2, z3]) (S' := [.int (w.1 178 0), .int (w.1 127 4), .ref 164]) (w' := (sI w 163 ys30_1.toInt.toNat ys30_0)) rfl ?_
    exact tx_Mo_build_53 hs 
set_option maxHeartbeats 4000000 in
set_option maxRecDepth 100000 in
theorem dm_Mo_build {d : Nat} {w : MW} {a0 : Int32} {Q : MW → Prop} (hs : p_Mo_build w a0 Q) : Tc (d + 0) 45 [.ref 127, .int a0] w (RV Q) := by
  unfold p_Mo_build at hs
  refine tm_go 2 (pc' := 2) (L' := [some (.ref 127), some (.int a0), none, none]) (S' := [.int 3, .int a0]) (w' := w) rfl ?_
  refine tm_i (p1 := 105) (p2 := 5) rfl (fun h1 => ?_) (fun h1 => ?_)
  · replace hs := hs.1 h1
    refine tm_go 8 (pc' := 119) (L' := [some (.ref 127), some (.int a0), none, none]) (S' := [.int (w.1 178 2), .int (w.1 127 11), .ref 169]) (w' := w) rfl ?_
    obtain ⟨b2, hs⟩ := hs
    refine tm_k (pc' := 120) (L' := [some (.ref 127), some (.int a0), none, none]) (S' := []) (w' := (sI w 169 ((w.1 127 11).toInt.toNat) (w.1 178 2))) rfl b2 ?_
    refine tm_go 2 (pc' := 122) (L' := [some (.ref 127), some (.int a0), some (.int 0), none]) (S' := []) (w' := (sI w 169 ((w.1 127 11).toInt.toNat) (w.1 178 2))) rfl ?_
    refine tx_Mo_build_122 FU _ _ _ _ hs (fun  z5_1 z5_2 z5_3 w5 hs => ?_)
    refine tm_go 2 (pc' := 153) (L' := [some (.ref 127), (ksl z5_1), some (.int 0), z5_3]) (S' := []) (w' := w5) rfl ?_
    refine tx_Mo_build_153 FU _ _ _ _ hs (fun  z15_1 z15_2 z15_3 w15 hs => ?_)
    refine tm_go 6 (pc' := 236) (L' := [some (.ref 127), z15_1, z15_2, z15_3]) (S' := []) (w' := (sI w15 127 11 ((w15.1 127 11) + (1 : Int32)))) rfl ?_
    exact tm_r rfl ⟨rfl, hs⟩
  · replace hs := hs.2 h1
    refine tm_go 6 (pc' := 15) (L' := [some (.ref 127), some (.int a0), none, none]) (S' := [.int 2, .int a0, .int (w.1 127 4), .ref 163]) (w' := w) rfl ?_
    refine tm_i (p1 := 29) (p2 := 18) rfl (fun h16 => ?_) (fun h16 => ?_)
    · replace hs := hs.1 h16
      refine tm_go 1 (pc' := 30) (L' := [some (.ref 127), some (.int a0), none, none]) (S' := [.int a0, .int (w.1 127 4), .ref 163]) (w' := w) rfl ?_
      exact tx_Mo_build_30 hs 
    · replace hs := hs.2 h16
      refine tm_go 7 (pc' := 30) (L' := [some (.ref 127), some (.int a0), none, none]) (S' := [.int ((2 : Int32) + (w.1 178 0)), .int (w.1 127 4), .ref 163]) (w' := w) rfl ?_
      exact tx_Mo_build_30 hs 
set_option maxHeartbeats 4000000 in
set_option maxRecDepth 100000 in
theorem tx_Mo_forget_2 {d : Nat} {x2_1 : Int32} {E : MW → Prop} {Q : MW → Prop} (n : Nat) : ∀ (x2_2 : Int32)   (w : MW), q_Mo_forget_2 x2_1 E Q n x2_2 w → (∀  (v0 : Option Value) (v1 : Option Value) (v2 : Option Value) (w : MW), E  w → Tm (d + 0) 57 26 [v0, v1, v2] [] w (RV Q)) → Tm (d + 0) 57 2 [some (.ref 127), some (.int x2_1), some (.int x2_2)] [] w (RV Q) := by
  induction n with
  | zero => intro x2_2  w hs; rw [q_Mo_forget_2.eq_1] at hs; exact hs.elim
  | succ n ih =>
    intro x2_2  w hs hE
    rw [q_Mo_forget_2.eq_2] at hs
    refine tm_go 2 (pc' := 5) (L' := [some (.ref 127), some (.int x2_1), some (.int x2_2)]) (S' := [.int 6, .int x2_2]) (w' := w) rfl ?_
    refine tm_i (p1 := 26) (p2 := 8) rfl (fun h1 => ?_) (fun h1 => ?_)
    · replace hs := hs.1 h1
      exact hE _ _ _ _ hs
    · replace hs := hs.2 h1
      refine tm_go 8 (pc' := 19) (L' := [some (.ref 127), some (.int x2_1), some (.int x2_2)]) (S' := [.int (-1), .int (((6 : Int32) * x2_1) + x2_2), .ref 174]) (w' := w) rfl ?_
      obtain ⟨b2, hs⟩ := hs
      refine tm_k (pc' := 20) (L' := [some (.ref 127), some (.int x2_1), some (.int x2_2)]) (S' := []) (w' := (sI w 174 ((((6 : Int32) * x2_1) + x2_2).toInt.toNat) (-1))) rfl b2 ?_
      refine tm_go 2 (pc' := 2) (L' := [some (.ref 127), some (.int x2_1), some (.int (x2_2 + (1 : Int32)))]) (S' := []) (w' := (sI w 174 ((((6 : Int32) * x2_1) + x2_2).toInt.toNat) (-1))) rfl ?_
      exact ih _ _ hs hE
set_option maxHeartbeats 4000000 in
set_option maxRecDepth 100000 in
theorem dm_Mo_forget {d : Nat} {w : MW} {a0 : Int32} {Q : MW → Prop} (hs : p_Mo_forget w a0 Q) : Tc (d + 0) 57 [.ref 127, .int a0] w (RV Q) := by
  unfold p_Mo_forget at hs
  refine tm_go 2 (pc' := 2) (L' := [some (.ref 127), some (.int a0), some (.int 0)]) (S' := []) (w' := w) rfl ?_
  refine tx_Mo_forget_2 FU _ _ hs (fun  z3_0 z3_1 z3_2 w3 hs => ?_)
  exact tm_r rfl ⟨rfl, hs⟩
set_option maxHeartbeats 4000000 in
set_option maxRecDepth 100000 in
theorem dm_Mo_room {d : Nat} {w : MW} {a0 : Int32} {Q : Int32 → MW → Prop} (hs : p_Mo_room w a0 Q) : Tc (d + 0) 42 [.int a0] w (RI Q) := by
  unfold p_Mo_room at hs
  refine tm_go 1 (pc' := 1) (L' := [some (.int a0)]) (S' := [.int a0]) (w' := w) rfl ?_
  refine tm_i (p1 := 10) (p2 := 4) rfl (fun h1 => ?_) (fun h1 => ?_)
  · replace hs := hs.1 h1
    refine tm_go 2 (pc' := 12) (L' := [some (.int a0)]) (S' := [.int 1, .int a0]) (w' := w) rfl ?_
    refine tm_i (p1 := 19) (p2 := 15) rfl (fun h2 => ?_) (fun h2 => ?_)
    · replace hs := hs.1 h2
      refine tm_go 2 (pc' := 21) (L' := [some (.int a0)]) (S' := [.int 3, .int a0]) (w' := w) rfl ?_
      refine tm_i (p1 := 29) (p2 := 24) rfl (fun h3 => ?_) (fun h3 => ?_)
      · replace hs := hs.1 h3
        refine tm_go 2 (pc' := 54) (L' := [some (.int a0)]) (S' := [.int 3]) (w' := w) rfl ?_
        exact tm_r rfl ⟨_, rfl, hs⟩
      · replace hs := hs.2 h3
        refine tm_go 2 (pc' := 26) (L' := [some (.int a0)]) (S' := [.int 4, .int a0]) (w' := w) rfl ?_
        refine tm_i (p1 := 33) (p2 := 29) rfl (fun h4 => ?_) (fun h4 => ?_)
        · replace hs := hs.1 h4
          refine tm_go 2 (pc' := 36) (L' := [some (.int a0)]) (S' := [.int 6, .int a0]) (w' := w) rfl ?_
          refine tm_i (p1 := 43) (p2 := 39) rfl (fun h5 => ?_) (fun h5 => ?_)
          · replace hs := hs.1 h5
            refine tm_go 2 (pc' := 46) (L' := [some (.int a0)]) (S' := [.int 7, .int a0]) (w' := w) rfl ?_
            refine tm_i (p1 := 53) (p2 := 49) rfl (fun h6 => ?_) (fun h6 => ?_)
            · replace hs := hs.1 h6
              refine tm_go 1 (pc' := 54) (L' := [some (.int a0)]) (S' := [.int 2]) (w' := w) rfl ?_
              exact tm_r rfl ⟨_, rfl, hs⟩
            · replace hs := hs.2 h6
              refine tm_go 2 (pc' := 54) (L' := [some (.int a0)]) (S' := [.int 1]) (w' := w) rfl ?_
              exact tm_r rfl ⟨_, rfl, hs⟩
          · replace hs := hs.2 h5
            refine tm_go 2 (pc' := 54) (L' := [some (.int a0)]) (S' := [.int 4]) (w' := w) rfl ?_
            exact tm_r rfl ⟨_, rfl, hs⟩
        · replace hs := hs.2 h4
          refine tm_go 2 (pc' := 54) (L' := [some (.int a0)]) (S' := [.int 3]) (w' := w) rfl ?_
          exact tm_r rfl ⟨_, rfl, hs⟩
    · replace hs := hs.2 h2
      refine tm_go 2 (pc' := 54) (L' := [some (.int a0)]) (S' := [.int 2]) (w' := w) rfl ?_
      exact tm_r rfl ⟨_, rfl, hs⟩
  · replace hs := hs.2 h1
    refine tm_go 2 (pc' := 54) (L' := [some (.int a0)]) (S' := [.int 1000]) (w' := w) rfl ?_
    exact tm_r rfl ⟨_, rfl, hs⟩
set_option maxHeartbeats 4000000 in
set_option maxRecDepth 100000 in
theorem tx_Mo_isNew_255 {d : Nat} {y255_3 : Int32} {z1 : Option Value} {z2 : Option Value} {z4 : Option Value} {w : MW} {Q : Int32 → MW → Prop} (hs : q_Mo_isNew_255 y255_3 w Q) : Tm (d + 1) 43 255 [some (.ref 127), z1, z2, some (.int y255_3), z4] [] w (RZ Q) := by
  unfold q_Mo_isNew_255 at hs
  refine tm_go 1 (pc' := 256) (L' := [some (.ref 127), z1, z2, some (.int y255_3), z4]) (S' := [.int y255_3]) (w' := w) rfl ?_
  refine tm_i (p1 := 269) (p2 := 259) rfl (fun h11 => ?_) (fun h11 => ?_)
  · replace hs := hs.1 h11
    refine tm_go 7 (pc' := 280) (L' := [some (.ref 127), z1, z2, some (.int y255_3), z4]) (S' := [.int 1]) (w' := (sI w 127 86 ((w.1 127 86) + (1 : Int32)))) rfl ?_
    exact tm_r rfl ⟨_, rfl, by decide, hs⟩
  · replace hs := hs.2 h11
    refine tm_go 4 (pc' := 265) (L' := [some (.ref 127), z1, z2, some (.int y255_3), z4]) (S' := [.int y255_3, .ref 180, .int y255_3, .ref 180]) (w' := w) rfl ?_
    obtain ⟨b12, hs⟩ := hs
    refine tm_k (pc' := 266) (L' := [some (.ref 127), z1, z2, some (.int y255_3), z4]) (S' := [.int (w.1 180 y255_3.toInt.toNat), .int y255_3, .ref 180]) (w' := w) rfl b12 ?_
    refine tm_go 2 (pc' := 268) (L' := [some (.ref 127), z1, z2, some (.int y255_3), z4]) (S' := [.int ((w.1 180 y255_3.toInt.toNat) + (1 : Int32)), .int y255_3, .ref 180]) (w' := w) rfl ?_
    obtain ⟨b13, hs⟩ := hs
    refine tm_k (pc' := 269) (L' := [some (.ref 127), z1, z2, some (.int y255_3), z4]) (S' := []) (w' := (sI w 180 y255_3.toInt.toNat ((w.1 180 y255_3.toInt.toNat) + (1 : Int32)))) rfl b13 ?_
    refine tm_go 7 (pc' := 280) (L' := [some (.ref 127), z1, z2, some (.int y255_3), z4]) (S' := [.int 1]) (w' := (sI (sI w 180 y255_3.toInt.toNat ((w.1 180 y255_3.toInt.toNat) + (1 : Int32))) 127 86 ((w.1 127 86) + (1 : Int32)))) rfl ?_
    exact tm_r rfl ⟨_, rfl, by decide, hs⟩
set_option maxHeartbeats 4000000 in
set_option maxRecDepth 100000 in
theorem tx_Mo_isNew_214 {d : Nat} {y214_2 : Int32} {y214_3 : Int32} {y214_4 : Int32} {z1 : Option Value} {w : MW} {Q : Int32 → MW → Prop} (hs : q_Mo_isNew_214 y214_2 y214_3 y214_4 w Q) : Tm (d + 1) 43 214 [some (.ref 127), z1, some (.int y214_2), some (.int y214_3), some (.int y214_4)] [] w (RZ Q) := by
  unfold q_Mo_isNew_214 at hs
  refine tm_go 1 (pc' := 215) (L' := [some (.ref 127), z1, some (.int y214_2), some (.int y214_3), some (.int y214_4)]) (S' := [.int y214_3]) (w' := w) rfl ?_
  refine tm_i (p1 := 241) (p2 := 218) rfl (fun h9 => ?_) (fun h9 => ?_)
  · replace hs := hs.1 h9
    refine tm_go 1 (pc' := 242) (L' := [some (.ref 127), z1, some (.int y214_2), some (.int y214_3), some (.int y214_4)]) (S' := [.int y214_2]) (w' := w) rfl ?_
    refine tm_i (p1 := 255) (p2 := 245) rfl (fun h10 => ?_) (fun h10 => ?_)
    · replace hs := hs.1 h10
      exact tx_Mo_isNew_255 hs 
    · replace hs := hs.2 h10
      refine tm_go 4 (pc' := 251) (L' := [some (.ref 127), z1, some (.int y214_2), some (.int y214_3), some (.int y214_4)]) (S' := [.int y214_2, .ref 180, .int y214_2, .ref 180]) (w' := w) rfl ?_
      obtain ⟨b14, hs⟩ := hs
      refine tm_k (pc' := 252) (L' := [some (.ref 127), z1, some (.int y214_2), some (.int y214_3), some (.int y214_4)]) (S' := [.int (w.1 180 y214_2.toInt.toNat), .int y214_2, .ref 180]) (w' := w) rfl b14 ?_
      refine tm_go 2 (pc' := 254) (L' := [some (.ref 127), z1, some (.int y214_2), some (.int y214_3), some (.int y214_4)]) (S' := [.int ((w.1 180 y214_2.toInt.toNat) + (1 : Int32)), .int y214_2, .ref 180]) (w' := w) rfl ?_
      obtain ⟨b15, hs⟩ := hs
      refine tm_k (pc' := 255) (L' := [some (.ref 127), z1, some (.int y214_2), some (.int y214_3), some (.int y214_4)]) (S' := []) (w' := (sI w 180 y214_2.toInt.toNat ((w.1 180 y214_2.toInt.toNat) + (1 : Int32)))) rfl b15 ?_
      exact tx_Mo_isNew_255 hs 
  · replace hs := hs.2 h9
    refine tm_go 3 (pc' := 223) (L' := [some (.ref 127), z1, some (.int y214_2), some (.int y214_3), some (.int y214_4)]) (S' := [.int y214_3, .ref 180]) (w' := w) rfl ?_
    obtain ⟨b16, hs⟩ := hs
    refine tm_k (pc' := 224) (L' := [some (.ref 127), z1, some (.int y214_2), some (.int y214_3), some (.int y214_4)]) (S' := [.int (w.1 180 y214_3.toInt.toNat)]) (w' := w) rfl b16 ?_
    refine tm_go 5 (pc' := 232) (L' := [some (.ref 127), z1, some (.int y214_2), some (.int y214_3), some (.int y214_4)]) (S' := [.int y214_3, .ref 179, .int ((w.1 180 y214_3.toInt.toNat) + y214_4)]) (w' := w) rfl ?_
    obtain ⟨b17, hs⟩ := hs
    refine tm_k (pc' := 233) (L' := [some (.ref 127), z1, some (.int y214_2), some (.int y214_3), some (.int y214_4)]) (S' := [.int (w.1 179 y214_3.toInt.toNat), .int ((w.1 180 y214_3.toInt.toNat) + y214_4)]) (w' := w) rfl b17 ?_
    refine tm_c rfl (Nat.le_of_ble_eq_true rfl) (dm_Mo_room (d := d + 0) hs) (fun v w18 hq => ?_)
    obtain ⟨r18, rfl, hs⟩ := hq
    refine tm_i (p1 := 241) (p2 := 239) rfl (fun h19 => ?_) (fun h19 => ?_)
    · replace hs := hs.1 h19
      refine tm_go 1 (pc' := 242) (L' := [some (.ref 127), z1, some (.int y214_2), some (.int y214_3), some (.int y214_4)]) (S' := [.int y214_2]) (w' := w18) rfl ?_
      refine tm_i (p1 := 255) (p2 := 245) rfl (fun h20 => ?_) (fun h20 => ?_)
      · replace hs := hs.1 h20
        exact tx_Mo_isNew_255 hs 
      · replace hs := hs.2 h20
        refine tm_go 4 (pc' := 251) (L' := [some (.ref 127), z1, some (.int y214_2), some (.int y214_3), some (.int y214_4)]) (S' := [.int y214_2, .ref 180, .int y214_2, .ref 180]) (w' := w18) rfl ?_
        obtain ⟨b21, hs⟩ := hs
        refine tm_k (pc' := 252) (L' := [some (.ref 127), z1, some (.int y214_2), some (.int y214_3), some (.int y214_4)]) (S' := [.int (w18.1 180 y214_2.toInt.toNat), .int y214_2, .ref 180]) (w' := w18) rfl b21 ?_
        refine tm_go 2 (pc' := 254) (L' := [some (.ref 127), z1, some (.int y214_2), some (.int y214_3), some (.int y214_4)]) (S' := [.int ((w18.1 180 y214_2.toInt.toNat) + (1 : Int32)), .int y214_2, .ref 180]) (w' := w18) rfl ?_
        obtain ⟨b22, hs⟩ := hs
        refine tm_k (pc' := 255) (L' := [some (.ref 127), z1, some (.int y214_2), some (.int y214_3), some (.int y214_4)]) (S' := []) (w' := (sI w18 180 y214_2.toInt.toNat ((w18.1 180 y214_2.toInt.toNat) + (1 : Int32)))) rfl b22 ?_
        exact tx_Mo_isNew_255 hs 
    · replace hs := hs.2 h19
      refine tm_go 1 (pc' := 240) (L' := [some (.ref 127), z1, some (.int y214_2), some (.int y214_3), some (.int y214_4)]) (S' := [.int 0]) (w' := w18) rfl ?_
      exact tm_r rfl ⟨_, rfl, by decide, hs⟩
set_option maxHeartbeats 4000000 in
set_option maxRecDepth 100000 in
theorem tx_Mo_isNew_187 {d : Nat} {y187_2 : Int32} {y187_3 : Int32} {ys187_0 : Int32} {z1 : Option Value} {z4 : Option Value} {w : MW} {Q : Int32 → MW → Prop} (hs : q_Mo_isNew_187 y187_2 y187_3 ys187_0 w Q) : Tm (d + 1) 43 187 [some (.ref 127), z1, some (.int y187_2), some (.int y187_3), z4] [.int ys187_0] w (RZ Q) := by
  unfold q_Mo_isNew_187 at hs
  refine tm_go 2 (pc' := 190) (L' := [some (.ref 127), z1, some (.int y187_2), some (.int y187_3), some (.int ys187_0)]) (S' := [.int y187_2]) (w' := w) rfl ?_
  refine tm_i (p1 := 214) (p2 := 193) rfl (fun h8 => ?_) (fun h8 => ?_)
  · replace hs := hs.1 h8
    exact tx_Mo_isNew_214 hs 
  · replace hs := hs.2 h8
    refine tm_go 3 (pc' := 198) (L' := [some (.ref 127), z1, some (.int y187_2), some (.int y187_3), some (.int ys187_0)]) (S' := [.int y187_2, .ref 180]) (w' := w) rfl ?_
    obtain ⟨b23, hs⟩ := hs
    refine tm_k (pc' := 199) (L' := [some (.ref 127), z1, some (.int y187_2), some (.int y187_3), some (.int ys187_0)]) (S' := [.int (w.1 180 y187_2.toInt.toNat)]) (w' := w) rfl b23 ?_
    refine tm_go 5 (pc' := 207) (L' := [some (.ref 127), z1, some (.int y187_2), some (.int y187_3), some (.int ys187_0)]) (S' := [.int y187_2, .ref 179, .int ((w.1 180 y187_2.toInt.toNat) + ys187_0)]) (w' := w) rfl ?_
    obtain ⟨b24, hs⟩ := hs
    refine tm_k (pc' := 208) (L' := [some (.ref 127), z1, some (.int y187_2), some (.int y187_3), some (.int ys187_0)]) (S' := [.int (w.1 179 y187_2.toInt.toNat), .int ((w.1 180 y187_2.toInt.toNat) + ys187_0)]) (w' := w) rfl b24 ?_
    refine tm_c rfl (Nat.le_of_ble_eq_true rfl) (dm_Mo_room (d := d + 0) hs) (fun v w25 hq => ?_)
    obtain ⟨r25, rfl, hs⟩ := hq
    refine tm_i (p1 := 239) (p2 := 214) rfl (fun h26 => ?_) (fun h26 => ?_)
    · replace hs := hs.1 h26
      refine tm_go 1 (pc' := 240) (L' := [some (.ref 127), z1, some (.int y187_2), some (.int y187_3), some (.int ys187_0)]) (S' := [.int 0]) (w' := w25) rfl ?_
      exact tm_r rfl ⟨_, rfl, by decide, hs⟩
    · replace hs := hs.2 h26
      exact tx_Mo_isNew_214 hs 
set_option maxHeartbeats 4000000 in
set_option maxRecDepth 100000 in
theorem tx_Mo_isNew_91 {d : Nat} {y91_2 : Int32} {ys91_0 : Int32} {ys91_1 : Int32} {z1 : Option Value} {z3 : Option Value} {z4 : Option Value} {w : MW} {Q : Int32 → MW → Prop} (hs : q_Mo_isNew_91 y91_2 ys91_0 ys91_1 w Q) : Tm (d + 1) 43 91 [some (.ref 127), z1, some (.int y91_2), z3, z4] [.int ys91_0, .int ys91_1, .ref 179] w (RZ Q) := by
  unfold q_Mo_isNew_91 at hs
  obtain ⟨b31, hs⟩ := hs
  refine tm_k (pc' := 92) (L' := [some (.ref 127), z1, some (.int y91_2), z3, z4]) (S' := []) (w' := (sI w 179 ys91_1.toInt.toNat ys91_0)) rfl b31 ?_
  refine tm_go 5 (pc' := 101) (L' := [some (.ref 127), z1, some (.int y91_2), z3, z4]) (S' := [.int 0, .int (w.1 127 85), .ref 180]) (w' := (sI w 179 ys91_1.toInt.toNat ys91_0)) rfl ?_
  obtain ⟨b32, hs⟩ := hs
  refine tm_k (pc' := 102) (L' := [some (.ref 127), z1, some (.int y91_2), z3, z4]) (S' := []) (w' := (sI (sI w 179 ys91_1.toInt.toNat ys91_0) 180 ((w.1 127 85).toInt.toNat) 0)) rfl b32 ?_
  refine tm_go 7 (pc' := 113) (L' := [some (.ref 127), z1, some (.int y91_2), z3, z4]) (S' := [.int y91_2]) (w' := (sI (sI (sI w 179 ys91_1.toInt.toNat ys91_0) 180 ((w.1 127 85).toInt.toNat) 0) 127 85 ((w.1 127 85) + (1 : Int32)))) rfl ?_
  obtain ⟨b33, hs⟩ := hs
  exact tm_rk rfl b33 ⟨_, rfl, b33, hs⟩
set_option maxHeartbeats 4000000 in
set_option maxRecDepth 100000 in
theorem tx_Mo_isNew_61 {d : Nat} {y61_1 : Int32} {ys61_0 : Int32} {z2 : Option Value} {z3 : Option Value} {z4 : Option Value} {w : MW} {Q : Int32 → MW → Prop} (hs : q_Mo_isNew_61 y61_1 ys61_0 w Q) : Tm (d + 1) 43 61 [some (.ref 127), some (.int y61_1), z2, z3, z4] [.int ys61_0] w (RZ Q) := by
  unfold q_Mo_isNew_61 at hs
  refine tm_go 2 (pc' := 63) (L' := [some (.ref 127), some (.int y61_1), some (.int ys61_0), z3, z4]) (S' := [.int ys61_0]) (w' := w) rfl ?_
  refine tm_i (p1 := 112) (p2 := 66) rfl (fun h28 => ?_) (fun h28 => ?_)
  · replace hs := hs.1 h28
    refine tm_go 1 (pc' := 113) (L' := [some (.ref 127), some (.int y61_1), some (.int ys61_0), z3, z4]) (S' := [.int ys61_0]) (w' := w) rfl ?_
    obtain ⟨b29, hs⟩ := hs
    exact tm_rk rfl b29 ⟨_, rfl, b29, hs⟩
  · replace hs := hs.2 h28
    refine tm_go 6 (pc' := 76) (L' := [some (.ref 127), some (.int y61_1), some (.int ys61_0), z3, z4]) (S' := [.int 2, .int y61_1, .int (w.1 127 85), .ref 179]) (w' := w) rfl ?_
    refine tm_i (p1 := 90) (p2 := 79) rfl (fun h30 => ?_) (fun h30 => ?_)
    · replace hs := hs.1 h30
      refine tm_go 1 (pc' := 91) (L' := [some (.ref 127), some (.int y61_1), some (.int ys61_0), z3, z4]) (S' := [.int y61_1, .int (w.1 127 85), .ref 179]) (w' := w) rfl ?_
      exact tx_Mo_isNew_91 hs 
    · replace hs := hs.2 h30
      refine tm_go 7 (pc' := 91) (L' := [some (.ref 127), some (.int y61_1), some (.int ys61_0), z3, z4]) (S' := [.int ((2 : Int32) + (w.1 178 0)), .int (w.1 127 85), .ref 179]) (w' := w) rfl ?_
      exact tx_Mo_isNew_91 hs 
set_option maxHeartbeats 4000000 in
set_option maxRecDepth 100000 in
theorem tx_Mo_isNew_40 {d : Nat} {y40_1 : Int32} {z2 : Option Value} {z3 : Option Value} {z4 : Option Value} {w : MW} {Q : Int32 → MW → Prop} (hs : q_Mo_isNew_40 y40_1 w Q) : Tm (d + 1) 43 40 [some (.ref 127), some (.int y40_1), z2, z3, z4] [] w (RZ Q) := by
  unfold q_Mo_isNew_40 at hs
  refine tm_go 2 (pc' := 42) (L' := [some (.ref 127), some (.int y40_1), z2, z3, z4]) (S' := [.int 2, .int y40_1]) (w' := w) rfl ?_
  refine tm_i (p1 := 56) (p2 := 45) rfl (fun h35 => ?_) (fun h35 => ?_)
  · replace hs := hs.1 h35
    refine tm_go 2 (pc' := 61) (L' := [some (.ref 127), some (.int y40_1), z2, z3, z4]) (S' := [.int 1]) (w' := w) rfl ?_
    exact tx_Mo_isNew_61 hs 
  · replace hs := hs.2 h35
    refine tm_go 5 (pc' := 53) (L' := [some (.ref 127), some (.int y40_1), z2, z3, z4]) (S' := [.int 7, .int (w.1 178 0)]) (w' := w) rfl ?_
    refine tm_i (p1 := 60) (p2 := 56) rfl (fun h36 => ?_) (fun h36 => ?_)
    · replace hs := hs.1 h36
      refine tm_go 1 (pc' := 61) (L' := [some (.ref 127), some (.int y40_1), z2, z3, z4]) (S' := [.int 0]) (w' := w) rfl ?_
      exact tx_Mo_isNew_61 hs 
    · replace hs := hs.2 h36
      refine tm_go 2 (pc' := 61) (L' := [some (.ref 127), some (.int y40_1), z2, z3, z4]) (S' := [.int 1]) (w' := w) rfl ?_
      exact tx_Mo_isNew_61 hs 
set_option maxHeartbeats 4000000 in
set_option maxRecDepth 100000 in
theorem dm_Mo_isNew {d : Nat} {w : MW} {a0 : Int32} {Q : Int32 → MW → Prop} (hs : p_Mo_isNew w a0 Q) : Tc (d + 1) 43 [.ref 127, .int a0] w (RZ Q) := by
  unfold p_Mo_isNew at hs
  refine tm_go 2 (pc' := 2) (L' := [some (.ref 127), some (.int a0), none, none, none]) (S' := [.int 3, .int a0]) (w' := w) rfl ?_
  refine tm_i (p1 := 114) (p2 := 5) rfl (fun h1 => ?_) (fun h1 => ?_)
  · replace hs := hs.1 h1
    refine tm_go 13 (pc' := 134) (L' := [some (.ref 127), some (.int a0), some (.int (w.1 178 0)), some (.int (w.1 178 1)), none]) (S' := [.int 24, .int (w.1 127 86)]) (w' := w) rfl ?_
    refine tm_i (p1 := 175) (p2 := 137) rfl (fun h2 => ?_) (fun h2 => ?_)
    · replace hs := hs.1 h2
      refine tm_go 1 (pc' := 176) (L' := [some (.ref 127), some (.int a0), some (.int (w.1 178 0)), some (.int (w.1 178 1)), none]) (S' := [.int 0]) (w' := w) rfl ?_
      exact tm_r rfl ⟨_, rfl, by decide, hs⟩
    · replace hs := hs.2 h2
      refine tm_go 5 (pc' := 144) (L' := [some (.ref 127), some (.int a0), some (.int (w.1 178 0)), some (.int (w.1 178 1)), none]) (S' := [.int 1, .int (w.1 178 2)]) (w' := w) rfl ?_
      refine tm_i (p1 := 175) (p2 := 147) rfl (fun h3 => ?_) (fun h3 => ?_)
      · replace hs := hs.1 h3
        refine tm_go 1 (pc' := 176) (L' := [some (.ref 127), some (.int a0), some (.int (w.1 178 0)), some (.int (w.1 178 1)), none]) (S' := [.int 0]) (w' := w) rfl ?_
        exact tm_r rfl ⟨_, rfl, by decide, hs⟩
      · replace hs := hs.2 h3
        refine tm_go 5 (pc' := 156) (L' := [some (.ref 127), some (.int a0), some (.int (w.1 178 0)), some (.int (w.1 178 1)), none]) (S' := [.int 200, .int (w.1 178 2)]) (w' := w) rfl ?_
        refine tm_i (p1 := 175) (p2 := 159) rfl (fun h4 => ?_) (fun h4 => ?_)
        · replace hs := hs.1 h4
          refine tm_go 1 (pc' := 176) (L' := [some (.ref 127), some (.int a0), some (.int (w.1 178 0)), some (.int (w.1 178 1)), none]) (S' := [.int 0]) (w' := w) rfl ?_
          exact tm_r rfl ⟨_, rfl, by decide, hs⟩
        · replace hs := hs.2 h4
          refine tm_go 3 (pc' := 164) (L' := [some (.ref 127), some (.int a0), some (.int (w.1 178 0)), some (.int (w.1 178 1)), none]) (S' := [.int (w.1 127 85), .int (w.1 178 0)]) (w' := w) rfl ?_
          refine tm_i (p1 := 175) (p2 := 167) rfl (fun h5 => ?_) (fun h5 => ?_)
          · replace hs := hs.1 h5
            refine tm_go 1 (pc' := 176) (L' := [some (.ref 127), some (.int a0), some (.int (w.1 178 0)), some (.int (w.1 178 1)), none]) (S' := [.int 0]) (w' := w) rfl ?_
            exact tm_r rfl ⟨_, rfl, by decide, hs⟩
          · replace hs := hs.2 h5
            refine tm_go 3 (pc' := 172) (L' := [some (.ref 127), some (.int a0), some (.int (w.1 178 0)), some (.int (w.1 178 1)), none]) (S' := [.int (w.1 127 85), .int (w.1 178 1)]) (w' := w) rfl ?_
            refine tm_i (p1 := 177) (p2 := 175) rfl (fun h6 => ?_) (fun h6 => ?_)
            · replace hs := hs.1 h6
              refine tm_go 2 (pc' := 179) (L' := [some (.ref 127), some (.int a0), some (.int (w.1 178 0)), some (.int (w.1 178 1)), none]) (S' := [.int (w.1 178 1), .int (w.1 178 0)]) (w' := w) rfl ?_
              refine tm_i (p1 := 186) (p2 := 182) rfl (fun h7 => ?_) (fun h7 => ?_)
              · replace hs := hs.1 h7
                refine tm_go 1 (pc' := 187) (L' := [some (.ref 127), some (.int a0), some (.int (w.1 178 0)), some (.int (w.1 178 1)), none]) (S' := [.int 0]) (w' := w) rfl ?_
                exact tx_Mo_isNew_187 hs 
              · replace hs := hs.2 h7
                refine tm_go 2 (pc' := 187) (L' := [some (.ref 127), some (.int a0), some (.int (w.1 178 0)), some (.int (w.1 178 1)), none]) (S' := [.int 1]) (w' := w) rfl ?_
                exact tx_Mo_isNew_187 hs 
            · replace hs := hs.2 h6
              refine tm_go 1 (pc' := 176) (L' := [some (.ref 127), some (.int a0), some (.int (w.1 178 0)), some (.int (w.1 178 1)), none]) (S' := [.int 0]) (w' := w) rfl ?_
              exact tm_r rfl ⟨_, rfl, by decide, hs⟩
  · replace hs := hs.2 h1
    refine tm_go 3 (pc' := 11) (L' := [some (.ref 127), some (.int a0), none, none, none]) (S' := [.int 20, .int (w.1 127 85)]) (w' := w) rfl ?_
    refine tm_i (p1 := 60) (p2 := 14) rfl (fun h27 => ?_) (fun h27 => ?_)
    · replace hs := hs.1 h27
      refine tm_go 1 (pc' := 61) (L' := [some (.ref 127), some (.int a0), none, none, none]) (S' := [.int 0]) (w' := w) rfl ?_
      exact tx_Mo_isNew_61 hs 
    · replace hs := hs.2 h27
      refine tm_go 1 (pc' := 15) (L' := [some (.ref 127), some (.int a0), none, none, none]) (S' := [.int a0]) (w' := w) rfl ?_
      refine tm_i (p1 := 40) (p2 := 18) rfl (fun h34 => ?_) (fun h34 => ?_)
      · replace hs := hs.1 h34
        exact tx_Mo_isNew_40 hs 
      · replace hs := hs.2 h34
        refine tm_go 5 (pc' := 25) (L' := [some (.ref 127), some (.int a0), none, none, none]) (S' := [.int 1, .int (w.1 178 0)]) (w' := w) rfl ?_
        refine tm_i (p1 := 60) (p2 := 28) rfl (fun h37 => ?_) (fun h37 => ?_)
        · replace hs := hs.1 h37
          refine tm_go 1 (pc' := 61) (L' := [some (.ref 127), some (.int a0), none, none, none]) (S' := [.int 0]) (w' := w) rfl ?_
          exact tx_Mo_isNew_61 hs 
        · replace hs := hs.2 h37
          refine tm_go 5 (pc' := 37) (L' := [some (.ref 127), some (.int a0), none, none, none]) (S' := [.int 100000, .int (w.1 178 0)]) (w' := w) rfl ?_
          refine tm_i (p1 := 60) (p2 := 40) rfl (fun h38 => ?_) (fun h38 => ?_)
          · replace hs := hs.1 h38
            refine tm_go 1 (pc' := 61) (L' := [some (.ref 127), some (.int a0), none, none, none]) (S' := [.int 0]) (w' := w) rfl ?_
            exact tx_Mo_isNew_61 hs 
          · replace hs := hs.2 h38
            exact tx_Mo_isNew_40 hs 
set_option maxHeartbeats 4000000 in
set_option maxRecDepth 100000 in
theorem dm_Mo_here {d : Nat} {w : MW} {Q : Int32 → MW → Prop} (hs : p_Mo_here w Q) : Tc (d + 0) 38 [.ref 127] w (RI Q) := by
  unfold p_Mo_here at hs
  refine tm_go 4 (pc' := 8) (L' := [some (.ref 127)]) (S' := [.int (w.1 127 22), .int (w.1 127 21)]) (w' := w) rfl ?_
  refine tm_i (p1 := 23) (p2 := 11) rfl (fun h1 => ?_) (fun h1 => ?_)
  · replace hs := hs.1 h1
    refine tm_go 1 (pc' := 24) (L' := [some (.ref 127)]) (S' := [.int 0]) (w' := w) rfl ?_
    exact tm_r rfl ⟨_, rfl, hs⟩
  · replace hs := hs.2 h1
    refine tm_go 4 (pc' := 19) (L' := [some (.ref 127)]) (S' := [.int (w.1 127 21), .ref 128]) (w' := w) rfl ?_
    obtain ⟨b2, hs⟩ := hs
    refine tm_k (pc' := 20) (L' := [some (.ref 127)]) (S' := [.int (w.1 128 ((w.1 127 21).toInt.toNat))]) (w' := w) rfl b2 ?_
    refine tm_go 1 (pc' := 24) (L' := [some (.ref 127)]) (S' := [.int (w.1 128 ((w.1 127 21).toInt.toNat))]) (w' := w) rfl ?_
    exact tm_r rfl ⟨_, rfl, hs⟩
set_option maxHeartbeats 4000000 in
set_option maxRecDepth 100000 in
theorem tx_Mo_over_2 {d : Nat} {E : MW → Prop} {Q : Int32 → MW → Prop} (n : Nat) : ∀ (x2_3 : Int64)  (z1 : Option Value) (z2 : Option Value) (w : MW), q_Mo_over_2  E Q n x2_3 w → (∀  (v0 : Option Value) (v1 : Option Value) (v2 : Option Value) (v3 : Option Value) (v4 : Option Value) (w : MW), E  w → Tm (d + 1) 39 41 [v0, v1, v2, v3, v4] [] w (RZ Q)) → Tm (d + 1) 39 2 [some (.ref 127), z1, z2, some (.long x2_3), none] [] w (RZ Q) := by
  induction n with
  | zero => intro x2_3 z1 z2 w hs; rw [q_Mo_over_2.eq_1] at hs; exact hs.elim
  | succ n ih =>
    intro x2_3 z1 z2 w hs hE
    rw [q_Mo_over_2.eq_2] at hs
    refine tm_go 3 (pc' := 5) (L' := [some (.ref 127), z1, z2, some (.long x2_3), none]) (S' := [.int (lg_cmp x2_3 (0 : Int64))]) (w' := w) rfl ?_
    refine tm_i (p1 := 41) (p2 := 8) rfl (fun h1 => ?_) (fun h1 => ?_)
    · replace hs := hs.1 h1
      exact hE _ _ _ _ _ _ hs
    · replace hs := hs.2 h1
      refine tm_go 1 (pc' := 9) (L' := [some (.ref 127), z1, z2, some (.long x2_3), none]) (S' := [.ref 127]) (w' := w) rfl ?_
      refine tm_c rfl (Nat.le_of_ble_eq_true rfl) (dm_Mo_here (d := d + 0) hs) (fun v w2 hq => ?_)
      obtain ⟨r2, rfl, hs⟩ := hq
      refine tm_go 4 (pc' := 18) (L' := [some (.ref 127), z1, z2, some (.long x2_3), none]) (S' := [.int (Int64.toInt32 (x2_3 &&& (255 : Int64))), .int r2]) (w' := w2) rfl ?_
      refine tm_i (p1 := 23) (p2 := 21) rfl (fun h3 => ?_) (fun h3 => ?_)
      · replace hs := hs.1 h3
        refine tm_go 11 (pc' := 2) (L' := [some (.ref 127), z1, (ksl z2), some (.long ((x2_3.toUInt64 >>> ((8 : Int32).toInt64.toUInt64 &&& Int64.toUInt64 63)).toInt64)), none]) (S' := []) (w' := (sI w2 127 21 ((w2.1 127 21) + (1 : Int32)))) rfl ?_
        exact ih _ _ _ _ hs hE
      · replace hs := hs.2 h3
        refine tm_go 1 (pc' := 22) (L' := [some (.ref 127), z1, z2, some (.long x2_3), none]) (S' := [.int 0]) (w' := w2) rfl ?_
        exact tm_r rfl ⟨_, rfl, by decide, hs⟩
set_option maxHeartbeats 4000000 in
set_option maxRecDepth 100000 in
theorem dm_Mo_over {d : Nat} {w : MW} {a0 : Int64} {Q : Int32 → MW → Prop} (hs : p_Mo_over w a0 Q) : Tc (d + 1) 39 [.ref 127, .long a0] w (RZ Q) := by
  unfold p_Mo_over at hs
  refine tm_go 2 (pc' := 2) (L' := [some (.ref 127), some (.long a0), none, some (.long a0), none]) (S' := []) (w' := w) rfl ?_
  refine tx_Mo_over_2 FU _ _ _ _ hs (fun  z4_0 z4_1 z4_2 z4_3 z4_4 w4 hs => ?_)
  refine tm_go 1 (pc' := 42) (L' := [z4_0, z4_1, z4_2, z4_3, z4_4]) (S' := [.int 1]) (w' := w4) rfl ?_
  exact tm_r rfl ⟨_, rfl, by decide, hs⟩
set_option maxHeartbeats 4000000 in
set_option maxRecDepth 100000 in
theorem tx_Mo_number_88 {d : Nat} {x45_2 : Int32} {y88_3 : Int32} {z1 : Option Value} {w : MW} {A : Int32 → MW → Prop} {E : Int32 → MW → Prop} {Q : Int32 → MW → Prop} (hs : q_Mo_number_88 x45_2 y88_3 w A E Q) (hA : ∀ (x45_3 : Int32)  (z1 : Option Value) (w : MW), A x45_3 w → Tm (d + 2) 40 45 [some (.ref 127), z1, some (.int x45_2), some (.int x45_3)] [] w (RI Q)) (hE : ∀ (e45_3 : Int32)  (v1 : Option Value) (w : MW), E e45_3 w → Tm (d + 2) 40 114 [some (.ref 127), v1, some (.int x45_2), some (.int e45_3)] [] w (RI Q)) : Tm (d + 2) 40 88 [some (.ref 127), z1, some (.int x45_2), some (.int y88_3)] [] w (RI Q) := by
  unfold q_Mo_number_88 at hs
  refine tm_go 4 (pc' := 93) (L' := [some (.ref 127), z1, some (.int x45_2), some (.int y88_3)]) (S' := [.ref 127, .int ((10 : Int32) * y88_3)]) (w' := w) rfl ?_
  refine tm_c rfl (Nat.le_of_ble_eq_true rfl) (dm_Mo_here (d := d + 1) hs) (fun v w10 hq => ?_)
  obtain ⟨r10, rfl, hs⟩ := hq
  refine tm_go 11 (pc' := 45) (L' := [some (.ref 127), z1, some (.int x45_2), some (.int ((((10 : Int32) * y88_3) + r10) - (48 : Int32)))]) (S' := []) (w' := (sI w10 127 21 ((w10.1 127 21) + (1 : Int32)))) rfl ?_
  exact hA _ _ _ hs
set_option maxHeartbeats 4000000 in
set_option maxRecDepth 100000 in
theorem tx_Mo_number_45 {d : Nat} {x45_2 : Int32} {E : Int32 → MW → Prop} {Q : Int32 → MW → Prop} (n : Nat) : ∀ (x45_3 : Int32)  (z1 : Option Value) (w : MW), q_Mo_number_45 x45_2 E Q n x45_3 w → (∀ (e45_3 : Int32)  (v1 : Option Value) (w : MW), E e45_3 w → Tm (d + 2) 40 114 [some (.ref 127), v1, some (.int x45_2), some (.int e45_3)] [] w (RI Q)) → Tm (d + 2) 40 45 [some (.ref 127), z1, some (.int x45_2), some (.int x45_3)] [] w (RI Q) := by
  induction n with
  | zero => intro x45_3 z1 w hs; rw [q_Mo_number_45.eq_1] at hs; exact hs.elim
  | succ n ih =>
    intro x45_3 z1 w hs hE
    rw [q_Mo_number_45.eq_2] at hs
    refine tm_go 1 (pc' := 46) (L' := [some (.ref 127), z1, some (.int x45_2), some (.int x45_3)]) (S' := [.ref 127]) (w' := w) rfl ?_
    refine tm_c rfl (Nat.le_of_ble_eq_true rfl) (dm_Mo_here (d := d + 1) hs) (fun v w4 hq => ?_)
    obtain ⟨r4, rfl, hs⟩ := hq
    refine tm_go 1 (pc' := 51) (L' := [some (.ref 127), z1, some (.int x45_2), some (.int x45_3)]) (S' := [.int 48, .int r4]) (w' := w4) rfl ?_
    refine tm_i (p1 := 114) (p2 := 54) rfl (fun h5 => ?_) (fun h5 => ?_)
    · replace hs := hs.1 h5
      exact hE _ _ _ hs
    · replace hs := hs.2 h5
      refine tm_go 1 (pc' := 55) (L' := [some (.ref 127), z1, some (.int x45_2), some (.int x45_3)]) (S' := [.ref 127]) (w' := w4) rfl ?_
      refine tm_c rfl (Nat.le_of_ble_eq_true rfl) (dm_Mo_here (d := d + 1) hs) (fun v w6 hq => ?_)
      obtain ⟨r6, rfl, hs⟩ := hq
      refine tm_go 1 (pc' := 60) (L' := [some (.ref 127), z1, some (.int x45_2), some (.int x45_3)]) (S' := [.int 57, .int r6]) (w' := w6) rfl ?_
      refine tm_i (p1 := 114) (p2 := 63) rfl (fun h7 => ?_) (fun h7 => ?_)
      · replace hs := hs.1 h7
        exact hE _ _ _ hs
      · replace hs := hs.2 h7
        refine tm_go 5 (pc' := 71) (L' := [some (.ref 127), z1, some (.int x45_2), some (.int x45_3)]) (S' := [.int 7, .int ((w6.1 127 21) - x45_2)]) (w' := w6) rfl ?_
        refine tm_i (p1 := 114) (p2 := 74) rfl (fun h8 => ?_) (fun h8 => ?_)
        · replace hs := hs.1 h8
          exact hE _ _ _ hs
        · replace hs := hs.2 h8
          refine tm_go 5 (pc' := 81) (L' := [some (.ref 127), z1, some (.int x45_2), some (.int x45_3)]) (S' := [.int 1, .int ((w6.1 127 21) - x45_2)]) (w' := w6) rfl ?_
          refine tm_i (p1 := 88) (p2 := 84) rfl (fun h9 => ?_) (fun h9 => ?_)
          · replace hs := hs.1 h9
            exact tx_Mo_number_88 hs (fun q0 q1 q2 hs => ih q0 q1 q2 hs hE) hE
          · replace hs := hs.2 h9
            refine tm_go 1 (pc' := 85) (L' := [some (.ref 127), z1, some (.int x45_2), some (.int x45_3)]) (S' := [.int x45_3]) (w' := w6) rfl ?_
            refine tm_i (p1 := 114) (p2 := 88) rfl (fun h11 => ?_) (fun h11 => ?_)
            · replace hs := hs.1 h11
              exact hE _ _ _ hs
            · replace hs := hs.2 h11
              exact tx_Mo_number_88 hs (fun q0 q1 q2 hs => ih q0 q1 q2 hs hE) hE
set_option maxHeartbeats 4000000 in
set_option maxRecDepth 100000 in
theorem tx_Mo_number_38 {d : Nat} {z1 : Option Value} {z2 : Option Value} {z3 : Option Value} {w : MW} {Q : Int32 → MW → Prop} (hs : q_Mo_number_38  w Q) : Tm (d + 2) 40 38 [some (.ref 127), z1, z2, z3] [] w (RI Q) := by
  unfold q_Mo_number_38 at hs
  refine tm_go 5 (pc' := 45) (L' := [some (.ref 127), (ksl z1), some (.int (w.1 127 21)), some (.int 0)]) (S' := []) (w' := w) rfl ?_
  refine tx_Mo_number_45 FU _ _ _ hs (fun e45_3_12 z12_1 w12 hs => ?_)
  refine tm_go 3 (pc' := 119) (L' := [some (.ref 127), z12_1, some (.int (w.1 127 21)), some (.int e45_3_12)]) (S' := [.int (w.1 127 21), .int (w12.1 127 21)]) (w' := w12) rfl ?_
  refine tm_i (p1 := 127) (p2 := 122) rfl (fun h13 => ?_) (fun h13 => ?_)
  · replace hs := hs.1 h13
    refine tm_go 1 (pc' := 128) (L' := [some (.ref 127), z12_1, some (.int (w.1 127 21)), some (.int e45_3_12)]) (S' := [.int e45_3_12]) (w' := w12) rfl ?_
    exact tm_r rfl ⟨_, rfl, hs⟩
  · replace hs := hs.2 h13
    refine tm_go 2 (pc' := 128) (L' := [some (.ref 127), z12_1, some (.int (w.1 127 21)), some (.int e45_3_12)]) (S' := [.int (-2)]) (w' := w12) rfl ?_
    exact tm_r rfl ⟨_, rfl, hs⟩
set_option maxHeartbeats 4000000 in
set_option maxRecDepth 100000 in
theorem dm_Mo_number {d : Nat} {w : MW} {a0 : Int32} {Q : Int32 → MW → Prop} (hs : p_Mo_number w a0 Q) : Tc (d + 2) 40 [.ref 127, .int a0] w (RI Q) := by
  unfold p_Mo_number at hs
  refine tm_go 2 (pc' := 4) (L' := [some (.ref 127), some (.int a0), none, none]) (S' := [.long 32, .ref 127]) (w' := w) rfl ?_
  refine tm_c rfl (Nat.le_of_ble_eq_true rfl) (dm_Mo_over (d := d + 0) hs) (fun v w1 hq => ?_)
  obtain ⟨r1, rfl, hz1, hs⟩ := hq
  refine tm_i (p1 := 13) (p2 := 10) rfl (fun h2 => ?_) (fun h2 => ?_)
  · replace hs := hs.1 h2
    refine tm_go 1 (pc' := 14) (L' := [some (.ref 127), some (.int a0), none, none]) (S' := [.int a0]) (w' := w1) rfl ?_
    refine tm_i (p1 := 38) (p2 := 17) rfl (fun h3 => ?_) (fun h3 => ?_)
    · replace hs := hs.1 h3
      exact tx_Mo_number_38 hs 
    · replace hs := hs.2 h3
      refine tm_go 1 (pc' := 18) (L' := [some (.ref 127), some (.int a0), none, none]) (S' := [.ref 127]) (w' := w1) rfl ?_
      refine tm_c rfl (Nat.le_of_ble_eq_true rfl) (dm_Mo_here (d := d + 1) hs) (fun v w14 hq => ?_)
      obtain ⟨r14, rfl, hs⟩ := hq
      refine tm_go 1 (pc' := 23) (L' := [some (.ref 127), some (.int a0), none, none]) (S' := [.int 45, .int r14]) (w' := w14) rfl ?_
      refine tm_i (p1 := 38) (p2 := 26) rfl (fun h15 => ?_) (fun h15 => ?_)
      · replace hs := hs.1 h15
        exact tx_Mo_number_38 hs 
      · replace hs := hs.2 h15
        refine tm_go 7 (pc' := 37) (L' := [some (.ref 127), some (.int a0), none, none]) (S' := [.int (-1)]) (w' := (sI w14 127 21 ((w14.1 127 21) + (1 : Int32)))) rfl ?_
        exact tm_r rfl ⟨_, rfl, hs⟩
  · replace hs := hs.2 h2
    refine tm_go 1 (pc' := 12) (L' := [some (.ref 127), some (.int a0), none, none]) (S' := [.int (-2)]) (w' := w1) rfl ?_
    exact tm_r rfl ⟨_, rfl, hs⟩
set_option maxHeartbeats 4000000 in
set_option maxRecDepth 100000 in
theorem tx_Mo_planLine_163 {d : Nat} {x138_1 : Int32} {x138_2 : Int32} {y163_3 : Int32} {ys163_1 : Int32}  {w : MW} {A : Int32 → MW → Prop} {E : MW → Prop} {Q : Int32 → MW → Prop} (hs : q_Mo_planLine_163 x138_1 x138_2 y163_3 ys163_1 w A E Q) (hA : ∀ (x138_3 : Int32)   (w : MW), A x138_3 w → Tm (d + 3) 41 138 [some (.ref 127), some (.int x138_1), some (.int x138_2), some (.int x138_3)] [] w (RI Q)) (hE : ∀  (v2 : Option Value) (v3 : Option Value) (w : MW), E  w → Tm (d + 3) 41 187 [some (.ref 127), some (.int x138_1), v2, v3] [] w (RI Q)) : Tm (d + 3) 41 163 [some (.ref 127), some (.int x138_1), some (.int x138_2), some (.int y163_3)] [.ref 127, .int ys163_1, .ref 178] w (RI Q) := by
  unfold q_Mo_planLine_163 at hs
  refine tm_go 1 (pc' := 164) (L' := [some (.ref 127), some (.int x138_1), some (.int x138_2), some (.int y163_3)]) (S' := [.int 0, .ref 127, .int ys163_1, .ref 178]) (w' := w) rfl ?_
  refine tm_c rfl (Nat.le_of_ble_eq_true rfl) (dm_Mo_number (d := d + 0) hs) (fun v w10 hq => ?_)
  obtain ⟨r10, rfl, hs⟩ := hq
  obtain ⟨b11, hs⟩ := hs
  refine tm_k (pc' := 168) (L' := [some (.ref 127), some (.int x138_1), some (.int x138_2), some (.int y163_3)]) (S' := []) (w' := (sI w10 178 ys163_1.toInt.toNat r10)) rfl b11 ?_
  refine tm_go 3 (pc' := 173) (L' := [some (.ref 127), some (.int x138_1), some (.int x138_2), some (.int y163_3)]) (S' := [.int y163_3, .ref 178]) (w' := (sI w10 178 ys163_1.toInt.toNat r10)) rfl ?_
  obtain ⟨b12, hs⟩ := hs
  refine tm_k (pc' := 174) (L' := [some (.ref 127), some (.int x138_1), some (.int x138_2), some (.int y163_3)]) (S' := [.int ((sI w10 178 ys163_1.toInt.toNat r10).1 178 y163_3.toInt.toNat)]) (w' := (sI w10 178 ys163_1.toInt.toNat r10)) rfl b12 ?_
  refine tm_go 1 (pc' := 176) (L' := [some (.ref 127), some (.int x138_1), some (.int x138_2), some (.int y163_3)]) (S' := [.int (-2), .int ((sI w10 178 ys163_1.toInt.toNat r10).1 178 y163_3.toInt.toNat)]) (w' := (sI w10 178 ys163_1.toInt.toNat r10)) rfl ?_
  refine tm_i (p1 := 181) (p2 := 179) rfl (fun h13 => ?_) (fun h13 => ?_)
  · replace hs := hs.1 h13
    refine tm_go 2 (pc' := 138) (L' := [some (.ref 127), some (.int x138_1), some (.int x138_2), some (.int (y163_3 + (1 : Int32)))]) (S' := []) (w' := (sI w10 178 ys163_1.toInt.toNat r10)) rfl ?_
    exact hA _ _ hs
  · replace hs := hs.2 h13
    refine tm_go 1 (pc' := 180) (L' := [some (.ref 127), some (.int x138_1), some (.int x138_2), some (.int y163_3)]) (S' := [.int (-1)]) (w' := (sI w10 178 ys163_1.toInt.toNat r10)) rfl ?_
    exact tm_r rfl ⟨_, rfl, hs⟩
set_option maxHeartbeats 4000000 in
set_option maxRecDepth 100000 in
theorem tx_Mo_planLine_138 {d : Nat} {x138_1 : Int32} {x138_2 : Int32} {E : MW → Prop} {Q : Int32 → MW → Prop} (n : Nat) : ∀ (x138_3 : Int32)   (w : MW), q_Mo_planLine_138 x138_1 x138_2 E Q n x138_3 w → (∀  (v2 : Option Value) (v3 : Option Value) (w : MW), E  w → Tm (d + 3) 41 187 [some (.ref 127), some (.int x138_1), v2, v3] [] w (RI Q)) → Tm (d + 3) 41 138 [some (.ref 127), some (.int x138_1), some (.int x138_2), some (.int x138_3)] [] w (RI Q) := by
  induction n with
  | zero => intro x138_3  w hs; rw [q_Mo_planLine_138.eq_1] at hs; exact hs.elim
  | succ n ih =>
    intro x138_3  w hs hE
    rw [q_Mo_planLine_138.eq_2] at hs
    refine tm_go 2 (pc' := 140) (L' := [some (.ref 127), some (.int x138_1), some (.int x138_2), some (.int x138_3)]) (S' := [.int x138_2, .int x138_3]) (w' := w) rfl ?_
    refine tm_i (p1 := 187) (p2 := 143) rfl (fun h8 => ?_) (fun h8 => ?_)
    · replace hs := hs.1 h8
      exact hE _ _ _ hs
    · replace hs := hs.2 h8
      refine tm_go 6 (pc' := 151) (L' := [some (.ref 127), some (.int x138_1), some (.int x138_2), some (.int x138_3)]) (S' := [.int 3, .int x138_1, .ref 127, .int x138_3, .ref 178]) (w' := w) rfl ?_
      refine tm_i (p1 := 163) (p2 := 154) rfl (fun h9 => ?_) (fun h9 => ?_)
      · replace hs := hs.1 h9
        exact tx_Mo_planLine_163 hs (fun q0 q1 hs => ih q0 q1 hs hE) hE
      · replace hs := hs.2 h9
        refine tm_go 2 (pc' := 156) (L' := [some (.ref 127), some (.int x138_1), some (.int x138_2), some (.int x138_3)]) (S' := [.int 2, .int x138_3, .ref 127, .int x138_3, .ref 178]) (w' := w) rfl ?_
        refine tm_i (p1 := 163) (p2 := 159) rfl (fun h14 => ?_) (fun h14 => ?_)
        · replace hs := hs.1 h14
          exact tx_Mo_planLine_163 hs (fun q0 q1 hs => ih q0 q1 hs hE) hE
        · replace hs := hs.2 h14
          refine tm_go 2 (pc' := 164) (L' := [some (.ref 127), some (.int x138_1), some (.int x138_2), some (.int x138_3)]) (S' := [.int 1, .ref 127, .int x138_3, .ref 178]) (w' := w) rfl ?_
          refine tm_c rfl (Nat.le_of_ble_eq_true rfl) (dm_Mo_number (d := d + 0) hs) (fun v w15 hq => ?_)
          obtain ⟨r15, rfl, hs⟩ := hq
          obtain ⟨b16, hs⟩ := hs
          refine tm_k (pc' := 168) (L' := [some (.ref 127), some (.int x138_1), some (.int x138_2), some (.int x138_3)]) (S' := []) (w' := (sI w15 178 x138_3.toInt.toNat r15)) rfl b16 ?_
          refine tm_go 3 (pc' := 173) (L' := [some (.ref 127), some (.int x138_1), some (.int x138_2), some (.int x138_3)]) (S' := [.int x138_3, .ref 178]) (w' := (sI w15 178 x138_3.toInt.toNat r15)) rfl ?_
          obtain ⟨b17, hs⟩ := hs
          refine tm_k (pc' := 174) (L' := [some (.ref 127), some (.int x138_1), some (.int x138_2), some (.int x138_3)]) (S' := [.int ((sI w15 178 x138_3.toInt.toNat r15).1 178 x138_3.toInt.toNat)]) (w' := (sI w15 178 x138_3.toInt.toNat r15)) rfl b17 ?_
          refine tm_go 1 (pc' := 176) (L' := [some (.ref 127), some (.int x138_1), some (.int x138_2), some (.int x138_3)]) (S' := [.int (-2), .int ((sI w15 178 x138_3.toInt.toNat r15).1 178 x138_3.toInt.toNat)]) (w' := (sI w15 178 x138_3.toInt.toNat r15)) rfl ?_
          refine tm_i (p1 := 181) (p2 := 179) rfl (fun h18 => ?_) (fun h18 => ?_)
          · replace hs := hs.1 h18
            refine tm_go 2 (pc' := 138) (L' := [some (.ref 127), some (.int x138_1), some (.int x138_2), some (.int (x138_3 + (1 : Int32)))]) (S' := []) (w' := (sI w15 178 x138_3.toInt.toNat r15)) rfl ?_
            exact ih _ _ hs hE
          · replace hs := hs.2 h18
            refine tm_go 1 (pc' := 180) (L' := [some (.ref 127), some (.int x138_1), some (.int x138_2), some (.int x138_3)]) (S' := [.int (-1)]) (w' := (sI w15 178 x138_3.toInt.toNat r15)) rfl ?_
            exact tm_r rfl ⟨_, rfl, hs⟩
set_option maxHeartbeats 4000000 in
set_option maxRecDepth 100000 in
theorem tx_Mo_planLine_135 {d : Nat} {y135_1 : Int32} {ys135_0 : Int32} {z2 : Option Value} {z3 : Option Value} {w : MW} {Q : Int32 → MW → Prop} (hs : q_Mo_planLine_135 y135_1 ys135_0 w Q) : Tm (d + 3) 41 135 [some (.ref 127), some (.int y135_1), z2, z3] [.int ys135_0] w (RI Q) := by
  unfold q_Mo_planLine_135 at hs
  refine tm_go 3 (pc' := 138) (L' := [some (.ref 127), some (.int y135_1), some (.int ys135_0), some (.int 0)]) (S' := []) (w' := w) rfl ?_
  refine tx_Mo_planLine_138 FU _ _ hs (fun  z19_2 z19_3 w19 hs => ?_)
  refine tm_go 2 (pc' := 189) (L' := [some (.ref 127), some (.int y135_1), z19_2, z19_3]) (S' := [.int (-1), .int y135_1]) (w' := w19) rfl ?_
  refine tm_i (p1 := 205) (p2 := 192) rfl (fun h20 => ?_) (fun h20 => ?_)
  · replace hs := hs.1 h20
    refine tm_go 1 (pc' := 206) (L' := [some (.ref 127), some (.int y135_1), z19_2, z19_3]) (S' := [.int (-1)]) (w' := w19) rfl ?_
    exact tm_r rfl ⟨_, rfl, hs⟩
  · replace hs := hs.2 h20
    refine tm_go 1 (pc' := 193) (L' := [some (.ref 127), some (.int y135_1), z19_2, z19_3]) (S' := [.ref 127]) (w' := w19) rfl ?_
    refine tm_c rfl (Nat.le_of_ble_eq_true rfl) (dm_Mo_here (d := d + 2) hs) (fun v w21 hq => ?_)
    obtain ⟨r21, rfl, hs⟩ := hq
    refine tm_go 1 (pc' := 198) (L' := [some (.ref 127), some (.int y135_1), z19_2, z19_3]) (S' := [.int 10, .int r21]) (w' := w21) rfl ?_
    refine tm_i (p1 := 205) (p2 := 201) rfl (fun h22 => ?_) (fun h22 => ?_)
    · replace hs := hs.1 h22
      refine tm_go 1 (pc' := 206) (L' := [some (.ref 127), some (.int y135_1), z19_2, z19_3]) (S' := [.int (-1)]) (w' := w21) rfl ?_
      exact tm_r rfl ⟨_, rfl, hs⟩
    · replace hs := hs.2 h22
      refine tm_go 2 (pc' := 206) (L' := [some (.ref 127), some (.int y135_1), z19_2, z19_3]) (S' := [.int y135_1]) (w' := w21) rfl ?_
      exact tm_r rfl ⟨_, rfl, hs⟩
set_option maxHeartbeats 4000000 in
set_option maxRecDepth 100000 in
theorem tx_Mo_planLine_111 {d : Nat} {y111_1 : Int32} {z2 : Option Value} {z3 : Option Value} {w : MW} {Q : Int32 → MW → Prop} (hs : q_Mo_planLine_111 y111_1 w Q) : Tm (d + 3) 41 111 [some (.ref 127), some (.int y111_1), z2, z3] [] w (RI Q) := by
  unfold q_Mo_planLine_111 at hs
  refine tm_go 2 (pc' := 113) (L' := [some (.ref 127), some (.int y111_1), z2, z3]) (S' := [.int (-1), .int y111_1]) (w' := w) rfl ?_
  refine tm_i (p1 := 121) (p2 := 116) rfl (fun h7 => ?_) (fun h7 => ?_)
  · replace hs := hs.1 h7
    refine tm_go 2 (pc' := 135) (L' := [some (.ref 127), some (.int y111_1), z2, z3]) (S' := [.int 0]) (w' := w) rfl ?_
    exact tx_Mo_planLine_135 hs 
  · replace hs := hs.2 h7
    refine tm_go 2 (pc' := 118) (L' := [some (.ref 127), some (.int y111_1), z2, z3]) (S' := [.int 1, .int y111_1]) (w' := w) rfl ?_
    refine tm_i (p1 := 125) (p2 := 121) rfl (fun h23 => ?_) (fun h23 => ?_)
    · replace hs := hs.1 h23
      refine tm_go 2 (pc' := 127) (L' := [some (.ref 127), some (.int y111_1), z2, z3]) (S' := [.int 3, .int y111_1]) (w' := w) rfl ?_
      refine tm_i (p1 := 134) (p2 := 130) rfl (fun h24 => ?_) (fun h24 => ?_)
      · replace hs := hs.1 h24
        refine tm_go 1 (pc' := 135) (L' := [some (.ref 127), some (.int y111_1), z2, z3]) (S' := [.int 1]) (w' := w) rfl ?_
        exact tx_Mo_planLine_135 hs 
      · replace hs := hs.2 h24
        refine tm_go 2 (pc' := 135) (L' := [some (.ref 127), some (.int y111_1), z2, z3]) (S' := [.int 3]) (w' := w) rfl ?_
        exact tx_Mo_planLine_135 hs 
    · replace hs := hs.2 h23
      refine tm_go 2 (pc' := 135) (L' := [some (.ref 127), some (.int y111_1), z2, z3]) (S' := [.int 0]) (w' := w) rfl ?_
      exact tx_Mo_planLine_135 hs 
set_option maxHeartbeats 4000000 in
set_option maxRecDepth 100000 in
theorem dm_Mo_planLine {d : Nat} {w : MW} {Q : Int32 → MW → Prop} (hs : p_Mo_planLine w Q) : Tc (d + 3) 41 [.ref 127] w (RI Q) := by
  unfold p_Mo_planLine at hs
  refine tm_go 3 (pc' := 3) (L' := [some (.ref 127), some (.int (-1)), none, none]) (S' := [.ref 127]) (w' := w) rfl ?_
  refine tm_c rfl (Nat.le_of_ble_eq_true rfl) (dm_Mo_here (d := d + 2) hs) (fun v w1 hq => ?_)
  obtain ⟨r1, rfl, hs⟩ := hq
  refine tm_go 1 (pc' := 8) (L' := [some (.ref 127), some (.int (-1)), none, none]) (S' := [.int 116, .int r1]) (w' := w1) rfl ?_
  refine tm_i (p1 := 30) (p2 := 11) rfl (fun h2 => ?_) (fun h2 => ?_)
  · replace hs := hs.1 h2
    refine tm_go 1 (pc' := 31) (L' := [some (.ref 127), some (.int (-1)), none, none]) (S' := [.ref 127]) (w' := w1) rfl ?_
    refine tm_c rfl (Nat.le_of_ble_eq_true rfl) (dm_Mo_here (d := d + 2) hs) (fun v w3 hq => ?_)
    obtain ⟨r3, rfl, hs⟩ := hq
    refine tm_go 1 (pc' := 36) (L' := [some (.ref 127), some (.int (-1)), none, none]) (S' := [.int 118, .int r3]) (w' := w3) rfl ?_
    refine tm_i (p1 := 58) (p2 := 39) rfl (fun h4 => ?_) (fun h4 => ?_)
    · replace hs := hs.1 h4
      refine tm_go 2 (pc' := 62) (L' := [some (.ref 127), some (.int (-1)), none, none]) (S' := [.long 112, .ref 127]) (w' := w3) rfl ?_
      refine tm_c rfl (Nat.le_of_ble_eq_true rfl) (dm_Mo_over (d := d + 1) hs) (fun v w5 hq => ?_)
      obtain ⟨r5, rfl, hz5, hs⟩ := hq
      refine tm_i (p1 := 111) (p2 := 68) rfl (fun h6 => ?_) (fun h6 => ?_)
      · replace hs := hs.1 h6
        exact tx_Mo_planLine_111 hs 
      · replace hs := hs.2 h6
        refine tm_go 1 (pc' := 69) (L' := [some (.ref 127), some (.int (-1)), none, none]) (S' := [.ref 127]) (w' := w5) rfl ?_
        refine tm_c rfl (Nat.le_of_ble_eq_true rfl) (dm_Mo_here (d := d + 2) hs) (fun v w25 hq => ?_)
        obtain ⟨r25, rfl, hs⟩ := hq
        refine tm_go 1 (pc' := 74) (L' := [some (.ref 127), some (.int (-1)), none, none]) (S' := [.int 117, .int r25]) (w' := w25) rfl ?_
        refine tm_i (p1 := 95) (p2 := 77) rfl (fun h26 => ?_) (fun h26 => ?_)
        · replace hs := hs.1 h26
          refine tm_go 2 (pc' := 99) (L' := [some (.ref 127), some (.int (-1)), none, none]) (S' := [.long 6647913, .ref 127]) (w' := w25) rfl ?_
          refine tm_c rfl (Nat.le_of_ble_eq_true rfl) (dm_Mo_over (d := d + 1) hs) (fun v w27 hq => ?_)
          obtain ⟨r27, rfl, hz27, hs⟩ := hq
          refine tm_i (p1 := 109) (p2 := 105) rfl (fun h28 => ?_) (fun h28 => ?_)
          · replace hs := hs.1 h28
            refine tm_go 2 (pc' := 111) (L' := [some (.ref 127), some (.int (-1)), none, none]) (S' := []) (w' := w27) rfl ?_
            exact tx_Mo_planLine_111 hs 
          · replace hs := hs.2 h28
            refine tm_go 3 (pc' := 111) (L' := [some (.ref 127), some (.int 3), none, none]) (S' := []) (w' := w27) rfl ?_
            exact tx_Mo_planLine_111 hs 
        · replace hs := hs.2 h26
          refine tm_go 2 (pc' := 81) (L' := [some (.ref 127), some (.int (-1)), none, none]) (S' := [.long 7368053, .ref 127]) (w' := w25) rfl ?_
          refine tm_c rfl (Nat.le_of_ble_eq_true rfl) (dm_Mo_over (d := d + 1) hs) (fun v w29 hq => ?_)
          obtain ⟨r29, rfl, hz29, hs⟩ := hq
          refine tm_i (p1 := 91) (p2 := 87) rfl (fun h30 => ?_) (fun h30 => ?_)
          · replace hs := hs.1 h30
            refine tm_go 3 (pc' := 111) (L' := [some (.ref 127), some (.int (-1)), none, none]) (S' := []) (w' := w29) rfl ?_
            exact tx_Mo_planLine_111 hs 
          · replace hs := hs.2 h30
            refine tm_go 3 (pc' := 111) (L' := [some (.ref 127), some (.int 1), none, none]) (S' := []) (w' := w29) rfl ?_
            exact tx_Mo_planLine_111 hs 
    · replace hs := hs.2 h4
      refine tm_go 2 (pc' := 43) (L' := [some (.ref 127), some (.int (-1)), none, none]) (S' := [.long 435778511222, .ref 127]) (w' := w3) rfl ?_
      refine tm_c rfl (Nat.le_of_ble_eq_true rfl) (dm_Mo_over (d := d + 1) hs) (fun v w31 hq => ?_)
      obtain ⟨r31, rfl, hz31, hs⟩ := hq
      refine tm_i (p1 := 53) (p2 := 49) rfl (fun h32 => ?_) (fun h32 => ?_)
      · replace hs := hs.1 h32
        refine tm_go 3 (pc' := 111) (L' := [some (.ref 127), some (.int (-1)), none, none]) (S' := []) (w' := w31) rfl ?_
        exact tx_Mo_planLine_111 hs 
      · replace hs := hs.2 h32
        refine tm_go 4 (pc' := 111) (L' := [some (.ref 127), some (.int 2), none, none]) (S' := []) (w' := w31) rfl ?_
        exact tx_Mo_planLine_111 hs 
  · replace hs := hs.2 h2
    refine tm_go 2 (pc' := 15) (L' := [some (.ref 127), some (.int (-1)), none, none]) (S' := [.long 1802396020, .ref 127]) (w' := w1) rfl ?_
    refine tm_c rfl (Nat.le_of_ble_eq_true rfl) (dm_Mo_over (d := d + 1) hs) (fun v w33 hq => ?_)
    obtain ⟨r33, rfl, hz33, hs⟩ := hq
    refine tm_i (p1 := 25) (p2 := 21) rfl (fun h34 => ?_) (fun h34 => ?_)
    · replace hs := hs.1 h34
      refine tm_go 3 (pc' := 111) (L' := [some (.ref 127), some (.int (-1)), none, none]) (S' := []) (w' := w33) rfl ?_
      exact tx_Mo_planLine_111 hs 
    · replace hs := hs.2 h34
      refine tm_go 4 (pc' := 111) (L' := [some (.ref 127), some (.int 0), none, none]) (S' := []) (w' := w33) rfl ?_
      exact tx_Mo_planLine_111 hs 
set_option maxHeartbeats 4000000 in
set_option maxRecDepth 100000 in
theorem tx_Mo_readPlant_15 {d : Nat} {E : MW → Prop} {Q : Int32 → MW → Prop} (n : Nat) : ∀  (z1 : Option Value) (w : MW), q_Mo_readPlant_15  E Q n  w → (∀  (v1 : Option Value) (w : MW), E  w → Tm (d + 4) 44 65 [some (.ref 127), v1] [] w (RI Q)) → Tm (d + 4) 44 15 [some (.ref 127), z1] [] w (RI Q) := by
  induction n with
  | zero => intro  z1 w hs; rw [q_Mo_readPlant_15.eq_1] at hs; exact hs.elim
  | succ n ih =>
    intro  z1 w hs hE
    rw [q_Mo_readPlant_15.eq_2] at hs
    refine tm_go 4 (pc' := 23) (L' := [some (.ref 127), z1]) (S' := [.int (w.1 127 22), .int (w.1 127 21)]) (w' := w) rfl ?_
    refine tm_i (p1 := 65) (p2 := 26) rfl (fun h1 => ?_) (fun h1 => ?_)
    · replace hs := hs.1 h1
      exact hE _ _ hs
    · replace hs := hs.2 h1
      refine tm_go 1 (pc' := 27) (L' := [some (.ref 127), z1]) (S' := [.ref 127]) (w' := w) rfl ?_
      refine tm_c rfl (Nat.le_of_ble_eq_true rfl) (dm_Mo_planLine (d := d + 0) hs) (fun v w2 hq => ?_)
      obtain ⟨r2, rfl, hs⟩ := hq
      refine tm_go 3 (pc' := 33) (L' := [some (.ref 127), some (.int r2)]) (S' := [.int (-1), .int r2]) (w' := w2) rfl ?_
      refine tm_i (p1 := 44) (p2 := 36) rfl (fun h3 => ?_) (fun h3 => ?_)
      · replace hs := hs.1 h3
        refine tm_go 4 (pc' := 51) (L' := [some (.ref 127), some (.int r2)]) (S' := [.int (((-3) : Int32) - (w2.1 127 21))]) (w' := w2) rfl ?_
        exact tm_r rfl ⟨_, rfl, hs⟩
      · replace hs := hs.2 h3
        refine tm_go 2 (pc' := 38) (L' := [some (.ref 127), some (.int r2)]) (S' := [.int r2, .ref 127]) (w' := w2) rfl ?_
        refine tm_c rfl (Nat.le_of_ble_eq_true rfl) (dm_Mo_isNew (d := d + 2) hs) (fun v w4 hq => ?_)
        obtain ⟨r4, rfl, hz4, hs⟩ := hq
        refine tm_i (p1 := 52) (p2 := 44) rfl (fun h5 => ?_) (fun h5 => ?_)
        · replace hs := hs.1 h5
          refine tm_go 7 (pc' := 15) (L' := [some (.ref 127), some (.int r2)]) (S' := []) (w' := (sI w4 127 21 ((w4.1 127 21) + (1 : Int32)))) rfl ?_
          exact ih _ _ hs hE
        · replace hs := hs.2 h5
          refine tm_go 4 (pc' := 51) (L' := [some (.ref 127), some (.int r2)]) (S' := [.int (((-3) : Int32) - (w4.1 127 21))]) (w' := w4) rfl ?_
          exact tm_r rfl ⟨_, rfl, hs⟩
set_option maxHeartbeats 4000000 in
set_option maxRecDepth 100000 in
theorem tx_Mo_readPlant_90 {d : Nat} {E : MW → Prop} {Q : Int32 → MW → Prop} (n : Nat) : ∀  (z1 : Option Value) (w : MW), q_Mo_readPlant_90  E Q n  w → (∀  (v1 : Option Value) (w : MW), E  w → Tm (d + 4) 44 124 [some (.ref 127), v1] [] w (RI Q)) → Tm (d + 4) 44 90 [some (.ref 127), z1] [] w (RI Q) := by
  induction n with
  | zero => intro  z1 w hs; rw [q_Mo_readPlant_90.eq_1] at hs; exact hs.elim
  | succ n ih =>
    intro  z1 w hs hE
    rw [q_Mo_readPlant_90.eq_2] at hs
    refine tm_go 4 (pc' := 98) (L' := [some (.ref 127), z1]) (S' := [.int (w.1 127 22), .int (w.1 127 21)]) (w' := w) rfl ?_
    refine tm_i (p1 := 124) (p2 := 101) rfl (fun h7 => ?_) (fun h7 => ?_)
    · replace hs := hs.1 h7
      exact hE _ _ hs
    · replace hs := hs.2 h7
      refine tm_go 1 (pc' := 102) (L' := [some (.ref 127), z1]) (S' := [.ref 127]) (w' := w) rfl ?_
      refine tm_c rfl (Nat.le_of_ble_eq_true rfl) (dm_Mo_planLine (d := d + 0) hs) (fun v w8 hq => ?_)
      obtain ⟨r8, rfl, hs⟩ := hq
      refine tm_go 3 (pc' := 108) (L' := [some (.ref 127), some (.int r8)]) (S' := [.int r8, .ref 127]) (w' := w8) rfl ?_
      refine tm_c rfl (Nat.le_of_ble_eq_true rfl) (dm_Mo_build (d := d + 3) hs) (fun v w9 hq => ?_)
      obtain ⟨rfl, hs⟩ := hq
      refine tm_go 7 (pc' := 90) (L' := [some (.ref 127), some (.int r8)]) (S' := []) (w' := (sI w9 127 21 ((w9.1 127 21) + (1 : Int32)))) rfl ?_
      exact ih _ _ hs hE
set_option maxHeartbeats 4000000 in
set_option maxRecDepth 100000 in
theorem tx_Mo_readPlant_126 {d : Nat} {E : MW → Prop} {Q : Int32 → MW → Prop} (n : Nat) : ∀ (x126_1 : Int32)   (w : MW), q_Mo_readPlant_126  E Q n x126_1 w → (∀  (v1 : Option Value) (w : MW), E  w → Tm (d + 4) 44 150 [some (.ref 127), v1] [] w (RI Q)) → Tm (d + 4) 44 126 [some (.ref 127), some (.int x126_1)] [] w (RI Q) := by
  induction n with
  | zero => intro x126_1  w hs; rw [q_Mo_readPlant_126.eq_1] at hs; exact hs.elim
  | succ n ih =>
    intro x126_1  w hs hE
    rw [q_Mo_readPlant_126.eq_2] at hs
    refine tm_go 2 (pc' := 129) (L' := [some (.ref 127), some (.int x126_1)]) (S' := [.int 44, .int x126_1]) (w' := w) rfl ?_
    refine tm_i (p1 := 150) (p2 := 132) rfl (fun h11 => ?_) (fun h11 => ?_)
    · replace hs := hs.1 h11
      exact hE _ _ hs
    · replace hs := hs.2 h11
      refine tm_go 4 (pc' := 138) (L' := [some (.ref 127), some (.int x126_1)]) (S' := [.int 0, .int x126_1, .ref 173]) (w' := w) rfl ?_
      obtain ⟨b12, hs⟩ := hs
      refine tm_k (pc' := 139) (L' := [some (.ref 127), some (.int x126_1)]) (S' := []) (w' := (sI w 173 x126_1.toInt.toNat 0)) rfl b12 ?_
      refine tm_go 2 (pc' := 141) (L' := [some (.ref 127), some (.int x126_1)]) (S' := [.int x126_1, .ref 127]) (w' := (sI w 173 x126_1.toInt.toNat 0)) rfl ?_
      refine tm_c rfl (Nat.le_of_ble_eq_true rfl) (dm_Mo_forget (d := d + 3) hs) (fun v w13 hq => ?_)
      obtain ⟨rfl, hs⟩ := hq
      refine tm_go 2 (pc' := 126) (L' := [some (.ref 127), some (.int (x126_1 + (1 : Int32)))]) (S' := []) (w' := w13) rfl ?_
      exact ih _ _ hs hE
set_option maxHeartbeats 4000000 in
set_option maxRecDepth 100000 in
theorem dm_Mo_readPlant {d : Nat} {w : MW} {Q : Int32 → MW → Prop} (hs : p_Mo_readPlant w Q) : Tc (d + 4) 44 [.ref 127] w (RI Q) := by
  unfold p_Mo_readPlant at hs
  refine tm_go 9 (pc' := 15) (L' := [some (.ref 127), none]) (S' := []) (w' := (sI (sI (sI w 127 21 0) 127 85 0) 127 86 0)) rfl ?_
  refine tx_Mo_readPlant_15 FU _ _ hs (fun  z6_1 w6 hs => ?_)
  refine tm_go 15 (pc' := 90) (L' := [some (.ref 127), z6_1]) (S' := []) (w' := (sI (sI (sI (sI (sI w6 127 4 0) 127 11 0) 127 26 0) 127 59 4) 127 21 0)) rfl ?_
  refine tx_Mo_readPlant_90 FU _ _ hs (fun  z10_1 w10 hs => ?_)
  refine tm_go 2 (pc' := 126) (L' := [some (.ref 127), some (.int 0)]) (S' := []) (w' := w10) rfl ?_
  refine tx_Mo_readPlant_126 FU _ _ hs (fun  z14_1 w14 hs => ?_)
  refine tm_go 2 (pc' := 154) (L' := [some (.ref 127), z14_1]) (S' := [.int (w14.1 127 4)]) (w' := w14) rfl ?_
  exact tm_r rfl ⟨_, rfl, hs⟩
set_option maxHeartbeats 4000000 in
set_option maxRecDepth 100000 in
theorem dm_Mr_isSign {d : Nat} {w : MW} {a0 : Int32} {Q : Int32 → MW → Prop} (hs : p_Mr_isSign w a0 Q) : Tc (d + 0) 280 [.int a0] w (RZ Q) := by
  unfold p_Mr_isSign at hs
  refine tm_go 2 (pc' := 3) (L' := [some (.int a0)]) (S' := [.int 40, .int a0]) (w' := w) rfl ?_
  refine tm_i (p1 := 18) (p2 := 6) rfl (fun h1 => ?_) (fun h1 => ?_)
  · replace hs := hs.1 h1
    refine tm_go 2 (pc' := 23) (L' := [some (.int a0)]) (S' := [.int 1]) (w' := w) rfl ?_
    exact tm_r rfl ⟨_, rfl, by decide, hs⟩
  · replace hs := hs.2 h1
    refine tm_go 2 (pc' := 9) (L' := [some (.int a0)]) (S' := [.int 41, .int a0]) (w' := w) rfl ?_
    refine tm_i (p1 := 18) (p2 := 12) rfl (fun h2 => ?_) (fun h2 => ?_)
    · replace hs := hs.1 h2
      refine tm_go 2 (pc' := 23) (L' := [some (.int a0)]) (S' := [.int 1]) (w' := w) rfl ?_
      exact tm_r rfl ⟨_, rfl, by decide, hs⟩
    · replace hs := hs.2 h2
      refine tm_go 2 (pc' := 15) (L' := [some (.int a0)]) (S' := [.int 59, .int a0]) (w' := w) rfl ?_
      refine tm_i (p1 := 22) (p2 := 18) rfl (fun h3 => ?_) (fun h3 => ?_)
      · replace hs := hs.1 h3
        refine tm_go 1 (pc' := 23) (L' := [some (.int a0)]) (S' := [.int 0]) (w' := w) rfl ?_
        exact tm_r rfl ⟨_, rfl, by decide, hs⟩
      · replace hs := hs.2 h3
        refine tm_go 2 (pc' := 23) (L' := [some (.int a0)]) (S' := [.int 1]) (w' := w) rfl ?_
        exact tm_r rfl ⟨_, rfl, by decide, hs⟩
set_option maxHeartbeats 4000000 in
set_option maxRecDepth 100000 in
theorem tx_Mr_cut_53 {d : Nat} {x53_2 : Int32} {E : Int32 → MW → Prop} {Q : MW → Prop} (n : Nat) : ∀ (x53_1 : Int32)   (w : MW), q_Mr_cut_53 x53_2 E Q n x53_1 w → (∀ (e53_1 : Int32)  (v2 : Option Value) (w : MW), E e53_1 w → Tm (d + 1) 281 108 [some (.ref 147), some (.int e53_1), v2] [] w (RV Q)) → Tm (d + 1) 281 53 [some (.ref 147), some (.int x53_1), some (.int x53_2)] [] w (RV Q) := by
  induction n with
  | zero => intro x53_1  w hs; rw [q_Mr_cut_53.eq_1] at hs; exact hs.elim
  | succ n ih =>
    intro x53_1  w hs hE
    rw [q_Mr_cut_53.eq_2] at hs
    refine tm_go 1 (pc' := 54) (L' := [some (.ref 147), some (.int x53_1), some (.int x53_2)]) (S' := [.int x53_2]) (w' := w) rfl ?_
    refine tm_c rfl (Nat.le_of_ble_eq_true rfl) (dm_Mr_isSign (d := d + 0) hs) (fun v w6 hq => ?_)
    obtain ⟨r6, rfl, hz6, hs⟩ := hq
    refine tm_i (p1 := 108) (p2 := 60) rfl (fun h7 => ?_) (fun h7 => ?_)
    · replace hs := hs.1 h7
      exact hE _ _ _ hs
    · replace hs := hs.2 h7
      refine tm_go 3 (pc' := 65) (L' := [some (.ref 147), some (.int x53_1), some (.int x53_2)]) (S' := [.int (w6.1 147 1), .int x53_1]) (w' := w6) rfl ?_
      refine tm_i (p1 := 108) (p2 := 68) rfl (fun h8 => ?_) (fun h8 => ?_)
      · replace hs := hs.1 h8
        exact hE _ _ _ hs
      · replace hs := hs.2 h8
        refine tm_go 3 (pc' := 73) (L' := [some (.ref 147), some (.int x53_1), some (.int x53_2)]) (S' := [.int x53_1, .ref 148]) (w' := w6) rfl ?_
        obtain ⟨b9, hs⟩ := hs
        refine tm_k (pc' := 74) (L' := [some (.ref 147), some (.int x53_1), some (.int x53_2)]) (S' := [.int (w6.1 148 x53_1.toInt.toNat)]) (w' := w6) rfl b9 ?_
        refine tm_go 1 (pc' := 76) (L' := [some (.ref 147), some (.int x53_1), some (.int x53_2)]) (S' := [.int 32, .int (w6.1 148 x53_1.toInt.toNat)]) (w' := w6) rfl ?_
        refine tm_i (p1 := 108) (p2 := 79) rfl (fun h10 => ?_) (fun h10 => ?_)
        · replace hs := hs.1 h10
          exact hE _ _ _ hs
        · replace hs := hs.2 h10
          refine tm_go 3 (pc' := 84) (L' := [some (.ref 147), some (.int x53_1), some (.int x53_2)]) (S' := [.int x53_1, .ref 148]) (w' := w6) rfl ?_
          obtain ⟨b11, hs⟩ := hs
          refine tm_k (pc' := 85) (L' := [some (.ref 147), some (.int x53_1), some (.int x53_2)]) (S' := [.int (w6.1 148 x53_1.toInt.toNat)]) (w' := w6) rfl b11 ?_
          refine tm_go 1 (pc' := 87) (L' := [some (.ref 147), some (.int x53_1), some (.int x53_2)]) (S' := [.int 10, .int (w6.1 148 x53_1.toInt.toNat)]) (w' := w6) rfl ?_
          refine tm_i (p1 := 108) (p2 := 90) rfl (fun h12 => ?_) (fun h12 => ?_)
          · replace hs := hs.1 h12
            exact hE _ _ _ hs
          · replace hs := hs.2 h12
            refine tm_go 3 (pc' := 95) (L' := [some (.ref 147), some (.int x53_1), some (.int x53_2)]) (S' := [.int x53_1, .ref 148]) (w' := w6) rfl ?_
            obtain ⟨b13, hs⟩ := hs
            refine tm_k (pc' := 96) (L' := [some (.ref 147), some (.int x53_1), some (.int x53_2)]) (S' := [.int (w6.1 148 x53_1.toInt.toNat)]) (w' := w6) rfl b13 ?_
            refine tm_c rfl (Nat.le_of_ble_eq_true rfl) (dm_Mr_isSign (d := d + 0) hs) (fun v w14 hq => ?_)
            obtain ⟨r14, rfl, hz14, hs⟩ := hq
            refine tm_i (p1 := 108) (p2 := 102) rfl (fun h15 => ?_) (fun h15 => ?_)
            · replace hs := hs.1 h15
              exact hE _ _ _ hs
            · replace hs := hs.2 h15
              refine tm_go 2 (pc' := 53) (L' := [some (.ref 147), some (.int (x53_1 + (1 : Int32))), some (.int x53_2)]) (S' := []) (w' := w14) rfl ?_
              exact ih _ _ hs hE
set_option maxHeartbeats 4000000 in
set_option maxRecDepth 100000 in
theorem tx_Mr_cut_7 {d : Nat} {E : MW → Prop} {Q : MW → Prop} (n : Nat) : ∀ (x7_1 : Int32)  (z2 : Option Value) (w : MW), q_Mr_cut_7  E Q n x7_1 w → (∀  (v0 : Option Value) (v1 : Option Value) (v2 : Option Value) (w : MW), E  w → Tm (d + 1) 281 131 [v0, v1, v2] [] w (RV Q)) → Tm (d + 1) 281 7 [some (.ref 147), some (.int x7_1), z2] [] w (RV Q) := by
  induction n with
  | zero => intro x7_1 z2 w hs; rw [q_Mr_cut_7.eq_1] at hs; exact hs.elim
  | succ n ih =>
    intro x7_1 z2 w hs hE
    rw [q_Mr_cut_7.eq_2] at hs
    refine tm_go 3 (pc' := 12) (L' := [some (.ref 147), some (.int x7_1), z2]) (S' := [.int (w.1 147 1), .int x7_1]) (w' := w) rfl ?_
    refine tm_i (p1 := 131) (p2 := 15) rfl (fun h1 => ?_) (fun h1 => ?_)
    · replace hs := hs.1 h1
      exact hE _ _ _ _ hs
    · replace hs := hs.2 h1
      refine tm_go 3 (pc' := 20) (L' := [some (.ref 147), some (.int x7_1), z2]) (S' := [.int x7_1, .ref 148]) (w' := w) rfl ?_
      obtain ⟨b2, hs⟩ := hs
      refine tm_k (pc' := 21) (L' := [some (.ref 147), some (.int x7_1), z2]) (S' := [.int (w.1 148 x7_1.toInt.toNat)]) (w' := w) rfl b2 ?_
      refine tm_go 3 (pc' := 25) (L' := [some (.ref 147), some (.int x7_1), some (.int (w.1 148 x7_1.toInt.toNat))]) (S' := [.int 32, .int (w.1 148 x7_1.toInt.toNat)]) (w' := w) rfl ?_
      refine tm_i (p1 := 34) (p2 := 28) rfl (fun h3 => ?_) (fun h3 => ?_)
      · replace hs := hs.1 h3
        refine tm_go 3 (pc' := 7) (L' := [some (.ref 147), some (.int (x7_1 + (1 : Int32))), some (.int (w.1 148 x7_1.toInt.toNat))]) (S' := []) (w' := w) rfl ?_
        exact ih _ _ _ hs hE
      · replace hs := hs.2 h3
        refine tm_go 2 (pc' := 31) (L' := [some (.ref 147), some (.int x7_1), some (.int (w.1 148 x7_1.toInt.toNat))]) (S' := [.int 10, .int (w.1 148 x7_1.toInt.toNat)]) (w' := w) rfl ?_
        refine tm_i (p1 := 40) (p2 := 34) rfl (fun h4 => ?_) (fun h4 => ?_)
        · replace hs := hs.1 h4
          refine tm_go 5 (pc' := 49) (L' := [some (.ref 147), some (.int x7_1), some (.int (w.1 148 x7_1.toInt.toNat))]) (S' := [.int x7_1, .int (w.1 147 4), .ref 149]) (w' := w) rfl ?_
          obtain ⟨b5, hs⟩ := hs
          refine tm_k (pc' := 50) (L' := [some (.ref 147), some (.int x7_1), some (.int (w.1 148 x7_1.toInt.toNat))]) (S' := []) (w' := (sI w 149 ((w.1 147 4).toInt.toNat) x7_1)) rfl b5 ?_
          refine tm_go 1 (pc' := 53) (L' := [some (.ref 147), some (.int (x7_1 + (1 : Int32))), some (.int (w.1 148 x7_1.toInt.toNat))]) (S' := []) (w' := (sI w 149 ((w.1 147 4).toInt.toNat) x7_1)) rfl ?_
          refine tx_Mr_cut_53 FU _ _ hs (fun e53_1_16 z16_2 w16 hs => ?_)
          refine tm_go 5 (pc' := 117) (L' := [some (.ref 147), some (.int e53_1_16), z16_2]) (S' := [.int e53_1_16, .int (w16.1 147 4), .ref 150]) (w' := w16) rfl ?_
          obtain ⟨b17, hs⟩ := hs
          refine tm_k (pc' := 118) (L' := [some (.ref 147), some (.int e53_1_16), z16_2]) (S' := []) (w' := (sI w16 150 ((w16.1 147 4).toInt.toNat) e53_1_16)) rfl b17 ?_
          refine tm_go 7 (pc' := 7) (L' := [some (.ref 147), some (.int e53_1_16), z16_2]) (S' := []) (w' := (sI (sI w16 150 ((w16.1 147 4).toInt.toNat) e53_1_16) 147 4 ((w16.1 147 4) + (1 : Int32)))) rfl ?_
          exact ih _ _ _ hs hE
        · replace hs := hs.2 h4
          refine tm_go 3 (pc' := 7) (L' := [some (.ref 147), some (.int (x7_1 + (1 : Int32))), some (.int (w.1 148 x7_1.toInt.toNat))]) (S' := []) (w' := w) rfl ?_
          exact ih _ _ _ hs hE
set_option maxHeartbeats 4000000 in
set_option maxRecDepth 100000 in
theorem dm_Mr_cut {d : Nat} {w : MW} {Q : MW → Prop} (hs : p_Mr_cut w Q) : Tc (d + 1) 281 [.ref 147] w (RV Q) := by
  unfold p_Mr_cut at hs
  refine tm_go 5 (pc' := 7) (L' := [some (.ref 147), some (.int 0), none]) (S' := []) (w' := (sI w 147 4 0)) rfl ?_
  refine tx_Mr_cut_7 FU _ _ _ hs (fun  z18_0 z18_1 z18_2 w18 hs => ?_)
  exact tm_r rfl ⟨rfl, hs⟩
set_option maxHeartbeats 4000000 in
set_option maxRecDepth 100000 in
theorem tx_Mr_at_28 {d : Nat} {ys28_0 : Int32} {z1 : Option Value} {z2 : Option Value} {w : MW} {Q : Int32 → MW → Prop} (hs : q_Mr_at_28 ys28_0 w Q) : Tm (d + 0) 282 28 [some (.ref 147), z1, z2] [.int ys28_0] w (RI Q) := by
  unfold q_Mr_at_28 at hs
  refine tm_go 5 (pc' := 37) (L' := [some (.ref 147), (ksl z1), some (.int ys28_0)]) (S' := [.int (w.1 147 4), .int (w.1 147 5)]) (w' := w) rfl ?_
  refine tm_i (p1 := 62) (p2 := 40) rfl (fun h2 => ?_) (fun h2 => ?_)
  · replace hs := hs.1 h2
    refine tm_go 1 (pc' := 63) (L' := [some (.ref 147), (ksl z1), some (.int ys28_0)]) (S' := [.int 0]) (w' := w) rfl ?_
    exact tm_r rfl ⟨_, rfl, hs⟩
  · replace hs := hs.2 h2
    refine tm_go 5 (pc' := 49) (L' := [some (.ref 147), (ksl z1), some (.int ys28_0)]) (S' := [.int (w.1 147 5), .ref 150, .int ys28_0]) (w' := w) rfl ?_
    obtain ⟨b3, hs⟩ := hs
    refine tm_k (pc' := 50) (L' := [some (.ref 147), (ksl z1), some (.int ys28_0)]) (S' := [.int (w.1 150 ((w.1 147 5).toInt.toNat)), .int ys28_0]) (w' := w) rfl b3 ?_
    refine tm_i (p1 := 62) (p2 := 53) rfl (fun h4 => ?_) (fun h4 => ?_)
    · replace hs := hs.1 h4
      refine tm_go 1 (pc' := 63) (L' := [some (.ref 147), (ksl z1), some (.int ys28_0)]) (S' := [.int 0]) (w' := w) rfl ?_
      exact tm_r rfl ⟨_, rfl, hs⟩
    · replace hs := hs.2 h4
      refine tm_go 3 (pc' := 58) (L' := [some (.ref 147), (ksl z1), some (.int ys28_0)]) (S' := [.int ys28_0, .ref 148]) (w' := w) rfl ?_
      obtain ⟨b5, hs⟩ := hs
      refine tm_k (pc' := 59) (L' := [some (.ref 147), (ksl z1), some (.int ys28_0)]) (S' := [.int (w.1 148 ys28_0.toInt.toNat)]) (w' := w) rfl b5 ?_
      refine tm_go 1 (pc' := 63) (L' := [some (.ref 147), (ksl z1), some (.int ys28_0)]) (S' := [.int (w.1 148 ys28_0.toInt.toNat)]) (w' := w) rfl ?_
      exact tm_r rfl ⟨_, rfl, hs⟩
set_option maxHeartbeats 4000000 in
set_option maxRecDepth 100000 in
theorem dm_Mr_at {d : Nat} {w : MW} {a0 : Int32} {Q : Int32 → MW → Prop} (hs : p_Mr_at w a0 Q) : Tc (d + 0) 282 [.ref 147, .int a0] w (RI Q) := by
  unfold p_Mr_at at hs
  refine tm_go 4 (pc' := 8) (L' := [some (.ref 147), some (.int a0), none]) (S' := [.int (w.1 147 4), .int (w.1 147 5)]) (w' := w) rfl ?_
  refine tm_i (p1 := 25) (p2 := 11) rfl (fun h1 => ?_) (fun h1 => ?_)
  · replace hs := hs.1 h1
    refine tm_go 1 (pc' := 28) (L' := [some (.ref 147), some (.int a0), none]) (S' := [.int 4020]) (w' := w) rfl ?_
    exact tx_Mr_at_28 hs 
  · replace hs := hs.2 h1
    refine tm_go 4 (pc' := 19) (L' := [some (.ref 147), some (.int a0), none]) (S' := [.int (w.1 147 5), .ref 149]) (w' := w) rfl ?_
    obtain ⟨b6, hs⟩ := hs
    refine tm_k (pc' := 20) (L' := [some (.ref 147), some (.int a0), none]) (S' := [.int (w.1 149 ((w.1 147 5).toInt.toNat))]) (w' := w) rfl b6 ?_
    refine tm_go 3 (pc' := 28) (L' := [some (.ref 147), some (.int a0), none]) (S' := [.int ((w.1 149 ((w.1 147 5).toInt.toNat)) + a0)]) (w' := w) rfl ?_
    exact tx_Mr_at_28 hs 
set_option maxHeartbeats 4000000 in
set_option maxRecDepth 100000 in
theorem dm_Mr_wide {d : Nat} {w : MW} {Q : Int32 → MW → Prop} (hs : p_Mr_wide w Q) : Tc (d + 0) 283 [.ref 147] w (RI Q) := by
  unfold p_Mr_wide at hs
  refine tm_go 4 (pc' := 8) (L' := [some (.ref 147)]) (S' := [.int (w.1 147 4), .int (w.1 147 5)]) (w' := w) rfl ?_
  refine tm_i (p1 := 33) (p2 := 11) rfl (fun h1 => ?_) (fun h1 => ?_)
  · replace hs := hs.1 h1
    refine tm_go 1 (pc' := 34) (L' := [some (.ref 147)]) (S' := [.int 0]) (w' := w) rfl ?_
    exact tm_r rfl ⟨_, rfl, hs⟩
  · replace hs := hs.2 h1
    refine tm_go 4 (pc' := 19) (L' := [some (.ref 147)]) (S' := [.int (w.1 147 5), .ref 150]) (w' := w) rfl ?_
    obtain ⟨b2, hs⟩ := hs
    refine tm_k (pc' := 20) (L' := [some (.ref 147)]) (S' := [.int (w.1 150 ((w.1 147 5).toInt.toNat))]) (w' := w) rfl b2 ?_
    refine tm_go 4 (pc' := 28) (L' := [some (.ref 147)]) (S' := [.int (w.1 147 5), .ref 149, .int (w.1 150 ((w.1 147 5).toInt.toNat))]) (w' := w) rfl ?_
    obtain ⟨b3, hs⟩ := hs
    refine tm_k (pc' := 29) (L' := [some (.ref 147)]) (S' := [.int (w.1 149 ((w.1 147 5).toInt.toNat)), .int (w.1 150 ((w.1 147 5).toInt.toNat))]) (w' := w) rfl b3 ?_
    refine tm_go 2 (pc' := 34) (L' := [some (.ref 147)]) (S' := [.int ((w.1 150 ((w.1 147 5).toInt.toNat)) - (w.1 149 ((w.1 147 5).toInt.toNat)))]) (w' := w) rfl ?_
    exact tm_r rfl ⟨_, rfl, hs⟩
set_option maxHeartbeats 4000000 in
set_option maxRecDepth 100000 in
theorem tx_Mr_is_91 {d : Nat} {y91_7 : Int32} {y91_8 : Int32} {z1 : Option Value} {z2 : Option Value} {z3 : Option Value} {z4 : Option Value} {z5 : Option Value} {z6 : Option Value} {w : MW} {Q : Int32 → MW → Prop} (hs : q_Mr_is_91 y91_7 y91_8 w Q) : Tm (d + 1) 284 91 [some (.ref 147), z1, z2, z3, z4, z5, z6, some (.int y91_7), some (.int y91_8)] [] w (RZ Q) := by
  unfold q_Mr_is_91 at hs
  refine tm_go 2 (pc' := 95) (L' := [some (.ref 147), z1, z2, z3, z4, z5, z6, some (.int y91_7), some (.int y91_8)]) (S' := [.int 7, .int y91_8]) (w' := w) rfl ?_
  refine tm_i (p1 := 109) (p2 := 98) rfl (fun h11 => ?_) (fun h11 => ?_)
  · replace hs := hs.1 h11
    refine tm_go 2 (pc' := 114) (L' := [some (.ref 147), z1, z2, z3, z4, z5, z6, some (.int y91_7), some (.int y91_8)]) (S' := [.int 1]) (w' := w) rfl ?_
    exact tm_r rfl ⟨_, rfl, by decide, hs⟩
  · replace hs := hs.2 h11
    refine tm_go 2 (pc' := 101) (L' := [some (.ref 147), z1, z2, z3, z4, z5, z6, some (.int y91_7), some (.int y91_8)]) (S' := [.int 6, .ref 147]) (w' := w) rfl ?_
    refine tm_c rfl (Nat.le_of_ble_eq_true rfl) (dm_Mr_at (d := d + 0) hs) (fun v w12 hq => ?_)
    obtain ⟨r12, rfl, hs⟩ := hq
    refine tm_go 1 (pc' := 106) (L' := [some (.ref 147), z1, z2, z3, z4, z5, z6, some (.int y91_7), some (.int y91_8)]) (S' := [.int y91_7, .int r12]) (w' := w12) rfl ?_
    refine tm_i (p1 := 113) (p2 := 109) rfl (fun h13 => ?_) (fun h13 => ?_)
    · replace hs := hs.1 h13
      refine tm_go 1 (pc' := 114) (L' := [some (.ref 147), z1, z2, z3, z4, z5, z6, some (.int y91_7), some (.int y91_8)]) (S' := [.int 0]) (w' := w12) rfl ?_
      exact tm_r rfl ⟨_, rfl, by decide, hs⟩
    · replace hs := hs.2 h13
      refine tm_go 2 (pc' := 114) (L' := [some (.ref 147), z1, z2, z3, z4, z5, z6, some (.int y91_7), some (.int y91_8)]) (S' := [.int 1]) (w' := w12) rfl ?_
      exact tm_r rfl ⟨_, rfl, by decide, hs⟩
set_option maxHeartbeats 4000000 in
set_option maxRecDepth 100000 in
theorem tx_Mr_is_58 {d : Nat} {y58_5 : Int32} {y58_6 : Int32} {y58_7 : Int32} {y58_8 : Int32} {z1 : Option Value} {z2 : Option Value} {z3 : Option Value} {z4 : Option Value} {w : MW} {Q : Int32 → MW → Prop} (hs : q_Mr_is_58 y58_5 y58_6 y58_7 y58_8 w Q) : Tm (d + 1) 284 58 [some (.ref 147), z1, z2, z3, z4, some (.int y58_5), some (.int y58_6), some (.int y58_7), some (.int y58_8)] [] w (RZ Q) := by
  unfold q_Mr_is_58 at hs
  refine tm_go 2 (pc' := 61) (L' := [some (.ref 147), z1, z2, z3, z4, some (.int y58_5), some (.int y58_6), some (.int y58_7), some (.int y58_8)]) (S' := [.int 5, .int y58_8]) (w' := w) rfl ?_
  refine tm_i (p1 := 74) (p2 := 64) rfl (fun h9 => ?_) (fun h9 => ?_)
  · replace hs := hs.1 h9
    refine tm_go 2 (pc' := 78) (L' := [some (.ref 147), z1, z2, z3, z4, some (.int y58_5), some (.int y58_6), some (.int y58_7), some (.int y58_8)]) (S' := [.int 6, .int y58_8]) (w' := w) rfl ?_
    refine tm_i (p1 := 91) (p2 := 81) rfl (fun h10 => ?_) (fun h10 => ?_)
    · replace hs := hs.1 h10
      exact tx_Mr_is_91 hs 
    · replace hs := hs.2 h10
      refine tm_go 2 (pc' := 83) (L' := [some (.ref 147), z1, z2, z3, z4, some (.int y58_5), some (.int y58_6), some (.int y58_7), some (.int y58_8)]) (S' := [.int 5, .ref 147]) (w' := w) rfl ?_
      refine tm_c rfl (Nat.le_of_ble_eq_true rfl) (dm_Mr_at (d := d + 0) hs) (fun v w14 hq => ?_)
      obtain ⟨r14, rfl, hs⟩ := hq
      refine tm_go 1 (pc' := 88) (L' := [some (.ref 147), z1, z2, z3, z4, some (.int y58_5), some (.int y58_6), some (.int y58_7), some (.int y58_8)]) (S' := [.int y58_6, .int r14]) (w' := w14) rfl ?_
      refine tm_i (p1 := 113) (p2 := 91) rfl (fun h15 => ?_) (fun h15 => ?_)
      · replace hs := hs.1 h15
        refine tm_go 1 (pc' := 114) (L' := [some (.ref 147), z1, z2, z3, z4, some (.int y58_5), some (.int y58_6), some (.int y58_7), some (.int y58_8)]) (S' := [.int 0]) (w' := w14) rfl ?_
        exact tm_r rfl ⟨_, rfl, by decide, hs⟩
      · replace hs := hs.2 h15
        exact tx_Mr_is_91 hs 
  · replace hs := hs.2 h9
    refine tm_go 2 (pc' := 66) (L' := [some (.ref 147), z1, z2, z3, z4, some (.int y58_5), some (.int y58_6), some (.int y58_7), some (.int y58_8)]) (S' := [.int 4, .ref 147]) (w' := w) rfl ?_
    refine tm_c rfl (Nat.le_of_ble_eq_true rfl) (dm_Mr_at (d := d + 0) hs) (fun v w16 hq => ?_)
    obtain ⟨r16, rfl, hs⟩ := hq
    refine tm_go 1 (pc' := 71) (L' := [some (.ref 147), z1, z2, z3, z4, some (.int y58_5), some (.int y58_6), some (.int y58_7), some (.int y58_8)]) (S' := [.int y58_5, .int r16]) (w' := w16) rfl ?_
    refine tm_i (p1 := 113) (p2 := 74) rfl (fun h17 => ?_) (fun h17 => ?_)
    · replace hs := hs.1 h17
      refine tm_go 1 (pc' := 114) (L' := [some (.ref 147), z1, z2, z3, z4, some (.int y58_5), some (.int y58_6), some (.int y58_7), some (.int y58_8)]) (S' := [.int 0]) (w' := w16) rfl ?_
      exact tm_r rfl ⟨_, rfl, by decide, hs⟩
    · replace hs := hs.2 h17
      refine tm_go 2 (pc' := 78) (L' := [some (.ref 147), z1, z2, z3, z4, some (.int y58_5), some (.int y58_6), some (.int y58_7), some (.int y58_8)]) (S' := [.int 6, .int y58_8]) (w' := w16) rfl ?_
      refine tm_i (p1 := 91) (p2 := 81) rfl (fun h18 => ?_) (fun h18 => ?_)
      · replace hs := hs.1 h18
        exact tx_Mr_is_91 hs 
      · replace hs := hs.2 h18
        refine tm_go 2 (pc' := 83) (L' := [some (.ref 147), z1, z2, z3, z4, some (.int y58_5), some (.int y58_6), some (.int y58_7), some (.int y58_8)]) (S' := [.int 5, .ref 147]) (w' := w16) rfl ?_
        refine tm_c rfl (Nat.le_of_ble_eq_true rfl) (dm_Mr_at (d := d + 0) hs) (fun v w19 hq => ?_)
        obtain ⟨r19, rfl, hs⟩ := hq
        refine tm_go 1 (pc' := 88) (L' := [some (.ref 147), z1, z2, z3, z4, some (.int y58_5), some (.int y58_6), some (.int y58_7), some (.int y58_8)]) (S' := [.int y58_6, .int r19]) (w' := w19) rfl ?_
        refine tm_i (p1 := 113) (p2 := 91) rfl (fun h20 => ?_) (fun h20 => ?_)
        · replace hs := hs.1 h20
          refine tm_go 1 (pc' := 114) (L' := [some (.ref 147), z1, z2, z3, z4, some (.int y58_5), some (.int y58_6), some (.int y58_7), some (.int y58_8)]) (S' := [.int 0]) (w' := w19) rfl ?_
          exact tm_r rfl ⟨_, rfl, by decide, hs⟩
        · replace hs := hs.2 h20
          exact tx_Mr_is_91 hs 
set_option maxHeartbeats 4000000 in
set_option maxRecDepth 100000 in
theorem dm_Mr_is {d : Nat} {w : MW} {a0 : Int32} {b0 : Int32} {c0 : Int32} {e0 : Int32} {f0 : Int32} {g0 : Int32} {h0 : Int32} {i0 : Int32} {Q : Int32 → MW → Prop} (hs : p_Mr_is w a0 b0 c0 e0 f0 g0 h0 i0 Q) : Tc (d + 1) 284 [.ref 147, .int a0, .int b0, .int c0, .int e0, .int f0, .int g0, .int h0, .int i0] w (RZ Q) := by
  unfold p_Mr_is at hs
  refine tm_go 1 (pc' := 1) (L' := [some (.ref 147), some (.int a0), some (.int b0), some (.int c0), some (.int e0), some (.int f0), some (.int g0), some (.int h0), some (.int i0)]) (S' := [.ref 147]) (w' := w) rfl ?_
  refine tm_c rfl (Nat.le_of_ble_eq_true rfl) (dm_Mr_wide (d := d + 0) hs) (fun v w1 hq => ?_)
  obtain ⟨r1, rfl, hs⟩ := hq
  refine tm_go 1 (pc' := 6) (L' := [some (.ref 147), some (.int a0), some (.int b0), some (.int c0), some (.int e0), some (.int f0), some (.int g0), some (.int h0), some (.int i0)]) (S' := [.int i0, .int r1]) (w' := w1) rfl ?_
  refine tm_i (p1 := 113) (p2 := 9) rfl (fun h2 => ?_) (fun h2 => ?_)
  · replace hs := hs.1 h2
    refine tm_go 1 (pc' := 114) (L' := [some (.ref 147), some (.int a0), some (.int b0), some (.int c0), some (.int e0), some (.int f0), some (.int g0), some (.int h0), some (.int i0)]) (S' := [.int 0]) (w' := w1) rfl ?_
    exact tm_r rfl ⟨_, rfl, by decide, hs⟩
  · replace hs := hs.2 h2
    refine tm_go 2 (pc' := 11) (L' := [some (.ref 147), some (.int a0), some (.int b0), some (.int c0), some (.int e0), some (.int f0), some (.int g0), some (.int h0), some (.int i0)]) (S' := [.int 0, .ref 147]) (w' := w1) rfl ?_
    refine tm_c rfl (Nat.le_of_ble_eq_true rfl) (dm_Mr_at (d := d + 0) hs) (fun v w3 hq => ?_)
    obtain ⟨r3, rfl, hs⟩ := hq
    refine tm_go 1 (pc' := 15) (L' := [some (.ref 147), some (.int a0), some (.int b0), some (.int c0), some (.int e0), some (.int f0), some (.int g0), some (.int h0), some (.int i0)]) (S' := [.int a0, .int r3]) (w' := w3) rfl ?_
    refine tm_i (p1 := 113) (p2 := 18) rfl (fun h4 => ?_) (fun h4 => ?_)
    · replace hs := hs.1 h4
      refine tm_go 1 (pc' := 114) (L' := [some (.ref 147), some (.int a0), some (.int b0), some (.int c0), some (.int e0), some (.int f0), some (.int g0), some (.int h0), some (.int i0)]) (S' := [.int 0]) (w' := w3) rfl ?_
      exact tm_r rfl ⟨_, rfl, by decide, hs⟩
    · replace hs := hs.2 h4
      refine tm_go 2 (pc' := 20) (L' := [some (.ref 147), some (.int a0), some (.int b0), some (.int c0), some (.int e0), some (.int f0), some (.int g0), some (.int h0), some (.int i0)]) (S' := [.int 1, .ref 147]) (w' := w3) rfl ?_
      refine tm_c rfl (Nat.le_of_ble_eq_true rfl) (dm_Mr_at (d := d + 0) hs) (fun v w5 hq => ?_)
      obtain ⟨r5, rfl, hs⟩ := hq
      refine tm_go 1 (pc' := 24) (L' := [some (.ref 147), some (.int a0), some (.int b0), some (.int c0), some (.int e0), some (.int f0), some (.int g0), some (.int h0), some (.int i0)]) (S' := [.int b0, .int r5]) (w' := w5) rfl ?_
      refine tm_i (p1 := 113) (p2 := 27) rfl (fun h6 => ?_) (fun h6 => ?_)
      · replace hs := hs.1 h6
        refine tm_go 1 (pc' := 114) (L' := [some (.ref 147), some (.int a0), some (.int b0), some (.int c0), some (.int e0), some (.int f0), some (.int g0), some (.int h0), some (.int i0)]) (S' := [.int 0]) (w' := w5) rfl ?_
        exact tm_r rfl ⟨_, rfl, by decide, hs⟩
      · replace hs := hs.2 h6
        refine tm_go 2 (pc' := 30) (L' := [some (.ref 147), some (.int a0), some (.int b0), some (.int c0), some (.int e0), some (.int f0), some (.int g0), some (.int h0), some (.int i0)]) (S' := [.int 3, .int i0]) (w' := w5) rfl ?_
        refine tm_i (p1 := 42) (p2 := 33) rfl (fun h7 => ?_) (fun h7 => ?_)
        · replace hs := hs.1 h7
          refine tm_go 2 (pc' := 45) (L' := [some (.ref 147), some (.int a0), some (.int b0), some (.int c0), some (.int e0), some (.int f0), some (.int g0), some (.int h0), some (.int i0)]) (S' := [.int 4, .int i0]) (w' := w5) rfl ?_
          refine tm_i (p1 := 58) (p2 := 48) rfl (fun h8 => ?_) (fun h8 => ?_)
          · replace hs := hs.1 h8
            exact tx_Mr_is_58 hs 
          · replace hs := hs.2 h8
            refine tm_go 2 (pc' := 50) (L' := [some (.ref 147), some (.int a0), some (.int b0), some (.int c0), some (.int e0), some (.int f0), some (.int g0), some (.int h0), some (.int i0)]) (S' := [.int 3, .ref 147]) (w' := w5) rfl ?_
            refine tm_c rfl (Nat.le_of_ble_eq_true rfl) (dm_Mr_at (d := d + 0) hs) (fun v w21 hq => ?_)
            obtain ⟨r21, rfl, hs⟩ := hq
            refine tm_go 1 (pc' := 55) (L' := [some (.ref 147), some (.int a0), some (.int b0), some (.int c0), some (.int e0), some (.int f0), some (.int g0), some (.int h0), some (.int i0)]) (S' := [.int e0, .int r21]) (w' := w21) rfl ?_
            refine tm_i (p1 := 113) (p2 := 58) rfl (fun h22 => ?_) (fun h22 => ?_)
            · replace hs := hs.1 h22
              refine tm_go 1 (pc' := 114) (L' := [some (.ref 147), some (.int a0), some (.int b0), some (.int c0), some (.int e0), some (.int f0), some (.int g0), some (.int h0), some (.int i0)]) (S' := [.int 0]) (w' := w21) rfl ?_
              exact tm_r rfl ⟨_, rfl, by decide, hs⟩
            · replace hs := hs.2 h22
              exact tx_Mr_is_58 hs 
        · replace hs := hs.2 h7
          refine tm_go 2 (pc' := 35) (L' := [some (.ref 147), some (.int a0), some (.int b0), some (.int c0), some (.int e0), some (.int f0), some (.int g0), some (.int h0), some (.int i0)]) (S' := [.int 2, .ref 147]) (w' := w5) rfl ?_
          refine tm_c rfl (Nat.le_of_ble_eq_true rfl) (dm_Mr_at (d := d + 0) hs) (fun v w23 hq => ?_)
          obtain ⟨r23, rfl, hs⟩ := hq
          refine tm_go 1 (pc' := 39) (L' := [some (.ref 147), some (.int a0), some (.int b0), some (.int c0), some (.int e0), some (.int f0), some (.int g0), some (.int h0), some (.int i0)]) (S' := [.int c0, .int r23]) (w' := w23) rfl ?_
          refine tm_i (p1 := 113) (p2 := 42) rfl (fun h24 => ?_) (fun h24 => ?_)
          · replace hs := hs.1 h24
            refine tm_go 1 (pc' := 114) (L' := [some (.ref 147), some (.int a0), some (.int b0), some (.int c0), some (.int e0), some (.int f0), some (.int g0), some (.int h0), some (.int i0)]) (S' := [.int 0]) (w' := w23) rfl ?_
            exact tm_r rfl ⟨_, rfl, by decide, hs⟩
          · replace hs := hs.2 h24
            refine tm_go 2 (pc' := 45) (L' := [some (.ref 147), some (.int a0), some (.int b0), some (.int c0), some (.int e0), some (.int f0), some (.int g0), some (.int h0), some (.int i0)]) (S' := [.int 4, .int i0]) (w' := w23) rfl ?_
            refine tm_i (p1 := 58) (p2 := 48) rfl (fun h25 => ?_) (fun h25 => ?_)
            · replace hs := hs.1 h25
              exact tx_Mr_is_58 hs 
            · replace hs := hs.2 h25
              refine tm_go 2 (pc' := 50) (L' := [some (.ref 147), some (.int a0), some (.int b0), some (.int c0), some (.int e0), some (.int f0), some (.int g0), some (.int h0), some (.int i0)]) (S' := [.int 3, .ref 147]) (w' := w23) rfl ?_
              refine tm_c rfl (Nat.le_of_ble_eq_true rfl) (dm_Mr_at (d := d + 0) hs) (fun v w26 hq => ?_)
              obtain ⟨r26, rfl, hs⟩ := hq
              refine tm_go 1 (pc' := 55) (L' := [some (.ref 147), some (.int a0), some (.int b0), some (.int c0), some (.int e0), some (.int f0), some (.int g0), some (.int h0), some (.int i0)]) (S' := [.int e0, .int r26]) (w' := w26) rfl ?_
              refine tm_i (p1 := 113) (p2 := 58) rfl (fun h27 => ?_) (fun h27 => ?_)
              · replace hs := hs.1 h27
                refine tm_go 1 (pc' := 114) (L' := [some (.ref 147), some (.int a0), some (.int b0), some (.int c0), some (.int e0), some (.int f0), some (.int g0), some (.int h0), some (.int i0)]) (S' := [.int 0]) (w' := w26) rfl ?_
                exact tm_r rfl ⟨_, rfl, by decide, hs⟩
              · replace hs := hs.2 h27
                exact tx_Mr_is_58 hs 
set_option maxHeartbeats 4000000 in
set_option maxRecDepth 100000 in
theorem tx_Mr_number_42 {d : Nat} {x42_2 : Int32} {x42_3 : Int32} {E : Int32 → MW → Prop} {Q : Int32 → MW → Prop} (n : Nat) : ∀ (x42_4 : Int32) (x42_5 : Int32)  (z1 : Option Value) (z6 : Option Value) (w : MW), q_Mr_number_42 x42_2 x42_3 E Q n x42_4 x42_5 w → (∀ (e42_4 : Int32)  (v0 : Option Value) (v1 : Option Value) (v3 : Option Value) (v5 : Option Value) (v6 : Option Value) (w : MW), E e42_4 w → Tm (d + 1) 286 91 [v0, v1, some (.int x42_2), v3, some (.int e42_4), v5, v6] [] w (RI Q)) → Tm (d + 1) 286 42 [some (.ref 147), z1, some (.int x42_2), some (.int x42_3), some (.int x42_4), some (.int x42_5), z6] [] w (RI Q) := by
  induction n with
  | zero => intro x42_4 x42_5 z1 z6 w hs; rw [q_Mr_number_42.eq_1] at hs; exact hs.elim
  | succ n ih =>
    intro x42_4 x42_5 z1 z6 w hs hE
    rw [q_Mr_number_42.eq_2] at hs
    refine tm_go 2 (pc' := 45) (L' := [some (.ref 147), z1, some (.int x42_2), some (.int x42_3), some (.int x42_4), some (.int x42_5), z6]) (S' := [.int x42_3, .int x42_5]) (w' := w) rfl ?_
    refine tm_i (p1 := 91) (p2 := 48) rfl (fun h6 => ?_) (fun h6 => ?_)
    · replace hs := hs.1 h6
      exact hE _ _ _ _ _ _ _ hs
    · replace hs := hs.2 h6
      refine tm_go 2 (pc' := 51) (L' := [some (.ref 147), z1, some (.int x42_2), some (.int x42_3), some (.int x42_4), some (.int x42_5), z6]) (S' := [.int x42_5, .ref 147]) (w' := w) rfl ?_
      refine tm_c rfl (Nat.le_of_ble_eq_true rfl) (dm_Mr_at (d := d + 0) hs) (fun v w7 hq => ?_)
      obtain ⟨r7, rfl, hs⟩ := hq
      refine tm_go 3 (pc' := 60) (L' := [some (.ref 147), z1, some (.int x42_2), some (.int x42_3), some (.int x42_4), some (.int x42_5), some (.int r7)]) (S' := [.int 48, .int r7]) (w' := w7) rfl ?_
      refine tm_i (p1 := 70) (p2 := 63) rfl (fun h8 => ?_) (fun h8 => ?_)
      · replace hs := hs.1 h8
        refine tm_go 1 (pc' := 71) (L' := [some (.ref 147), z1, some (.int x42_2), some (.int x42_3), some (.int x42_4), some (.int x42_5), some (.int r7)]) (S' := [.int (-1)]) (w' := w7) rfl ?_
        exact tm_r rfl ⟨_, rfl, hs⟩
      · replace hs := hs.2 h8
        refine tm_go 2 (pc' := 67) (L' := [some (.ref 147), z1, some (.int x42_2), some (.int x42_3), some (.int x42_4), some (.int x42_5), some (.int r7)]) (S' := [.int 57, .int r7]) (w' := w7) rfl ?_
        refine tm_i (p1 := 72) (p2 := 70) rfl (fun h9 => ?_) (fun h9 => ?_)
        · replace hs := hs.1 h9
          refine tm_go 10 (pc' := 42) (L' := [some (.ref 147), z1, some (.int x42_2), some (.int x42_3), some (.int ((((10 : Int32) * x42_4) + r7) - (48 : Int32))), some (.int (x42_5 + (1 : Int32))), some (.int r7)]) (S' := []) (w' := w7) rfl ?_
          exact ih _ _ _ _ _ hs hE
        · replace hs := hs.2 h9
          refine tm_go 1 (pc' := 71) (L' := [some (.ref 147), z1, some (.int x42_2), some (.int x42_3), some (.int x42_4), some (.int x42_5), some (.int r7)]) (S' := [.int (-1)]) (w' := w7) rfl ?_
          exact tm_r rfl ⟨_, rfl, hs⟩
set_option maxHeartbeats 4000000 in
set_option maxRecDepth 100000 in
theorem tx_Mr_number_27 {d : Nat} {y27_1 : Int32} {y27_2 : Int32} {y27_3 : Int32} {z4 : Option Value} {z5 : Option Value} {z6 : Option Value} {w : MW} {Q : Int32 → MW → Prop} (hs : q_Mr_number_27 y27_1 y27_2 y27_3 w Q) : Tm (d + 1) 286 27 [some (.ref 147), some (.int y27_1), some (.int y27_2), some (.int y27_3), z4, z5, z6] [] w (RI Q) := by
  unfold q_Mr_number_27 at hs
  refine tm_go 4 (pc' := 31) (L' := [some (.ref 147), some (.int y27_1), some (.int y27_2), some (.int y27_3), z4, z5, z6]) (S' := [.int (y27_1 + (4 : Int32)), .int y27_3]) (w' := w) rfl ?_
  refine tm_i (p1 := 36) (p2 := 34) rfl (fun h5 => ?_) (fun h5 => ?_)
  · replace hs := hs.1 h5
    refine tm_go 4 (pc' := 42) (L' := [some (.ref 147), some (.int y27_1), some (.int y27_2), some (.int y27_3), some (.int 0), some (.int y27_1), z6]) (S' := []) (w' := w) rfl ?_
    refine tx_Mr_number_42 FU _ _ _ _ _ hs (fun e42_4_10 z10_0 z10_1 z10_3 z10_5 z10_6 w10 hs => ?_)
    refine tm_go 2 (pc' := 94) (L' := [z10_0, z10_1, some (.int y27_2), z10_3, some (.int e42_4_10), z10_5, z10_6]) (S' := [.int y27_2, .int e42_4_10]) (w' := w10) rfl ?_
    refine tm_i (p1 := 102) (p2 := 97) rfl (fun h11 => ?_) (fun h11 => ?_)
    · replace hs := hs.1 h11
      refine tm_go 1 (pc' := 103) (L' := [z10_0, z10_1, some (.int y27_2), z10_3, some (.int e42_4_10), z10_5, z10_6]) (S' := [.int (-1)]) (w' := w10) rfl ?_
      exact tm_r rfl ⟨_, rfl, hs⟩
    · replace hs := hs.2 h11
      refine tm_go 2 (pc' := 103) (L' := [z10_0, z10_1, some (.int y27_2), z10_3, some (.int e42_4_10), z10_5, z10_6]) (S' := [.int e42_4_10]) (w' := w10) rfl ?_
      exact tm_r rfl ⟨_, rfl, hs⟩
  · replace hs := hs.2 h5
    refine tm_go 1 (pc' := 35) (L' := [some (.ref 147), some (.int y27_1), some (.int y27_2), some (.int y27_3), z4, z5, z6]) (S' := [.int (-1)]) (w' := w) rfl ?_
    exact tm_r rfl ⟨_, rfl, hs⟩
set_option maxHeartbeats 4000000 in
set_option maxRecDepth 100000 in
theorem dm_Mr_number {d : Nat} {w : MW} {a0 : Int32} {b0 : Int32} {Q : Int32 → MW → Prop} (hs : p_Mr_number w a0 b0 Q) : Tc (d + 1) 286 [.ref 147, .int a0, .int b0] w (RI Q) := by
  unfold p_Mr_number at hs
  refine tm_go 1 (pc' := 1) (L' := [some (.ref 147), some (.int a0), some (.int b0), none, none, none, none]) (S' := [.ref 147]) (w' := w) rfl ?_
  refine tm_c rfl (Nat.le_of_ble_eq_true rfl) (dm_Mr_wide (d := d + 0) hs) (fun v w1 hq => ?_)
  obtain ⟨r1, rfl, hs⟩ := hq
  refine tm_go 3 (pc' := 7) (L' := [some (.ref 147), some (.int a0), some (.int b0), some (.int r1), none, none, none]) (S' := [.int a0, .int r1]) (w' := w1) rfl ?_
  refine tm_i (p1 := 34) (p2 := 10) rfl (fun h2 => ?_) (fun h2 => ?_)
  · replace hs := hs.1 h2
    refine tm_go 1 (pc' := 35) (L' := [some (.ref 147), some (.int a0), some (.int b0), some (.int r1), none, none, none]) (S' := [.int (-1)]) (w' := w1) rfl ?_
    exact tm_r rfl ⟨_, rfl, hs⟩
  · replace hs := hs.2 h2
    refine tm_go 2 (pc' := 12) (L' := [some (.ref 147), some (.int a0), some (.int b0), some (.int r1), none, none, none]) (S' := [.int a0, .ref 147]) (w' := w1) rfl ?_
    refine tm_c rfl (Nat.le_of_ble_eq_true rfl) (dm_Mr_at (d := d + 0) hs) (fun v w3 hq => ?_)
    obtain ⟨r3, rfl, hs⟩ := hq
    refine tm_go 1 (pc' := 17) (L' := [some (.ref 147), some (.int a0), some (.int b0), some (.int r1), none, none, none]) (S' := [.int 48, .int r3]) (w' := w3) rfl ?_
    refine tm_i (p1 := 27) (p2 := 20) rfl (fun h4 => ?_) (fun h4 => ?_)
    · replace hs := hs.1 h4
      exact tx_Mr_number_27 hs 
    · replace hs := hs.2 h4
      refine tm_go 4 (pc' := 24) (L' := [some (.ref 147), some (.int a0), some (.int b0), some (.int r1), none, none, none]) (S' := [.int (a0 + (1 : Int32)), .int r1]) (w' := w3) rfl ?_
      refine tm_i (p1 := 34) (p2 := 27) rfl (fun h12 => ?_) (fun h12 => ?_)
      · replace hs := hs.1 h12
        refine tm_go 1 (pc' := 35) (L' := [some (.ref 147), some (.int a0), some (.int b0), some (.int r1), none, none, none]) (S' := [.int (-1)]) (w' := w3) rfl ?_
        exact tm_r rfl ⟨_, rfl, hs⟩
      · replace hs := hs.2 h12
        exact tx_Mr_number_27 hs 
set_option maxHeartbeats 4000000 in
set_option maxRecDepth 100000 in
theorem dm_Mr_act0 {d : Nat} {w : MW} {Q : Int32 → MW → Prop} (hs : p_Mr_act0 w Q) : Tc (d + 2) 287 [.ref 147] w (RI Q) := by
  unfold p_Mr_act0 at hs
  refine tm_go 2 (pc' := 2) (L' := [some (.ref 147)]) (S' := [.int 0, .ref 147]) (w' := w) rfl ?_
  refine tm_c rfl (Nat.le_of_ble_eq_true rfl) (dm_Mr_at (d := d + 1) hs) (fun v w1 hq => ?_)
  obtain ⟨r1, rfl, hs⟩ := hq
  refine tm_go 1 (pc' := 7) (L' := [some (.ref 147)]) (S' := [.int 97, .int r1]) (w' := w1) rfl ?_
  refine tm_i (p1 := 20) (p2 := 10) rfl (fun h2 => ?_) (fun h2 => ?_)
  · replace hs := hs.1 h2
    refine tm_go 1 (pc' := 21) (L' := [some (.ref 147)]) (S' := [.int (-1)]) (w' := w1) rfl ?_
    exact tm_r rfl ⟨_, rfl, hs⟩
  · replace hs := hs.2 h2
    refine tm_go 3 (pc' := 14) (L' := [some (.ref 147)]) (S' := [.int 31, .int 1, .ref 147]) (w' := w1) rfl ?_
    refine tm_c rfl (Nat.le_of_ble_eq_true rfl) (dm_Mr_number (d := d + 0) hs) (fun v w3 hq => ?_)
    obtain ⟨r3, rfl, hs⟩ := hq
    refine tm_go 1 (pc' := 21) (L' := [some (.ref 147)]) (S' := [.int r3]) (w' := w3) rfl ?_
    exact tm_r rfl ⟨_, rfl, hs⟩
set_option maxHeartbeats 4000000 in
set_option maxRecDepth 100000 in
theorem dm_Mr_isOne {d : Nat} {w : MW} {a0 : Int32} {Q : Int32 → MW → Prop} (hs : p_Mr_isOne w a0 Q) : Tc (d + 1) 285 [.ref 147, .int a0] w (RZ Q) := by
  unfold p_Mr_isOne at hs
  refine tm_go 1 (pc' := 1) (L' := [some (.ref 147), some (.int a0)]) (S' := [.ref 147]) (w' := w) rfl ?_
  refine tm_c rfl (Nat.le_of_ble_eq_true rfl) (dm_Mr_wide (d := d + 0) hs) (fun v w1 hq => ?_)
  obtain ⟨r1, rfl, hs⟩ := hq
  refine tm_go 1 (pc' := 5) (L' := [some (.ref 147), some (.int a0)]) (S' := [.int 1, .int r1]) (w' := w1) rfl ?_
  refine tm_i (p1 := 21) (p2 := 8) rfl (fun h2 => ?_) (fun h2 => ?_)
  · replace hs := hs.1 h2
    refine tm_go 1 (pc' := 22) (L' := [some (.ref 147), some (.int a0)]) (S' := [.int 0]) (w' := w1) rfl ?_
    exact tm_r rfl ⟨_, rfl, by decide, hs⟩
  · replace hs := hs.2 h2
    refine tm_go 2 (pc' := 10) (L' := [some (.ref 147), some (.int a0)]) (S' := [.int 0, .ref 147]) (w' := w1) rfl ?_
    refine tm_c rfl (Nat.le_of_ble_eq_true rfl) (dm_Mr_at (d := d + 0) hs) (fun v w3 hq => ?_)
    obtain ⟨r3, rfl, hs⟩ := hq
    refine tm_go 1 (pc' := 14) (L' := [some (.ref 147), some (.int a0)]) (S' := [.int a0, .int r3]) (w' := w3) rfl ?_
    refine tm_i (p1 := 21) (p2 := 17) rfl (fun h4 => ?_) (fun h4 => ?_)
    · replace hs := hs.1 h4
      refine tm_go 1 (pc' := 22) (L' := [some (.ref 147), some (.int a0)]) (S' := [.int 0]) (w' := w3) rfl ?_
      exact tm_r rfl ⟨_, rfl, by decide, hs⟩
    · replace hs := hs.2 h4
      refine tm_go 2 (pc' := 22) (L' := [some (.ref 147), some (.int a0)]) (S' := [.int 1]) (w' := w3) rfl ?_
      exact tm_r rfl ⟨_, rfl, by decide, hs⟩
set_option maxHeartbeats 4000000 in
set_option maxRecDepth 100000 in
theorem dm_Mr_node {d : Nat} {w : MW} {a0 : Int32} {b0 : Int32} {c0 : Int32} {Q : Int32 → MW → Prop} (hs : p_Mr_node w a0 b0 c0 Q) : Tc (d + 0) 289 [.ref 147, .int a0, .int b0, .int c0] w (RI Q) := by
  unfold p_Mr_node at hs
  refine tm_go 14 (pc' := 24) (L' := [some (.ref 147), some (.int a0), some (.int b0), some (.int c0), some (.int (((3000 : Int32) * ((1 : Int32) - (w.1 147 12))) + (w.1 147 11)))]) (S' := [.int a0, .int (((3000 : Int32) * ((1 : Int32) - (w.1 147 12))) + (w.1 147 11)), .ref 151]) (w' := w) rfl ?_
  obtain ⟨b1, hs⟩ := hs
  refine tm_k (pc' := 25) (L' := [some (.ref 147), some (.int a0), some (.int b0), some (.int c0), some (.int (((3000 : Int32) * ((1 : Int32) - (w.1 147 12))) + (w.1 147 11)))]) (S' := []) (w' := (sI w 151 ((((3000 : Int32) * ((1 : Int32) - (w.1 147 12))) + (w.1 147 11)).toInt.toNat) a0)) rfl b1 ?_
  refine tm_go 4 (pc' := 32) (L' := [some (.ref 147), some (.int a0), some (.int b0), some (.int c0), some (.int (((3000 : Int32) * ((1 : Int32) - (w.1 147 12))) + (w.1 147 11)))]) (S' := [.int b0, .int (((3000 : Int32) * ((1 : Int32) - (w.1 147 12))) + (w.1 147 11)), .ref 152]) (w' := (sI w 151 ((((3000 : Int32) * ((1 : Int32) - (w.1 147 12))) + (w.1 147 11)).toInt.toNat) a0)) rfl ?_
  obtain ⟨b2, hs⟩ := hs
  refine tm_k (pc' := 33) (L' := [some (.ref 147), some (.int a0), some (.int b0), some (.int c0), some (.int (((3000 : Int32) * ((1 : Int32) - (w.1 147 12))) + (w.1 147 11)))]) (S' := []) (w' := (sI (sI w 151 ((((3000 : Int32) * ((1 : Int32) - (w.1 147 12))) + (w.1 147 11)).toInt.toNat) a0) 152 ((((3000 : Int32) * ((1 : Int32) - (w.1 147 12))) + (w.1 147 11)).toInt.toNat) b0)) rfl b2 ?_
  refine tm_go 4 (pc' := 40) (L' := [some (.ref 147), some (.int a0), some (.int b0), some (.int c0), some (.int (((3000 : Int32) * ((1 : Int32) - (w.1 147 12))) + (w.1 147 11)))]) (S' := [.int c0, .int (((3000 : Int32) * ((1 : Int32) - (w.1 147 12))) + (w.1 147 11)), .ref 153]) (w' := (sI (sI w 151 ((((3000 : Int32) * ((1 : Int32) - (w.1 147 12))) + (w.1 147 11)).toInt.toNat) a0) 152 ((((3000 : Int32) * ((1 : Int32) - (w.1 147 12))) + (w.1 147 11)).toInt.toNat) b0)) rfl ?_
  obtain ⟨b3, hs⟩ := hs
  refine tm_k (pc' := 41) (L' := [some (.ref 147), some (.int a0), some (.int b0), some (.int c0), some (.int (((3000 : Int32) * ((1 : Int32) - (w.1 147 12))) + (w.1 147 11)))]) (S' := []) (w' := (sI (sI (sI w 151 ((((3000 : Int32) * ((1 : Int32) - (w.1 147 12))) + (w.1 147 11)).toInt.toNat) a0) 152 ((((3000 : Int32) * ((1 : Int32) - (w.1 147 12))) + (w.1 147 11)).toInt.toNat) b0) 153 ((((3000 : Int32) * ((1 : Int32) - (w.1 147 12))) + (w.1 147 11)).toInt.toNat) c0)) rfl b3 ?_
  refine tm_go 7 (pc' := 53) (L' := [some (.ref 147), some (.int a0), some (.int b0), some (.int c0), some (.int (((3000 : Int32) * ((1 : Int32) - (w.1 147 12))) + (w.1 147 11)))]) (S' := [.int (((3000 : Int32) * ((1 : Int32) - (w.1 147 12))) + (w.1 147 11))]) (w' := (sI (sI (sI (sI w 151 ((((3000 : Int32) * ((1 : Int32) - (w.1 147 12))) + (w.1 147 11)).toInt.toNat) a0) 152 ((((3000 : Int32) * ((1 : Int32) - (w.1 147 12))) + (w.1 147 11)).toInt.toNat) b0) 153 ((((3000 : Int32) * ((1 : Int32) - (w.1 147 12))) + (w.1 147 11)).toInt.toNat) c0) 147 11 ((w.1 147 11) + (1 : Int32)))) rfl ?_
  exact tm_r rfl ⟨_, rfl, hs⟩
