set_option maxHeartbeats 4000000 in
set_option maxRecDepth 100000 in
theorem tx_Wa_find_56 {d : Nat} {x19_1 : Int32} {x19_2 : Int32} {x19_4 : Int32} {y56_5 : Int32} {ys56_0 : Int32} {z6 : Option Value} {z7 : Option Value} {z8 : Option Value} {z9 : Option Value} {w : MW} {A : Int32 → MW → Prop} {E : MW → Prop} {Q : Int32 → MW → Prop} (hs : q_Wa_find_56 x19_1 x19_2 x19_4 y56_5 ys56_0 w A E Q) (hA : ∀ (x19_5 : Int32)  (z6 : Option Value) (z7 : Option Value) (z8 : Option Value) (z9 : Option Value) (w : MW), A x19_5 w → Tm (d + 1) 267 19 [some (.ref 26), some (.int x19_1), some (.int x19_2), some (.ref 8), some (.int x19_4), some (.int x19_5), z6, z7, z8, z9] [] w (RZ Q)) (hE : ∀  (v5 : Option Value) (v6 : Option Value) (v7 : Option Value) (v8 : Option Value) (v9 : Option Value) (w : MW), E  w → Tm (d + 1) 267 95 [some (.ref 26), some (.int x19_1), some (.int x19_2), some (.ref 8), some (.int x19_4), v5, v6, v7, v8, v9] [] w (RZ Q)) : Tm (d + 1) 267 56 [some (.ref 26), some (.int x19_1), some (.int x19_2), some (.ref 8), some (.int x19_4), some (.int y56_5), z6, z7, z8, z9] [.int ys56_0] w (RZ Q) := by
  unfold q_Wa_find_56 at hs
  refine tm_go 5 (pc' := 66) (L' := [some (.ref 26), some (.int x19_1), some (.int x19_2), some (.ref 8), some (.int x19_4), some (.int y56_5), some (.int ys56_0), z7, z8, z9]) (S' := [.int ys56_0, .int y56_5, .ref 38]) (w' := w) rfl ?_
  refine tm_i (p1 := 86) (p2 := 69) rfl (fun h5 => ?_) (fun h5 => ?_)
  · replace hs := hs.1 h5
    refine tm_go 1 (pc' := 88) (L' := [some (.ref 26), some (.int x19_1), some (.int x19_2), some (.ref 8), some (.int x19_4), some (.int y56_5), some (.int ys56_0), z7, z8, z9]) (S' := [.int 536870912, .int y56_5, .ref 38]) (w' := w) rfl ?_
    obtain ⟨b6, hs⟩ := hs
    refine tm_k (pc' := 89) (L' := [some (.ref 26), some (.int x19_1), some (.int x19_2), some (.ref 8), some (.int x19_4), some (.int y56_5), some (.int ys56_0), z7, z8, z9]) (S' := []) (w' := (sI w 38 y56_5.toInt.toNat 536870912)) rfl b6 ?_
    refine tm_go 2 (pc' := 19) (L' := [some (.ref 26), some (.int x19_1), some (.int x19_2), some (.ref 8), some (.int x19_4), some (.int (y56_5 + (1 : Int32))), some (.int ys56_0), z7, z8, z9]) (S' := []) (w' := (sI w 38 y56_5.toInt.toNat 536870912)) rfl ?_
    exact hA _ _ _ _ _ _ hs
  · replace hs := hs.2 h5
    refine tm_go 5 (pc' := 77) (L' := [some (.ref 26), some (.int x19_1), some (.int x19_2), some (.ref 8), some (.int x19_4), some (.int y56_5), some (.int ys56_0), z7, z8, z9]) (S' := [.int (y56_5 >>> ((1 : Int32) &&& 31)), .ref 12, .int y56_5, .ref 38]) (w' := w) rfl ?_
    obtain ⟨b7, hs⟩ := hs
    refine tm_k (pc' := 78) (L' := [some (.ref 26), some (.int x19_1), some (.int x19_2), some (.ref 8), some (.int x19_4), some (.int y56_5), some (.int ys56_0), z7, z8, z9]) (S' := [.int (w.1 12 ((y56_5 >>> ((1 : Int32) &&& 31)).toInt.toNat)), .int y56_5, .ref 38]) (w' := w) rfl b7 ?_
    refine tm_go 5 (pc' := 88) (L' := [some (.ref 26), some (.int x19_1), some (.int x19_2), some (.ref 8), some (.int x19_4), some (.int y56_5), some (.int ys56_0), z7, z8, z9]) (S' := [.int (((w.1 12 ((y56_5 >>> ((1 : Int32) &&& 31)).toInt.toNat)) * (32 : Int32)) + (1 : Int32)), .int y56_5, .ref 38]) (w' := w) rfl ?_
    obtain ⟨b8, hs⟩ := hs
    refine tm_k (pc' := 89) (L' := [some (.ref 26), some (.int x19_1), some (.int x19_2), some (.ref 8), some (.int x19_4), some (.int y56_5), some (.int ys56_0), z7, z8, z9]) (S' := []) (w' := (sI w 38 y56_5.toInt.toNat (((w.1 12 ((y56_5 >>> ((1 : Int32) &&& 31)).toInt.toNat)) * (32 : Int32)) + (1 : Int32)))) rfl b8 ?_
    refine tm_go 2 (pc' := 19) (L' := [some (.ref 26), some (.int x19_1), some (.int x19_2), some (.ref 8), some (.int x19_4), some (.int (y56_5 + (1 : Int32))), some (.int ys56_0), z7, z8, z9]) (S' := []) (w' := (sI w 38 y56_5.toInt.toNat (((w.1 12 ((y56_5 >>> ((1 : Int32) &&& 31)).toInt.toNat)) * (32 : Int32)) + (1 : Int32)))) rfl ?_
    exact hA _ _ _ _ _ _ hs
set_option maxHeartbeats 4000000 in
set_option maxRecDepth 100000 in
theorem tx_Wa_find_19 {d : Nat} {x19_1 : Int32} {x19_2 : Int32} {x19_4 : Int32} {E : MW → Prop} {Q : Int32 → MW → Prop} (n : Nat) : ∀ (x19_5 : Int32)  (z6 : Option Value) (z7 : Option Value) (z8 : Option Value) (z9 : Option Value) (w : MW), q_Wa_find_19 x19_1 x19_2 x19_4 E Q n x19_5 w → (∀  (v5 : Option Value) (v6 : Option Value) (v7 : Option Value) (v8 : Option Value) (v9 : Option Value) (w : MW), E  w → Tm (d + 1) 267 95 [some (.ref 26), some (.int x19_1), some (.int x19_2), some (.ref 8), some (.int x19_4), v5, v6, v7, v8, v9] [] w (RZ Q)) → Tm (d + 1) 267 19 [some (.ref 26), some (.int x19_1), some (.int x19_2), some (.ref 8), some (.int x19_4), some (.int x19_5), z6, z7, z8, z9] [] w (RZ Q) := by
  induction n with
  | zero => intro x19_5 z6 z7 z8 z9 w hs; rw [q_Wa_find_19.eq_1] at hs; exact hs.elim
  | succ n ih =>
    intro x19_5 z6 z7 z8 z9 w hs hE
    rw [q_Wa_find_19.eq_2] at hs
    refine tm_go 2 (pc' := 23) (L' := [some (.ref 26), some (.int x19_1), some (.int x19_2), some (.ref 8), some (.int x19_4), some (.int x19_5), z6, z7, z8, z9]) (S' := [.int x19_4, .int x19_5]) (w' := w) rfl ?_
    refine tm_i (p1 := 95) (p2 := 26) rfl (fun h2 => ?_) (fun h2 => ?_)
    · replace hs := hs.1 h2
      exact hE _ _ _ _ _ _ hs
    · replace hs := hs.2 h2
      refine tm_go 5 (pc' := 34) (L' := [some (.ref 26), some (.int x19_1), some (.int x19_2), some (.ref 8), some (.int x19_4), some (.int x19_5), z6, z7, z8, z9]) (S' := [.int (x19_5 ^^^ (1 : Int32)), .ref 13]) (w' := w) rfl ?_
      obtain ⟨b3, hs⟩ := hs
      refine tm_k (pc' := 35) (L' := [some (.ref 26), some (.int x19_1), some (.int x19_2), some (.ref 8), some (.int x19_4), some (.int x19_5), z6, z7, z8, z9]) (S' := [.int (w.1 13 ((x19_5 ^^^ (1 : Int32)).toInt.toNat))]) (w' := w) rfl b3 ?_
      refine tm_go 1 (pc' := 36) (L' := [some (.ref 26), some (.int x19_1), some (.int x19_2), some (.ref 8), some (.int x19_4), some (.int x19_5), z6, z7, z8, z9]) (S' := [.int x19_2, .int (w.1 13 ((x19_5 ^^^ (1 : Int32)).toInt.toNat))]) (w' := w) rfl ?_
      refine tm_i (p1 := 55) (p2 := 39) rfl (fun h4 => ?_) (fun h4 => ?_)
      · replace hs := hs.1 h4
        refine tm_go 1 (pc' := 56) (L' := [some (.ref 26), some (.int x19_1), some (.int x19_2), some (.ref 8), some (.int x19_4), some (.int x19_5), z6, z7, z8, z9]) (S' := [.int 0]) (w' := w) rfl ?_
        exact tx_Wa_find_56 hs (fun q0 q1 q2 q3 q4 q5 hs => ih q0 q1 q2 q3 q4 q5 hs hE) hE
      · replace hs := hs.2 h4
        refine tm_go 5 (pc' := 47) (L' := [some (.ref 26), some (.int x19_1), some (.int x19_2), some (.ref 8), some (.int x19_4), some (.int x19_5), z6, z7, z8, z9]) (S' := [.int (x19_5 >>> ((1 : Int32) &&& 31)), .ref 36]) (w' := w) rfl ?_
        obtain ⟨b9, hs⟩ := hs
        refine tm_k (pc' := 48) (L' := [some (.ref 26), some (.int x19_1), some (.int x19_2), some (.ref 8), some (.int x19_4), some (.int x19_5), z6, z7, z8, z9]) (S' := [.int (w.1 36 ((x19_5 >>> ((1 : Int32) &&& 31)).toInt.toNat))]) (w' := w) rfl b9 ?_
        refine tm_i (p1 := 55) (p2 := 51) rfl (fun h10 => ?_) (fun h10 => ?_)
        · replace hs := hs.1 h10
          refine tm_go 1 (pc' := 56) (L' := [some (.ref 26), some (.int x19_1), some (.int x19_2), some (.ref 8), some (.int x19_4), some (.int x19_5), z6, z7, z8, z9]) (S' := [.int 0]) (w' := w) rfl ?_
          exact tx_Wa_find_56 hs (fun q0 q1 q2 q3 q4 q5 hs => ih q0 q1 q2 q3 q4 q5 hs hE) hE
        · replace hs := hs.2 h10
          refine tm_go 2 (pc' := 56) (L' := [some (.ref 26), some (.int x19_1), some (.int x19_2), some (.ref 8), some (.int x19_4), some (.int x19_5), z6, z7, z8, z9]) (S' := [.int 1]) (w' := w) rfl ?_
          exact tx_Wa_find_56 hs (fun q0 q1 q2 q3 q4 q5 hs => ih q0 q1 q2 q3 q4 q5 hs hE) hE
set_option maxHeartbeats 4000000 in
set_option maxRecDepth 100000 in
theorem tx_Wa_find_184 {d : Nat} {x119_1 : Int32} {x119_2 : Int32} {x119_4 : Int32} {y184_5 : Int32} {x119_6 : Int32} {y184_7 : Int32} {ys184_0 : Int32} {z8 : Option Value} {z9 : Option Value} {w : MW} {A : Int32 → Int32 → MW → Prop} {E : Int32 → MW → Prop} {Q : Int32 → MW → Prop} (hs : q_Wa_find_184 x119_1 x119_2 x119_4 y184_5 x119_6 y184_7 ys184_0 w A E Q) (hA : ∀ (x119_5 : Int32) (x119_7 : Int32)  (z8 : Option Value) (z9 : Option Value) (w : MW), A x119_5 x119_7 w → Tm (d + 1) 267 119 [some (.ref 26), some (.int x119_1), some (.int x119_2), some (.ref 8), some (.int x119_4), some (.int x119_5), some (.int x119_6), some (.int x119_7), z8, z9] [] w (RZ Q)) (hE : ∀ (e119_5 : Int32)  (v7 : Option Value) (v8 : Option Value) (v9 : Option Value) (w : MW), E e119_5 w → Tm (d + 1) 267 216 [some (.ref 26), some (.int x119_1), some (.int x119_2), some (.ref 8), some (.int x119_4), some (.int e119_5), some (.int x119_6), v7, v8, v9] [] w (RZ Q)) : Tm (d + 1) 267 184 [some (.ref 26), some (.int x119_1), some (.int x119_2), some (.ref 8), some (.int x119_4), some (.int y184_5), some (.int x119_6), some (.int y184_7), z8, z9] [.int ys184_0] w (RZ Q) := by
  unfold q_Wa_find_184 at hs
  refine tm_go 5 (pc' := 194) (L' := [some (.ref 26), some (.int x119_1), some (.int x119_2), some (.ref 8), some (.int x119_4), some (.int y184_5), some (.int x119_6), some (.int y184_7), (ksl z8), some (.int ys184_0)]) (S' := [.int y184_7, .ref 38, .int ys184_0]) (w' := w) rfl ?_
  obtain ⟨b21, hs⟩ := hs
  refine tm_k (pc' := 195) (L' := [some (.ref 26), some (.int x119_1), some (.int x119_2), some (.ref 8), some (.int x119_4), some (.int y184_5), some (.int x119_6), some (.int y184_7), (ksl z8), some (.int ys184_0)]) (S' := [.int (w.1 38 y184_7.toInt.toNat), .int ys184_0]) (w' := w) rfl b21 ?_
  refine tm_i (p1 := 210) (p2 := 198) rfl (fun h22 => ?_) (fun h22 => ?_)
  · replace hs := hs.1 h22
    refine tm_go 2 (pc' := 119) (L' := [some (.ref 26), some (.int x119_1), some (.int x119_2), some (.ref 8), some (.int x119_4), some (.int y184_5), some (.int x119_6), some (.int (y184_7 + (1 : Int32))), (ksl z8), some (.int ys184_0)]) (S' := []) (w' := w) rfl ?_
    exact hA _ _ _ _ _ hs
  · replace hs := hs.2 h22
    refine tm_go 4 (pc' := 206) (L' := [some (.ref 26), some (.int x119_1), some (.int x119_2), some (.ref 8), some (.int x119_4), some (.int y184_5), some (.int x119_6), some (.int y184_7), (ksl z8), some (.int ys184_0)]) (S' := [.int ys184_0, .int y184_7, .ref 38]) (w' := w) rfl ?_
    obtain ⟨b23, hs⟩ := hs
    refine tm_k (pc' := 207) (L' := [some (.ref 26), some (.int x119_1), some (.int x119_2), some (.ref 8), some (.int x119_4), some (.int y184_5), some (.int x119_6), some (.int y184_7), (ksl z8), some (.int ys184_0)]) (S' := []) (w' := (sI w 38 y184_7.toInt.toNat ys184_0)) rfl b23 ?_
    refine tm_go 4 (pc' := 119) (L' := [some (.ref 26), some (.int x119_1), some (.int x119_2), some (.ref 8), some (.int x119_4), some (.int 1), some (.int x119_6), some (.int (y184_7 + (1 : Int32))), (ksl z8), some (.int ys184_0)]) (S' := []) (w' := (sI w 38 y184_7.toInt.toNat ys184_0)) rfl ?_
    exact hA _ _ _ _ _ hs
set_option maxHeartbeats 4000000 in
set_option maxRecDepth 100000 in
theorem tx_Wa_find_150 {d : Nat} {x119_1 : Int32} {x119_2 : Int32} {x119_4 : Int32} {y150_5 : Int32} {x119_6 : Int32} {y150_7 : Int32} {ys150_0 : Int32} {z8 : Option Value} {z9 : Option Value} {w : MW} {A : Int32 → Int32 → MW → Prop} {E : Int32 → MW → Prop} {Q : Int32 → MW → Prop} (hs : q_Wa_find_150 x119_1 x119_2 x119_4 y150_5 x119_6 y150_7 ys150_0 w A E Q) (hA : ∀ (x119_5 : Int32) (x119_7 : Int32)  (z8 : Option Value) (z9 : Option Value) (w : MW), A x119_5 x119_7 w → Tm (d + 1) 267 119 [some (.ref 26), some (.int x119_1), some (.int x119_2), some (.ref 8), some (.int x119_4), some (.int x119_5), some (.int x119_6), some (.int x119_7), z8, z9] [] w (RZ Q)) (hE : ∀ (e119_5 : Int32)  (v7 : Option Value) (v8 : Option Value) (v9 : Option Value) (w : MW), E e119_5 w → Tm (d + 1) 267 216 [some (.ref 26), some (.int x119_1), some (.int x119_2), some (.ref 8), some (.int x119_4), some (.int e119_5), some (.int x119_6), v7, v8, v9] [] w (RZ Q)) : Tm (d + 1) 267 150 [some (.ref 26), some (.int x119_1), some (.int x119_2), some (.ref 8), some (.int x119_4), some (.int y150_5), some (.int x119_6), some (.int y150_7), z8, z9] [.int ys150_0] w (RZ Q) := by
  unfold q_Wa_find_150 at hs
  refine tm_go 2 (pc' := 154) (L' := [some (.ref 26), some (.int x119_1), some (.int x119_2), some (.ref 8), some (.int x119_4), some (.int y150_5), some (.int x119_6), some (.int y150_7), some (.int ys150_0), z9]) (S' := [.int ys150_0]) (w' := w) rfl ?_
  refine tm_i (p1 := 162) (p2 := 157) rfl (fun h18 => ?_) (fun h18 => ?_)
  · replace hs := hs.1 h18
    refine tm_go 5 (pc' := 170) (L' := [some (.ref 26), some (.int x119_1), some (.int x119_2), some (.ref 8), some (.int x119_4), some (.int y150_5), some (.int x119_6), some (.int y150_7), some (.int ys150_0), z9]) (S' := [.int (y150_7 >>> ((1 : Int32) &&& 31)), .ref 12]) (w' := w) rfl ?_
    obtain ⟨b19, hs⟩ := hs
    refine tm_k (pc' := 171) (L' := [some (.ref 26), some (.int x119_1), some (.int x119_2), some (.ref 8), some (.int x119_4), some (.int y150_5), some (.int x119_6), some (.int y150_7), some (.int ys150_0), z9]) (S' := [.int (w.1 12 ((y150_7 >>> ((1 : Int32) &&& 31)).toInt.toNat))]) (w' := w) rfl b19 ?_
    refine tm_go 7 (pc' := 182) (L' := [some (.ref 26), some (.int x119_1), some (.int x119_2), some (.ref 8), some (.int x119_4), some (.int y150_5), some (.int x119_6), some (.int y150_7), some (.int ys150_0), z9]) (S' := [.int ys150_0, .ref 38, .int (((w.1 12 ((y150_7 >>> ((1 : Int32) &&& 31)).toInt.toNat)) * (32 : Int32)) + (1 : Int32))]) (w' := w) rfl ?_
    obtain ⟨b20, hs⟩ := hs
    refine tm_k (pc' := 183) (L' := [some (.ref 26), some (.int x119_1), some (.int x119_2), some (.ref 8), some (.int x119_4), some (.int y150_5), some (.int x119_6), some (.int y150_7), some (.int ys150_0), z9]) (S' := [.int (w.1 38 ys150_0.toInt.toNat), .int (((w.1 12 ((y150_7 >>> ((1 : Int32) &&& 31)).toInt.toNat)) * (32 : Int32)) + (1 : Int32))]) (w' := w) rfl b20 ?_
    refine tm_go 1 (pc' := 184) (L' := [some (.ref 26), some (.int x119_1), some (.int x119_2), some (.ref 8), some (.int x119_4), some (.int y150_5), some (.int x119_6), some (.int y150_7), some (.int ys150_0), z9]) (S' := [.int ((((w.1 12 ((y150_7 >>> ((1 : Int32) &&& 31)).toInt.toNat)) * (32 : Int32)) + (1 : Int32)) + (w.1 38 ys150_0.toInt.toNat))]) (w' := w) rfl ?_
    exact tx_Wa_find_184 hs hA hE
  · replace hs := hs.2 h18
    refine tm_go 2 (pc' := 184) (L' := [some (.ref 26), some (.int x119_1), some (.int x119_2), some (.ref 8), some (.int x119_4), some (.int y150_5), some (.int x119_6), some (.int y150_7), some (.int ys150_0), z9]) (S' := [.int 536870912]) (w' := w) rfl ?_
    exact tx_Wa_find_184 hs hA hE
set_option maxHeartbeats 4000000 in
set_option maxRecDepth 100000 in
theorem tx_Wa_find_119 {d : Nat} {x119_1 : Int32} {x119_2 : Int32} {x119_4 : Int32} {x119_6 : Int32} {E : Int32 → MW → Prop} {Q : Int32 → MW → Prop} (n : Nat) : ∀ (x119_5 : Int32) (x119_7 : Int32)  (z8 : Option Value) (z9 : Option Value) (w : MW), q_Wa_find_119 x119_1 x119_2 x119_4 x119_6 E Q n x119_5 x119_7 w → (∀ (e119_5 : Int32)  (v7 : Option Value) (v8 : Option Value) (v9 : Option Value) (w : MW), E e119_5 w → Tm (d + 1) 267 216 [some (.ref 26), some (.int x119_1), some (.int x119_2), some (.ref 8), some (.int x119_4), some (.int e119_5), some (.int x119_6), v7, v8, v9] [] w (RZ Q)) → Tm (d + 1) 267 119 [some (.ref 26), some (.int x119_1), some (.int x119_2), some (.ref 8), some (.int x119_4), some (.int x119_5), some (.int x119_6), some (.int x119_7), z8, z9] [] w (RZ Q) := by
  induction n with
  | zero => intro x119_5 x119_7 z8 z9 w hs; rw [q_Wa_find_119.eq_1] at hs; exact hs.elim
  | succ n ih =>
    intro x119_5 x119_7 z8 z9 w hs hE
    rw [q_Wa_find_119.eq_2] at hs
    refine tm_go 2 (pc' := 123) (L' := [some (.ref 26), some (.int x119_1), some (.int x119_2), some (.ref 8), some (.int x119_4), some (.int x119_5), some (.int x119_6), some (.int x119_7), z8, z9]) (S' := [.int x119_4, .int x119_7]) (w' := w) rfl ?_
    refine tm_i (p1 := 216) (p2 := 126) rfl (fun h14 => ?_) (fun h14 => ?_)
    · replace hs := hs.1 h14
      exact hE _ _ _ _ _ hs
    · replace hs := hs.2 h14
      refine tm_go 5 (pc' := 134) (L' := [some (.ref 26), some (.int x119_1), some (.int x119_2), some (.ref 8), some (.int x119_4), some (.int x119_5), some (.int x119_6), some (.int x119_7), z8, z9]) (S' := [.int (x119_7 >>> ((1 : Int32) &&& 31)), .ref 36]) (w' := w) rfl ?_
      obtain ⟨b15, hs⟩ := hs
      refine tm_k (pc' := 135) (L' := [some (.ref 26), some (.int x119_1), some (.int x119_2), some (.ref 8), some (.int x119_4), some (.int x119_5), some (.int x119_6), some (.int x119_7), z8, z9]) (S' := [.int (w.1 36 ((x119_7 >>> ((1 : Int32) &&& 31)).toInt.toNat))]) (w' := w) rfl b15 ?_
      refine tm_i (p1 := 142) (p2 := 138) rfl (fun h16 => ?_) (fun h16 => ?_)
      · replace hs := hs.1 h16
        refine tm_go 4 (pc' := 147) (L' := [some (.ref 26), some (.int x119_1), some (.int x119_2), some (.ref 8), some (.int x119_4), some (.int x119_5), some (.int x119_6), some (.int x119_7), z8, z9]) (S' := [.int (x119_7 ^^^ (1 : Int32)), .ref 26]) (w' := w) rfl ?_
        refine tm_c rfl (Nat.le_of_ble_eq_true rfl) (dm_Wa_onward (d := d + 0) hs) (fun v w17 hq => ?_)
        obtain ⟨r17, rfl, hs⟩ := hq
        exact tx_Wa_find_150 hs (fun q0 q1 q2 q3 q4 hs => ih q0 q1 q2 q3 q4 hs hE) hE
      · replace hs := hs.2 h16
        refine tm_go 2 (pc' := 150) (L' := [some (.ref 26), some (.int x119_1), some (.int x119_2), some (.ref 8), some (.int x119_4), some (.int x119_5), some (.int x119_6), some (.int x119_7), z8, z9]) (S' := [.int (-1)]) (w' := w) rfl ?_
        exact tx_Wa_find_150 hs (fun q0 q1 q2 q3 q4 hs => ih q0 q1 q2 q3 q4 hs hE) hE
set_option maxHeartbeats 4000000 in
set_option maxRecDepth 100000 in
theorem tx_Wa_find_101 {d : Nat} {x101_1 : Int32} {x101_2 : Int32} {x101_4 : Int32} {E : MW → Prop} {Q : Int32 → MW → Prop} (n : Nat) : ∀ (x101_5 : Int32) (x101_6 : Int32)  (z7 : Option Value) (z8 : Option Value) (z9 : Option Value) (w : MW), q_Wa_find_101 x101_1 x101_2 x101_4 E Q n x101_5 x101_6 w → (∀  (v4 : Option Value) (v5 : Option Value) (v6 : Option Value) (v7 : Option Value) (v8 : Option Value) (v9 : Option Value) (w : MW), E  w → Tm (d + 1) 267 222 [some (.ref 26), some (.int x101_1), some (.int x101_2), some (.ref 8), v4, v5, v6, v7, v8, v9] [] w (RZ Q)) → Tm (d + 1) 267 101 [some (.ref 26), some (.int x101_1), some (.int x101_2), some (.ref 8), some (.int x101_4), some (.int x101_5), some (.int x101_6), z7, z8, z9] [] w (RZ Q) := by
  induction n with
  | zero => intro x101_5 x101_6 z7 z8 z9 w hs; rw [q_Wa_find_101.eq_1] at hs; exact hs.elim
  | succ n ih =>
    intro x101_5 x101_6 z7 z8 z9 w hs hE
    rw [q_Wa_find_101.eq_2] at hs
    refine tm_go 1 (pc' := 103) (L' := [some (.ref 26), some (.int x101_1), some (.int x101_2), some (.ref 8), some (.int x101_4), some (.int x101_5), some (.int x101_6), z7, z8, z9]) (S' := [.int x101_5]) (w' := w) rfl ?_
    refine tm_i (p1 := 222) (p2 := 106) rfl (fun h12 => ?_) (fun h12 => ?_)
    · replace hs := hs.1 h12
      exact hE _ _ _ _ _ _ _ hs
    · replace hs := hs.2 h12
      refine tm_go 2 (pc' := 110) (L' := [some (.ref 26), some (.int x101_1), some (.int x101_2), some (.ref 8), some (.int x101_4), some (.int x101_5), some (.int x101_6), z7, z8, z9]) (S' := [.int x101_4, .int x101_6]) (w' := w) rfl ?_
      refine tm_i (p1 := 222) (p2 := 113) rfl (fun h13 => ?_) (fun h13 => ?_)
      · replace hs := hs.1 h13
        exact hE _ _ _ _ _ _ _ hs
      · replace hs := hs.2 h13
        refine tm_go 4 (pc' := 119) (L' := [some (.ref 26), some (.int x101_1), some (.int x101_2), some (.ref 8), some (.int x101_4), some (.int 0), some (.int x101_6), some (.int 0), z8, z9]) (S' := []) (w' := w) rfl ?_
        refine tx_Wa_find_119 FU _ _ _ _ _ hs (fun e119_5_24 z24_7 z24_8 z24_9 w24 hs => ?_)
        refine tm_go 2 (pc' := 101) (L' := [some (.ref 26), some (.int x101_1), some (.int x101_2), some (.ref 8), some (.int x101_4), some (.int e119_5_24), some (.int (x101_6 + (1 : Int32))), z24_7, z24_8, z24_9]) (S' := []) (w' := w24) rfl ?_
        exact ih _ _ _ _ _ _ hs hE
set_option maxHeartbeats 4000000 in
set_option maxRecDepth 100000 in
theorem tx_Wa_find_234 {d : Nat} {x234_2 : Int32} {E : MW → Prop} {Q : Int32 → MW → Prop} (n : Nat) : ∀ (x234_6 : Int32)  (z1 : Option Value) (z4 : Option Value) (z5 : Option Value) (z7 : Option Value) (z8 : Option Value) (z9 : Option Value) (w : MW), q_Wa_find_234 x234_2 E Q n x234_6 w → (∀  (v1 : Option Value) (v2 : Option Value) (v3 : Option Value) (v4 : Option Value) (v5 : Option Value) (v6 : Option Value) (v7 : Option Value) (v8 : Option Value) (v9 : Option Value) (w : MW), E  w → Tm (d + 1) 267 301 [some (.ref 26), v1, v2, v3, v4, v5, v6, v7, v8, v9] [] w (RZ Q)) → Tm (d + 1) 267 234 [some (.ref 26), z1, some (.int x234_2), some (.ref 8), z4, z5, some (.int x234_6), z7, z8, z9] [] w (RZ Q) := by
  induction n with
  | zero => intro x234_6 z1 z4 z5 z7 z8 z9 w hs; rw [q_Wa_find_234.eq_1] at hs; exact hs.elim
  | succ n ih =>
    intro x234_6 z1 z4 z5 z7 z8 z9 w hs hE
    rw [q_Wa_find_234.eq_2] at hs
    refine tm_go 1 (pc' := 236) (L' := [some (.ref 26), z1, some (.int x234_2), some (.ref 8), z4, z5, some (.int x234_6), z7, z8, z9]) (S' := [.int x234_6]) (w' := w) rfl ?_
    refine tm_i (p1 := 301) (p2 := 239) rfl (fun h27 => ?_) (fun h27 => ?_)
    · replace hs := hs.1 h27
      exact hE _ _ _ _ _ _ _ _ _ _ hs
    · replace hs := hs.2 h27
      refine tm_go 3 (pc' := 245) (L' := [some (.ref 26), z1, some (.int x234_2), some (.ref 8), z4, z5, some (.int x234_6), z7, z8, z9]) (S' := [.int 24, .int (w.1 26 15)]) (w' := w) rfl ?_
      refine tm_i (p1 := 301) (p2 := 248) rfl (fun h28 => ?_) (fun h28 => ?_)
      · replace hs := hs.1 h28
        exact hE _ _ _ _ _ _ _ _ _ _ hs
      · replace hs := hs.2 h28
        refine tm_go 9 (pc' := 264) (L' := [some (.ref 26), z1, some (.int x234_2), some (.ref 8), z4, z5, some (.int x234_6), some (.int (x234_6 ^^^ (1 : Int32))), z8, z9]) (S' := [.int (x234_6 ^^^ (1 : Int32)), .int (w.1 26 15), .ref 39]) (w' := w) rfl ?_
        obtain ⟨b29, hs⟩ := hs
        refine tm_k (pc' := 265) (L' := [some (.ref 26), z1, some (.int x234_2), some (.ref 8), z4, z5, some (.int x234_6), some (.int (x234_6 ^^^ (1 : Int32))), z8, z9]) (S' := []) (w' := (sI w 39 ((w.1 26 15).toInt.toNat) (x234_6 ^^^ (1 : Int32)))) rfl b29 ?_
        refine tm_go 9 (pc' := 281) (L' := [some (.ref 26), z1, some (.int x234_2), some (.ref 8), z4, z5, some (.int x234_6), some (.int (x234_6 ^^^ (1 : Int32))), z8, z9]) (S' := [.int (x234_6 ^^^ (1 : Int32)), .ref 13]) (w' := (sI (sI w 39 ((w.1 26 15).toInt.toNat) (x234_6 ^^^ (1 : Int32))) 26 15 ((w.1 26 15) + (1 : Int32)))) rfl ?_
        obtain ⟨b30, hs⟩ := hs
        refine tm_k (pc' := 282) (L' := [some (.ref 26), z1, some (.int x234_2), some (.ref 8), z4, z5, some (.int x234_6), some (.int (x234_6 ^^^ (1 : Int32))), z8, z9]) (S' := [.int (w.1 13 ((x234_6 ^^^ (1 : Int32)).toInt.toNat))]) (w' := (sI (sI w 39 ((w.1 26 15).toInt.toNat) (x234_6 ^^^ (1 : Int32))) 26 15 ((w.1 26 15) + (1 : Int32)))) rfl b30 ?_
        refine tm_go 1 (pc' := 283) (L' := [some (.ref 26), z1, some (.int x234_2), some (.ref 8), z4, z5, some (.int x234_6), some (.int (x234_6 ^^^ (1 : Int32))), z8, z9]) (S' := [.int x234_2, .int (w.1 13 ((x234_6 ^^^ (1 : Int32)).toInt.toNat))]) (w' := (sI (sI w 39 ((w.1 26 15).toInt.toNat) (x234_6 ^^^ (1 : Int32))) 26 15 ((w.1 26 15) + (1 : Int32)))) rfl ?_
        refine tm_i (p1 := 290) (p2 := 286) rfl (fun h31 => ?_) (fun h31 => ?_)
        · replace hs := hs.1 h31
          refine tm_go 2 (pc' := 293) (L' := [some (.ref 26), z1, some (.int x234_2), some (.ref 8), z4, z5, some (.int x234_6), some (.int (x234_6 ^^^ (1 : Int32))), z8, z9]) (S' := [.int (x234_6 ^^^ (1 : Int32)), .ref 26]) (w' := (sI (sI w 39 ((w.1 26 15).toInt.toNat) (x234_6 ^^^ (1 : Int32))) 26 15 ((w.1 26 15) + (1 : Int32)))) rfl ?_
          refine tm_c rfl (Nat.le_of_ble_eq_true rfl) (dm_Wa_onward (d := d + 0) hs) (fun v w32 hq => ?_)
          obtain ⟨r32, rfl, hs⟩ := hq
          refine tm_go 2 (pc' := 234) (L' := [some (.ref 26), z1, some (.int x234_2), some (.ref 8), z4, (ksl z5), some (.int r32), some (.int (x234_6 ^^^ (1 : Int32))), z8, z9]) (S' := []) (w' := w32) rfl ?_
          exact ih _ _ _ _ _ _ _ _ hs hE
        · replace hs := hs.2 h31
          refine tm_go 4 (pc' := 234) (L' := [some (.ref 26), z1, some (.int x234_2), some (.ref 8), z4, (ksl z5), some (.int (-1)), some (.int (x234_6 ^^^ (1 : Int32))), z8, z9]) (S' := []) (w' := (sI (sI w 39 ((w.1 26 15).toInt.toNat) (x234_6 ^^^ (1 : Int32))) 26 15 ((w.1 26 15) + (1 : Int32)))) rfl ?_
          exact ih _ _ _ _ _ _ _ _ hs hE
set_option maxHeartbeats 4000000 in
set_option maxRecDepth 100000 in
theorem dm_Wa_find {d : Nat} {w : MW} {a0 : Int32} {b0 : Int32} {Q : Int32 → MW → Prop} (hs : p_Wa_find w a0 b0 Q) : Tc (d + 1) 267 [.ref 26, .int a0, .int b0] w (RZ Q) := by
  unfold p_Wa_find at hs
  refine tm_go 2 (pc' := 4) (L' := [some (.ref 26), some (.int a0), some (.int b0), none, none, none, none, none, none, none]) (S' := [.ref 7]) (w' := w) rfl ?_
  obtain ⟨b1, hs⟩ := hs
  refine tm_g (pc' := 7) (k := 7) (j := 0) rfl b1 ?_
  refine tm_go 8 (pc' := 19) (L' := [some (.ref 26), some (.int a0), some (.int b0), some (.ref 8), some (.int ((2 : Int32) * (w.1 8 1))), some (.int 0), none, none, none, none]) (S' := []) (w' := w) rfl ?_
  refine tx_Wa_find_19 FU _ _ _ _ _ _ hs (fun  z11_5 z11_6 z11_7 z11_8 z11_9 w11 hs => ?_)
  refine tm_go 4 (pc' := 101) (L' := [some (.ref 26), some (.int a0), some (.int b0), some (.ref 8), some (.int ((2 : Int32) * (w.1 8 1))), some (.int 1), some (.int 0), z11_7, z11_8, z11_9]) (S' := []) (w' := w11) rfl ?_
  refine tx_Wa_find_101 FU _ _ _ _ _ _ hs (fun  z25_4 z25_5 z25_6 z25_7 z25_8 z25_9 w25 hs => ?_)
  refine tm_go 2 (pc' := 224) (L' := [some (.ref 26), some (.int a0), some (.int b0), some (.ref 8), z25_4, z25_5, z25_6, z25_7, z25_8, z25_9]) (S' := [.int a0, .ref 26]) (w' := w25) rfl ?_
  refine tm_c rfl (Nat.le_of_ble_eq_true rfl) (dm_Wa_cheapestEntry (d := d + 0) hs) (fun v w26 hq => ?_)
  obtain ⟨r26, rfl, hs⟩ := hq
  refine tm_go 4 (pc' := 234) (L' := [some (.ref 26), some (.int a0), some (.int b0), some (.ref 8), z25_4, (ksl z25_5), some (.int r26), z25_7, z25_8, z25_9]) (S' := []) (w' := (sI w26 26 15 0)) rfl ?_
  refine tx_Wa_find_234 FU _ _ _ _ _ _ _ _ hs (fun  z33_1 z33_2 z33_3 z33_4 z33_5 z33_6 z33_7 z33_8 z33_9 w33 hs => ?_)
  refine tm_go 2 (pc' := 305) (L' := [some (.ref 26), z33_1, z33_2, z33_3, z33_4, z33_5, z33_6, z33_7, z33_8, z33_9]) (S' := [.int (w33.1 26 15)]) (w' := w33) rfl ?_
  refine tm_i (p1 := 312) (p2 := 308) rfl (fun h34 => ?_) (fun h34 => ?_)
  · replace hs := hs.1 h34
    refine tm_go 1 (pc' := 313) (L' := [some (.ref 26), z33_1, z33_2, z33_3, z33_4, z33_5, z33_6, z33_7, z33_8, z33_9]) (S' := [.int 0]) (w' := w33) rfl ?_
    exact tm_r rfl ⟨_, rfl, by decide, hs⟩
  · replace hs := hs.2 h34
    refine tm_go 2 (pc' := 313) (L' := [some (.ref 26), z33_1, z33_2, z33_3, z33_4, z33_5, z33_6, z33_7, z33_8, z33_9]) (S' := [.int 1]) (w' := w33) rfl ?_
    exact tm_r rfl ⟨_, rfl, by decide, hs⟩
set_option maxHeartbeats 4000000 in
set_option maxRecDepth 100000 in
theorem tx_Wa_openFound_86 {d : Nat} {x12_1 : Int32} {x12_2 : Int32} {x12_3 : Int32} {y86_5 : Int32} {ys86_0 : Int32} {ys86_1 : Int32} {z6 : Option Value} {z7 : Option Value} {z8 : Option Value} {w : MW} {A : Int32 → MW → Prop} {E : MW → Prop} {Q : MW → Prop} (hs : q_Wa_openFound_86 x12_1 x12_2 x12_3 y86_5 ys86_0 ys86_1 w A E Q) (hA : ∀ (x12_5 : Int32)  (z6 : Option Value) (z7 : Option Value) (z8 : Option Value) (w : MW), A x12_5 w → Tm (d + 0) 270 12 [some (.ref 26), some (.int x12_1), some (.int x12_2), some (.int x12_3), some (.ref 8), some (.int x12_5), z6, z7, z8] [] w (RV Q)) (hE : ∀  (v4 : Option Value) (v5 : Option Value) (v6 : Option Value) (v7 : Option Value) (v8 : Option Value) (w : MW), E  w → Tm (d + 0) 270 224 [some (.ref 26), some (.int x12_1), some (.int x12_2), some (.int x12_3), v4, v5, v6, v7, v8] [] w (RV Q)) : Tm (d + 0) 270 86 [some (.ref 26), some (.int x12_1), some (.int x12_2), some (.int x12_3), some (.ref 8), some (.int y86_5), z6, z7, z8] [.int ys86_0, .int ys86_1, .ref 35] w (RV Q) := by
  unfold q_Wa_openFound_86 at hs
  obtain ⟨b8, hs⟩ := hs
  refine tm_k (pc' := 87) (L' := [some (.ref 26), some (.int x12_1), some (.int x12_2), some (.int x12_3), some (.ref 8), some (.int y86_5), z6, z7, z8]) (S' := []) (w' := (sI w 35 ys86_1.toInt.toNat ys86_0)) rfl b8 ?_
  refine tm_go 5 (pc' := 95) (L' := [some (.ref 26), some (.int x12_1), some (.int x12_2), some (.int x12_3), some (.ref 8), some (.int y86_5), z6, z7, z8]) (S' := [.int (w.1 26 15), .int (y86_5 + (1 : Int32))]) (w' := (sI w 35 ys86_1.toInt.toNat ys86_0)) rfl ?_
  refine tm_i (p1 := 218) (p2 := 98) rfl (fun h9 => ?_) (fun h9 => ?_)
  · replace hs := hs.1 h9
    refine tm_go 2 (pc' := 12) (L' := [some (.ref 26), some (.int x12_1), some (.int x12_2), some (.int x12_3), some (.ref 8), some (.int (y86_5 + (1 : Int32))), z6, z7, z8]) (S' := []) (w' := (sI w 35 ys86_1.toInt.toNat ys86_0)) rfl ?_
    exact hA _ _ _ _ _ hs
  · replace hs := hs.2 h9
    refine tm_go 5 (pc' := 109) (L' := [some (.ref 26), some (.int x12_1), some (.int x12_2), some (.int x12_3), some (.ref 8), some (.int y86_5), z6, z7, z8]) (S' := [.int y86_5, .ref 39, .ref 13]) (w' := (sI w 35 ys86_1.toInt.toNat ys86_0)) rfl ?_
    obtain ⟨b10, hs⟩ := hs
    refine tm_k (pc' := 110) (L' := [some (.ref 26), some (.int x12_1), some (.int x12_2), some (.int x12_3), some (.ref 8), some (.int y86_5), z6, z7, z8]) (S' := [.int (w.1 39 y86_5.toInt.toNat), .ref 13]) (w' := (sI w 35 ys86_1.toInt.toNat ys86_0)) rfl b10 ?_
    obtain ⟨b11, hs⟩ := hs
    refine tm_k (pc' := 111) (L' := [some (.ref 26), some (.int x12_1), some (.int x12_2), some (.int x12_3), some (.ref 8), some (.int y86_5), z6, z7, z8]) (S' := [.int (w.1 13 ((w.1 39 y86_5.toInt.toNat).toInt.toNat))]) (w' := (sI w 35 ys86_1.toInt.toNat ys86_0)) rfl b11 ?_
    refine tm_go 8 (pc' := 128) (L' := [some (.ref 26), some (.int x12_1), some (.int x12_2), some (.int x12_3), some (.ref 8), some (.int y86_5), (ksl z6), some (.int (w.1 13 ((w.1 39 y86_5.toInt.toNat).toInt.toNat))), z8]) (S' := [.int (w.1 13 ((w.1 39 y86_5.toInt.toNat).toInt.toNat)), .ref 16, .int (w.1 13 ((w.1 39 y86_5.toInt.toNat).toInt.toNat)), .ref 40]) (w' := (sI w 35 ys86_1.toInt.toNat ys86_0)) rfl ?_
    obtain ⟨b12, hs⟩ := hs
    refine tm_k (pc' := 129) (L' := [some (.ref 26), some (.int x12_1), some (.int x12_2), some (.int x12_3), some (.ref 8), some (.int y86_5), (ksl z6), some (.int (w.1 13 ((w.1 39 y86_5.toInt.toNat).toInt.toNat))), z8]) (S' := [.int (w.1 16 ((w.1 13 ((w.1 39 y86_5.toInt.toNat).toInt.toNat)).toInt.toNat)), .int (w.1 13 ((w.1 39 y86_5.toInt.toNat).toInt.toNat)), .ref 40]) (w' := (sI w 35 ys86_1.toInt.toNat ys86_0)) rfl b12 ?_
    obtain ⟨b13, hs⟩ := hs
    refine tm_k (pc' := 130) (L' := [some (.ref 26), some (.int x12_1), some (.int x12_2), some (.int x12_3), some (.ref 8), some (.int y86_5), (ksl z6), some (.int (w.1 13 ((w.1 39 y86_5.toInt.toNat).toInt.toNat))), z8]) (S' := []) (w' := (sI (sI w 35 ys86_1.toInt.toNat ys86_0) 40 ((w.1 13 ((w.1 39 y86_5.toInt.toNat).toInt.toNat)).toInt.toNat) (w.1 16 ((w.1 13 ((w.1 39 y86_5.toInt.toNat).toInt.toNat)).toInt.toNat)))) rfl b13 ?_
    refine tm_go 3 (pc' := 137) (L' := [some (.ref 26), some (.int x12_1), some (.int x12_2), some (.int x12_3), some (.ref 8), some (.int y86_5), (ksl z6), some (.int (w.1 13 ((w.1 39 y86_5.toInt.toNat).toInt.toNat))), z8]) (S' := [.int (w.1 13 ((w.1 39 y86_5.toInt.toNat).toInt.toNat)), .ref 9]) (w' := (sI (sI w 35 ys86_1.toInt.toNat ys86_0) 40 ((w.1 13 ((w.1 39 y86_5.toInt.toNat).toInt.toNat)).toInt.toNat) (w.1 16 ((w.1 13 ((w.1 39 y86_5.toInt.toNat).toInt.toNat)).toInt.toNat)))) rfl ?_
    obtain ⟨b14, hs⟩ := hs
    refine tm_k (pc' := 138) (L' := [some (.ref 26), some (.int x12_1), some (.int x12_2), some (.int x12_3), some (.ref 8), some (.int y86_5), (ksl z6), some (.int (w.1 13 ((w.1 39 y86_5.toInt.toNat).toInt.toNat))), z8]) (S' := [.int (w.1 9 ((w.1 13 ((w.1 39 y86_5.toInt.toNat).toInt.toNat)).toInt.toNat))]) (w' := (sI (sI w 35 ys86_1.toInt.toNat ys86_0) 40 ((w.1 13 ((w.1 39 y86_5.toInt.toNat).toInt.toNat)).toInt.toNat) (w.1 16 ((w.1 13 ((w.1 39 y86_5.toInt.toNat).toInt.toNat)).toInt.toNat)))) rfl b14 ?_
    refine tm_go 1 (pc' := 140) (L' := [some (.ref 26), some (.int x12_1), some (.int x12_2), some (.int x12_3), some (.ref 8), some (.int y86_5), (ksl z6), some (.int (w.1 13 ((w.1 39 y86_5.toInt.toNat).toInt.toNat))), z8]) (S' := [.int 8, .int (w.1 9 ((w.1 13 ((w.1 39 y86_5.toInt.toNat).toInt.toNat)).toInt.toNat))]) (w' := (sI (sI w 35 ys86_1.toInt.toNat ys86_0) 40 ((w.1 13 ((w.1 39 y86_5.toInt.toNat).toInt.toNat)).toInt.toNat) (w.1 16 ((w.1 13 ((w.1 39 y86_5.toInt.toNat).toInt.toNat)).toInt.toNat)))) rfl ?_
    refine tm_i (p1 := 207) (p2 := 143) rfl (fun h15 => ?_) (fun h15 => ?_)
    · replace hs := hs.1 h15
      refine tm_go 4 (pc' := 214) (L' := [some (.ref 26), some (.int x12_1), some (.int x12_2), some (.int x12_3), some (.ref 8), some (.int y86_5), (ksl z6), some (.int (w.1 13 ((w.1 39 y86_5.toInt.toNat).toInt.toNat))), z8]) (S' := [.int (w.1 13 ((w.1 39 y86_5.toInt.toNat).toInt.toNat)), .ref 37, .int (w.1 13 ((w.1 39 y86_5.toInt.toNat).toInt.toNat)), .ref 37]) (w' := (sI (sI w 35 ys86_1.toInt.toNat ys86_0) 40 ((w.1 13 ((w.1 39 y86_5.toInt.toNat).toInt.toNat)).toInt.toNat) (w.1 16 ((w.1 13 ((w.1 39 y86_5.toInt.toNat).toInt.toNat)).toInt.toNat)))) rfl ?_
      obtain ⟨b16, hs⟩ := hs
      refine tm_k (pc' := 215) (L' := [some (.ref 26), some (.int x12_1), some (.int x12_2), some (.int x12_3), some (.ref 8), some (.int y86_5), (ksl z6), some (.int (w.1 13 ((w.1 39 y86_5.toInt.toNat).toInt.toNat))), z8]) (S' := [.int (w.1 37 ((w.1 13 ((w.1 39 y86_5.toInt.toNat).toInt.toNat)).toInt.toNat)), .int (w.1 13 ((w.1 39 y86_5.toInt.toNat).toInt.toNat)), .ref 37]) (w' := (sI (sI w 35 ys86_1.toInt.toNat ys86_0) 40 ((w.1 13 ((w.1 39 y86_5.toInt.toNat).toInt.toNat)).toInt.toNat) (w.1 16 ((w.1 13 ((w.1 39 y86_5.toInt.toNat).toInt.toNat)).toInt.toNat)))) rfl b16 ?_
      refine tm_go 2 (pc' := 217) (L' := [some (.ref 26), some (.int x12_1), some (.int x12_2), some (.int x12_3), some (.ref 8), some (.int y86_5), (ksl z6), some (.int (w.1 13 ((w.1 39 y86_5.toInt.toNat).toInt.toNat))), z8]) (S' := [.int ((w.1 37 ((w.1 13 ((w.1 39 y86_5.toInt.toNat).toInt.toNat)).toInt.toNat)) + (1 : Int32)), .int (w.1 13 ((w.1 39 y86_5.toInt.toNat).toInt.toNat)), .ref 37]) (w' := (sI (sI w 35 ys86_1.toInt.toNat ys86_0) 40 ((w.1 13 ((w.1 39 y86_5.toInt.toNat).toInt.toNat)).toInt.toNat) (w.1 16 ((w.1 13 ((w.1 39 y86_5.toInt.toNat).toInt.toNat)).toInt.toNat)))) rfl ?_
      obtain ⟨b17, hs⟩ := hs
      refine tm_k (pc' := 218) (L' := [some (.ref 26), some (.int x12_1), some (.int x12_2), some (.int x12_3), some (.ref 8), some (.int y86_5), (ksl z6), some (.int (w.1 13 ((w.1 39 y86_5.toInt.toNat).toInt.toNat))), z8]) (S' := []) (w' := (sI (sI (sI w 35 ys86_1.toInt.toNat ys86_0) 40 ((w.1 13 ((w.1 39 y86_5.toInt.toNat).toInt.toNat)).toInt.toNat) (w.1 16 ((w.1 13 ((w.1 39 y86_5.toInt.toNat).toInt.toNat)).toInt.toNat))) 37 ((w.1 13 ((w.1 39 y86_5.toInt.toNat).toInt.toNat)).toInt.toNat) ((w.1 37 ((w.1 13 ((w.1 39 y86_5.toInt.toNat).toInt.toNat)).toInt.toNat)) + (1 : Int32)))) rfl b17 ?_
      refine tm_go 2 (pc' := 12) (L' := [some (.ref 26), some (.int x12_1), some (.int x12_2), some (.int x12_3), some (.ref 8), some (.int (y86_5 + (1 : Int32))), (ksl z6), some (.int (w.1 13 ((w.1 39 y86_5.toInt.toNat).toInt.toNat))), z8]) (S' := []) (w' := (sI (sI (sI w 35 ys86_1.toInt.toNat ys86_0) 40 ((w.1 13 ((w.1 39 y86_5.toInt.toNat).toInt.toNat)).toInt.toNat) (w.1 16 ((w.1 13 ((w.1 39 y86_5.toInt.toNat).toInt.toNat)).toInt.toNat))) 37 ((w.1 13 ((w.1 39 y86_5.toInt.toNat).toInt.toNat)).toInt.toNat) ((w.1 37 ((w.1 13 ((w.1 39 y86_5.toInt.toNat).toInt.toNat)).toInt.toNat)) + (1 : Int32)))) rfl ?_
      exact hA _ _ _ _ _ hs
    · replace hs := hs.2 h15
      refine tm_go 5 (pc' := 154) (L' := [some (.ref 26), some (.int x12_1), some (.int x12_2), some (.int x12_3), some (.ref 8), some (.int y86_5), (ksl z6), some (.int (w.1 13 ((w.1 39 y86_5.toInt.toNat).toInt.toNat))), z8]) (S' := [.int y86_5, .ref 39, .ref 14]) (w' := (sI (sI w 35 ys86_1.toInt.toNat ys86_0) 40 ((w.1 13 ((w.1 39 y86_5.toInt.toNat).toInt.toNat)).toInt.toNat) (w.1 16 ((w.1 13 ((w.1 39 y86_5.toInt.toNat).toInt.toNat)).toInt.toNat)))) rfl ?_
      obtain ⟨b18, hs⟩ := hs
      refine tm_k (pc' := 155) (L' := [some (.ref 26), some (.int x12_1), some (.int x12_2), some (.int x12_3), some (.ref 8), some (.int y86_5), (ksl z6), some (.int (w.1 13 ((w.1 39 y86_5.toInt.toNat).toInt.toNat))), z8]) (S' := [.int (w.1 39 y86_5.toInt.toNat), .ref 14]) (w' := (sI (sI w 35 ys86_1.toInt.toNat ys86_0) 40 ((w.1 13 ((w.1 39 y86_5.toInt.toNat).toInt.toNat)).toInt.toNat) (w.1 16 ((w.1 13 ((w.1 39 y86_5.toInt.toNat).toInt.toNat)).toInt.toNat)))) rfl b18 ?_
      obtain ⟨b19, hs⟩ := hs
      refine tm_k (pc' := 156) (L' := [some (.ref 26), some (.int x12_1), some (.int x12_2), some (.int x12_3), some (.ref 8), some (.int y86_5), (ksl z6), some (.int (w.1 13 ((w.1 39 y86_5.toInt.toNat).toInt.toNat))), z8]) (S' := [.int (w.1 14 ((w.1 39 y86_5.toInt.toNat).toInt.toNat))]) (w' := (sI (sI w 35 ys86_1.toInt.toNat ys86_0) 40 ((w.1 13 ((w.1 39 y86_5.toInt.toNat).toInt.toNat)).toInt.toNat) (w.1 16 ((w.1 13 ((w.1 39 y86_5.toInt.toNat).toInt.toNat)).toInt.toNat)))) rfl b19 ?_
      refine tm_go 9 (pc' := 171) (L' := [some (.ref 26), some (.int x12_1), some (.int x12_2), some (.int x12_3), some (.ref 8), some (.int y86_5), (ksl z6), some (.int (w.1 13 ((w.1 39 y86_5.toInt.toNat).toInt.toNat))), z8]) (S' := [.int (y86_5 + (1 : Int32)), .ref 39, .ref 14, .int ((w.1 14 ((w.1 39 y86_5.toInt.toNat).toInt.toNat)) * (4 : Int32))]) (w' := (sI (sI w 35 ys86_1.toInt.toNat ys86_0) 40 ((w.1 13 ((w.1 39 y86_5.toInt.toNat).toInt.toNat)).toInt.toNat) (w.1 16 ((w.1 13 ((w.1 39 y86_5.toInt.toNat).toInt.toNat)).toInt.toNat)))) rfl ?_
      obtain ⟨b20, hs⟩ := hs
      refine tm_k (pc' := 172) (L' := [some (.ref 26), some (.int x12_1), some (.int x12_2), some (.int x12_3), some (.ref 8), some (.int y86_5), (ksl z6), some (.int (w.1 13 ((w.1 39 y86_5.toInt.toNat).toInt.toNat))), z8]) (S' := [.int (w.1 39 ((y86_5 + (1 : Int32)).toInt.toNat)), .ref 14, .int ((w.1 14 ((w.1 39 y86_5.toInt.toNat).toInt.toNat)) * (4 : Int32))]) (w' := (sI (sI w 35 ys86_1.toInt.toNat ys86_0) 40 ((w.1 13 ((w.1 39 y86_5.toInt.toNat).toInt.toNat)).toInt.toNat) (w.1 16 ((w.1 13 ((w.1 39 y86_5.toInt.toNat).toInt.toNat)).toInt.toNat)))) rfl b20 ?_
      refine tm_go 2 (pc' := 174) (L' := [some (.ref 26), some (.int x12_1), some (.int x12_2), some (.int x12_3), some (.ref 8), some (.int y86_5), (ksl z6), some (.int (w.1 13 ((w.1 39 y86_5.toInt.toNat).toInt.toNat))), z8]) (S' := [.int ((w.1 39 ((y86_5 + (1 : Int32)).toInt.toNat)) ^^^ (1 : Int32)), .ref 14, .int ((w.1 14 ((w.1 39 y86_5.toInt.toNat).toInt.toNat)) * (4 : Int32))]) (w' := (sI (sI w 35 ys86_1.toInt.toNat ys86_0) 40 ((w.1 13 ((w.1 39 y86_5.toInt.toNat).toInt.toNat)).toInt.toNat) (w.1 16 ((w.1 13 ((w.1 39 y86_5.toInt.toNat).toInt.toNat)).toInt.toNat)))) rfl ?_
      obtain ⟨b21, hs⟩ := hs
      refine tm_k (pc' := 175) (L' := [some (.ref 26), some (.int x12_1), some (.int x12_2), some (.int x12_3), some (.ref 8), some (.int y86_5), (ksl z6), some (.int (w.1 13 ((w.1 39 y86_5.toInt.toNat).toInt.toNat))), z8]) (S' := [.int (w.1 14 (((w.1 39 ((y86_5 + (1 : Int32)).toInt.toNat)) ^^^ (1 : Int32)).toInt.toNat)), .int ((w.1 14 ((w.1 39 y86_5.toInt.toNat).toInt.toNat)) * (4 : Int32))]) (w' := (sI (sI w 35 ys86_1.toInt.toNat ys86_0) 40 ((w.1 13 ((w.1 39 y86_5.toInt.toNat).toInt.toNat)).toInt.toNat) (w.1 16 ((w.1 13 ((w.1 39 y86_5.toInt.toNat).toInt.toNat)).toInt.toNat)))) rfl b21 ?_
      refine tm_go 11 (pc' := 198) (L' := [some (.ref 26), some (.int x12_1), some (.int x12_2), some (.int x12_3), some (.ref 8), some (.int y86_5), (ksl z6), some (.int (w.1 13 ((w.1 39 y86_5.toInt.toNat).toInt.toNat))), some (.int (((w.1 14 ((w.1 39 y86_5.toInt.toNat).toInt.toNat)) * (4 : Int32)) + (w.1 14 (((w.1 39 ((y86_5 + (1 : Int32)).toInt.toNat)) ^^^ (1 : Int32)).toInt.toNat))))]) (S' := [.int (w.1 13 ((w.1 39 y86_5.toInt.toNat).toInt.toNat)), .ref 9, .ref 41, .int (w.1 13 ((w.1 39 y86_5.toInt.toNat).toInt.toNat)), .ref 16]) (w' := (sI (sI w 35 ys86_1.toInt.toNat ys86_0) 40 ((w.1 13 ((w.1 39 y86_5.toInt.toNat).toInt.toNat)).toInt.toNat) (w.1 16 ((w.1 13 ((w.1 39 y86_5.toInt.toNat).toInt.toNat)).toInt.toNat)))) rfl ?_
      obtain ⟨b22, hs⟩ := hs
      refine tm_k (pc' := 199) (L' := [some (.ref 26), some (.int x12_1), some (.int x12_2), some (.int x12_3), some (.ref 8), some (.int y86_5), (ksl z6), some (.int (w.1 13 ((w.1 39 y86_5.toInt.toNat).toInt.toNat))), some (.int (((w.1 14 ((w.1 39 y86_5.toInt.toNat).toInt.toNat)) * (4 : Int32)) + (w.1 14 (((w.1 39 ((y86_5 + (1 : Int32)).toInt.toNat)) ^^^ (1 : Int32)).toInt.toNat))))]) (S' := [.int (w.1 9 ((w.1 13 ((w.1 39 y86_5.toInt.toNat).toInt.toNat)).toInt.toNat)), .ref 41, .int (w.1 13 ((w.1 39 y86_5.toInt.toNat).toInt.toNat)), .ref 16]) (w' := (sI (sI w 35 ys86_1.toInt.toNat ys86_0) 40 ((w.1 13 ((w.1 39 y86_5.toInt.toNat).toInt.toNat)).toInt.toNat) (w.1 16 ((w.1 13 ((w.1 39 y86_5.toInt.toNat).toInt.toNat)).toInt.toNat)))) rfl b22 ?_
      refine tm_go 4 (pc' := 205) (L' := [some (.ref 26), some (.int x12_1), some (.int x12_2), some (.int x12_3), some (.ref 8), some (.int y86_5), (ksl z6), some (.int (w.1 13 ((w.1 39 y86_5.toInt.toNat).toInt.toNat))), some (.int (((w.1 14 ((w.1 39 y86_5.toInt.toNat).toInt.toNat)) * (4 : Int32)) + (w.1 14 (((w.1 39 ((y86_5 + (1 : Int32)).toInt.toNat)) ^^^ (1 : Int32)).toInt.toNat))))]) (S' := [.int (((w.1 9 ((w.1 13 ((w.1 39 y86_5.toInt.toNat).toInt.toNat)).toInt.toNat)) * (16 : Int32)) + (((w.1 14 ((w.1 39 y86_5.toInt.toNat).toInt.toNat)) * (4 : Int32)) + (w.1 14 (((w.1 39 ((y86_5 + (1 : Int32)).toInt.toNat)) ^^^ (1 : Int32)).toInt.toNat)))), .ref 41, .int (w.1 13 ((w.1 39 y86_5.toInt.toNat).toInt.toNat)), .ref 16]) (w' := (sI (sI w 35 ys86_1.toInt.toNat ys86_0) 40 ((w.1 13 ((w.1 39 y86_5.toInt.toNat).toInt.toNat)).toInt.toNat) (w.1 16 ((w.1 13 ((w.1 39 y86_5.toInt.toNat).toInt.toNat)).toInt.toNat)))) rfl ?_
      obtain ⟨b23, hs⟩ := hs
      refine tm_k (pc' := 206) (L' := [some (.ref 26), some (.int x12_1), some (.int x12_2), some (.int x12_3), some (.ref 8), some (.int y86_5), (ksl z6), some (.int (w.1 13 ((w.1 39 y86_5.toInt.toNat).toInt.toNat))), some (.int (((w.1 14 ((w.1 39 y86_5.toInt.toNat).toInt.toNat)) * (4 : Int32)) + (w.1 14 (((w.1 39 ((y86_5 + (1 : Int32)).toInt.toNat)) ^^^ (1 : Int32)).toInt.toNat))))]) (S' := [.int (w.1 41 ((((w.1 9 ((w.1 13 ((w.1 39 y86_5.toInt.toNat).toInt.toNat)).toInt.toNat)) * (16 : Int32)) + (((w.1 14 ((w.1 39 y86_5.toInt.toNat).toInt.toNat)) * (4 : Int32)) + (w.1 14 (((w.1 39 ((y86_5 + (1 : Int32)).toInt.toNat)) ^^^ (1 : Int32)).toInt.toNat)))).toInt.toNat)), .int (w.1 13 ((w.1 39 y86_5.toInt.toNat).toInt.toNat)), .ref 16]) (w' := (sI (sI w 35 ys86_1.toInt.toNat ys86_0) 40 ((w.1 13 ((w.1 39 y86_5.toInt.toNat).toInt.toNat)).toInt.toNat) (w.1 16 ((w.1 13 ((w.1 39 y86_5.toInt.toNat).toInt.toNat)).toInt.toNat)))) rfl b23 ?_
      obtain ⟨b24, hs⟩ := hs
      refine tm_k (pc' := 207) (L' := [some (.ref 26), some (.int x12_1), some (.int x12_2), some (.int x12_3), some (.ref 8), some (.int y86_5), (ksl z6), some (.int (w.1 13 ((w.1 39 y86_5.toInt.toNat).toInt.toNat))), some (.int (((w.1 14 ((w.1 39 y86_5.toInt.toNat).toInt.toNat)) * (4 : Int32)) + (w.1 14 (((w.1 39 ((y86_5 + (1 : Int32)).toInt.toNat)) ^^^ (1 : Int32)).toInt.toNat))))]) (S' := []) (w' := (sI (sI (sI w 35 ys86_1.toInt.toNat ys86_0) 40 ((w.1 13 ((w.1 39 y86_5.toInt.toNat).toInt.toNat)).toInt.toNat) (w.1 16 ((w.1 13 ((w.1 39 y86_5.toInt.toNat).toInt.toNat)).toInt.toNat))) 16 ((w.1 13 ((w.1 39 y86_5.toInt.toNat).toInt.toNat)).toInt.toNat) (w.1 41 ((((w.1 9 ((w.1 13 ((w.1 39 y86_5.toInt.toNat).toInt.toNat)).toInt.toNat)) * (16 : Int32)) + (((w.1 14 ((w.1 39 y86_5.toInt.toNat).toInt.toNat)) * (4 : Int32)) + (w.1 14 (((w.1 39 ((y86_5 + (1 : Int32)).toInt.toNat)) ^^^ (1 : Int32)).toInt.toNat)))).toInt.toNat)))) rfl b24 ?_
      refine tm_go 4 (pc' := 214) (L' := [some (.ref 26), some (.int x12_1), some (.int x12_2), some (.int x12_3), some (.ref 8), some (.int y86_5), (ksl z6), some (.int (w.1 13 ((w.1 39 y86_5.toInt.toNat).toInt.toNat))), some (.int (((w.1 14 ((w.1 39 y86_5.toInt.toNat).toInt.toNat)) * (4 : Int32)) + (w.1 14 (((w.1 39 ((y86_5 + (1 : Int32)).toInt.toNat)) ^^^ (1 : Int32)).toInt.toNat))))]) (S' := [.int (w.1 13 ((w.1 39 y86_5.toInt.toNat).toInt.toNat)), .ref 37, .int (w.1 13 ((w.1 39 y86_5.toInt.toNat).toInt.toNat)), .ref 37]) (w' := (sI (sI (sI w 35 ys86_1.toInt.toNat ys86_0) 40 ((w.1 13 ((w.1 39 y86_5.toInt.toNat).toInt.toNat)).toInt.toNat) (w.1 16 ((w.1 13 ((w.1 39 y86_5.toInt.toNat).toInt.toNat)).toInt.toNat))) 16 ((w.1 13 ((w.1 39 y86_5.toInt.toNat).toInt.toNat)).toInt.toNat) (w.1 41 ((((w.1 9 ((w.1 13 ((w.1 39 y86_5.toInt.toNat).toInt.toNat)).toInt.toNat)) * (16 : Int32)) + (((w.1 14 ((w.1 39 y86_5.toInt.toNat).toInt.toNat)) * (4 : Int32)) + (w.1 14 (((w.1 39 ((y86_5 + (1 : Int32)).toInt.toNat)) ^^^ (1 : Int32)).toInt.toNat)))).toInt.toNat)))) rfl ?_
      obtain ⟨b25, hs⟩ := hs
      refine tm_k (pc' := 215) (L' := [some (.ref 26), some (.int x12_1), some (.int x12_2), some (.int x12_3), some (.ref 8), some (.int y86_5), (ksl z6), some (.int (w.1 13 ((w.1 39 y86_5.toInt.toNat).toInt.toNat))), some (.int (((w.1 14 ((w.1 39 y86_5.toInt.toNat).toInt.toNat)) * (4 : Int32)) + (w.1 14 (((w.1 39 ((y86_5 + (1 : Int32)).toInt.toNat)) ^^^ (1 : Int32)).toInt.toNat))))]) (S' := [.int (w.1 37 ((w.1 13 ((w.1 39 y86_5.toInt.toNat).toInt.toNat)).toInt.toNat)), .int (w.1 13 ((w.1 39 y86_5.toInt.toNat).toInt.toNat)), .ref 37]) (w' := (sI (sI (sI w 35 ys86_1.toInt.toNat ys86_0) 40 ((w.1 13 ((w.1 39 y86_5.toInt.toNat).toInt.toNat)).toInt.toNat) (w.1 16 ((w.1 13 ((w.1 39 y86_5.toInt.toNat).toInt.toNat)).toInt.toNat))) 16 ((w.1 13 ((w.1 39 y86_5.toInt.toNat).toInt.toNat)).toInt.toNat) (w.1 41 ((((w.1 9 ((w.1 13 ((w.1 39 y86_5.toInt.toNat).toInt.toNat)).toInt.toNat)) * (16 : Int32)) + (((w.1 14 ((w.1 39 y86_5.toInt.toNat).toInt.toNat)) * (4 : Int32)) + (w.1 14 (((w.1 39 ((y86_5 + (1 : Int32)).toInt.toNat)) ^^^ (1 : Int32)).toInt.toNat)))).toInt.toNat)))) rfl b25 ?_
      refine tm_go 2 (pc' := 217) (L' := [some (.ref 26), some (.int x12_1), some (.int x12_2), some (.int x12_3), some (.ref 8), some (.int y86_5), (ksl z6), some (.int (w.1 13 ((w.1 39 y86_5.toInt.toNat).toInt.toNat))), some (.int (((w.1 14 ((w.1 39 y86_5.toInt.toNat).toInt.toNat)) * (4 : Int32)) + (w.1 14 (((w.1 39 ((y86_5 + (1 : Int32)).toInt.toNat)) ^^^ (1 : Int32)).toInt.toNat))))]) (S' := [.int ((w.1 37 ((w.1 13 ((w.1 39 y86_5.toInt.toNat).toInt.toNat)).toInt.toNat)) + (1 : Int32)), .int (w.1 13 ((w.1 39 y86_5.toInt.toNat).toInt.toNat)), .ref 37]) (w' := (sI (sI (sI w 35 ys86_1.toInt.toNat ys86_0) 40 ((w.1 13 ((w.1 39 y86_5.toInt.toNat).toInt.toNat)).toInt.toNat) (w.1 16 ((w.1 13 ((w.1 39 y86_5.toInt.toNat).toInt.toNat)).toInt.toNat))) 16 ((w.1 13 ((w.1 39 y86_5.toInt.toNat).toInt.toNat)).toInt.toNat) (w.1 41 ((((w.1 9 ((w.1 13 ((w.1 39 y86_5.toInt.toNat).toInt.toNat)).toInt.toNat)) * (16 : Int32)) + (((w.1 14 ((w.1 39 y86_5.toInt.toNat).toInt.toNat)) * (4 : Int32)) + (w.1 14 (((w.1 39 ((y86_5 + (1 : Int32)).toInt.toNat)) ^^^ (1 : Int32)).toInt.toNat)))).toInt.toNat)))) rfl ?_
      obtain ⟨b26, hs⟩ := hs
      refine tm_k (pc' := 218) (L' := [some (.ref 26), some (.int x12_1), some (.int x12_2), some (.int x12_3), some (.ref 8), some (.int y86_5), (ksl z6), some (.int (w.1 13 ((w.1 39 y86_5.toInt.toNat).toInt.toNat))), some (.int (((w.1 14 ((w.1 39 y86_5.toInt.toNat).toInt.toNat)) * (4 : Int32)) + (w.1 14 (((w.1 39 ((y86_5 + (1 : Int32)).toInt.toNat)) ^^^ (1 : Int32)).toInt.toNat))))]) (S' := []) (w' := (sI (sI (sI (sI w 35 ys86_1.toInt.toNat ys86_0) 40 ((w.1 13 ((w.1 39 y86_5.toInt.toNat).toInt.toNat)).toInt.toNat) (w.1 16 ((w.1 13 ((w.1 39 y86_5.toInt.toNat).toInt.toNat)).toInt.toNat))) 16 ((w.1 13 ((w.1 39 y86_5.toInt.toNat).toInt.toNat)).toInt.toNat) (w.1 41 ((((w.1 9 ((w.1 13 ((w.1 39 y86_5.toInt.toNat).toInt.toNat)).toInt.toNat)) * (16 : Int32)) + (((w.1 14 ((w.1 39 y86_5.toInt.toNat).toInt.toNat)) * (4 : Int32)) + (w.1 14 (((w.1 39 ((y86_5 + (1 : Int32)).toInt.toNat)) ^^^ (1 : Int32)).toInt.toNat)))).toInt.toNat))) 37 ((w.1 13 ((w.1 39 y86_5.toInt.toNat).toInt.toNat)).toInt.toNat) ((w.1 37 ((w.1 13 ((w.1 39 y86_5.toInt.toNat).toInt.toNat)).toInt.toNat)) + (1 : Int32)))) rfl b26 ?_
      refine tm_go 2 (pc' := 12) (L' := [some (.ref 26), some (.int x12_1), some (.int x12_2), some (.int x12_3), some (.ref 8), some (.int (y86_5 + (1 : Int32))), (ksl z6), some (.int (w.1 13 ((w.1 39 y86_5.toInt.toNat).toInt.toNat))), some (.int (((w.1 14 ((w.1 39 y86_5.toInt.toNat).toInt.toNat)) * (4 : Int32)) + (w.1 14 (((w.1 39 ((y86_5 + (1 : Int32)).toInt.toNat)) ^^^ (1 : Int32)).toInt.toNat))))]) (S' := []) (w' := (sI (sI (sI (sI w 35 ys86_1.toInt.toNat ys86_0) 40 ((w.1 13 ((w.1 39 y86_5.toInt.toNat).toInt.toNat)).toInt.toNat) (w.1 16 ((w.1 13 ((w.1 39 y86_5.toInt.toNat).toInt.toNat)).toInt.toNat))) 16 ((w.1 13 ((w.1 39 y86_5.toInt.toNat).toInt.toNat)).toInt.toNat) (w.1 41 ((((w.1 9 ((w.1 13 ((w.1 39 y86_5.toInt.toNat).toInt.toNat)).toInt.toNat)) * (16 : Int32)) + (((w.1 14 ((w.1 39 y86_5.toInt.toNat).toInt.toNat)) * (4 : Int32)) + (w.1 14 (((w.1 39 ((y86_5 + (1 : Int32)).toInt.toNat)) ^^^ (1 : Int32)).toInt.toNat)))).toInt.toNat))) 37 ((w.1 13 ((w.1 39 y86_5.toInt.toNat).toInt.toNat)).toInt.toNat) ((w.1 37 ((w.1 13 ((w.1 39 y86_5.toInt.toNat).toInt.toNat)).toInt.toNat)) + (1 : Int32)))) rfl ?_
      exact hA _ _ _ _ _ hs
set_option maxHeartbeats 4000000 in
set_option maxRecDepth 100000 in
theorem tx_Wa_openFound_12 {d : Nat} {x12_1 : Int32} {x12_2 : Int32} {x12_3 : Int32} {E : MW → Prop} {Q : MW → Prop} (n : Nat) : ∀ (x12_5 : Int32)  (z6 : Option Value) (z7 : Option Value) (z8 : Option Value) (w : MW), q_Wa_openFound_12 x12_1 x12_2 x12_3 E Q n x12_5 w → (∀  (v4 : Option Value) (v5 : Option Value) (v6 : Option Value) (v7 : Option Value) (v8 : Option Value) (w : MW), E  w → Tm (d + 0) 270 224 [some (.ref 26), some (.int x12_1), some (.int x12_2), some (.int x12_3), v4, v5, v6, v7, v8] [] w (RV Q)) → Tm (d + 0) 270 12 [some (.ref 26), some (.int x12_1), some (.int x12_2), some (.int x12_3), some (.ref 8), some (.int x12_5), z6, z7, z8] [] w (RV Q) := by
  induction n with
  | zero => intro x12_5 z6 z7 z8 w hs; rw [q_Wa_openFound_12.eq_1] at hs; exact hs.elim
  | succ n ih =>
    intro x12_5 z6 z7 z8 w hs hE
    rw [q_Wa_openFound_12.eq_2] at hs
    refine tm_go 3 (pc' := 18) (L' := [some (.ref 26), some (.int x12_1), some (.int x12_2), some (.int x12_3), some (.ref 8), some (.int x12_5), z6, z7, z8]) (S' := [.int (w.1 26 15), .int x12_5]) (w' := w) rfl ?_
    refine tm_i (p1 := 224) (p2 := 21) rfl (fun h2 => ?_) (fun h2 => ?_)
    · replace hs := hs.1 h2
      exact hE _ _ _ _ _ _ hs
    · replace hs := hs.2 h2
      refine tm_go 3 (pc' := 27) (L' := [some (.ref 26), some (.int x12_1), some (.int x12_2), some (.int x12_3), some (.ref 8), some (.int x12_5), z6, z7, z8]) (S' := [.int x12_5, .ref 39]) (w' := w) rfl ?_
      obtain ⟨b3, hs⟩ := hs
      refine tm_k (pc' := 28) (L' := [some (.ref 26), some (.int x12_1), some (.int x12_2), some (.int x12_3), some (.ref 8), some (.int x12_5), z6, z7, z8]) (S' := [.int (w.1 39 x12_5.toInt.toNat)]) (w' := w) rfl b3 ?_
      refine tm_go 7 (pc' := 39) (L' := [some (.ref 26), some (.int x12_1), some (.int x12_2), some (.int x12_3), some (.ref 8), some (.int x12_5), some (.int ((w.1 39 x12_5.toInt.toNat) >>> ((1 : Int32) &&& 31))), z7, z8]) (S' := [.int 1, .int ((w.1 39 x12_5.toInt.toNat) >>> ((1 : Int32) &&& 31)), .ref 36]) (w' := w) rfl ?_
      obtain ⟨b4, hs⟩ := hs
      refine tm_k (pc' := 40) (L' := [some (.ref 26), some (.int x12_1), some (.int x12_2), some (.int x12_3), some (.ref 8), some (.int x12_5), some (.int ((w.1 39 x12_5.toInt.toNat) >>> ((1 : Int32) &&& 31))), z7, z8]) (S' := []) (w' := (sI w 36 (((w.1 39 x12_5.toInt.toNat) >>> ((1 : Int32) &&& 31)).toInt.toNat) (vp_nar .boolean (1 : Int32)))) rfl b4 ?_
      refine tm_go 6 (pc' := 52) (L' := [some (.ref 26), some (.int x12_1), some (.int x12_2), some (.int x12_3), some (.ref 8), some (.int x12_5), some (.int ((w.1 39 x12_5.toInt.toNat) >>> ((1 : Int32) &&& 31))), z7, z8]) (S' := [.int x12_5, .ref 39, .int ((w.1 39 x12_5.toInt.toNat) >>> ((1 : Int32) &&& 31)), .ref 34]) (w' := (sI w 36 (((w.1 39 x12_5.toInt.toNat) >>> ((1 : Int32) &&& 31)).toInt.toNat) (vp_nar .boolean (1 : Int32)))) rfl ?_
      obtain ⟨b5, hs⟩ := hs
      refine tm_k (pc' := 53) (L' := [some (.ref 26), some (.int x12_1), some (.int x12_2), some (.int x12_3), some (.ref 8), some (.int x12_5), some (.int ((w.1 39 x12_5.toInt.toNat) >>> ((1 : Int32) &&& 31))), z7, z8]) (S' := [.int (w.1 39 x12_5.toInt.toNat), .int ((w.1 39 x12_5.toInt.toNat) >>> ((1 : Int32) &&& 31)), .ref 34]) (w' := (sI w 36 (((w.1 39 x12_5.toInt.toNat) >>> ((1 : Int32) &&& 31)).toInt.toNat) (vp_nar .boolean (1 : Int32)))) rfl b5 ?_
      obtain ⟨b6, hs⟩ := hs
      refine tm_k (pc' := 54) (L' := [some (.ref 26), some (.int x12_1), some (.int x12_2), some (.int x12_3), some (.ref 8), some (.int x12_5), some (.int ((w.1 39 x12_5.toInt.toNat) >>> ((1 : Int32) &&& 31))), z7, z8]) (S' := []) (w' := (sI (sI w 36 (((w.1 39 x12_5.toInt.toNat) >>> ((1 : Int32) &&& 31)).toInt.toNat) (vp_nar .boolean (1 : Int32))) 34 (((w.1 39 x12_5.toInt.toNat) >>> ((1 : Int32) &&& 31)).toInt.toNat) (w.1 39 x12_5.toInt.toNat))) rfl b6 ?_
      refine tm_go 8 (pc' := 68) (L' := [some (.ref 26), some (.int x12_1), some (.int x12_2), some (.int x12_3), some (.ref 8), some (.int x12_5), some (.int ((w.1 39 x12_5.toInt.toNat) >>> ((1 : Int32) &&& 31))), z7, z8]) (S' := [.int (w.1 26 15), .int (x12_5 + (1 : Int32)), .int ((w.1 39 x12_5.toInt.toNat) >>> ((1 : Int32) &&& 31)), .ref 35]) (w' := (sI (sI w 36 (((w.1 39 x12_5.toInt.toNat) >>> ((1 : Int32) &&& 31)).toInt.toNat) (vp_nar .boolean (1 : Int32))) 34 (((w.1 39 x12_5.toInt.toNat) >>> ((1 : Int32) &&& 31)).toInt.toNat) (w.1 39 x12_5.toInt.toNat))) rfl ?_
      refine tm_i (p1 := 85) (p2 := 71) rfl (fun h7 => ?_) (fun h7 => ?_)
      · replace hs := hs.1 h7
        refine tm_go 1 (pc' := 86) (L' := [some (.ref 26), some (.int x12_1), some (.int x12_2), some (.int x12_3), some (.ref 8), some (.int x12_5), some (.int ((w.1 39 x12_5.toInt.toNat) >>> ((1 : Int32) &&& 31))), z7, z8]) (S' := [.int (-1), .int ((w.1 39 x12_5.toInt.toNat) >>> ((1 : Int32) &&& 31)), .ref 35]) (w' := (sI (sI w 36 (((w.1 39 x12_5.toInt.toNat) >>> ((1 : Int32) &&& 31)).toInt.toNat) (vp_nar .boolean (1 : Int32))) 34 (((w.1 39 x12_5.toInt.toNat) >>> ((1 : Int32) &&& 31)).toInt.toNat) (w.1 39 x12_5.toInt.toNat))) rfl ?_
        exact tx_Wa_openFound_86 hs (fun q0 q1 q2 q3 q4 hs => ih q0 q1 q2 q3 q4 hs hE) hE
      · replace hs := hs.2 h7
        refine tm_go 5 (pc' := 79) (L' := [some (.ref 26), some (.int x12_1), some (.int x12_2), some (.int x12_3), some (.ref 8), some (.int x12_5), some (.int ((w.1 39 x12_5.toInt.toNat) >>> ((1 : Int32) &&& 31))), z7, z8]) (S' := [.int (x12_5 + (1 : Int32)), .ref 39, .int ((w.1 39 x12_5.toInt.toNat) >>> ((1 : Int32) &&& 31)), .ref 35]) (w' := (sI (sI w 36 (((w.1 39 x12_5.toInt.toNat) >>> ((1 : Int32) &&& 31)).toInt.toNat) (vp_nar .boolean (1 : Int32))) 34 (((w.1 39 x12_5.toInt.toNat) >>> ((1 : Int32) &&& 31)).toInt.toNat) (w.1 39 x12_5.toInt.toNat))) rfl ?_
        obtain ⟨b27, hs⟩ := hs
        refine tm_k (pc' := 80) (L' := [some (.ref 26), some (.int x12_1), some (.int x12_2), some (.int x12_3), some (.ref 8), some (.int x12_5), some (.int ((w.1 39 x12_5.toInt.toNat) >>> ((1 : Int32) &&& 31))), z7, z8]) (S' := [.int (w.1 39 ((x12_5 + (1 : Int32)).toInt.toNat)), .int ((w.1 39 x12_5.toInt.toNat) >>> ((1 : Int32) &&& 31)), .ref 35]) (w' := (sI (sI w 36 (((w.1 39 x12_5.toInt.toNat) >>> ((1 : Int32) &&& 31)).toInt.toNat) (vp_nar .boolean (1 : Int32))) 34 (((w.1 39 x12_5.toInt.toNat) >>> ((1 : Int32) &&& 31)).toInt.toNat) (w.1 39 x12_5.toInt.toNat))) rfl b27 ?_
        refine tm_go 3 (pc' := 86) (L' := [some (.ref 26), some (.int x12_1), some (.int x12_2), some (.int x12_3), some (.ref 8), some (.int x12_5), some (.int ((w.1 39 x12_5.toInt.toNat) >>> ((1 : Int32) &&& 31))), z7, z8]) (S' := [.int ((w.1 39 ((x12_5 + (1 : Int32)).toInt.toNat)) >>> ((1 : Int32) &&& 31)), .int ((w.1 39 x12_5.toInt.toNat) >>> ((1 : Int32) &&& 31)), .ref 35]) (w' := (sI (sI w 36 (((w.1 39 x12_5.toInt.toNat) >>> ((1 : Int32) &&& 31)).toInt.toNat) (vp_nar .boolean (1 : Int32))) 34 (((w.1 39 x12_5.toInt.toNat) >>> ((1 : Int32) &&& 31)).toInt.toNat) (w.1 39 x12_5.toInt.toNat))) rfl ?_
        exact tx_Wa_openFound_86 hs (fun q0 q1 q2 q3 q4 hs => ih q0 q1 q2 q3 q4 hs hE) hE
set_option maxHeartbeats 4000000 in
set_option maxRecDepth 100000 in
theorem dm_Wa_openFound {d : Nat} {w : MW} {a0 : Int32} {b0 : Int32} {c0 : Int32} {Q : MW → Prop} (hs : p_Wa_openFound w a0 b0 c0 Q) : Tc (d + 0) 270 [.ref 26, .int a0, .int b0, .int c0] w (RV Q) := by
  unfold p_Wa_openFound at hs
  refine tm_go 2 (pc' := 4) (L' := [some (.ref 26), some (.int a0), some (.int b0), some (.int c0), none, none, none, none, none]) (S' := [.ref 7]) (w' := w) rfl ?_
  obtain ⟨b1, hs⟩ := hs
  refine tm_g (pc' := 7) (k := 7) (j := 0) rfl b1 ?_
  refine tm_go 3 (pc' := 12) (L' := [some (.ref 26), some (.int a0), some (.int b0), some (.int c0), some (.ref 8), some (.int 0), none, none, none]) (S' := []) (w' := w) rfl ?_
  refine tx_Wa_openFound_12 FU _ _ _ _ _ hs (fun  z28_4 z28_5 z28_6 z28_7 z28_8 w28 hs => ?_)
  refine tm_go 5 (pc' := 233) (L' := [some (.ref 26), some (.int a0), some (.int b0), some (.int c0), z28_4, z28_5, z28_6, z28_7, z28_8]) (S' := [.int a0, .int (w28.1 26 1), .ref 27]) (w' := w28) rfl ?_
  obtain ⟨b29, hs⟩ := hs
  refine tm_k (pc' := 234) (L' := [some (.ref 26), some (.int a0), some (.int b0), some (.int c0), z28_4, z28_5, z28_6, z28_7, z28_8]) (S' := []) (w' := (sI w28 27 ((w28.1 26 1).toInt.toNat) a0)) rfl b29 ?_
  refine tm_go 5 (pc' := 243) (L' := [some (.ref 26), some (.int a0), some (.int b0), some (.int c0), z28_4, z28_5, z28_6, z28_7, z28_8]) (S' := [.int b0, .int (w28.1 26 1), .ref 28]) (w' := (sI w28 27 ((w28.1 26 1).toInt.toNat) a0)) rfl ?_
  obtain ⟨b30, hs⟩ := hs
  refine tm_k (pc' := 244) (L' := [some (.ref 26), some (.int a0), some (.int b0), some (.int c0), z28_4, z28_5, z28_6, z28_7, z28_8]) (S' := []) (w' := (sI (sI w28 27 ((w28.1 26 1).toInt.toNat) a0) 28 ((w28.1 26 1).toInt.toNat) b0)) rfl b30 ?_
  refine tm_go 5 (pc' := 253) (L' := [some (.ref 26), some (.int a0), some (.int b0), some (.int c0), z28_4, z28_5, z28_6, z28_7, z28_8]) (S' := [.int c0, .int (w28.1 26 1), .ref 29]) (w' := (sI (sI w28 27 ((w28.1 26 1).toInt.toNat) a0) 28 ((w28.1 26 1).toInt.toNat) b0)) rfl ?_
  obtain ⟨b31, hs⟩ := hs
  refine tm_k (pc' := 254) (L' := [some (.ref 26), some (.int a0), some (.int b0), some (.int c0), z28_4, z28_5, z28_6, z28_7, z28_8]) (S' := []) (w' := (sI (sI (sI w28 27 ((w28.1 26 1).toInt.toNat) a0) 28 ((w28.1 26 1).toInt.toNat) b0) 29 ((w28.1 26 1).toInt.toNat) c0)) rfl b31 ?_
  refine tm_go 8 (pc' := 270) (L' := [some (.ref 26), some (.int a0), some (.int b0), some (.int c0), z28_4, z28_5, z28_6, z28_7, z28_8]) (S' := [.int a0, .ref 17, .int (w28.1 26 1), .ref 30]) (w' := (sI (sI (sI w28 27 ((w28.1 26 1).toInt.toNat) a0) 28 ((w28.1 26 1).toInt.toNat) b0) 29 ((w28.1 26 1).toInt.toNat) c0)) rfl ?_
  obtain ⟨b32, hs⟩ := hs
  refine tm_k (pc' := 271) (L' := [some (.ref 26), some (.int a0), some (.int b0), some (.int c0), z28_4, z28_5, z28_6, z28_7, z28_8]) (S' := [.int (w28.1 17 a0.toInt.toNat), .int (w28.1 26 1), .ref 30]) (w' := (sI (sI (sI w28 27 ((w28.1 26 1).toInt.toNat) a0) 28 ((w28.1 26 1).toInt.toNat) b0) 29 ((w28.1 26 1).toInt.toNat) c0)) rfl b32 ?_
  obtain ⟨b33, hs⟩ := hs
  refine tm_k (pc' := 272) (L' := [some (.ref 26), some (.int a0), some (.int b0), some (.int c0), z28_4, z28_5, z28_6, z28_7, z28_8]) (S' := []) (w' := (sI (sI (sI (sI w28 27 ((w28.1 26 1).toInt.toNat) a0) 28 ((w28.1 26 1).toInt.toNat) b0) 29 ((w28.1 26 1).toInt.toNat) c0) 30 ((w28.1 26 1).toInt.toNat) (w28.1 17 a0.toInt.toNat))) rfl b33 ?_
  refine tm_go 6 (pc' := 284) (L' := [some (.ref 26), some (.int a0), some (.int b0), some (.int c0), z28_4, z28_5, z28_6, z28_7, z28_8]) (S' := [.int (w28.1 26 15), .int (w28.1 26 1), .ref 31]) (w' := (sI (sI (sI (sI w28 27 ((w28.1 26 1).toInt.toNat) a0) 28 ((w28.1 26 1).toInt.toNat) b0) 29 ((w28.1 26 1).toInt.toNat) c0) 30 ((w28.1 26 1).toInt.toNat) (w28.1 17 a0.toInt.toNat))) rfl ?_
  obtain ⟨b34, hs⟩ := hs
  refine tm_k (pc' := 285) (L' := [some (.ref 26), some (.int a0), some (.int b0), some (.int c0), z28_4, z28_5, z28_6, z28_7, z28_8]) (S' := []) (w' := (sI (sI (sI (sI (sI w28 27 ((w28.1 26 1).toInt.toNat) a0) 28 ((w28.1 26 1).toInt.toNat) b0) 29 ((w28.1 26 1).toInt.toNat) c0) 30 ((w28.1 26 1).toInt.toNat) (w28.1 17 a0.toInt.toNat)) 31 ((w28.1 26 1).toInt.toNat) (w28.1 26 15))) rfl b34 ?_
  refine tm_go 10 (pc' := 301) (L' := [some (.ref 26), some (.int a0), some (.int b0), some (.int c0), z28_4, z28_5, z28_6, z28_7, z28_8]) (S' := [.int ((w28.1 39 0) >>> ((1 : Int32) &&& 31)), .int (w28.1 26 1), .ref 32]) (w' := (sI (sI (sI (sI (sI w28 27 ((w28.1 26 1).toInt.toNat) a0) 28 ((w28.1 26 1).toInt.toNat) b0) 29 ((w28.1 26 1).toInt.toNat) c0) 30 ((w28.1 26 1).toInt.toNat) (w28.1 17 a0.toInt.toNat)) 31 ((w28.1 26 1).toInt.toNat) (w28.1 26 15))) rfl ?_
  obtain ⟨b35, hs⟩ := hs
  refine tm_k (pc' := 302) (L' := [some (.ref 26), some (.int a0), some (.int b0), some (.int c0), z28_4, z28_5, z28_6, z28_7, z28_8]) (S' := []) (w' := (sI (sI (sI (sI (sI (sI w28 27 ((w28.1 26 1).toInt.toNat) a0) 28 ((w28.1 26 1).toInt.toNat) b0) 29 ((w28.1 26 1).toInt.toNat) c0) 30 ((w28.1 26 1).toInt.toNat) (w28.1 17 a0.toInt.toNat)) 31 ((w28.1 26 1).toInt.toNat) (w28.1 26 15)) 32 ((w28.1 26 1).toInt.toNat) ((w28.1 39 0) >>> ((1 : Int32) &&& 31)))) rfl b35 ?_
  refine tm_go 10 (pc' := 320) (L' := [some (.ref 26), some (.int a0), some (.int b0), some (.int c0), z28_4, z28_5, z28_6, z28_7, z28_8]) (S' := [.int ((w28.1 26 15) - (1 : Int32)), .ref 39, .int (w28.1 26 1), .ref 33]) (w' := (sI (sI (sI (sI (sI (sI w28 27 ((w28.1 26 1).toInt.toNat) a0) 28 ((w28.1 26 1).toInt.toNat) b0) 29 ((w28.1 26 1).toInt.toNat) c0) 30 ((w28.1 26 1).toInt.toNat) (w28.1 17 a0.toInt.toNat)) 31 ((w28.1 26 1).toInt.toNat) (w28.1 26 15)) 32 ((w28.1 26 1).toInt.toNat) ((w28.1 39 0) >>> ((1 : Int32) &&& 31)))) rfl ?_
  obtain ⟨b36, hs⟩ := hs
  refine tm_k (pc' := 321) (L' := [some (.ref 26), some (.int a0), some (.int b0), some (.int c0), z28_4, z28_5, z28_6, z28_7, z28_8]) (S' := [.int (w28.1 39 (((w28.1 26 15) - (1 : Int32)).toInt.toNat)), .int (w28.1 26 1), .ref 33]) (w' := (sI (sI (sI (sI (sI (sI w28 27 ((w28.1 26 1).toInt.toNat) a0) 28 ((w28.1 26 1).toInt.toNat) b0) 29 ((w28.1 26 1).toInt.toNat) c0) 30 ((w28.1 26 1).toInt.toNat) (w28.1 17 a0.toInt.toNat)) 31 ((w28.1 26 1).toInt.toNat) (w28.1 26 15)) 32 ((w28.1 26 1).toInt.toNat) ((w28.1 39 0) >>> ((1 : Int32) &&& 31)))) rfl b36 ?_
  refine tm_go 2 (pc' := 323) (L' := [some (.ref 26), some (.int a0), some (.int b0), some (.int c0), z28_4, z28_5, z28_6, z28_7, z28_8]) (S' := [.int ((w28.1 39 (((w28.1 26 15) - (1 : Int32)).toInt.toNat)) >>> ((1 : Int32) &&& 31)), .int (w28.1 26 1), .ref 33]) (w' := (sI (sI (sI (sI (sI (sI w28 27 ((w28.1 26 1).toInt.toNat) a0) 28 ((w28.1 26 1).toInt.toNat) b0) 29 ((w28.1 26 1).toInt.toNat) c0) 30 ((w28.1 26 1).toInt.toNat) (w28.1 17 a0.toInt.toNat)) 31 ((w28.1 26 1).toInt.toNat) (w28.1 26 15)) 32 ((w28.1 26 1).toInt.toNat) ((w28.1 39 0) >>> ((1 : Int32) &&& 31)))) rfl ?_
  obtain ⟨b37, hs⟩ := hs
  refine tm_k (pc' := 324) (L' := [some (.ref 26), some (.int a0), some (.int b0), some (.int c0), z28_4, z28_5, z28_6, z28_7, z28_8]) (S' := []) (w' := (sI (sI (sI (sI (sI (sI (sI w28 27 ((w28.1 26 1).toInt.toNat) a0) 28 ((w28.1 26 1).toInt.toNat) b0) 29 ((w28.1 26 1).toInt.toNat) c0) 30 ((w28.1 26 1).toInt.toNat) (w28.1 17 a0.toInt.toNat)) 31 ((w28.1 26 1).toInt.toNat) (w28.1 26 15)) 32 ((w28.1 26 1).toInt.toNat) ((w28.1 39 0) >>> ((1 : Int32) &&& 31))) 33 ((w28.1 26 1).toInt.toNat) ((w28.1 39 (((w28.1 26 15) - (1 : Int32)).toInt.toNat)) >>> ((1 : Int32) &&& 31)))) rfl b37 ?_
  refine tm_go 6 (pc' := 334) (L' := [some (.ref 26), some (.int a0), some (.int b0), some (.int c0), z28_4, z28_5, z28_6, z28_7, z28_8]) (S' := []) (w' := (sI (sI (sI (sI (sI (sI (sI (sI w28 27 ((w28.1 26 1).toInt.toNat) a0) 28 ((w28.1 26 1).toInt.toNat) b0) 29 ((w28.1 26 1).toInt.toNat) c0) 30 ((w28.1 26 1).toInt.toNat) (w28.1 17 a0.toInt.toNat)) 31 ((w28.1 26 1).toInt.toNat) (w28.1 26 15)) 32 ((w28.1 26 1).toInt.toNat) ((w28.1 39 0) >>> ((1 : Int32) &&& 31))) 33 ((w28.1 26 1).toInt.toNat) ((w28.1 39 (((w28.1 26 15) - (1 : Int32)).toInt.toNat)) >>> ((1 : Int32) &&& 31))) 26 1 ((w28.1 26 1) + (1 : Int32)))) rfl ?_
  exact tm_r rfl ⟨rfl, hs⟩
set_option maxHeartbeats 4000000 in
set_option maxRecDepth 100000 in
theorem dm_Wa_undoOpening {d : Nat} {w : MW} {Q : MW → Prop} (hs : p_Wa_undoOpening w Q) : Tc (d + 1) 271 [.ref 26] w (RV Q) := by
  unfold p_Wa_undoOpening at hs
  refine tm_go 6 (pc' := 8) (L' := [some (.ref 26)]) (S' := [.int 1, .int ((w.1 26 1) - (1 : Int32)), .ref 26]) (w' := w) rfl ?_
  refine tm_c rfl (Nat.le_of_ble_eq_true rfl) (dm_Wa_remove (d := d + 0) hs) (fun v w1 hq => ?_)
  obtain ⟨rfl, hs⟩ := hq
  exact tm_r rfl ⟨rfl, hs⟩
set_option maxHeartbeats 4000000 in
set_option maxRecDepth 100000 in
theorem tx_Ac_openWay_45 {d : Nat} {x45_1 : Int32} {x45_2 : Int32} {x45_3 : Int32} {E : MW → Prop} {Q : Int32 → MW → Prop} (n : Nat) : ∀ (x45_4 : Int32)   (w : MW), q_Ac_openWay_45 x45_1 x45_2 x45_3 E Q n x45_4 w → (∀  (v4 : Option Value) (w : MW), E  w → Tm (d + 4) 130 108 [some (.ref 47), some (.int x45_1), some (.int x45_2), some (.int x45_3), v4] [] w (RI Q)) → Tm (d + 4) 130 45 [some (.ref 47), some (.int x45_1), some (.int x45_2), some (.int x45_3), some (.int x45_4)] [] w (RI Q) := by
  induction n with
  | zero => intro x45_4  w hs; rw [q_Ac_openWay_45.eq_1] at hs; exact hs.elim
  | succ n ih =>
    intro x45_4  w hs hE
    rw [q_Ac_openWay_45.eq_2] at hs
    refine tm_go 4 (pc' := 54) (L' := [some (.ref 47), some (.int x45_1), some (.int x45_2), some (.int x45_3), some (.int x45_4)]) (S' := [.int (w.1 26 15), .int x45_4]) (w' := w) rfl ?_
    refine tm_i (p1 := 108) (p2 := 57) rfl (fun h7 => ?_) (fun h7 => ?_)
    · replace hs := hs.1 h7
      exact hE _ _ hs
    · replace hs := hs.2 h7
      refine tm_go 4 (pc' := 65) (L' := [some (.ref 47), some (.int x45_1), some (.int x45_2), some (.int x45_3), some (.int x45_4)]) (S' := [.ref 7, .ref 7]) (w' := w) rfl ?_
      obtain ⟨b8, hs⟩ := hs
      refine tm_g (pc' := 68) (k := 7) (j := 0) rfl b8 ?_
      refine tm_go 5 (pc' := 80) (L' := [some (.ref 47), some (.int x45_1), some (.int x45_2), some (.int x45_3), some (.int x45_4)]) (S' := [.int x45_4, .ref 39, .int (w.1 8 0), .ref 7]) (w' := w) rfl ?_
      obtain ⟨b9, hs⟩ := hs
      refine tm_k (pc' := 81) (L' := [some (.ref 47), some (.int x45_1), some (.int x45_2), some (.int x45_3), some (.int x45_4)]) (S' := [.int (w.1 39 x45_4.toInt.toNat), .int (w.1 8 0), .ref 7]) (w' := w) rfl b9 ?_
      refine tm_go 7 (pc' := 92) (L' := [some (.ref 47), some (.int x45_1), some (.int x45_2), some (.int x45_3), some (.int x45_4)]) (S' := [.int x45_1, .ref 17, .int ((w.1 8 0) + ((w.1 39 x45_4.toInt.toNat) >>> ((1 : Int32) &&& 31))), .ref 7]) (w' := w) rfl ?_
      obtain ⟨b10, hs⟩ := hs
      refine tm_k (pc' := 93) (L' := [some (.ref 47), some (.int x45_1), some (.int x45_2), some (.int x45_3), some (.int x45_4)]) (S' := [.int (w.1 17 x45_1.toInt.toNat), .int ((w.1 8 0) + ((w.1 39 x45_4.toInt.toNat) >>> ((1 : Int32) &&& 31))), .ref 7]) (w' := w) rfl b10 ?_
      refine tm_c rfl (Nat.le_of_ble_eq_true rfl) (dm_St_mayCome (d := d + 1) hs) (fun v w11 hq => ?_)
      obtain ⟨r11, rfl, hz11, hs⟩ := hq
      refine tm_i (p1 := 102) (p2 := 99) rfl (fun h12 => ?_) (fun h12 => ?_)
      · replace hs := hs.1 h12
        refine tm_go 2 (pc' := 45) (L' := [some (.ref 47), some (.int x45_1), some (.int x45_2), some (.int x45_3), some (.int (x45_4 + (1 : Int32)))]) (S' := []) (w' := w11) rfl ?_
        exact ih _ _ hs hE
      · replace hs := hs.2 h12
        refine tm_go 1 (pc' := 101) (L' := [some (.ref 47), some (.int x45_1), some (.int x45_2), some (.int x45_3), some (.int x45_4)]) (S' := [.int 6]) (w' := w11) rfl ?_
        exact tm_r rfl ⟨_, rfl, hs⟩
set_option maxHeartbeats 4000000 in
set_option maxRecDepth 100000 in
theorem dm_Ac_openWay {d : Nat} {w : MW} {a0 : Int32} {b0 : Int32} {c0 : Int32} {Q : Int32 → MW → Prop} (hs : p_Ac_openWay w a0 b0 c0 Q) : Tc (d + 4) 130 [.ref 47, .int a0, .int b0, .int c0] w (RI Q) := by
  unfold p_Ac_openWay at hs
  refine tm_go 4 (pc' := 6) (L' := [some (.ref 47), some (.int a0), some (.int b0), some (.int c0), none]) (S' := [.int b0, .int a0, .ref 26]) (w' := w) rfl ?_
  refine tm_c rfl (Nat.le_of_ble_eq_true rfl) (dm_Wa_indexOf (d := d + 3) hs) (fun v w1 hq => ?_)
  obtain ⟨r1, rfl, hs⟩ := hq
  refine tm_i (p1 := 14) (p2 := 12) rfl (fun h2 => ?_) (fun h2 => ?_)
  · replace hs := hs.1 h2
    refine tm_go 4 (pc' := 22) (L' := [some (.ref 47), some (.int a0), some (.int b0), some (.int c0), none]) (S' := [.int a0, .ref 17]) (w' := w1) rfl ?_
    obtain ⟨b3, hs⟩ := hs
    refine tm_k (pc' := 23) (L' := [some (.ref 47), some (.int a0), some (.int b0), some (.int c0), none]) (S' := [.int (w1.1 17 a0.toInt.toNat)]) (w' := w1) rfl b3 ?_
    refine tm_i (p1 := 28) (p2 := 26) rfl (fun h4 => ?_) (fun h4 => ?_)
    · replace hs := hs.1 h4
      refine tm_go 4 (pc' := 34) (L' := [some (.ref 47), some (.int a0), some (.int b0), some (.int c0), none]) (S' := [.int b0, .int a0, .ref 26]) (w' := w1) rfl ?_
      refine tm_c rfl (Nat.le_of_ble_eq_true rfl) (dm_Wa_find (d := d + 2) hs) (fun v w5 hq => ?_)
      obtain ⟨r5, rfl, hz5, hs⟩ := hq
      refine tm_i (p1 := 42) (p2 := 40) rfl (fun h6 => ?_) (fun h6 => ?_)
      · replace hs := hs.1 h6
        refine tm_go 2 (pc' := 45) (L' := [some (.ref 47), some (.int a0), some (.int b0), some (.int c0), some (.int 0)]) (S' := []) (w' := w5) rfl ?_
        refine tx_Ac_openWay_45 FU _ _ hs (fun  z13_4 w13 hs => ?_)
        refine tm_go 7 (pc' := 121) (L' := [some (.ref 47), some (.int a0), some (.int b0), some (.int c0), z13_4]) (S' := [.int a0, .ref 17, .int b0, .ref 7]) (w' := w13) rfl ?_
        obtain ⟨b14, hs⟩ := hs
        refine tm_k (pc' := 122) (L' := [some (.ref 47), some (.int a0), some (.int b0), some (.int c0), z13_4]) (S' := [.int (w13.1 17 a0.toInt.toNat), .int b0, .ref 7]) (w' := w13) rfl b14 ?_
        refine tm_c rfl (Nat.le_of_ble_eq_true rfl) (dm_St_mayCome (d := d + 1) hs) (fun v w15 hq => ?_)
        obtain ⟨r15, rfl, hz15, hs⟩ := hq
        refine tm_i (p1 := 131) (p2 := 128) rfl (fun h16 => ?_) (fun h16 => ?_)
        · replace hs := hs.1 h16
          refine tm_go 5 (pc' := 138) (L' := [some (.ref 47), some (.int a0), some (.int b0), some (.int c0), z13_4]) (S' := [.int c0, .int b0, .int a0, .ref 26]) (w' := w15) rfl ?_
          refine tm_c rfl (Nat.le_of_ble_eq_true rfl) (dm_Wa_openFound (d := d + 3) hs) (fun v w17 hq => ?_)
          obtain ⟨rfl, hs⟩ := hq
          refine tm_go 2 (pc' := 145) (L' := [some (.ref 47), some (.int a0), some (.int b0), some (.int c0), z13_4]) (S' := [.ref 42]) (w' := w17) rfl ?_
          refine tm_c rfl (Nat.le_of_ble_eq_true rfl) (dm_Sf_isSafe (d := d + 0) hs) (fun v w18 hq => ?_)
          obtain ⟨r18, rfl, hz18, hs⟩ := hq
          refine tm_i (p1 := 153) (p2 := 151) rfl (fun h19 => ?_) (fun h19 => ?_)
          · replace hs := hs.1 h19
            refine tm_go 2 (pc' := 157) (L' := [some (.ref 47), some (.int a0), some (.int b0), some (.int c0), z13_4]) (S' := [.ref 26]) (w' := w18) rfl ?_
            refine tm_c rfl (Nat.le_of_ble_eq_true rfl) (dm_Wa_undoOpening (d := d + 2) hs) (fun v w20 hq => ?_)
            obtain ⟨rfl, hs⟩ := hq
            refine tm_go 1 (pc' := 162) (L' := [some (.ref 47), some (.int a0), some (.int b0), some (.int c0), z13_4]) (S' := [.int 7]) (w' := w20) rfl ?_
            exact tm_r rfl ⟨_, rfl, hs⟩
          · replace hs := hs.2 h19
            refine tm_go 1 (pc' := 152) (L' := [some (.ref 47), some (.int a0), some (.int b0), some (.int c0), z13_4]) (S' := [.int 0]) (w' := w18) rfl ?_
            exact tm_r rfl ⟨_, rfl, hs⟩
        · replace hs := hs.2 h16
          refine tm_go 1 (pc' := 130) (L' := [some (.ref 47), some (.int a0), some (.int b0), some (.int c0), z13_4]) (S' := [.int 6]) (w' := w15) rfl ?_
          exact tm_r rfl ⟨_, rfl, hs⟩
      · replace hs := hs.2 h6
        refine tm_go 1 (pc' := 41) (L' := [some (.ref 47), some (.int a0), some (.int b0), some (.int c0), none]) (S' := [.int 5]) (w' := w5) rfl ?_
        exact tm_r rfl ⟨_, rfl, hs⟩
    · replace hs := hs.2 h4
      refine tm_go 1 (pc' := 27) (L' := [some (.ref 47), some (.int a0), some (.int b0), some (.int c0), none]) (S' := [.int 4]) (w' := w1) rfl ?_
      exact tm_r rfl ⟨_, rfl, hs⟩
  · replace hs := hs.2 h2
    refine tm_go 1 (pc' := 13) (L' := [some (.ref 47), some (.int a0), some (.int b0), some (.int c0), none]) (S' := [.int 3]) (w' := w1) rfl ?_
    exact tm_r rfl ⟨_, rfl, hs⟩
set_option maxHeartbeats 4000000 in
set_option maxRecDepth 100000 in
theorem dm_Wa_goesOver {d : Nat} {w : MW} {a0 : Int32} {Q : Int32 → MW → Prop} (hs : p_Wa_goesOver w a0 Q) : Tc (d + 0) 265 [.ref 26, .int a0] w (RZ Q) := by
  unfold p_Wa_goesOver at hs
  refine tm_go 3 (pc' := 5) (L' := [some (.ref 26), some (.int a0)]) (S' := [.int a0, .ref 37]) (w' := w) rfl ?_
  obtain ⟨b1, hs⟩ := hs
  refine tm_k (pc' := 6) (L' := [some (.ref 26), some (.int a0)]) (S' := [.int (w.1 37 a0.toInt.toNat)]) (w' := w) rfl b1 ?_
  refine tm_i (p1 := 13) (p2 := 9) rfl (fun h2 => ?_) (fun h2 => ?_)
  · replace hs := hs.1 h2
    refine tm_go 1 (pc' := 14) (L' := [some (.ref 26), some (.int a0)]) (S' := [.int 0]) (w' := w) rfl ?_
    exact tm_r rfl ⟨_, rfl, by decide, hs⟩
  · replace hs := hs.2 h2
    refine tm_go 2 (pc' := 14) (L' := [some (.ref 26), some (.int a0)]) (S' := [.int 1]) (w' := w) rfl ?_
    exact tm_r rfl ⟨_, rfl, by decide, hs⟩
set_option maxHeartbeats 4000000 in
set_option maxRecDepth 100000 in
theorem dm_Ac_setPosition {d : Nat} {w : MW} {a0 : Int32} {b0 : Int32} {Q : Int32 → MW → Prop} (hs : p_Ac_setPosition w a0 b0 Q) : Tc (d + 4) 132 [.ref 47, .int a0, .int b0] w (RI Q) := by
  unfold p_Ac_setPosition at hs
  refine tm_go 3 (pc' := 5) (L' := [some (.ref 47), some (.int a0), some (.int b0), none]) (S' := [.int a0, .ref 26]) (w' := w) rfl ?_
  refine tm_c rfl (Nat.le_of_ble_eq_true rfl) (dm_Wa_goesOver (d := d + 3) hs) (fun v w1 hq => ?_)
  obtain ⟨r1, rfl, hz1, hs⟩ := hq
  refine tm_i (p1 := 13) (p2 := 11) rfl (fun h2 => ?_) (fun h2 => ?_)
  · replace hs := hs.1 h2
    refine tm_go 4 (pc' := 21) (L' := [some (.ref 47), some (.int a0), some (.int b0), none]) (S' := [.int a0, .ref 16]) (w' := w1) rfl ?_
    obtain ⟨b3, hs⟩ := hs
    refine tm_k (pc' := 22) (L' := [some (.ref 47), some (.int a0), some (.int b0), none]) (S' := [.int (w1.1 16 a0.toInt.toNat)]) (w' := w1) rfl b3 ?_
    refine tm_go 6 (pc' := 32) (L' := [some (.ref 47), some (.int a0), some (.int b0), some (.int (w1.1 16 a0.toInt.toNat))]) (S' := [.int b0, .int a0, .ref 16]) (w' := w1) rfl ?_
    obtain ⟨b4, hs⟩ := hs
    refine tm_k (pc' := 33) (L' := [some (.ref 47), some (.int a0), some (.int b0), some (.int (w1.1 16 a0.toInt.toNat))]) (S' := []) (w' := (sI w1 16 a0.toInt.toNat b0)) rfl b4 ?_
    refine tm_go 2 (pc' := 37) (L' := [some (.ref 47), some (.int a0), some (.int b0), some (.int (w1.1 16 a0.toInt.toNat))]) (S' := [.ref 42]) (w' := (sI w1 16 a0.toInt.toNat b0)) rfl ?_
    refine tm_c rfl (Nat.le_of_ble_eq_true rfl) (dm_Sf_isSafe (d := d + 0) hs) (fun v w5 hq => ?_)
    obtain ⟨r5, rfl, hz5, hs⟩ := hq
    refine tm_i (p1 := 45) (p2 := 43) rfl (fun h6 => ?_) (fun h6 => ?_)
    · replace hs := hs.1 h6
      refine tm_go 5 (pc' := 54) (L' := [some (.ref 47), some (.int a0), some (.int b0), some (.int (w1.1 16 a0.toInt.toNat))]) (S' := [.int (w1.1 16 a0.toInt.toNat), .int a0, .ref 16]) (w' := w5) rfl ?_
      obtain ⟨b7, hs⟩ := hs
      refine tm_k (pc' := 55) (L' := [some (.ref 47), some (.int a0), some (.int b0), some (.int (w1.1 16 a0.toInt.toNat))]) (S' := []) (w' := (sI w5 16 a0.toInt.toNat (w1.1 16 a0.toInt.toNat))) rfl b7 ?_
      refine tm_go 1 (pc' := 57) (L' := [some (.ref 47), some (.int a0), some (.int b0), some (.int (w1.1 16 a0.toInt.toNat))]) (S' := [.int 7]) (w' := (sI w5 16 a0.toInt.toNat (w1.1 16 a0.toInt.toNat))) rfl ?_
      exact tm_r rfl ⟨_, rfl, hs⟩
    · replace hs := hs.2 h6
      refine tm_go 1 (pc' := 44) (L' := [some (.ref 47), some (.int a0), some (.int b0), some (.int (w1.1 16 a0.toInt.toNat))]) (S' := [.int 0]) (w' := w5) rfl ?_
      exact tm_r rfl ⟨_, rfl, hs⟩
  · replace hs := hs.2 h2
    refine tm_go 1 (pc' := 12) (L' := [some (.ref 47), some (.int a0), some (.int b0), none]) (S' := [.int 3]) (w' := w1) rfl ?_
    exact tm_r rfl ⟨_, rfl, hs⟩
set_option maxHeartbeats 4000000 in
set_option maxRecDepth 100000 in
theorem tx_Ro_isOn_10 {d : Nat} {x10_1 : Int32} {E : Int64 → MW → Prop} {Q : Int32 → MW → Prop} (n : Nat) : ∀ (x10_2 : Int64) (x10_4 : Int32)  (z5 : Option Value) (z6 : Option Value) (w : MW), q_Ro_isOn_10 x10_1 E Q n x10_2 x10_4 w → (∀ (e10_2 : Int64)  (v0 : Option Value) (v1 : Option Value) (v4 : Option Value) (v5 : Option Value) (v6 : Option Value) (w : MW), E e10_2 w → Tm (d + 0) 186 121 [v0, v1, some (.long e10_2), none, v4, v5, v6] [] w (RZ Q)) → Tm (d + 0) 186 10 [some (.ref 48), some (.int x10_1), some (.long x10_2), none, some (.int x10_4), z5, z6] [] w (RZ Q) := by
  induction n with
  | zero => intro x10_2 x10_4 z5 z6 w hs; rw [q_Ro_isOn_10.eq_1] at hs; exact hs.elim
  | succ n ih =>
    intro x10_2 x10_4 z5 z6 w hs hE
    rw [q_Ro_isOn_10.eq_2] at hs
    refine tm_go 6 (pc' := 19) (L' := [some (.ref 48), some (.int x10_1), some (.long x10_2), none, some (.int x10_4), z5, z6]) (S' := [.int (x10_1 + (1 : Int32)), .ref 55, .int x10_4]) (w' := w) rfl ?_
    obtain ⟨b2, hs⟩ := hs
    refine tm_k (pc' := 20) (L' := [some (.ref 48), some (.int x10_1), some (.long x10_2), none, some (.int x10_4), z5, z6]) (S' := [.int (w.1 55 ((x10_1 + (1 : Int32)).toInt.toNat)), .int x10_4]) (w' := w) rfl b2 ?_
    refine tm_i (p1 := 121) (p2 := 23) rfl (fun h3 => ?_) (fun h3 => ?_)
    · replace hs := hs.1 h3
      exact hE _ _ _ _ _ _ _ hs
    · replace hs := hs.2 h3
      refine tm_go 7 (pc' := 34) (L' := [some (.ref 48), some (.int x10_1), some (.long x10_2), none, some (.int x10_4), some (.long (x10_2 &&& (1 : Int64))), none]) (S' := [.int x10_4, .ref 56]) (w' := w) rfl ?_
      obtain ⟨b4, hs⟩ := hs
      refine tm_k (pc' := 35) (L' := [some (.ref 48), some (.int x10_1), some (.long x10_2), none, some (.int x10_4), some (.long (x10_2 &&& (1 : Int64))), none]) (S' := [.int (w.1 56 x10_4.toInt.toNat)]) (w' := w) rfl b4 ?_
      refine tm_go 1 (pc' := 37) (L' := [some (.ref 48), some (.int x10_1), some (.long x10_2), none, some (.int x10_4), some (.long (x10_2 &&& (1 : Int64))), none]) (S' := [.int 16, .int (w.1 56 x10_4.toInt.toNat)]) (w' := w) rfl ?_
      refine tm_i (p1 := 63) (p2 := 40) rfl (fun h5 => ?_) (fun h5 => ?_)
      · replace hs := hs.1 h5
        refine tm_go 3 (pc' := 69) (L' := [some (.ref 48), some (.int x10_1), some (.long x10_2), none, some (.int x10_4), some (.long (x10_2 &&& (1 : Int64))), none]) (S' := [.int x10_4, .ref 56]) (w' := w) rfl ?_
        obtain ⟨b6, hs⟩ := hs
        refine tm_k (pc' := 70) (L' := [some (.ref 48), some (.int x10_1), some (.long x10_2), none, some (.int x10_4), some (.long (x10_2 &&& (1 : Int64))), none]) (S' := [.int (w.1 56 x10_4.toInt.toNat)]) (w' := w) rfl b6 ?_
        refine tm_go 1 (pc' := 72) (L' := [some (.ref 48), some (.int x10_1), some (.long x10_2), none, some (.int x10_4), some (.long (x10_2 &&& (1 : Int64))), none]) (S' := [.int 16, .int (w.1 56 x10_4.toInt.toNat)]) (w' := w) rfl ?_
        refine tm_i (p1 := 82) (p2 := 75) rfl (fun h7 => ?_) (fun h7 => ?_)
        · replace hs := hs.1 h7
          refine tm_go 3 (pc' := 88) (L' := [some (.ref 48), some (.int x10_1), some (.long x10_2), none, some (.int x10_4), some (.long (x10_2 &&& (1 : Int64))), none]) (S' := [.int x10_4, .ref 56]) (w' := w) rfl ?_
          obtain ⟨b8, hs⟩ := hs
          refine tm_k (pc' := 89) (L' := [some (.ref 48), some (.int x10_1), some (.long x10_2), none, some (.int x10_4), some (.long (x10_2 &&& (1 : Int64))), none]) (S' := [.int (w.1 56 x10_4.toInt.toNat)]) (w' := w) rfl b8 ?_
          refine tm_go 1 (pc' := 91) (L' := [some (.ref 48), some (.int x10_1), some (.long x10_2), none, some (.int x10_4), some (.long (x10_2 &&& (1 : Int64))), none]) (S' := [.int 17, .int (w.1 56 x10_4.toInt.toNat)]) (w' := w) rfl ?_
          refine tm_i (p1 := 108) (p2 := 94) rfl (fun h9 => ?_) (fun h9 => ?_)
          · replace hs := hs.1 h9
            refine tm_go 8 (pc' := 10) (L' := [some (.ref 48), some (.int x10_1), some (.long (((x10_2.toUInt64 >>> ((1 : Int32).toInt64.toUInt64 &&& Int64.toUInt64 63)).toInt64) ||| (x10_2 &&& (1 : Int64)))), none, some (.int (x10_4 + (1 : Int32))), some (.long (x10_2 &&& (1 : Int64))), none]) (S' := []) (w' := w) rfl ?_
            exact ih _ _ _ _ _ hs hE
          · replace hs := hs.2 h9
            refine tm_go 11 (pc' := 10) (L' := [some (.ref 48), some (.int x10_1), some (.long (((x10_2.toUInt64 >>> ((1 : Int32).toInt64.toUInt64 &&& Int64.toUInt64 63)).toInt64) &&& (((-2) : Int64) ||| (x10_2 &&& (1 : Int64))))), none, some (.int (x10_4 + (1 : Int32))), some (.long (x10_2 &&& (1 : Int64))), none]) (S' := []) (w' := w) rfl ?_
            exact ih _ _ _ _ _ hs hE
        · replace hs := hs.2 h7
          refine tm_go 7 (pc' := 10) (L' := [some (.ref 48), some (.int x10_1), some (.long (x10_2 ^^^ (1 : Int64))), none, some (.int (x10_4 + (1 : Int32))), some (.long (x10_2 &&& (1 : Int64))), none]) (S' := []) (w' := w) rfl ?_
          exact ih _ _ _ _ _ hs hE
      · replace hs := hs.2 h5
        refine tm_go 8 (pc' := 53) (L' := [some (.ref 48), some (.int x10_1), some (.long x10_2), none, some (.int x10_4), some (.long (x10_2 &&& (1 : Int64))), none]) (S' := [.int x10_4, .ref 56, .int (w.1 48 1), .long (x10_2 <<< ((1 : Int32).toInt64 &&& 63))]) (w' := w) rfl ?_
        obtain ⟨b10, hs⟩ := hs
        refine tm_k (pc' := 54) (L' := [some (.ref 48), some (.int x10_1), some (.long x10_2), none, some (.int x10_4), some (.long (x10_2 &&& (1 : Int64))), none]) (S' := [.int (w.1 56 x10_4.toInt.toNat), .int (w.1 48 1), .long (x10_2 <<< ((1 : Int32).toInt64 &&& 63))]) (w' := w) rfl b10 ?_
        refine tm_go 9 (pc' := 10) (L' := [some (.ref 48), some (.int x10_1), some (.long ((x10_2 <<< ((1 : Int32).toInt64 &&& 63)) ||| (Int32.toInt64 (((w.1 48 1) >>> ((w.1 56 x10_4.toInt.toNat) &&& 31)) &&& (1 : Int32))))), none, some (.int (x10_4 + (1 : Int32))), some (.long (x10_2 &&& (1 : Int64))), none]) (S' := []) (w' := w) rfl ?_
        exact ih _ _ _ _ _ hs hE
set_option maxHeartbeats 4000000 in
set_option maxRecDepth 100000 in
theorem dm_Ro_isOn {d : Nat} {w : MW} {a0 : Int32} {Q : Int32 → MW → Prop} (hs : p_Ro_isOn w a0 Q) : Tc (d + 0) 186 [.ref 48, .int a0] w (RZ Q) := by
  unfold p_Ro_isOn at hs
  refine tm_go 5 (pc' := 7) (L' := [some (.ref 48), some (.int a0), some (.long 0), none, none, none, none]) (S' := [.int a0, .ref 55]) (w' := w) rfl ?_
  obtain ⟨b1, hs⟩ := hs
  refine tm_k (pc' := 8) (L' := [some (.ref 48), some (.int a0), some (.long 0), none, none, none, none]) (S' := [.int (w.1 55 a0.toInt.toNat)]) (w' := w) rfl b1 ?_
  refine tm_go 1 (pc' := 10) (L' := [some (.ref 48), some (.int a0), some (.long 0), none, some (.int (w.1 55 a0.toInt.toNat)), none, none]) (S' := []) (w' := w) rfl ?_
  refine tx_Ro_isOn_10 FU _ _ _ _ _ hs (fun e10_2_11 z11_0 z11_1 z11_4 z11_5 z11_6 w11 hs => ?_)
  refine tm_go 5 (pc' := 126) (L' := [z11_0, z11_1, some (.long e10_2_11), none, z11_4, z11_5, z11_6]) (S' := [.int (lg_cmp (e10_2_11 &&& (1 : Int64)) (0 : Int64))]) (w' := w11) rfl ?_
  refine tm_i (p1 := 133) (p2 := 129) rfl (fun h12 => ?_) (fun h12 => ?_)
  · replace hs := hs.1 h12
    refine tm_go 1 (pc' := 134) (L' := [z11_0, z11_1, some (.long e10_2_11), none, z11_4, z11_5, z11_6]) (S' := [.int 0]) (w' := w11) rfl ?_
    exact tm_r rfl ⟨_, rfl, by decide, hs⟩
  · replace hs := hs.2 h12
    refine tm_go 2 (pc' := 134) (L' := [z11_0, z11_1, some (.long e10_2_11), none, z11_4, z11_5, z11_6]) (S' := [.int 1]) (w' := w11) rfl ?_
    exact tm_r rfl ⟨_, rfl, by decide, hs⟩
set_option maxHeartbeats 4000000 in
set_option maxRecDepth 100000 in
theorem tx_Ro_barring_37 {d : Nat} {x2_1 : Int32} {y37_2 : Int32} {ys37_0 : Int32} {z3 : Option Value} {w : MW} {A : Int32 → MW → Prop} {E : MW → Prop} {Q : Int32 → MW → Prop} (hs : q_Ro_barring_37 x2_1 y37_2 ys37_0 w A E Q) (hA : ∀ (x2_2 : Int32)  (z3 : Option Value) (w : MW), A x2_2 w → Tm (d + 1) 188 2 [some (.ref 48), some (.int x2_1), some (.int x2_2), z3] [] w (RI Q)) (hE : ∀  (v0 : Option Value) (v1 : Option Value) (v2 : Option Value) (v3 : Option Value) (w : MW), E  w → Tm (d + 1) 188 84 [v0, v1, v2, v3] [] w (RI Q)) : Tm (d + 1) 188 37 [some (.ref 48), some (.int x2_1), some (.int y37_2), z3] [.int ys37_0] w (RI Q) := by
  unfold q_Ro_barring_37 at hs
  refine tm_go 2 (pc' := 39) (L' := [some (.ref 48), some (.int x2_1), some (.int y37_2), some (.int ys37_0)]) (S' := [.int ys37_0]) (w' := w) rfl ?_
  refine tm_i (p1 := 78) (p2 := 42) rfl (fun h4 => ?_) (fun h4 => ?_)
  · replace hs := hs.1 h4
    refine tm_go 2 (pc' := 2) (L' := [some (.ref 48), some (.int x2_1), some (.int (y37_2 + (1 : Int32))), some (.int ys37_0)]) (S' := []) (w' := w) rfl ?_
    exact hA _ _ _ hs
  · replace hs := hs.2 h4
    refine tm_go 3 (pc' := 47) (L' := [some (.ref 48), some (.int x2_1), some (.int y37_2), some (.int ys37_0)]) (S' := [.int y37_2, .ref 50]) (w' := w) rfl ?_
    obtain ⟨b5, hs⟩ := hs
    refine tm_k (pc' := 48) (L' := [some (.ref 48), some (.int x2_1), some (.int y37_2), some (.int ys37_0)]) (S' := [.int (w.1 50 y37_2.toInt.toNat)]) (w' := w) rfl b5 ?_
    refine tm_i (p1 := 74) (p2 := 51) rfl (fun h6 => ?_) (fun h6 => ?_)
    · replace hs := hs.1 h6
      refine tm_go 3 (pc' := 77) (L' := [some (.ref 48), some (.int x2_1), some (.int y37_2), some (.int ys37_0)]) (S' := [.int (y37_2 + (1 : Int32))]) (w' := w) rfl ?_
      exact tm_r rfl ⟨_, rfl, hs⟩
    · replace hs := hs.2 h6
      refine tm_go 3 (pc' := 56) (L' := [some (.ref 48), some (.int x2_1), some (.int y37_2), some (.int ys37_0)]) (S' := [.int y37_2, .ref 49]) (w' := w) rfl ?_
      obtain ⟨b7, hs⟩ := hs
      refine tm_k (pc' := 57) (L' := [some (.ref 48), some (.int x2_1), some (.int y37_2), some (.int ys37_0)]) (S' := [.int (w.1 49 y37_2.toInt.toNat)]) (w' := w) rfl b7 ?_
      refine tm_go 3 (pc' := 62) (L' := [some (.ref 48), some (.int x2_1), some (.int y37_2), some (.int ys37_0)]) (S' := [.int y37_2, .ref 53, .int (w.1 49 y37_2.toInt.toNat)]) (w' := w) rfl ?_
      obtain ⟨b8, hs⟩ := hs
      refine tm_k (pc' := 63) (L' := [some (.ref 48), some (.int x2_1), some (.int y37_2), some (.int ys37_0)]) (S' := [.int (w.1 53 y37_2.toInt.toNat), .int (w.1 49 y37_2.toInt.toNat)]) (w' := w) rfl b8 ?_
      refine tm_i (p1 := 78) (p2 := 66) rfl (fun h9 => ?_) (fun h9 => ?_)
      · replace hs := hs.1 h9
        refine tm_go 2 (pc' := 2) (L' := [some (.ref 48), some (.int x2_1), some (.int (y37_2 + (1 : Int32))), some (.int ys37_0)]) (S' := []) (w' := w) rfl ?_
        exact hA _ _ _ hs
      · replace hs := hs.2 h9
        refine tm_go 2 (pc' := 68) (L' := [some (.ref 48), some (.int x2_1), some (.int y37_2), some (.int ys37_0)]) (S' := [.int y37_2, .ref 48]) (w' := w) rfl ?_
        refine tm_c rfl (Nat.le_of_ble_eq_true rfl) (dm_Ro_isOn (d := d + 0) hs) (fun v w10 hq => ?_)
        obtain ⟨r10, rfl, hz10, hs⟩ := hq
        refine tm_i (p1 := 78) (p2 := 74) rfl (fun h11 => ?_) (fun h11 => ?_)
        · replace hs := hs.1 h11
          refine tm_go 2 (pc' := 2) (L' := [some (.ref 48), some (.int x2_1), some (.int (y37_2 + (1 : Int32))), some (.int ys37_0)]) (S' := []) (w' := w10) rfl ?_
          exact hA _ _ _ hs
        · replace hs := hs.2 h11
          refine tm_go 3 (pc' := 77) (L' := [some (.ref 48), some (.int x2_1), some (.int y37_2), some (.int ys37_0)]) (S' := [.int (y37_2 + (1 : Int32))]) (w' := w10) rfl ?_
          exact tm_r rfl ⟨_, rfl, hs⟩
set_option maxHeartbeats 4000000 in
set_option maxRecDepth 100000 in
theorem tx_Ro_barring_2 {d : Nat} {x2_1 : Int32} {E : MW → Prop} {Q : Int32 → MW → Prop} (n : Nat) : ∀ (x2_2 : Int32)  (z3 : Option Value) (w : MW), q_Ro_barring_2 x2_1 E Q n x2_2 w → (∀  (v0 : Option Value) (v1 : Option Value) (v2 : Option Value) (v3 : Option Value) (w : MW), E  w → Tm (d + 1) 188 84 [v0, v1, v2, v3] [] w (RI Q)) → Tm (d + 1) 188 2 [some (.ref 48), some (.int x2_1), some (.int x2_2), z3] [] w (RI Q) := by
  induction n with
  | zero => intro x2_2 z3 w hs; rw [q_Ro_barring_2.eq_1] at hs; exact hs.elim
  | succ n ih =>
    intro x2_2 z3 w hs hE
    rw [q_Ro_barring_2.eq_2] at hs
    refine tm_go 3 (pc' := 7) (L' := [some (.ref 48), some (.int x2_1), some (.int x2_2), z3]) (S' := [.int (w.1 48 0), .int x2_2]) (w' := w) rfl ?_
    refine tm_i (p1 := 84) (p2 := 10) rfl (fun h1 => ?_) (fun h1 => ?_)
    · replace hs := hs.1 h1
      exact hE _ _ _ _ _ hs
    · replace hs := hs.2 h1
      refine tm_go 3 (pc' := 15) (L' := [some (.ref 48), some (.int x2_1), some (.int x2_2), z3]) (S' := [.int x2_2, .ref 52]) (w' := w) rfl ?_
      obtain ⟨b2, hs⟩ := hs
      refine tm_k (pc' := 16) (L' := [some (.ref 48), some (.int x2_1), some (.int x2_2), z3]) (S' := [.int (w.1 52 x2_2.toInt.toNat)]) (w' := w) rfl b2 ?_
      refine tm_go 4 (pc' := 20) (L' := [some (.ref 48), some (.int x2_1), some (.int x2_2), z3]) (S' := [.int ((((w.1 52 x2_2.toInt.toNat).toUInt32 >>> (x2_1.toUInt32 &&& Int32.toUInt32 31)).toInt32) &&& (1 : Int32))]) (w' := w) rfl ?_
      refine tm_i (p1 := 36) (p2 := 23) rfl (fun h3 => ?_) (fun h3 => ?_)
      · replace hs := hs.1 h3
        refine tm_go 1 (pc' := 37) (L' := [some (.ref 48), some (.int x2_1), some (.int x2_2), z3]) (S' := [.int 0]) (w' := w) rfl ?_
        exact tx_Ro_barring_37 hs (fun q0 q1 q2 hs => ih q0 q1 q2 hs hE) hE
      · replace hs := hs.2 h3
        refine tm_go 3 (pc' := 28) (L' := [some (.ref 48), some (.int x2_1), some (.int x2_2), z3]) (S' := [.int x2_2, .ref 51]) (w' := w) rfl ?_
        obtain ⟨b12, hs⟩ := hs
        refine tm_k (pc' := 29) (L' := [some (.ref 48), some (.int x2_1), some (.int x2_2), z3]) (S' := [.int (w.1 51 x2_2.toInt.toNat)]) (w' := w) rfl b12 ?_
        refine tm_i (p1 := 36) (p2 := 32) rfl (fun h13 => ?_) (fun h13 => ?_)
        · replace hs := hs.1 h13
          refine tm_go 1 (pc' := 37) (L' := [some (.ref 48), some (.int x2_1), some (.int x2_2), z3]) (S' := [.int 0]) (w' := w) rfl ?_
          exact tx_Ro_barring_37 hs (fun q0 q1 q2 hs => ih q0 q1 q2 hs hE) hE
        · replace hs := hs.2 h13
          refine tm_go 2 (pc' := 37) (L' := [some (.ref 48), some (.int x2_1), some (.int x2_2), z3]) (S' := [.int 1]) (w' := w) rfl ?_
          exact tx_Ro_barring_37 hs (fun q0 q1 q2 hs => ih q0 q1 q2 hs hE) hE
set_option maxHeartbeats 4000000 in
set_option maxRecDepth 100000 in
theorem dm_Ro_barring {d : Nat} {w : MW} {a0 : Int32} {Q : Int32 → MW → Prop} (hs : p_Ro_barring w a0 Q) : Tc (d + 1) 188 [.ref 48, .int a0] w (RI Q) := by
  unfold p_Ro_barring at hs
  refine tm_go 2 (pc' := 2) (L' := [some (.ref 48), some (.int a0), some (.int 0), none]) (S' := []) (w' := w) rfl ?_
  refine tx_Ro_barring_2 FU _ _ _ hs (fun  z14_0 z14_1 z14_2 z14_3 w14 hs => ?_)
  refine tm_go 1 (pc' := 85) (L' := [z14_0, z14_1, z14_2, z14_3]) (S' := [.int 0]) (w' := w14) rfl ?_
  exact tm_r rfl ⟨_, rfl, hs⟩
set_option maxHeartbeats 4000000 in
set_option maxRecDepth 100000 in
theorem dm_Ac_perform {d : Nat} {w : MW} {a0 : Int32} {Q : Int32 → MW → Prop} (hs : p_Ac_perform w a0 Q) : Tc (d + 5) 129 [.ref 47, .int a0] w (RI Q) := by
  unfold p_Ac_perform at hs
  refine tm_go 1 (pc' := 1) (L' := [some (.ref 47), some (.int a0)]) (S' := [.int a0]) (w' := w) rfl ?_
  refine tm_c rfl (Nat.le_of_ble_eq_true rfl) (dm_Ac_isAct (d := d + 4) hs) (fun v w1 hq => ?_)
  obtain ⟨r1, rfl, hz1, hs⟩ := hq
  refine tm_i (p1 := 15) (p2 := 7) rfl (fun h2 => ?_) (fun h2 => ?_)
  · replace hs := hs.1 h2
    refine tm_go 1 (pc' := 16) (L' := [some (.ref 47), some (.int a0)]) (S' := [.int 1]) (w' := w1) rfl ?_
    exact tm_r rfl ⟨_, rfl, hs⟩
  · replace hs := hs.2 h2
    refine tm_go 2 (pc' := 9) (L' := [some (.ref 47), some (.int a0)]) (S' := [.int a0, .ref 47]) (w' := w1) rfl ?_
    refine tm_c rfl (Nat.le_of_ble_eq_true rfl) (dm_Ac_isBound (d := d + 2) hs) (fun v w3 hq => ?_)
    obtain ⟨r3, rfl, hz3, hs⟩ := hq
    refine tm_i (p1 := 17) (p2 := 15) rfl (fun h4 => ?_) (fun h4 => ?_)
    · replace hs := hs.1 h4
      refine tm_go 1 (pc' := 18) (L' := [some (.ref 47), some (.int a0)]) (S' := [.ref 47]) (w' := w3) rfl ?_
      obtain ⟨b5, hs⟩ := hs
      refine tm_g (pc' := 21) (k := 47) (j := 3) rfl b5 ?_
      refine tm_go 1 (pc' := 22) (L' := [some (.ref 47), some (.int a0)]) (S' := [.int a0, .ref 48]) (w' := w3) rfl ?_
      refine tm_c rfl (Nat.le_of_ble_eq_true rfl) (dm_Ro_barring (d := d + 3) hs) (fun v w6 hq => ?_)
      obtain ⟨r6, rfl, hs⟩ := hq
      refine tm_i (p1 := 30) (p2 := 28) rfl (fun h7 => ?_) (fun h7 => ?_)
      · replace hs := hs.1 h7
        refine tm_go 3 (pc' := 35) (L' := [some (.ref 47), some (.int a0)]) (S' := [.int a0, .ref 60]) (w' := w6) rfl ?_
        obtain ⟨b8, hs⟩ := hs
        refine tm_k (pc' := 36) (L' := [some (.ref 47), some (.int a0)]) (S' := [.int (w6.1 60 a0.toInt.toNat)]) (w' := w6) rfl b8 ?_
        by_cases h9 : (w6.1 60 a0.toInt.toNat).toInt = 0
        · replace hs := hs.1 h9
          refine tm_tab (dflt := 142) (lo := 0) (ts := [68, 91, 108, 125]) rfl (by rw [h9]; decide) (t := 68) (by rw [h9]; rfl) ?_
          refine tm_go 4 (pc' := 74) (L' := [some (.ref 47), some (.int a0)]) (S' := [.int a0, .ref 57, .ref 47]) (w' := w6) rfl ?_
          obtain ⟨b10, hs⟩ := hs
          refine tm_k (pc' := 75) (L' := [some (.ref 47), some (.int a0)]) (S' := [.int (w6.1 57 a0.toInt.toNat), .ref 47]) (w' := w6) rfl b10 ?_
          refine tm_go 3 (pc' := 80) (L' := [some (.ref 47), some (.int a0)]) (S' := [.int a0, .ref 58, .int (w6.1 57 a0.toInt.toNat), .ref 47]) (w' := w6) rfl ?_
          obtain ⟨b11, hs⟩ := hs
          refine tm_k (pc' := 81) (L' := [some (.ref 47), some (.int a0)]) (S' := [.int (w6.1 58 a0.toInt.toNat), .int (w6.1 57 a0.toInt.toNat), .ref 47]) (w' := w6) rfl b11 ?_
          refine tm_go 3 (pc' := 86) (L' := [some (.ref 47), some (.int a0)]) (S' := [.int a0, .ref 59, .int (w6.1 58 a0.toInt.toNat), .int (w6.1 57 a0.toInt.toNat), .ref 47]) (w' := w6) rfl ?_
          obtain ⟨b12, hs⟩ := hs
          refine tm_k (pc' := 87) (L' := [some (.ref 47), some (.int a0)]) (S' := [.int (w6.1 59 a0.toInt.toNat), .int (w6.1 58 a0.toInt.toNat), .int (w6.1 57 a0.toInt.toNat), .ref 47]) (w' := w6) rfl b12 ?_
          refine tm_c rfl (Nat.le_of_ble_eq_true rfl) (dm_Ac_openWay (d := d + 0) hs) (fun v w13 hq => ?_)
          obtain ⟨r13, rfl, hs⟩ := hq
          exact tm_r rfl ⟨_, rfl, hs⟩
        · replace hs := hs.2 h9
          by_cases h14 : (w6.1 60 a0.toInt.toNat).toInt = 1
          · replace hs := hs.1 h14
            refine tm_tab (dflt := 142) (lo := 0) (ts := [68, 91, 108, 125]) rfl (by rw [h14]; decide) (t := 91) (by rw [h14]; rfl) ?_
            refine tm_go 4 (pc' := 97) (L' := [some (.ref 47), some (.int a0)]) (S' := [.int a0, .ref 57, .ref 47]) (w' := w6) rfl ?_
            obtain ⟨b15, hs⟩ := hs
            refine tm_k (pc' := 98) (L' := [some (.ref 47), some (.int a0)]) (S' := [.int (w6.1 57 a0.toInt.toNat), .ref 47]) (w' := w6) rfl b15 ?_
            refine tm_go 3 (pc' := 103) (L' := [some (.ref 47), some (.int a0)]) (S' := [.int a0, .ref 58, .int (w6.1 57 a0.toInt.toNat), .ref 47]) (w' := w6) rfl ?_
            obtain ⟨b16, hs⟩ := hs
            refine tm_k (pc' := 104) (L' := [some (.ref 47), some (.int a0)]) (S' := [.int (w6.1 58 a0.toInt.toNat), .int (w6.1 57 a0.toInt.toNat), .ref 47]) (w' := w6) rfl b16 ?_
            refine tm_c rfl (Nat.le_of_ble_eq_true rfl) (dm_Ac_closeWay (d := d + 2) hs) (fun v w17 hq => ?_)
            obtain ⟨r17, rfl, hs⟩ := hq
            exact tm_r rfl ⟨_, rfl, hs⟩
          · replace hs := hs.2 h14
            by_cases h18 : (w6.1 60 a0.toInt.toNat).toInt = 2
            · replace hs := hs.1 h18
              refine tm_tab (dflt := 142) (lo := 0) (ts := [68, 91, 108, 125]) rfl (by rw [h18]; decide) (t := 108) (by rw [h18]; rfl) ?_
              refine tm_go 4 (pc' := 114) (L' := [some (.ref 47), some (.int a0)]) (S' := [.int a0, .ref 57, .ref 47]) (w' := w6) rfl ?_
              obtain ⟨b19, hs⟩ := hs
              refine tm_k (pc' := 115) (L' := [some (.ref 47), some (.int a0)]) (S' := [.int (w6.1 57 a0.toInt.toNat), .ref 47]) (w' := w6) rfl b19 ?_
              refine tm_go 3 (pc' := 120) (L' := [some (.ref 47), some (.int a0)]) (S' := [.int a0, .ref 58, .int (w6.1 57 a0.toInt.toNat), .ref 47]) (w' := w6) rfl ?_
              obtain ⟨b20, hs⟩ := hs
              refine tm_k (pc' := 121) (L' := [some (.ref 47), some (.int a0)]) (S' := [.int (w6.1 58 a0.toInt.toNat), .int (w6.1 57 a0.toInt.toNat), .ref 47]) (w' := w6) rfl b20 ?_
              refine tm_c rfl (Nat.le_of_ble_eq_true rfl) (dm_Ac_setPosition (d := d + 0) hs) (fun v w21 hq => ?_)
              obtain ⟨r21, rfl, hs⟩ := hq
              exact tm_r rfl ⟨_, rfl, hs⟩
            · replace hs := hs.2 h18
              by_cases h22 : (w6.1 60 a0.toInt.toNat).toInt = 3
              · replace hs := hs.1 h22
                refine tm_tab (dflt := 142) (lo := 0) (ts := [68, 91, 108, 125]) rfl (by rw [h22]; decide) (t := 125) (by rw [h22]; rfl) ?_
                refine tm_go 4 (pc' := 131) (L' := [some (.ref 47), some (.int a0)]) (S' := [.int a0, .ref 57, .ref 47]) (w' := w6) rfl ?_
                obtain ⟨b23, hs⟩ := hs
                refine tm_k (pc' := 132) (L' := [some (.ref 47), some (.int a0)]) (S' := [.int (w6.1 57 a0.toInt.toNat), .ref 47]) (w' := w6) rfl b23 ?_
                refine tm_go 3 (pc' := 137) (L' := [some (.ref 47), some (.int a0)]) (S' := [.int a0, .ref 58, .int (w6.1 57 a0.toInt.toNat), .ref 47]) (w' := w6) rfl ?_
                obtain ⟨b24, hs⟩ := hs
                refine tm_k (pc' := 138) (L' := [some (.ref 47), some (.int a0)]) (S' := [.int (w6.1 58 a0.toInt.toNat), .int (w6.1 57 a0.toInt.toNat), .ref 47]) (w' := w6) rfl b24 ?_
                refine tm_c rfl (Nat.le_of_ble_eq_true rfl) (dm_Ac_cleanSpace (d := d + 2) hs) (fun v w25 hq => ?_)
                obtain ⟨r25, rfl, hs⟩ := hq
                exact tm_r rfl ⟨_, rfl, hs⟩
              · replace hs := hs.2 h22
                refine tm_tad (dflt := 142) (lo := 0) (ts := [68, 91, 108, 125]) rfl (by simp only [List.length_cons, List.length_nil]; omega) ?_
                refine tm_go 4 (pc' := 148) (L' := [some (.ref 47), some (.int a0)]) (S' := [.int a0, .ref 57, .ref 47]) (w' := w6) rfl ?_
                obtain ⟨b26, hs⟩ := hs
                refine tm_k (pc' := 149) (L' := [some (.ref 47), some (.int a0)]) (S' := [.int (w6.1 57 a0.toInt.toNat), .ref 47]) (w' := w6) rfl b26 ?_
                refine tm_c rfl (Nat.le_of_ble_eq_true rfl) (dm_Ac_drainSpace (d := d + 2) hs) (fun v w27 hq => ?_)
                obtain ⟨r27, rfl, hs⟩ := hq
                exact tm_r rfl ⟨_, rfl, hs⟩
      · replace hs := hs.2 h7
        refine tm_go 1 (pc' := 29) (L' := [some (.ref 47), some (.int a0)]) (S' := [.int 2]) (w' := w6) rfl ?_
        exact tm_r rfl ⟨_, rfl, hs⟩
    · replace hs := hs.2 h4
      refine tm_go 1 (pc' := 16) (L' := [some (.ref 47), some (.int a0)]) (S' := [.int 1]) (w' := w3) rfl ?_
      exact tm_r rfl ⟨_, rfl, hs⟩
set_option maxHeartbeats 4000000 in
set_option maxRecDepth 100000 in
theorem dm_Al_add {d : Nat} {w : MW} {a0 : Int32} {b0 : Int32} {c0 : Int32} {Q : MW → Prop} (hs : p_Al_add w a0 b0 c0 Q) : Tc (d + 0) 135 [.ref 3, .int a0, .int b0, .int c0] w (RV Q) := by
  unfold p_Al_add at hs
  refine tm_go 5 (pc' := 9) (L' := [some (.ref 3), some (.int a0), some (.int b0), some (.int c0)]) (S' := [.int 200, .int (w.1 3 0)]) (w' := w) rfl ?_
  refine tm_i (p1 := 52) (p2 := 12) rfl (fun h1 => ?_) (fun h1 => ?_)
  · replace hs := hs.1 h1
    exact tm_r rfl ⟨rfl, hs⟩
  · replace hs := hs.2 h1
    refine tm_go 5 (pc' := 21) (L' := [some (.ref 3), some (.int a0), some (.int b0), some (.int c0)]) (S' := [.int a0, .int (w.1 3 0), .ref 4]) (w' := w) rfl ?_
    obtain ⟨b2, hs⟩ := hs
    refine tm_k (pc' := 22) (L' := [some (.ref 3), some (.int a0), some (.int b0), some (.int c0)]) (S' := []) (w' := (sI w 4 ((w.1 3 0).toInt.toNat) a0)) rfl b2 ?_
    refine tm_go 5 (pc' := 31) (L' := [some (.ref 3), some (.int a0), some (.int b0), some (.int c0)]) (S' := [.int b0, .int (w.1 3 0), .ref 5]) (w' := (sI w 4 ((w.1 3 0).toInt.toNat) a0)) rfl ?_
    obtain ⟨b3, hs⟩ := hs
    refine tm_k (pc' := 32) (L' := [some (.ref 3), some (.int a0), some (.int b0), some (.int c0)]) (S' := []) (w' := (sI (sI w 4 ((w.1 3 0).toInt.toNat) a0) 5 ((w.1 3 0).toInt.toNat) b0)) rfl b3 ?_
    refine tm_go 5 (pc' := 41) (L' := [some (.ref 3), some (.int a0), some (.int b0), some (.int c0)]) (S' := [.int c0, .int (w.1 3 0), .ref 6]) (w' := (sI (sI w 4 ((w.1 3 0).toInt.toNat) a0) 5 ((w.1 3 0).toInt.toNat) b0)) rfl ?_
    obtain ⟨b4, hs⟩ := hs
    refine tm_k (pc' := 42) (L' := [some (.ref 3), some (.int a0), some (.int b0), some (.int c0)]) (S' := []) (w' := (sI (sI (sI w 4 ((w.1 3 0).toInt.toNat) a0) 5 ((w.1 3 0).toInt.toNat) b0) 6 ((w.1 3 0).toInt.toNat) c0)) rfl b4 ?_
    refine tm_go 6 (pc' := 52) (L' := [some (.ref 3), some (.int a0), some (.int b0), some (.int c0)]) (S' := []) (w' := (sI (sI (sI (sI w 4 ((w.1 3 0).toInt.toNat) a0) 5 ((w.1 3 0).toInt.toNat) b0) 6 ((w.1 3 0).toInt.toNat) c0) 3 0 ((w.1 3 0) + (1 : Int32)))) rfl ?_
    exact tm_r rfl ⟨rfl, hs⟩
set_option maxHeartbeats 4000000 in
set_option maxRecDepth 100000 in
theorem dm_Bh_act {d : Nat} {w : MW} {a0 : Int32} {Q : Int32 → MW → Prop} (hs : p_Bh_act w a0 Q) : Tc (d + 6) 14 [.ref 0, .int a0] w (RI Q) := by
  unfold p_Bh_act at hs
  refine tm_go 1 (pc' := 1) (L' := [some (.ref 0), some (.int a0), none]) (S' := [.int a0]) (w' := w) rfl ?_
  refine tm_c rfl (Nat.le_of_ble_eq_true rfl) (dm_Ac_isAct (d := d + 5) hs) (fun v w1 hq => ?_)
  obtain ⟨r1, rfl, hz1, hs⟩ := hq
  refine tm_i (p1 := 9) (p2 := 7) rfl (fun h2 => ?_) (fun h2 => ?_)
  · replace hs := hs.1 h2
    refine tm_go 3 (pc' := 14) (L' := [some (.ref 0), some (.int a0), none]) (S' := [.int a0, .ref 47]) (w' := w1) rfl ?_
    refine tm_c rfl (Nat.le_of_ble_eq_true rfl) (dm_Ac_perform (d := d + 0) hs) (fun v w3 hq => ?_)
    obtain ⟨r3, rfl, hs⟩ := hq
    refine tm_go 2 (pc' := 19) (L' := [some (.ref 0), some (.int a0), some (.int r3)]) (S' := [.int r3]) (w' := w3) rfl ?_
    refine tm_i (p1 := 41) (p2 := 22) rfl (fun h4 => ?_) (fun h4 => ?_)
    · replace hs := hs.1 h4
      refine tm_go 1 (pc' := 42) (L' := [some (.ref 0), some (.int a0), some (.int r3)]) (S' := [.int r3]) (w' := w3) rfl ?_
      exact tm_r rfl ⟨_, rfl, hs⟩
    · replace hs := hs.2 h4
      refine tm_go 9 (pc' := 38) (L' := [some (.ref 0), some (.int a0), some (.int r3)]) (S' := [.int ((10 : Int32) + r3), .int (-1), .int (w3.1 7 1), .ref 3]) (w' := w3) rfl ?_
      refine tm_c rfl (Nat.le_of_ble_eq_true rfl) (dm_Al_add (d := d + 5) hs) (fun v w5 hq => ?_)
      obtain ⟨rfl, hs⟩ := hq
      refine tm_go 1 (pc' := 42) (L' := [some (.ref 0), some (.int a0), some (.int r3)]) (S' := [.int r3]) (w' := w5) rfl ?_
      exact tm_r rfl ⟨_, rfl, hs⟩
  · replace hs := hs.2 h2
    refine tm_go 1 (pc' := 8) (L' := [some (.ref 0), some (.int a0), none]) (S' := [.int (-1)]) (w' := w1) rfl ?_
    exact tm_r rfl ⟨_, rfl, hs⟩
set_option maxHeartbeats 4000000 in
set_option maxRecDepth 100000 in
theorem dm_Pr_isSensed {d : Nat} {w : MW} {a0 : Int32} {Q : Int32 → MW → Prop} (hs : p_Pr_isSensed w a0 Q) : Tc (d + 1) 156 [.ref 62, .int a0] w (RZ Q) := by
  unfold p_Pr_isSensed at hs
  refine tm_go 2 (pc' := 2) (L' := [some (.ref 62), some (.int a0)]) (S' := [.int a0, .ref 62]) (w' := w) rfl ?_
  refine tm_c rfl (Nat.le_of_ble_eq_true rfl) (dm_Pr_isSignal (d := d + 0) hs) (fun v w1 hq => ?_)
  obtain ⟨r1, rfl, hz1, hs⟩ := hq
  refine tm_i (p1 := 22) (p2 := 8) rfl (fun h2 => ?_) (fun h2 => ?_)
  · replace hs := hs.1 h2
    refine tm_go 1 (pc' := 23) (L' := [some (.ref 62), some (.int a0)]) (S' := [.int 0]) (w' := w1) rfl ?_
    exact tm_r rfl ⟨_, rfl, by decide, hs⟩
  · replace hs := hs.2 h2
    refine tm_go 3 (pc' := 13) (L' := [some (.ref 62), some (.int a0)]) (S' := [.int a0, .ref 75]) (w' := w1) rfl ?_
    obtain ⟨b3, hs⟩ := hs
    refine tm_k (pc' := 14) (L' := [some (.ref 62), some (.int a0)]) (S' := [.int (w1.1 75 a0.toInt.toNat)]) (w' := w1) rfl b3 ?_
    refine tm_go 1 (pc' := 15) (L' := [some (.ref 62), some (.int a0)]) (S' := [.int 5, .int (w1.1 75 a0.toInt.toNat)]) (w' := w1) rfl ?_
    refine tm_i (p1 := 22) (p2 := 18) rfl (fun h4 => ?_) (fun h4 => ?_)
    · replace hs := hs.1 h4
      refine tm_go 1 (pc' := 23) (L' := [some (.ref 62), some (.int a0)]) (S' := [.int 0]) (w' := w1) rfl ?_
      exact tm_r rfl ⟨_, rfl, by decide, hs⟩
    · replace hs := hs.2 h4
      refine tm_go 2 (pc' := 23) (L' := [some (.ref 62), some (.int a0)]) (S' := [.int 1]) (w' := w1) rfl ?_
      exact tm_r rfl ⟨_, rfl, by decide, hs⟩
set_option maxHeartbeats 4000000 in
set_option maxRecDepth 100000 in
theorem tx_Pr_clearValues_2 {d : Nat} {E : MW → Prop} {Q : MW → Prop} (n : Nat) : ∀ (x2_1 : Int32)   (w : MW), q_Pr_clearValues_2  E Q n x2_1 w → (∀  (v0 : Option Value) (v1 : Option Value) (w : MW), E  w → Tm (d + 2) 157 31 [v0, v1] [] w (RV Q)) → Tm (d + 2) 157 2 [some (.ref 62), some (.int x2_1)] [] w (RV Q) := by
  induction n with
  | zero => intro x2_1  w hs; rw [q_Pr_clearValues_2.eq_1] at hs; exact hs.elim
  | succ n ih =>
    intro x2_1  w hs hE
    rw [q_Pr_clearValues_2.eq_2] at hs
    refine tm_go 3 (pc' := 7) (L' := [some (.ref 62), some (.int x2_1)]) (S' := [.int (w.1 62 10), .int x2_1]) (w' := w) rfl ?_
    refine tm_i (p1 := 31) (p2 := 10) rfl (fun h1 => ?_) (fun h1 => ?_)
    · replace hs := hs.1 h1
      exact hE _ _ _ hs
    · replace hs := hs.2 h1
      refine tm_go 2 (pc' := 12) (L' := [some (.ref 62), some (.int x2_1)]) (S' := [.int x2_1, .ref 62]) (w' := w) rfl ?_
      refine tm_c rfl (Nat.le_of_ble_eq_true rfl) (dm_Pr_isSensed (d := d + 0) hs) (fun v w2 hq => ?_)
      obtain ⟨r2, rfl, hz2, hs⟩ := hq
      refine tm_i (p1 := 25) (p2 := 18) rfl (fun h3 => ?_) (fun h3 => ?_)
      · replace hs := hs.1 h3
        refine tm_go 2 (pc' := 2) (L' := [some (.ref 62), some (.int (x2_1 + (1 : Int32)))]) (S' := []) (w' := w2) rfl ?_
        exact ih _ _ hs hE
      · replace hs := hs.2 h3
        refine tm_go 4 (pc' := 24) (L' := [some (.ref 62), some (.int x2_1)]) (S' := [.long 0, .int x2_1, .ref 74]) (w' := w2) rfl ?_
        obtain ⟨b4, hs⟩ := hs
        refine tm_k (pc' := 25) (L' := [some (.ref 62), some (.int x2_1)]) (S' := []) (w' := (sJ w2 74 x2_1.toInt.toNat 0)) rfl b4 ?_
        refine tm_go 2 (pc' := 2) (L' := [some (.ref 62), some (.int (x2_1 + (1 : Int32)))]) (S' := []) (w' := (sJ w2 74 x2_1.toInt.toNat 0)) rfl ?_
        exact ih _ _ hs hE
set_option maxHeartbeats 4000000 in
set_option maxRecDepth 100000 in
theorem dm_Pr_clearValues {d : Nat} {w : MW} {Q : MW → Prop} (hs : p_Pr_clearValues w Q) : Tc (d + 2) 157 [.ref 62] w (RV Q) := by
  unfold p_Pr_clearValues at hs
  refine tm_go 2 (pc' := 2) (L' := [some (.ref 62), some (.int 0)]) (S' := []) (w' := w) rfl ?_
  refine tx_Pr_clearValues_2 FU _ _ hs (fun  z5_0 z5_1 w5 hs => ?_)
  exact tm_r rfl ⟨rfl, hs⟩
set_option maxHeartbeats 4000000 in
set_option maxRecDepth 100000 in
theorem dm_Ru_enter {d : Nat} {w : MW} {a0 : Int32} {Q : MW → Prop} (hs : p_Ru_enter w a0 Q) : Tc (d + 0) 206 [.ref 61, .int a0] w (RV Q) := by
  unfold p_Ru_enter at hs
  refine tm_go 4 (pc' := 6) (L' := [some (.ref 61), some (.int a0)]) (S' := [.int 1, .int a0, .ref 80]) (w' := w) rfl ?_
  obtain ⟨b1, hs⟩ := hs
  refine tm_k (pc' := 7) (L' := [some (.ref 61), some (.int a0)]) (S' := []) (w' := (sI w 80 a0.toInt.toNat 1)) rfl b1 ?_
  refine tm_go 6 (pc' := 17) (L' := [some (.ref 61), some (.int a0)]) (S' := [.int a0, .ref 78, .int a0, .ref 81]) (w' := (sI w 80 a0.toInt.toNat 1)) rfl ?_
  obtain ⟨b2, hs⟩ := hs
  refine tm_k (pc' := 18) (L' := [some (.ref 61), some (.int a0)]) (S' := [.int (w.1 78 a0.toInt.toNat), .int a0, .ref 81]) (w' := (sI w 80 a0.toInt.toNat 1)) rfl b2 ?_
  obtain ⟨b3, hs⟩ := hs
  refine tm_k (pc' := 19) (L' := [some (.ref 61), some (.int a0)]) (S' := []) (w' := (sI (sI w 80 a0.toInt.toNat 1) 81 a0.toInt.toNat (w.1 78 a0.toInt.toNat))) rfl b3 ?_
  refine tm_go 3 (pc' := 24) (L' := [some (.ref 61), some (.int a0)]) (S' := [.int a0, .ref 78]) (w' := (sI (sI w 80 a0.toInt.toNat 1) 81 a0.toInt.toNat (w.1 78 a0.toInt.toNat))) rfl ?_
  obtain ⟨b4, hs⟩ := hs
  refine tm_k (pc' := 25) (L' := [some (.ref 61), some (.int a0)]) (S' := [.int (w.1 78 a0.toInt.toNat)]) (w' := (sI (sI w 80 a0.toInt.toNat 1) 81 a0.toInt.toNat (w.1 78 a0.toInt.toNat))) rfl b4 ?_
  refine tm_i (p1 := 40) (p2 := 28) rfl (fun h5 => ?_) (fun h5 => ?_)
  · replace hs := hs.1 h5
    exact tm_r rfl ⟨rfl, hs⟩
  · replace hs := hs.2 h5
    refine tm_go 5 (pc' := 37) (L' := [some (.ref 61), some (.int a0)]) (S' := [.int a0, .ref 78, .ref 80]) (w' := (sI (sI w 80 a0.toInt.toNat 1) 81 a0.toInt.toNat (w.1 78 a0.toInt.toNat))) rfl ?_
    obtain ⟨b6, hs⟩ := hs
    refine tm_k (pc' := 38) (L' := [some (.ref 61), some (.int a0)]) (S' := [.int (w.1 78 a0.toInt.toNat), .ref 80]) (w' := (sI (sI w 80 a0.toInt.toNat 1) 81 a0.toInt.toNat (w.1 78 a0.toInt.toNat))) rfl b6 ?_
    refine tm_go 1 (pc' := 39) (L' := [some (.ref 61), some (.int a0)]) (S' := [.int 0, .int (w.1 78 a0.toInt.toNat), .ref 80]) (w' := (sI (sI w 80 a0.toInt.toNat 1) 81 a0.toInt.toNat (w.1 78 a0.toInt.toNat))) rfl ?_
    obtain ⟨b7, hs⟩ := hs
    refine tm_k (pc' := 40) (L' := [some (.ref 61), some (.int a0)]) (S' := []) (w' := (sI (sI (sI w 80 a0.toInt.toNat 1) 81 a0.toInt.toNat (w.1 78 a0.toInt.toNat)) 80 ((w.1 78 a0.toInt.toNat).toInt.toNat) 0)) rfl b7 ?_
    exact tm_r rfl ⟨rfl, hs⟩
set_option maxHeartbeats 4000000 in
set_option maxRecDepth 100000 in
theorem dm_Ru_begin {d : Nat} {w : MW} {Q : MW → Prop} (hs : p_Ru_begin w Q) : Tc (d + 1) 205 [.ref 61] w (RV Q) := by
  unfold p_Ru_begin at hs
  refine tm_go 5 (pc' := 7) (L' := [some (.ref 61)]) (S' := [.int 0, .ref 61]) (w' := (sI w 61 4 0)) rfl ?_
  refine tm_c rfl (Nat.le_of_ble_eq_true rfl) (dm_Ru_enter (d := d + 0) hs) (fun v w1 hq => ?_)
  obtain ⟨rfl, hs⟩ := hq
  exact tm_r rfl ⟨rfl, hs⟩
