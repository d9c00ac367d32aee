set_option maxHeartbeats 4000000 in
set_option maxRecDepth 100000 in
theorem tx_Mo_flow_54 {d : Nat} {x54_1 : Int32} {x54_2 : Int32} {x54_3 : Int32} {x54_5 : Int32} {x54_6 : Int32} {x54_7 : Int32} {E : Int32 → MW → Prop} {Q : MW → Prop} (n : Nat) : ∀ (x54_4 : Int32) (x54_8 : Int32)  (z9 : Option Value) (z10 : Option Value) (z11 : Option Value) (z12 : Option Value) (z13 : Option Value) (w : MW), q_Mo_flow_54 x54_1 x54_2 x54_3 x54_5 x54_6 x54_7 E Q n x54_4 x54_8 w → (∀ (e54_4 : Int32)  (v6 : Option Value) (v7 : Option Value) (v8 : Option Value) (v9 : Option Value) (v10 : Option Value) (v11 : Option Value) (v12 : Option Value) (v13 : Option Value) (w : MW), E e54_4 w → Tm (d + 3) 81 118 [some (.ref 127), some (.int x54_1), some (.int x54_2), some (.int x54_3), some (.int e54_4), some (.int x54_5), v6, v7, v8, v9, v10, v11, v12, v13] [] w (RV Q)) → Tm (d + 3) 81 54 [some (.ref 127), some (.int x54_1), some (.int x54_2), some (.int x54_3), some (.int x54_4), some (.int x54_5), some (.int x54_6), some (.int x54_7), some (.int x54_8), z9, z10, z11, z12, z13] [] w (RV Q) := by
  induction n with
  | zero => intro x54_4 x54_8 z9 z10 z11 z12 z13 w hs; rw [q_Mo_flow_54.eq_1] at hs; exact hs.elim
  | succ n ih =>
    intro x54_4 x54_8 z9 z10 z11 z12 z13 w hs hE
    rw [q_Mo_flow_54.eq_2] at hs
    refine tm_go 4 (pc' := 62) (L' := [some (.ref 127), some (.int x54_1), some (.int x54_2), some (.int x54_3), some (.int x54_4), some (.int x54_5), some (.int x54_6), some (.int x54_7), some (.int x54_8), z9, z10, z11, z12, z13]) (S' := [.int x54_7, .ref 169, .int x54_8]) (w' := w) rfl ?_
    obtain ⟨b6, hs⟩ := hs
    refine tm_k (pc' := 63) (L' := [some (.ref 127), some (.int x54_1), some (.int x54_2), some (.int x54_3), some (.int x54_4), some (.int x54_5), some (.int x54_6), some (.int x54_7), some (.int x54_8), z9, z10, z11, z12, z13]) (S' := [.int (w.1 169 x54_7.toInt.toNat), .int x54_8]) (w' := w) rfl b6 ?_
    refine tm_i (p1 := 118) (p2 := 66) rfl (fun h7 => ?_) (fun h7 => ?_)
    · replace hs := hs.1 h7
      exact hE _ _ _ _ _ _ _ _ _ _ hs
    · replace hs := hs.2 h7
      refine tm_go 11 (pc' := 86) (L' := [some (.ref 127), some (.int x54_1), some (.int x54_2), some (.int x54_3), some (.int x54_4), some (.int x54_5), some (.int x54_6), some (.int x54_7), some (.int x54_8), z9, z10, z11, z12, z13]) (S' := [.int (x54_6 - x54_6 / (2 : Int32) * (2 : Int32)), .int ((200 : Int32) * x54_7), .ref 172, .int x54_4, .ref 193]) (w' := w) rfl ?_
      refine tm_i (p1 := 94) (p2 := 89) rfl (fun h8 => ?_) (fun h8 => ?_)
      · replace hs := hs.1 h8
        refine tm_go 3 (pc' := 100) (L' := [some (.ref 127), some (.int x54_1), some (.int x54_2), some (.int x54_3), some (.int x54_4), some (.int x54_5), some (.int x54_6), some (.int x54_7), some (.int x54_8), z9, z10, z11, z12, z13]) (S' := [.int x54_7, .ref 169, .int ((200 : Int32) * x54_7), .ref 172, .int x54_4, .ref 193]) (w' := w) rfl ?_
        obtain ⟨b9, hs⟩ := hs
        refine tm_k (pc' := 101) (L' := [some (.ref 127), some (.int x54_1), some (.int x54_2), some (.int x54_3), some (.int x54_4), some (.int x54_5), some (.int x54_6), some (.int x54_7), some (.int x54_8), z9, z10, z11, z12, z13]) (S' := [.int (w.1 169 x54_7.toInt.toNat), .int ((200 : Int32) * x54_7), .ref 172, .int x54_4, .ref 193]) (w' := w) rfl b9 ?_
        refine tm_go 5 (pc' := 107) (L' := [some (.ref 127), some (.int x54_1), some (.int x54_2), some (.int x54_3), some (.int x54_4), some (.int x54_5), some (.int x54_6), some (.int x54_7), some (.int x54_8), z9, z10, z11, z12, z13]) (S' := [.int (((200 : Int32) * x54_7) + (((w.1 169 x54_7.toInt.toNat) - (1 : Int32)) - x54_8)), .ref 172, .int x54_4, .ref 193]) (w' := w) rfl ?_
        obtain ⟨b10, hs⟩ := hs
        refine tm_k (pc' := 108) (L' := [some (.ref 127), some (.int x54_1), some (.int x54_2), some (.int x54_3), some (.int x54_4), some (.int x54_5), some (.int x54_6), some (.int x54_7), some (.int x54_8), z9, z10, z11, z12, z13]) (S' := [.int (w.1 172 ((((200 : Int32) * x54_7) + (((w.1 169 x54_7.toInt.toNat) - (1 : Int32)) - x54_8)).toInt.toNat)), .int x54_4, .ref 193]) (w' := w) rfl b10 ?_
        obtain ⟨b11, hs⟩ := hs
        refine tm_k (pc' := 109) (L' := [some (.ref 127), some (.int x54_1), some (.int x54_2), some (.int x54_3), some (.int x54_4), some (.int x54_5), some (.int x54_6), some (.int x54_7), some (.int x54_8), z9, z10, z11, z12, z13]) (S' := []) (w' := (sI w 193 x54_4.toInt.toNat (vp_nar .byte (w.1 172 ((((200 : Int32) * x54_7) + (((w.1 169 x54_7.toInt.toNat) - (1 : Int32)) - x54_8)).toInt.toNat))))) rfl b11 ?_
        refine tm_go 3 (pc' := 54) (L' := [some (.ref 127), some (.int x54_1), some (.int x54_2), some (.int x54_3), some (.int (x54_4 + (1 : Int32))), some (.int x54_5), some (.int x54_6), some (.int x54_7), some (.int (x54_8 + (1 : Int32))), z9, z10, z11, z12, z13]) (S' := []) (w' := (sI w 193 x54_4.toInt.toNat (vp_nar .byte (w.1 172 ((((200 : Int32) * x54_7) + (((w.1 169 x54_7.toInt.toNat) - (1 : Int32)) - x54_8)).toInt.toNat))))) rfl ?_
        exact ih _ _ _ _ _ _ _ _ hs hE
      · replace hs := hs.2 h8
        refine tm_go 3 (pc' := 107) (L' := [some (.ref 127), some (.int x54_1), some (.int x54_2), some (.int x54_3), some (.int x54_4), some (.int x54_5), some (.int x54_6), some (.int x54_7), some (.int x54_8), z9, z10, z11, z12, z13]) (S' := [.int (((200 : Int32) * x54_7) + x54_8), .ref 172, .int x54_4, .ref 193]) (w' := w) rfl ?_
        obtain ⟨b12, hs⟩ := hs
        refine tm_k (pc' := 108) (L' := [some (.ref 127), some (.int x54_1), some (.int x54_2), some (.int x54_3), some (.int x54_4), some (.int x54_5), some (.int x54_6), some (.int x54_7), some (.int x54_8), z9, z10, z11, z12, z13]) (S' := [.int (w.1 172 ((((200 : Int32) * x54_7) + x54_8).toInt.toNat)), .int x54_4, .ref 193]) (w' := w) rfl b12 ?_
        obtain ⟨b13, hs⟩ := hs
        refine tm_k (pc' := 109) (L' := [some (.ref 127), some (.int x54_1), some (.int x54_2), some (.int x54_3), some (.int x54_4), some (.int x54_5), some (.int x54_6), some (.int x54_7), some (.int x54_8), z9, z10, z11, z12, z13]) (S' := []) (w' := (sI w 193 x54_4.toInt.toNat (vp_nar .byte (w.1 172 ((((200 : Int32) * x54_7) + x54_8).toInt.toNat))))) rfl b13 ?_
        refine tm_go 3 (pc' := 54) (L' := [some (.ref 127), some (.int x54_1), some (.int x54_2), some (.int x54_3), some (.int (x54_4 + (1 : Int32))), some (.int x54_5), some (.int x54_6), some (.int x54_7), some (.int (x54_8 + (1 : Int32))), z9, z10, z11, z12, z13]) (S' := []) (w' := (sI w 193 x54_4.toInt.toNat (vp_nar .byte (w.1 172 ((((200 : Int32) * x54_7) + x54_8).toInt.toNat))))) rfl ?_
        exact ih _ _ _ _ _ _ _ _ hs hE
set_option maxHeartbeats 4000000 in
set_option maxRecDepth 100000 in
theorem tx_Mo_flow_20 {d : Nat} {x20_1 : Int32} {x20_2 : Int32} {x20_3 : Int32} {E : Int32 → MW → Prop} {Q : MW → Prop} (n : Nat) : ∀ (x20_4 : Int32) (x20_5 : Int32)  (z6 : Option Value) (z7 : Option Value) (z8 : Option Value) (z9 : Option Value) (z10 : Option Value) (z11 : Option Value) (z12 : Option Value) (z13 : Option Value) (w : MW), q_Mo_flow_20 x20_1 x20_2 x20_3 E Q n x20_4 x20_5 w → (∀ (e20_4 : Int32)  (v5 : Option Value) (v6 : Option Value) (v7 : Option Value) (v8 : Option Value) (v9 : Option Value) (v10 : Option Value) (v11 : Option Value) (v12 : Option Value) (v13 : Option Value) (w : MW), E e20_4 w → Tm (d + 3) 81 124 [some (.ref 127), some (.int x20_1), some (.int x20_2), some (.int x20_3), some (.int e20_4), v5, v6, v7, v8, v9, v10, v11, v12, v13] [] w (RV Q)) → Tm (d + 3) 81 20 [some (.ref 127), some (.int x20_1), some (.int x20_2), some (.int x20_3), some (.int x20_4), some (.int x20_5), z6, z7, z8, z9, z10, z11, z12, z13] [] w (RV Q) := by
  induction n with
  | zero => intro x20_4 x20_5 z6 z7 z8 z9 z10 z11 z12 z13 w hs; rw [q_Mo_flow_20.eq_1] at hs; exact hs.elim
  | succ n ih =>
    intro x20_4 x20_5 z6 z7 z8 z9 z10 z11 z12 z13 w hs hE
    rw [q_Mo_flow_20.eq_2] at hs
    refine tm_go 4 (pc' := 27) (L' := [some (.ref 127), some (.int x20_1), some (.int x20_2), some (.int x20_3), some (.int x20_4), some (.int x20_5), z6, z7, z8, z9, z10, z11, z12, z13]) (S' := [.int x20_1, .ref 185, .int x20_5]) (w' := w) rfl ?_
    obtain ⟨b3, hs⟩ := hs
    refine tm_k (pc' := 28) (L' := [some (.ref 127), some (.int x20_1), some (.int x20_2), some (.int x20_3), some (.int x20_4), some (.int x20_5), z6, z7, z8, z9, z10, z11, z12, z13]) (S' := [.int (w.1 185 x20_1.toInt.toNat), .int x20_5]) (w' := w) rfl b3 ?_
    refine tm_i (p1 := 124) (p2 := 31) rfl (fun h4 => ?_) (fun h4 => ?_)
    · replace hs := hs.1 h4
      exact hE _ _ _ _ _ _ _ _ _ _ _ hs
    · replace hs := hs.2 h4
      refine tm_go 7 (pc' := 42) (L' := [some (.ref 127), some (.int x20_1), some (.int x20_2), some (.int x20_3), some (.int x20_4), some (.int x20_5), z6, z7, z8, z9, z10, z11, z12, z13]) (S' := [.int (((24 : Int32) * x20_1) + x20_5), .ref 186]) (w' := w) rfl ?_
      obtain ⟨b5, hs⟩ := hs
      refine tm_k (pc' := 43) (L' := [some (.ref 127), some (.int x20_1), some (.int x20_2), some (.int x20_3), some (.int x20_4), some (.int x20_5), z6, z7, z8, z9, z10, z11, z12, z13]) (S' := [.int (w.1 186 ((((24 : Int32) * x20_1) + x20_5).toInt.toNat))]) (w' := w) rfl b5 ?_
      refine tm_go 7 (pc' := 54) (L' := [some (.ref 127), some (.int x20_1), some (.int x20_2), some (.int x20_3), some (.int x20_4), some (.int x20_5), some (.int (w.1 186 ((((24 : Int32) * x20_1) + x20_5).toInt.toNat))), some (.int ((w.1 186 ((((24 : Int32) * x20_1) + x20_5).toInt.toNat)) / (2 : Int32))), some (.int 0), z9, z10, z11, z12, z13]) (S' := []) (w' := w) rfl ?_
      refine tx_Mo_flow_54 FU _ _ _ _ _ _ _ _ hs (fun e54_4_14 z14_6 z14_7 z14_8 z14_9 z14_10 z14_11 z14_12 z14_13 w14 hs => ?_)
      refine tm_go 2 (pc' := 20) (L' := [some (.ref 127), some (.int x20_1), some (.int x20_2), some (.int x20_3), some (.int e54_4_14), some (.int (x20_5 + (1 : Int32))), z14_6, z14_7, z14_8, z14_9, z14_10, z14_11, z14_12, z14_13]) (S' := []) (w' := w14) rfl ?_
      exact ih _ _ _ _ _ _ _ _ _ _ _ hs hE
set_option maxHeartbeats 4000000 in
set_option maxRecDepth 100000 in
theorem tx_Mo_flow_235 {d : Nat} {x130_1 : Int32} {x130_2 : Int32} {x130_3 : Int32} {x130_4 : Int32} {y235_5 : Int32} {y235_7 : Int32} {ys235_0 : Int32} {z6 : Option Value} {z8 : Option Value} {z9 : Option Value} {z10 : Option Value} {z11 : Option Value} {z12 : Option Value} {z13 : Option Value} {w : MW} {A : Int32 → Int32 → MW → Prop} {E : Int32 → MW → Prop} {Q : MW → Prop} (hs : q_Mo_flow_235 x130_1 x130_2 x130_3 x130_4 y235_5 y235_7 ys235_0 w A E Q) (hA : ∀ (x130_5 : Int32) (x130_6 : Int32)  (z7 : Option Value) (z8 : Option Value) (z9 : Option Value) (z10 : Option Value) (z11 : Option Value) (z12 : Option Value) (z13 : Option Value) (w : MW), A x130_5 x130_6 w → Tm (d + 3) 81 130 [some (.ref 127), some (.int x130_1), some (.int x130_2), some (.int x130_3), some (.int x130_4), some (.int x130_5), some (.int x130_6), z7, z8, z9, z10, z11, z12, z13] [] w (RV Q)) (hE : ∀ (e130_5 : Int32)  (v2 : Option Value) (v3 : Option Value) (v4 : Option Value) (v6 : Option Value) (v7 : Option Value) (v8 : Option Value) (v9 : Option Value) (v10 : Option Value) (v11 : Option Value) (v12 : Option Value) (v13 : Option Value) (w : MW), E e130_5 w → Tm (d + 3) 81 275 [some (.ref 127), some (.int x130_1), v2, v3, v4, some (.int e130_5), v6, v7, v8, v9, v10, v11, v12, v13] [] w (RV Q)) : Tm (d + 3) 81 235 [some (.ref 127), some (.int x130_1), some (.int x130_2), some (.int x130_3), some (.int x130_4), some (.int y235_5), z6, some (.int y235_7), z8, z9, z10, z11, z12, z13] [.int ys235_0] w (RV Q) := by
  unfold q_Mo_flow_235 at hs
  refine tm_go 2 (pc' := 239) (L' := [some (.ref 127), some (.int x130_1), some (.int x130_2), some (.int x130_3), some (.int x130_4), some (.int y235_5), some (.int ys235_0), some (.int y235_7), z8, z9, z10, z11, z12, z13]) (S' := [.int ys235_0]) (w' := w) rfl ?_
  refine tm_i (p1 := 272) (p2 := 242) rfl (fun h23 => ?_) (fun h23 => ?_)
  · replace hs := hs.1 h23
    refine tm_go 1 (pc' := 130) (L' := [some (.ref 127), some (.int x130_1), some (.int x130_2), some (.int x130_3), some (.int x130_4), some (.int y235_5), some (.int ys235_0), some (.int y235_7), z8, z9, z10, z11, z12, z13]) (S' := []) (w' := w) rfl ?_
    exact hA _ _ _ _ _ _ _ _ _ _ hs
  · replace hs := hs.2 h23
    refine tm_go 4 (pc' := 248) (L' := [some (.ref 127), some (.int x130_1), some (.int x130_2), some (.int x130_3), some (.int x130_4), some (.int y235_5), some (.int ys235_0), some (.int y235_7), z8, z9, z10, z11, z12, z13]) (S' := [.int x130_2, .ref 165, .int x130_2, .ref 165]) (w' := w) rfl ?_
    obtain ⟨b24, hs⟩ := hs
    refine tm_k (pc' := 249) (L' := [some (.ref 127), some (.int x130_1), some (.int x130_2), some (.int x130_3), some (.int x130_4), some (.int y235_5), some (.int ys235_0), some (.int y235_7), z8, z9, z10, z11, z12, z13]) (S' := [.int (w.1 165 x130_2.toInt.toNat), .int x130_2, .ref 165]) (w' := w) rfl b24 ?_
    refine tm_go 2 (pc' := 251) (L' := [some (.ref 127), some (.int x130_1), some (.int x130_2), some (.int x130_3), some (.int x130_4), some (.int y235_5), some (.int ys235_0), some (.int y235_7), z8, z9, z10, z11, z12, z13]) (S' := [.int ((w.1 165 x130_2.toInt.toNat) - (1 : Int32)), .int x130_2, .ref 165]) (w' := w) rfl ?_
    obtain ⟨b25, hs⟩ := hs
    refine tm_k (pc' := 252) (L' := [some (.ref 127), some (.int x130_1), some (.int x130_2), some (.int x130_3), some (.int x130_4), some (.int y235_5), some (.int ys235_0), some (.int y235_7), z8, z9, z10, z11, z12, z13]) (S' := []) (w' := (sI w 165 x130_2.toInt.toNat ((w.1 165 x130_2.toInt.toNat) - (1 : Int32)))) rfl b25 ?_
    refine tm_go 1 (pc' := 254) (L' := [some (.ref 127), some (.int x130_1), some (.int x130_2), some (.int x130_3), some (.int x130_4), some (.int y235_5), some (.int ys235_0), some (.int y235_7), z8, z9, z10, z11, z12, z13]) (S' := [.int y235_7]) (w' := (sI w 165 x130_2.toInt.toNat ((w.1 165 x130_2.toInt.toNat) - (1 : Int32)))) rfl ?_
    refine tm_i (p1 := 269) (p2 := 257) rfl (fun h26 => ?_) (fun h26 => ?_)
    · replace hs := hs.1 h26
      refine tm_go 2 (pc' := 130) (L' := [some (.ref 127), some (.int x130_1), some (.int x130_2), some (.int x130_3), some (.int x130_4), some (.int (y235_5 + (1 : Int32))), some (.int ys235_0), some (.int y235_7), z8, z9, z10, z11, z12, z13]) (S' := []) (w' := (sI w 165 x130_2.toInt.toNat ((w.1 165 x130_2.toInt.toNat) - (1 : Int32)))) rfl ?_
      exact hA _ _ _ _ _ _ _ _ _ _ hs
    · replace hs := hs.2 h26
      refine tm_go 3 (pc' := 261) (L' := [some (.ref 127), some (.int x130_1), some (.int x130_2), some (.int x130_3), some (.int x130_4), some (.int y235_5), some (.int ys235_0), some (.int y235_7), z8, z9, z10, z11, z12, z13]) (S' := [.int y235_7, .int x130_3, .ref 127]) (w' := (sI w 165 x130_2.toInt.toNat ((w.1 165 x130_2.toInt.toNat) - (1 : Int32)))) rfl ?_
      refine tm_c rfl (Nat.le_of_ble_eq_true rfl) (dm_Mo_come (d := d + 2) hs) (fun v w27 hq => ?_)
      obtain ⟨rfl, hs⟩ := hq
      refine tm_go 2 (pc' := 266) (L' := [some (.ref 127), some (.int x130_1), some (.int x130_2), some (.int x130_3), some (.int x130_4), some (.int y235_5), some (.int ys235_0), some (.int y235_7), z8, z9, z10, z11, z12, z13]) (S' := [.int x130_3, .ref 127]) (w' := w27) rfl ?_
      refine tm_c rfl (Nat.le_of_ble_eq_true rfl) (dm_Mo_note (d := d + 1) hs) (fun v w28 hq => ?_)
      obtain ⟨rfl, hs⟩ := hq
      refine tm_go 2 (pc' := 130) (L' := [some (.ref 127), some (.int x130_1), some (.int x130_2), some (.int x130_3), some (.int x130_4), some (.int (y235_5 + (1 : Int32))), some (.int ys235_0), some (.int y235_7), z8, z9, z10, z11, z12, z13]) (S' := []) (w' := w28) rfl ?_
      exact hA _ _ _ _ _ _ _ _ _ _ hs
set_option maxHeartbeats 4000000 in
set_option maxRecDepth 100000 in
theorem tx_Mo_flow_174 {d : Nat} {x130_1 : Int32} {x130_2 : Int32} {x130_3 : Int32} {x130_4 : Int32} {y174_5 : Int32} {ys174_0 : Int32} {z6 : Option Value} {z7 : Option Value} {z8 : Option Value} {z9 : Option Value} {z10 : Option Value} {z11 : Option Value} {z12 : Option Value} {z13 : Option Value} {w : MW} {A : Int32 → Int32 → MW → Prop} {E : Int32 → MW → Prop} {Q : MW → Prop} (hs : q_Mo_flow_174 x130_1 x130_2 x130_3 x130_4 y174_5 ys174_0 w A E Q) (hA : ∀ (x130_5 : Int32) (x130_6 : Int32)  (z7 : Option Value) (z8 : Option Value) (z9 : Option Value) (z10 : Option Value) (z11 : Option Value) (z12 : Option Value) (z13 : Option Value) (w : MW), A x130_5 x130_6 w → Tm (d + 3) 81 130 [some (.ref 127), some (.int x130_1), some (.int x130_2), some (.int x130_3), some (.int x130_4), some (.int x130_5), some (.int x130_6), z7, z8, z9, z10, z11, z12, z13] [] w (RV Q)) (hE : ∀ (e130_5 : Int32)  (v2 : Option Value) (v3 : Option Value) (v4 : Option Value) (v6 : Option Value) (v7 : Option Value) (v8 : Option Value) (v9 : Option Value) (v10 : Option Value) (v11 : Option Value) (v12 : Option Value) (v13 : Option Value) (w : MW), E e130_5 w → Tm (d + 3) 81 275 [some (.ref 127), some (.int x130_1), v2, v3, v4, some (.int e130_5), v6, v7, v8, v9, v10, v11, v12, v13] [] w (RV Q)) : Tm (d + 3) 81 174 [some (.ref 127), some (.int x130_1), some (.int x130_2), some (.int x130_3), some (.int x130_4), some (.int y174_5), z6, z7, z8, z9, z10, z11, z12, z13] [.int ys174_0] w (RV Q) := by
  unfold q_Mo_flow_174 at hs
  refine tm_go 4 (pc' := 181) (L' := [some (.ref 127), some (.int x130_1), some (.int x130_2), some (.int x130_3), some (.int x130_4), some (.int y174_5), (ksl z6), some (.int ys174_0), z8, z9, z10, z11, z12, z13]) (S' := [.int x130_2, .ref 165]) (w' := w) rfl ?_
  obtain ⟨b21, hs⟩ := hs
  refine tm_k (pc' := 182) (L' := [some (.ref 127), some (.int x130_1), some (.int x130_2), some (.int x130_3), some (.int x130_4), some (.int y174_5), (ksl z6), some (.int ys174_0), z8, z9, z10, z11, z12, z13]) (S' := [.int (w.1 165 x130_2.toInt.toNat)]) (w' := w) rfl b21 ?_
  refine tm_i (p1 := 234) (p2 := 185) rfl (fun h22 => ?_) (fun h22 => ?_)
  · replace hs := hs.1 h22
    refine tm_go 1 (pc' := 235) (L' := [some (.ref 127), some (.int x130_1), some (.int x130_2), some (.int x130_3), some (.int x130_4), some (.int y174_5), (ksl z6), some (.int ys174_0), z8, z9, z10, z11, z12, z13]) (S' := [.int 0]) (w' := w) rfl ?_
    exact tx_Mo_flow_235 hs hA hE
  · replace hs := hs.2 h22
    refine tm_go 3 (pc' := 190) (L' := [some (.ref 127), some (.int x130_1), some (.int x130_2), some (.int x130_3), some (.int x130_4), some (.int y174_5), (ksl z6), some (.int ys174_0), z8, z9, z10, z11, z12, z13]) (S' := [.int x130_2, .ref 166]) (w' := w) rfl ?_
    obtain ⟨b29, hs⟩ := hs
    refine tm_k (pc' := 191) (L' := [some (.ref 127), some (.int x130_1), some (.int x130_2), some (.int x130_3), some (.int x130_4), some (.int y174_5), (ksl z6), some (.int ys174_0), z8, z9, z10, z11, z12, z13]) (S' := [.int (w.1 166 x130_2.toInt.toNat)]) (w' := w) rfl b29 ?_
    refine tm_go 3 (pc' := 196) (L' := [some (.ref 127), some (.int x130_1), some (.int x130_2), some (.int x130_3), some (.int x130_4), some (.int y174_5), (ksl z6), some (.int ys174_0), z8, z9, z10, z11, z12, z13]) (S' := [.int x130_1, .ref 183, .int (w.1 166 x130_2.toInt.toNat)]) (w' := w) rfl ?_
    obtain ⟨b30, hs⟩ := hs
    refine tm_k (pc' := 197) (L' := [some (.ref 127), some (.int x130_1), some (.int x130_2), some (.int x130_3), some (.int x130_4), some (.int y174_5), (ksl z6), some (.int ys174_0), z8, z9, z10, z11, z12, z13]) (S' := [.int (w.1 183 x130_1.toInt.toNat), .int (w.1 166 x130_2.toInt.toNat)]) (w' := w) rfl b30 ?_
    refine tm_i (p1 := 234) (p2 := 200) rfl (fun h31 => ?_) (fun h31 => ?_)
    · replace hs := hs.1 h31
      refine tm_go 1 (pc' := 235) (L' := [some (.ref 127), some (.int x130_1), some (.int x130_2), some (.int x130_3), some (.int x130_4), some (.int y174_5), (ksl z6), some (.int ys174_0), z8, z9, z10, z11, z12, z13]) (S' := [.int 0]) (w' := w) rfl ?_
      exact tx_Mo_flow_235 hs hA hE
    · replace hs := hs.2 h31
      refine tm_go 1 (pc' := 202) (L' := [some (.ref 127), some (.int x130_1), some (.int x130_2), some (.int x130_3), some (.int x130_4), some (.int y174_5), (ksl z6), some (.int ys174_0), z8, z9, z10, z11, z12, z13]) (S' := [.int ys174_0]) (w' := w) rfl ?_
      refine tm_i (p1 := 230) (p2 := 205) rfl (fun h32 => ?_) (fun h32 => ?_)
      · replace hs := hs.1 h32
        refine tm_go 2 (pc' := 235) (L' := [some (.ref 127), some (.int x130_1), some (.int x130_2), some (.int x130_3), some (.int x130_4), some (.int y174_5), (ksl z6), some (.int ys174_0), z8, z9, z10, z11, z12, z13]) (S' := [.int 1]) (w' := w) rfl ?_
        exact tx_Mo_flow_235 hs hA hE
      · replace hs := hs.2 h32
        refine tm_go 3 (pc' := 210) (L' := [some (.ref 127), some (.int x130_1), some (.int x130_2), some (.int x130_3), some (.int x130_4), some (.int y174_5), (ksl z6), some (.int ys174_0), z8, z9, z10, z11, z12, z13]) (S' := [.int x130_3, .ref 165]) (w' := w) rfl ?_
        obtain ⟨b33, hs⟩ := hs
        refine tm_k (pc' := 211) (L' := [some (.ref 127), some (.int x130_1), some (.int x130_2), some (.int x130_3), some (.int x130_4), some (.int y174_5), (ksl z6), some (.int ys174_0), z8, z9, z10, z11, z12, z13]) (S' := [.int (w.1 165 x130_3.toInt.toNat)]) (w' := w) rfl b33 ?_
        refine tm_go 3 (pc' := 216) (L' := [some (.ref 127), some (.int x130_1), some (.int x130_2), some (.int x130_3), some (.int x130_4), some (.int y174_5), (ksl z6), some (.int ys174_0), z8, z9, z10, z11, z12, z13]) (S' := [.int x130_3, .ref 164, .int (w.1 165 x130_3.toInt.toNat)]) (w' := w) rfl ?_
        obtain ⟨b34, hs⟩ := hs
        refine tm_k (pc' := 217) (L' := [some (.ref 127), some (.int x130_1), some (.int x130_2), some (.int x130_3), some (.int x130_4), some (.int y174_5), (ksl z6), some (.int ys174_0), z8, z9, z10, z11, z12, z13]) (S' := [.int (w.1 164 x130_3.toInt.toNat), .int (w.1 165 x130_3.toInt.toNat)]) (w' := w) rfl b34 ?_
        refine tm_i (p1 := 234) (p2 := 220) rfl (fun h35 => ?_) (fun h35 => ?_)
        · replace hs := hs.1 h35
          refine tm_go 1 (pc' := 235) (L' := [some (.ref 127), some (.int x130_1), some (.int x130_2), some (.int x130_3), some (.int x130_4), some (.int y174_5), (ksl z6), some (.int ys174_0), z8, z9, z10, z11, z12, z13]) (S' := [.int 0]) (w' := w) rfl ?_
          exact tx_Mo_flow_235 hs hA hE
        · replace hs := hs.2 h35
          refine tm_go 3 (pc' := 224) (L' := [some (.ref 127), some (.int x130_1), some (.int x130_2), some (.int x130_3), some (.int x130_4), some (.int y174_5), (ksl z6), some (.int ys174_0), z8, z9, z10, z11, z12, z13]) (S' := [.int x130_3, .int ys174_0, .ref 127]) (w' := w) rfl ?_
          refine tm_c rfl (Nat.le_of_ble_eq_true rfl) (dm_Mo_mayCome (d := d + 0) hs) (fun v w36 hq => ?_)
          obtain ⟨r36, rfl, hz36, hs⟩ := hq
          refine tm_i (p1 := 234) (p2 := 230) rfl (fun h37 => ?_) (fun h37 => ?_)
          · replace hs := hs.1 h37
            refine tm_go 1 (pc' := 235) (L' := [some (.ref 127), some (.int x130_1), some (.int x130_2), some (.int x130_3), some (.int x130_4), some (.int y174_5), (ksl z6), some (.int ys174_0), z8, z9, z10, z11, z12, z13]) (S' := [.int 0]) (w' := w36) rfl ?_
            exact tx_Mo_flow_235 hs hA hE
          · replace hs := hs.2 h37
            refine tm_go 2 (pc' := 235) (L' := [some (.ref 127), some (.int x130_1), some (.int x130_2), some (.int x130_3), some (.int x130_4), some (.int y174_5), (ksl z6), some (.int ys174_0), z8, z9, z10, z11, z12, z13]) (S' := [.int 1]) (w' := w36) rfl ?_
            exact tx_Mo_flow_235 hs hA hE
set_option maxHeartbeats 4000000 in
set_option maxRecDepth 100000 in
theorem tx_Mo_flow_130 {d : Nat} {x130_1 : Int32} {x130_2 : Int32} {x130_3 : Int32} {x130_4 : Int32} {E : Int32 → MW → Prop} {Q : MW → Prop} (n : Nat) : ∀ (x130_5 : Int32) (x130_6 : Int32)  (z7 : Option Value) (z8 : Option Value) (z9 : Option Value) (z10 : Option Value) (z11 : Option Value) (z12 : Option Value) (z13 : Option Value) (w : MW), q_Mo_flow_130 x130_1 x130_2 x130_3 x130_4 E Q n x130_5 x130_6 w → (∀ (e130_5 : Int32)  (v2 : Option Value) (v3 : Option Value) (v4 : Option Value) (v6 : Option Value) (v7 : Option Value) (v8 : Option Value) (v9 : Option Value) (v10 : Option Value) (v11 : Option Value) (v12 : Option Value) (v13 : Option Value) (w : MW), E e130_5 w → Tm (d + 3) 81 275 [some (.ref 127), some (.int x130_1), v2, v3, v4, some (.int e130_5), v6, v7, v8, v9, v10, v11, v12, v13] [] w (RV Q)) → Tm (d + 3) 81 130 [some (.ref 127), some (.int x130_1), some (.int x130_2), some (.int x130_3), some (.int x130_4), some (.int x130_5), some (.int x130_6), z7, z8, z9, z10, z11, z12, z13] [] w (RV Q) := by
  induction n with
  | zero => intro x130_5 x130_6 z7 z8 z9 z10 z11 z12 z13 w hs; rw [q_Mo_flow_130.eq_1] at hs; exact hs.elim
  | succ n ih =>
    intro x130_5 x130_6 z7 z8 z9 z10 z11 z12 z13 w hs hE
    rw [q_Mo_flow_130.eq_2] at hs
    refine tm_go 1 (pc' := 132) (L' := [some (.ref 127), some (.int x130_1), some (.int x130_2), some (.int x130_3), some (.int x130_4), some (.int x130_5), some (.int x130_6), z7, z8, z9, z10, z11, z12, z13]) (S' := [.int x130_6]) (w' := w) rfl ?_
    refine tm_i (p1 := 275) (p2 := 135) rfl (fun h16 => ?_) (fun h16 => ?_)
    · replace hs := hs.1 h16
      exact hE _ _ _ _ _ _ _ _ _ _ _ _ _ hs
    · replace hs := hs.2 h16
      refine tm_go 4 (pc' := 142) (L' := [some (.ref 127), some (.int x130_1), some (.int x130_2), some (.int x130_3), some (.int x130_4), some (.int x130_5), some (.int x130_6), z7, z8, z9, z10, z11, z12, z13]) (S' := [.int x130_1, .ref 184, .int x130_5]) (w' := w) rfl ?_
      obtain ⟨b17, hs⟩ := hs
      refine tm_k (pc' := 143) (L' := [some (.ref 127), some (.int x130_1), some (.int x130_2), some (.int x130_3), some (.int x130_4), some (.int x130_5), some (.int x130_6), z7, z8, z9, z10, z11, z12, z13]) (S' := [.int (w.1 184 x130_1.toInt.toNat), .int x130_5]) (w' := w) rfl b17 ?_
      refine tm_i (p1 := 275) (p2 := 146) rfl (fun h18 => ?_) (fun h18 => ?_)
      · replace hs := hs.1 h18
        exact hE _ _ _ _ _ _ _ _ _ _ _ _ _ hs
      · replace hs := hs.2 h18
        refine tm_go 2 (pc' := 150) (L' := [some (.ref 127), some (.int x130_1), some (.int x130_2), some (.int x130_3), some (.int x130_4), some (.int x130_5), some (.int x130_6), z7, z8, z9, z10, z11, z12, z13]) (S' := [.int x130_4, .int x130_5]) (w' := w) rfl ?_
        refine tm_i (p1 := 168) (p2 := 153) rfl (fun h19 => ?_) (fun h19 => ?_)
        · replace hs := hs.1 h19
          refine tm_go 3 (pc' := 173) (L' := [some (.ref 127), some (.int x130_1), some (.int x130_2), some (.int x130_3), some (.int x130_4), some (.int x130_5), some (.int x130_6), z7, z8, z9, z10, z11, z12, z13]) (S' := [.int x130_1, .ref 183]) (w' := w) rfl ?_
          obtain ⟨b20, hs⟩ := hs
          refine tm_k (pc' := 174) (L' := [some (.ref 127), some (.int x130_1), some (.int x130_2), some (.int x130_3), some (.int x130_4), some (.int x130_5), some (.int x130_6), z7, z8, z9, z10, z11, z12, z13]) (S' := [.int (w.1 183 x130_1.toInt.toNat)]) (w' := w) rfl b20 ?_
          exact tx_Mo_flow_174 hs (fun q0 q1 q2 q3 q4 q5 q6 q7 q8 q9 hs => ih q0 q1 q2 q3 q4 q5 q6 q7 q8 q9 hs hE) hE
        · replace hs := hs.2 h19
          refine tm_go 7 (pc' := 164) (L' := [some (.ref 127), some (.int x130_1), some (.int x130_2), some (.int x130_3), some (.int x130_4), some (.int x130_5), some (.int x130_6), z7, z8, z9, z10, z11, z12, z13]) (S' := [.int ((x130_4 - (1 : Int32)) - x130_5), .ref 193]) (w' := w) rfl ?_
          obtain ⟨b38, hs⟩ := hs
          refine tm_k (pc' := 165) (L' := [some (.ref 127), some (.int x130_1), some (.int x130_2), some (.int x130_3), some (.int x130_4), some (.int x130_5), some (.int x130_6), z7, z8, z9, z10, z11, z12, z13]) (S' := [.int (w.1 193 (((x130_4 - (1 : Int32)) - x130_5).toInt.toNat))]) (w' := w) rfl b38 ?_
          refine tm_go 1 (pc' := 174) (L' := [some (.ref 127), some (.int x130_1), some (.int x130_2), some (.int x130_3), some (.int x130_4), some (.int x130_5), some (.int x130_6), z7, z8, z9, z10, z11, z12, z13]) (S' := [.int (w.1 193 (((x130_4 - (1 : Int32)) - x130_5).toInt.toNat))]) (w' := w) rfl ?_
          exact tx_Mo_flow_174 hs (fun q0 q1 q2 q3 q4 q5 q6 q7 q8 q9 hs => ih q0 q1 q2 q3 q4 q5 q6 q7 q8 q9 hs hE) hE
set_option maxHeartbeats 4000000 in
set_option maxRecDepth 100000 in
theorem tx_Mo_flow_318 {d : Nat} {x318_1 : Int32} {x318_5 : Int32} {x318_7 : Int32} {x318_8 : Int32} {x318_9 : Int32} {x318_10 : Int32} {E : Int32 → MW → Prop} {Q : MW → Prop} (n : Nat) : ∀ (x318_11 : Int32) (x318_12 : Int32)  (z2 : Option Value) (z3 : Option Value) (z4 : Option Value) (z6 : Option Value) (z13 : Option Value) (w : MW), q_Mo_flow_318 x318_1 x318_5 x318_7 x318_8 x318_9 x318_10 E Q n x318_11 x318_12 w → (∀ (e318_11 : Int32)  (v2 : Option Value) (v3 : Option Value) (v4 : Option Value) (v6 : Option Value) (v12 : Option Value) (v13 : Option Value) (w : MW), E e318_11 w → Tm (d + 3) 81 363 [some (.ref 127), some (.int x318_1), v2, v3, v4, some (.int x318_5), v6, some (.int x318_7), some (.int x318_8), some (.int x318_9), some (.int x318_10), some (.int e318_11), v12, v13] [] w (RV Q)) → Tm (d + 3) 81 318 [some (.ref 127), some (.int x318_1), z2, z3, z4, some (.int x318_5), z6, some (.int x318_7), some (.int x318_8), some (.int x318_9), some (.int x318_10), some (.int x318_11), some (.int x318_12), z13] [] w (RV Q) := by
  induction n with
  | zero => intro x318_11 x318_12 z2 z3 z4 z6 z13 w hs; rw [q_Mo_flow_318.eq_1] at hs; exact hs.elim
  | succ n ih =>
    intro x318_11 x318_12 z2 z3 z4 z6 z13 w hs hE
    rw [q_Mo_flow_318.eq_2] at hs
    refine tm_go 2 (pc' := 322) (L' := [some (.ref 127), some (.int x318_1), z2, z3, z4, some (.int x318_5), z6, some (.int x318_7), some (.int x318_8), some (.int x318_9), some (.int x318_10), some (.int x318_11), some (.int x318_12), z13]) (S' := [.int x318_5, .int x318_12]) (w' := w) rfl ?_
    refine tm_i (p1 := 363) (p2 := 325) rfl (fun h43 => ?_) (fun h43 => ?_)
    · replace hs := hs.1 h43
      exact hE _ _ _ _ _ _ _ _ hs
    · replace hs := hs.2 h43
      refine tm_go 1 (pc' := 327) (L' := [some (.ref 127), some (.int x318_1), z2, z3, z4, some (.int x318_5), z6, some (.int x318_7), some (.int x318_8), some (.int x318_9), some (.int x318_10), some (.int x318_11), some (.int x318_12), z13]) (S' := [.int x318_11]) (w' := w) rfl ?_
      refine tm_i (p1 := 363) (p2 := 330) rfl (fun h44 => ?_) (fun h44 => ?_)
      · replace hs := hs.1 h44
        exact hE _ _ _ _ _ _ _ _ hs
      · replace hs := hs.2 h44
        refine tm_go 2 (pc' := 334) (L' := [some (.ref 127), some (.int x318_1), z2, z3, z4, some (.int x318_5), z6, some (.int x318_7), some (.int x318_8), some (.int x318_9), some (.int x318_10), some (.int x318_11), some (.int x318_12), z13]) (S' := [.int x318_12, .int x318_7]) (w' := w) rfl ?_
        refine tm_i (p1 := 350) (p2 := 337) rfl (fun h45 => ?_) (fun h45 => ?_)
        · replace hs := hs.1 h45
          refine tm_go 5 (pc' := 318) (L' := [some (.ref 127), some (.int x318_1), z2, z3, z4, some (.int x318_5), z6, some (.int x318_7), some (.int x318_8), some (.int x318_9), some (.int x318_10), some (.int 1), some (.int (x318_12 + (1 : Int32))), z13]) (S' := []) (w' := w) rfl ?_
          exact ih _ _ _ _ _ _ _ _ hs hE
        · replace hs := hs.2 h45
          refine tm_go 5 (pc' := 346) (L' := [some (.ref 127), some (.int x318_1), z2, z3, z4, some (.int x318_5), z6, some (.int x318_7), some (.int x318_8), some (.int x318_9), some (.int x318_10), some (.int x318_11), some (.int x318_12), z13]) (S' := [.int (x318_7 - x318_12), .ref 193]) (w' := w) rfl ?_
          obtain ⟨b46, hs⟩ := hs
          refine tm_k (pc' := 347) (L' := [some (.ref 127), some (.int x318_1), z2, z3, z4, some (.int x318_5), z6, some (.int x318_7), some (.int x318_8), some (.int x318_9), some (.int x318_10), some (.int x318_11), some (.int x318_12), z13]) (S' := [.int (w.1 193 ((x318_7 - x318_12).toInt.toNat))]) (w' := w) rfl b46 ?_
          refine tm_i (p1 := 354) (p2 := 350) rfl (fun h47 => ?_) (fun h47 => ?_)
          · replace hs := hs.1 h47
            refine tm_go 4 (pc' := 318) (L' := [some (.ref 127), some (.int x318_1), z2, z3, z4, some (.int x318_5), z6, some (.int x318_7), some (.int x318_8), some (.int x318_9), some (.int x318_10), some (.int 0), some (.int (x318_12 + (1 : Int32))), z13]) (S' := []) (w' := w) rfl ?_
            exact ih _ _ _ _ _ _ _ _ hs hE
          · replace hs := hs.2 h47
            refine tm_go 5 (pc' := 318) (L' := [some (.ref 127), some (.int x318_1), z2, z3, z4, some (.int x318_5), z6, some (.int x318_7), some (.int x318_8), some (.int x318_9), some (.int x318_10), some (.int 1), some (.int (x318_12 + (1 : Int32))), z13]) (S' := []) (w' := w) rfl ?_
            exact ih _ _ _ _ _ _ _ _ hs hE
set_option maxHeartbeats 4000000 in
set_option maxRecDepth 100000 in
theorem tx_Mo_flow_438 {d : Nat} {x400_1 : Int32} {x400_5 : Int32} {y438_7 : Int32} {x400_8 : Int32} {x400_9 : Int32} {x400_10 : Int32} {y438_12 : Int32} {ys438_0 : Int32} {z2 : Option Value} {z3 : Option Value} {z4 : Option Value} {z6 : Option Value} {z11 : Option Value} {z13 : Option Value} {w : MW} {A : Int32 → Int32 → MW → Prop} {E : Int32 → MW → Prop} {Q : MW → Prop} (hs : q_Mo_flow_438 x400_1 x400_5 y438_7 x400_8 x400_9 x400_10 y438_12 ys438_0 w A E Q) (hA : ∀ (x400_7 : Int32) (x400_12 : Int32)  (z2 : Option Value) (z3 : Option Value) (z4 : Option Value) (z6 : Option Value) (z11 : Option Value) (z13 : Option Value) (w : MW), A x400_7 x400_12 w → Tm (d + 3) 81 400 [some (.ref 127), some (.int x400_1), z2, z3, z4, some (.int x400_5), z6, some (.int x400_7), some (.int x400_8), some (.int x400_9), some (.int x400_10), z11, some (.int x400_12), z13] [] w (RV Q)) (hE : ∀ (e400_7 : Int32)  (v2 : Option Value) (v3 : Option Value) (v4 : Option Value) (v6 : Option Value) (v9 : Option Value) (v10 : Option Value) (v11 : Option Value) (v12 : Option Value) (v13 : Option Value) (w : MW), E e400_7 w → Tm (d + 3) 81 488 [some (.ref 127), some (.int x400_1), v2, v3, v4, some (.int x400_5), v6, some (.int e400_7), some (.int x400_8), v9, v10, v11, v12, v13] [] w (RV Q)) : Tm (d + 3) 81 438 [some (.ref 127), some (.int x400_1), z2, z3, z4, some (.int x400_5), z6, some (.int y438_7), some (.int x400_8), some (.int x400_9), some (.int x400_10), z11, some (.int y438_12), z13] [.int ys438_0] w (RV Q) := by
  unfold q_Mo_flow_438 at hs
  refine tm_go 9 (pc' := 454) (L' := [some (.ref 127), some (.int x400_1), z2, z3, z4, some (.int x400_5), z6, some (.int y438_7), some (.int x400_8), some (.int x400_9), some (.int x400_10), z11, some (.int y438_12), some (.int ys438_0)]) (S' := [.int (x400_9 - x400_9 / (2 : Int32) * (2 : Int32)), .int ((200 : Int32) * x400_10), .ref 172]) (w' := w) rfl ?_
  refine tm_i (p1 := 462) (p2 := 457) rfl (fun h54 => ?_) (fun h54 => ?_)
  · replace hs := hs.1 h54
    refine tm_go 3 (pc' := 468) (L' := [some (.ref 127), some (.int x400_1), z2, z3, z4, some (.int x400_5), z6, some (.int y438_7), some (.int x400_8), some (.int x400_9), some (.int x400_10), z11, some (.int y438_12), some (.int ys438_0)]) (S' := [.int x400_10, .ref 169, .int ((200 : Int32) * x400_10), .ref 172]) (w' := w) rfl ?_
    obtain ⟨b55, hs⟩ := hs
    refine tm_k (pc' := 469) (L' := [some (.ref 127), some (.int x400_1), z2, z3, z4, some (.int x400_5), z6, some (.int y438_7), some (.int x400_8), some (.int x400_9), some (.int x400_10), z11, some (.int y438_12), some (.int ys438_0)]) (S' := [.int (w.1 169 x400_10.toInt.toNat), .int ((200 : Int32) * x400_10), .ref 172]) (w' := w) rfl b55 ?_
    refine tm_go 7 (pc' := 478) (L' := [some (.ref 127), some (.int x400_1), z2, z3, z4, some (.int x400_5), z6, some (.int y438_7), some (.int x400_8), some (.int x400_9), some (.int x400_10), z11, some (.int y438_12), some (.int ys438_0)]) (S' := [.int ((Int32.toInt8 ys438_0).toInt32), .int (((200 : Int32) * x400_10) + (((w.1 169 x400_10.toInt.toNat) - (1 : Int32)) - y438_12)), .ref 172]) (w' := w) rfl ?_
    obtain ⟨b56, hs⟩ := hs
    refine tm_k (pc' := 479) (L' := [some (.ref 127), some (.int x400_1), z2, z3, z4, some (.int x400_5), z6, some (.int y438_7), some (.int x400_8), some (.int x400_9), some (.int x400_10), z11, some (.int y438_12), some (.int ys438_0)]) (S' := []) (w' := (sI w 172 ((((200 : Int32) * x400_10) + (((w.1 169 x400_10.toInt.toNat) - (1 : Int32)) - y438_12)).toInt.toNat) (vp_nar .byte ((Int32.toInt8 ys438_0).toInt32)))) rfl b56 ?_
    refine tm_go 3 (pc' := 400) (L' := [some (.ref 127), some (.int x400_1), z2, z3, z4, some (.int x400_5), (ksl z6), some (.int (y438_7 + (1 : Int32))), some (.int x400_8), some (.int x400_9), some (.int x400_10), (ksl z11), some (.int (y438_12 + (1 : Int32))), some (.int ys438_0)]) (S' := []) (w' := (sI w 172 ((((200 : Int32) * x400_10) + (((w.1 169 x400_10.toInt.toNat) - (1 : Int32)) - y438_12)).toInt.toNat) (vp_nar .byte ((Int32.toInt8 ys438_0).toInt32)))) rfl ?_
    exact hA _ _ _ _ _ _ _ _ _ hs
  · replace hs := hs.2 h54
    refine tm_go 5 (pc' := 478) (L' := [some (.ref 127), some (.int x400_1), z2, z3, z4, some (.int x400_5), z6, some (.int y438_7), some (.int x400_8), some (.int x400_9), some (.int x400_10), z11, some (.int y438_12), some (.int ys438_0)]) (S' := [.int ((Int32.toInt8 ys438_0).toInt32), .int (((200 : Int32) * x400_10) + y438_12), .ref 172]) (w' := w) rfl ?_
    obtain ⟨b57, hs⟩ := hs
    refine tm_k (pc' := 479) (L' := [some (.ref 127), some (.int x400_1), z2, z3, z4, some (.int x400_5), z6, some (.int y438_7), some (.int x400_8), some (.int x400_9), some (.int x400_10), z11, some (.int y438_12), some (.int ys438_0)]) (S' := []) (w' := (sI w 172 ((((200 : Int32) * x400_10) + y438_12).toInt.toNat) (vp_nar .byte ((Int32.toInt8 ys438_0).toInt32)))) rfl b57 ?_
    refine tm_go 3 (pc' := 400) (L' := [some (.ref 127), some (.int x400_1), z2, z3, z4, some (.int x400_5), (ksl z6), some (.int (y438_7 + (1 : Int32))), some (.int x400_8), some (.int x400_9), some (.int x400_10), (ksl z11), some (.int (y438_12 + (1 : Int32))), some (.int ys438_0)]) (S' := []) (w' := (sI w 172 ((((200 : Int32) * x400_10) + y438_12).toInt.toNat) (vp_nar .byte ((Int32.toInt8 ys438_0).toInt32)))) rfl ?_
    exact hA _ _ _ _ _ _ _ _ _ hs
set_option maxHeartbeats 4000000 in
set_option maxRecDepth 100000 in
theorem tx_Mo_flow_400 {d : Nat} {x400_1 : Int32} {x400_5 : Int32} {x400_8 : Int32} {x400_9 : Int32} {x400_10 : Int32} {E : Int32 → MW → Prop} {Q : MW → Prop} (n : Nat) : ∀ (x400_7 : Int32) (x400_12 : Int32)  (z2 : Option Value) (z3 : Option Value) (z4 : Option Value) (z6 : Option Value) (z11 : Option Value) (z13 : Option Value) (w : MW), q_Mo_flow_400 x400_1 x400_5 x400_8 x400_9 x400_10 E Q n x400_7 x400_12 w → (∀ (e400_7 : Int32)  (v2 : Option Value) (v3 : Option Value) (v4 : Option Value) (v6 : Option Value) (v9 : Option Value) (v10 : Option Value) (v11 : Option Value) (v12 : Option Value) (v13 : Option Value) (w : MW), E e400_7 w → Tm (d + 3) 81 488 [some (.ref 127), some (.int x400_1), v2, v3, v4, some (.int x400_5), v6, some (.int e400_7), some (.int x400_8), v9, v10, v11, v12, v13] [] w (RV Q)) → Tm (d + 3) 81 400 [some (.ref 127), some (.int x400_1), z2, z3, z4, some (.int x400_5), z6, some (.int x400_7), some (.int x400_8), some (.int x400_9), some (.int x400_10), z11, some (.int x400_12), z13] [] w (RV Q) := by
  induction n with
  | zero => intro x400_7 x400_12 z2 z3 z4 z6 z11 z13 w hs; rw [q_Mo_flow_400.eq_1] at hs; exact hs.elim
  | succ n ih =>
    intro x400_7 x400_12 z2 z3 z4 z6 z11 z13 w hs hE
    rw [q_Mo_flow_400.eq_2] at hs
    refine tm_go 4 (pc' := 408) (L' := [some (.ref 127), some (.int x400_1), z2, z3, z4, some (.int x400_5), z6, some (.int x400_7), some (.int x400_8), some (.int x400_9), some (.int x400_10), z11, some (.int x400_12), z13]) (S' := [.int x400_10, .ref 169, .int x400_12]) (w' := w) rfl ?_
    obtain ⟨b50, hs⟩ := hs
    refine tm_k (pc' := 409) (L' := [some (.ref 127), some (.int x400_1), z2, z3, z4, some (.int x400_5), z6, some (.int x400_7), some (.int x400_8), some (.int x400_9), some (.int x400_10), z11, some (.int x400_12), z13]) (S' := [.int (w.1 169 x400_10.toInt.toNat), .int x400_12]) (w' := w) rfl b50 ?_
    refine tm_i (p1 := 488) (p2 := 412) rfl (fun h51 => ?_) (fun h51 => ?_)
    · replace hs := hs.1 h51
      exact hE _ _ _ _ _ _ _ _ _ _ _ hs
    · replace hs := hs.2 h51
      refine tm_go 2 (pc' := 416) (L' := [some (.ref 127), some (.int x400_1), z2, z3, z4, some (.int x400_5), z6, some (.int x400_7), some (.int x400_8), some (.int x400_9), some (.int x400_10), z11, some (.int x400_12), z13]) (S' := [.int x400_5, .int x400_7]) (w' := w) rfl ?_
      refine tm_i (p1 := 428) (p2 := 419) rfl (fun h52 => ?_) (fun h52 => ?_)
      · replace hs := hs.1 h52
        refine tm_go 5 (pc' := 437) (L' := [some (.ref 127), some (.int x400_1), z2, z3, z4, some (.int x400_5), z6, some (.int x400_7), some (.int x400_8), some (.int x400_9), some (.int x400_10), z11, some (.int x400_12), z13]) (S' := [.int (x400_7 - x400_5), .ref 193]) (w' := w) rfl ?_
        obtain ⟨b53, hs⟩ := hs
        refine tm_k (pc' := 438) (L' := [some (.ref 127), some (.int x400_1), z2, z3, z4, some (.int x400_5), z6, some (.int x400_7), some (.int x400_8), some (.int x400_9), some (.int x400_10), z11, some (.int x400_12), z13]) (S' := [.int (w.1 193 ((x400_7 - x400_5).toInt.toNat))]) (w' := w) rfl b53 ?_
        exact tx_Mo_flow_438 hs (fun q0 q1 q2 q3 q4 q5 q6 q7 q8 hs => ih q0 q1 q2 q3 q4 q5 q6 q7 q8 hs hE) hE
      · replace hs := hs.2 h52
        refine tm_go 3 (pc' := 424) (L' := [some (.ref 127), some (.int x400_1), z2, z3, z4, some (.int x400_5), z6, some (.int x400_7), some (.int x400_8), some (.int x400_9), some (.int x400_10), z11, some (.int x400_12), z13]) (S' := [.int x400_1, .ref 183]) (w' := w) rfl ?_
        obtain ⟨b58, hs⟩ := hs
        refine tm_k (pc' := 425) (L' := [some (.ref 127), some (.int x400_1), z2, z3, z4, some (.int x400_5), z6, some (.int x400_7), some (.int x400_8), some (.int x400_9), some (.int x400_10), z11, some (.int x400_12), z13]) (S' := [.int (w.1 183 x400_1.toInt.toNat)]) (w' := w) rfl b58 ?_
        refine tm_go 1 (pc' := 438) (L' := [some (.ref 127), some (.int x400_1), z2, z3, z4, some (.int x400_5), z6, some (.int x400_7), some (.int x400_8), some (.int x400_9), some (.int x400_10), z11, some (.int x400_12), z13]) (S' := [.int (w.1 183 x400_1.toInt.toNat)]) (w' := w) rfl ?_
        exact tx_Mo_flow_438 hs (fun q0 q1 q2 q3 q4 q5 q6 q7 q8 hs => ih q0 q1 q2 q3 q4 q5 q6 q7 q8 hs hE) hE
set_option maxHeartbeats 4000000 in
set_option maxRecDepth 100000 in
theorem tx_Mo_flow_281 {d : Nat} {x281_1 : Int32} {x281_5 : Int32} {E : MW → Prop} {Q : MW → Prop} (n : Nat) : ∀ (x281_7 : Int32) (x281_8 : Int32)  (z2 : Option Value) (z3 : Option Value) (z4 : Option Value) (z6 : Option Value) (z9 : Option Value) (z10 : Option Value) (z11 : Option Value) (z12 : Option Value) (z13 : Option Value) (w : MW), q_Mo_flow_281 x281_1 x281_5 E Q n x281_7 x281_8 w → (∀  (v0 : Option Value) (v1 : Option Value) (v2 : Option Value) (v3 : Option Value) (v4 : Option Value) (v5 : Option Value) (v6 : Option Value) (v7 : Option Value) (v8 : Option Value) (v9 : Option Value) (v10 : Option Value) (v11 : Option Value) (v12 : Option Value) (v13 : Option Value) (w : MW), E  w → Tm (d + 3) 81 494 [v0, v1, v2, v3, v4, v5, v6, v7, v8, v9, v10, v11, v12, v13] [] w (RV Q)) → Tm (d + 3) 81 281 [some (.ref 127), some (.int x281_1), z2, z3, z4, some (.int x281_5), z6, some (.int x281_7), some (.int x281_8), z9, z10, z11, z12, z13] [] w (RV Q) := by
  induction n with
  | zero => intro x281_7 x281_8 z2 z3 z4 z6 z9 z10 z11 z12 z13 w hs; rw [q_Mo_flow_281.eq_1] at hs; exact hs.elim
  | succ n ih =>
    intro x281_7 x281_8 z2 z3 z4 z6 z9 z10 z11 z12 z13 w hs hE
    rw [q_Mo_flow_281.eq_2] at hs
    refine tm_go 4 (pc' := 288) (L' := [some (.ref 127), some (.int x281_1), z2, z3, z4, some (.int x281_5), z6, some (.int x281_7), some (.int x281_8), z9, z10, z11, z12, z13]) (S' := [.int x281_1, .ref 185, .int x281_8]) (w' := w) rfl ?_
    obtain ⟨b40, hs⟩ := hs
    refine tm_k (pc' := 289) (L' := [some (.ref 127), some (.int x281_1), z2, z3, z4, some (.int x281_5), z6, some (.int x281_7), some (.int x281_8), z9, z10, z11, z12, z13]) (S' := [.int (w.1 185 x281_1.toInt.toNat), .int x281_8]) (w' := w) rfl b40 ?_
    refine tm_i (p1 := 494) (p2 := 292) rfl (fun h41 => ?_) (fun h41 => ?_)
    · replace hs := hs.1 h41
      exact hE _ _ _ _ _ _ _ _ _ _ _ _ _ _ _ hs
    · replace hs := hs.2 h41
      refine tm_go 7 (pc' := 303) (L' := [some (.ref 127), some (.int x281_1), z2, z3, z4, some (.int x281_5), z6, some (.int x281_7), some (.int x281_8), z9, z10, z11, z12, z13]) (S' := [.int (((24 : Int32) * x281_1) + x281_8), .ref 186]) (w' := w) rfl ?_
      obtain ⟨b42, hs⟩ := hs
      refine tm_k (pc' := 304) (L' := [some (.ref 127), some (.int x281_1), z2, z3, z4, some (.int x281_5), z6, some (.int x281_7), some (.int x281_8), z9, z10, z11, z12, z13]) (S' := [.int (w.1 186 ((((24 : Int32) * x281_1) + x281_8).toInt.toNat))]) (w' := w) rfl b42 ?_
      refine tm_go 9 (pc' := 318) (L' := [some (.ref 127), some (.int x281_1), z2, z3, z4, some (.int x281_5), z6, some (.int x281_7), some (.int x281_8), some (.int (w.1 186 ((((24 : Int32) * x281_1) + x281_8).toInt.toNat))), some (.int ((w.1 186 ((((24 : Int32) * x281_1) + x281_8).toInt.toNat)) / (2 : Int32))), some (.int 0), some (.int 1), z13]) (S' := []) (w' := w) rfl ?_
      refine tx_Mo_flow_318 FU _ _ _ _ _ _ _ _ hs (fun e318_11_48 z48_2 z48_3 z48_4 z48_6 z48_12 z48_13 w48 hs => ?_)
      refine tm_go 1 (pc' := 365) (L' := [some (.ref 127), some (.int x281_1), z48_2, z48_3, z48_4, some (.int x281_5), z48_6, some (.int x281_7), some (.int x281_8), some (.int (w.1 186 ((((24 : Int32) * x281_1) + x281_8).toInt.toNat))), some (.int ((w.1 186 ((((24 : Int32) * x281_1) + x281_8).toInt.toNat)) / (2 : Int32))), some (.int e318_11_48), z48_12, z48_13]) (S' := [.int e318_11_48]) (w' := w48) rfl ?_
      refine tm_i (p1 := 397) (p2 := 368) rfl (fun h49 => ?_) (fun h49 => ?_)
      · replace hs := hs.1 h49
        refine tm_go 2 (pc' := 400) (L' := [some (.ref 127), some (.int x281_1), z48_2, z48_3, z48_4, some (.int x281_5), z48_6, some (.int x281_7), some (.int x281_8), some (.int (w.1 186 ((((24 : Int32) * x281_1) + x281_8).toInt.toNat))), some (.int ((w.1 186 ((((24 : Int32) * x281_1) + x281_8).toInt.toNat)) / (2 : Int32))), some (.int e318_11_48), some (.int 0), z48_13]) (S' := []) (w' := w48) rfl ?_
        refine tx_Mo_flow_400 FU _ _ _ _ _ _ _ _ _ hs (fun e400_7_59 z59_2 z59_3 z59_4 z59_6 z59_9 z59_10 z59_11 z59_12 z59_13 w59 hs => ?_)
        refine tm_go 2 (pc' := 281) (L' := [some (.ref 127), some (.int x281_1), z59_2, z59_3, z59_4, some (.int x281_5), z59_6, some (.int e400_7_59), some (.int (x281_8 + (1 : Int32))), z59_9, z59_10, z59_11, z59_12, z59_13]) (S' := []) (w' := w59) rfl ?_
        exact ih _ _ _ _ _ _ _ _ _ _ _ _ hs hE
      · replace hs := hs.2 h49
        refine tm_go 9 (pc' := 384) (L' := [some (.ref 127), some (.int x281_1), z48_2, z48_3, z48_4, some (.int x281_5), z48_6, some (.int x281_7), some (.int x281_8), some (.int (w.1 186 ((((24 : Int32) * x281_1) + x281_8).toInt.toNat))), some (.int ((w.1 186 ((((24 : Int32) * x281_1) + x281_8).toInt.toNat)) / (2 : Int32))), some (.int e318_11_48), z48_12, z48_13]) (S' := [.int x281_1, .ref 183, .int ((w48.1 127 4) + ((w.1 186 ((((24 : Int32) * x281_1) + x281_8).toInt.toNat)) / (2 : Int32))), .ref 173]) (w' := w48) rfl ?_
        obtain ⟨b60, hs⟩ := hs
        refine tm_k (pc' := 385) (L' := [some (.ref 127), some (.int x281_1), z48_2, z48_3, z48_4, some (.int x281_5), z48_6, some (.int x281_7), some (.int x281_8), some (.int (w.1 186 ((((24 : Int32) * x281_1) + x281_8).toInt.toNat))), some (.int ((w.1 186 ((((24 : Int32) * x281_1) + x281_8).toInt.toNat)) / (2 : Int32))), some (.int e318_11_48), z48_12, z48_13]) (S' := [.int (w48.1 183 x281_1.toInt.toNat), .int ((w48.1 127 4) + ((w.1 186 ((((24 : Int32) * x281_1) + x281_8).toInt.toNat)) / (2 : Int32))), .ref 173]) (w' := w48) rfl b60 ?_
        obtain ⟨b61, hs⟩ := hs
        refine tm_k (pc' := 386) (L' := [some (.ref 127), some (.int x281_1), z48_2, z48_3, z48_4, some (.int x281_5), z48_6, some (.int x281_7), some (.int x281_8), some (.int (w.1 186 ((((24 : Int32) * x281_1) + x281_8).toInt.toNat))), some (.int ((w.1 186 ((((24 : Int32) * x281_1) + x281_8).toInt.toNat)) / (2 : Int32))), some (.int e318_11_48), z48_12, z48_13]) (S' := []) (w' := (sI w48 173 (((w48.1 127 4) + ((w.1 186 ((((24 : Int32) * x281_1) + x281_8).toInt.toNat)) / (2 : Int32))).toInt.toNat) (w48.1 183 x281_1.toInt.toNat))) rfl b61 ?_
        refine tm_go 5 (pc' := 394) (L' := [some (.ref 127), some (.int x281_1), z48_2, z48_3, z48_4, some (.int x281_5), z48_6, some (.int x281_7), some (.int x281_8), some (.int (w.1 186 ((((24 : Int32) * x281_1) + x281_8).toInt.toNat))), some (.int ((w.1 186 ((((24 : Int32) * x281_1) + x281_8).toInt.toNat)) / (2 : Int32))), some (.int e318_11_48), z48_12, z48_13]) (S' := [.int ((w48.1 127 4) + ((w.1 186 ((((24 : Int32) * x281_1) + x281_8).toInt.toNat)) / (2 : Int32))), .ref 127]) (w' := (sI w48 173 (((w48.1 127 4) + ((w.1 186 ((((24 : Int32) * x281_1) + x281_8).toInt.toNat)) / (2 : Int32))).toInt.toNat) (w48.1 183 x281_1.toInt.toNat))) rfl ?_
        refine tm_c rfl (Nat.le_of_ble_eq_true rfl) (dm_Mo_forget (d := d + 2) hs) (fun v w62 hq => ?_)
        obtain ⟨rfl, hs⟩ := hq
        refine tm_go 2 (pc' := 400) (L' := [some (.ref 127), some (.int x281_1), z48_2, z48_3, z48_4, some (.int x281_5), z48_6, some (.int x281_7), some (.int x281_8), some (.int (w.1 186 ((((24 : Int32) * x281_1) + x281_8).toInt.toNat))), some (.int ((w.1 186 ((((24 : Int32) * x281_1) + x281_8).toInt.toNat)) / (2 : Int32))), some (.int e318_11_48), some (.int 0), z48_13]) (S' := []) (w' := w62) rfl ?_
        refine tx_Mo_flow_400 FU _ _ _ _ _ _ _ _ _ hs (fun e400_7_63 z63_2 z63_3 z63_4 z63_6 z63_9 z63_10 z63_11 z63_12 z63_13 w63 hs => ?_)
        refine tm_go 2 (pc' := 281) (L' := [some (.ref 127), some (.int x281_1), z63_2, z63_3, z63_4, some (.int x281_5), z63_6, some (.int e400_7_63), some (.int (x281_8 + (1 : Int32))), z63_9, z63_10, z63_11, z63_12, z63_13]) (S' := []) (w' := w63) rfl ?_
        exact ih _ _ _ _ _ _ _ _ _ _ _ _ hs hE
set_option maxHeartbeats 4000000 in
set_option maxRecDepth 100000 in
theorem dm_Mo_flow {d : Nat} {w : MW} {a0 : Int32} {Q : MW → Prop} (hs : p_Mo_flow w a0 Q) : Tc (d + 3) 81 [.ref 127, .int a0] w (RV Q) := by
  unfold p_Mo_flow at hs
  refine tm_go 3 (pc' := 5) (L' := [some (.ref 127), some (.int a0), none, none, none, none, none, none, none, none, none, none, none, none]) (S' := [.int a0, .ref 181]) (w' := w) rfl ?_
  obtain ⟨b1, hs⟩ := hs
  refine tm_k (pc' := 6) (L' := [some (.ref 127), some (.int a0), none, none, none, none, none, none, none, none, none, none, none, none]) (S' := [.int (w.1 181 a0.toInt.toNat)]) (w' := w) rfl b1 ?_
  refine tm_go 4 (pc' := 12) (L' := [some (.ref 127), some (.int a0), some (.int (w.1 181 a0.toInt.toNat)), none, none, none, none, none, none, none, none, none, none, none]) (S' := [.int a0, .ref 182]) (w' := w) rfl ?_
  obtain ⟨b2, hs⟩ := hs
  refine tm_k (pc' := 13) (L' := [some (.ref 127), some (.int a0), some (.int (w.1 181 a0.toInt.toNat)), none, none, none, none, none, none, none, none, none, none, none]) (S' := [.int (w.1 182 a0.toInt.toNat)]) (w' := w) rfl b2 ?_
  refine tm_go 5 (pc' := 20) (L' := [some (.ref 127), some (.int a0), some (.int (w.1 181 a0.toInt.toNat)), some (.int (w.1 182 a0.toInt.toNat)), some (.int 0), some (.int 0), none, none, none, none, none, none, none, none]) (S' := []) (w' := w) rfl ?_
  refine tx_Mo_flow_20 FU _ _ _ _ _ _ _ _ _ _ _ hs (fun e20_4_15 z15_5 z15_6 z15_7 z15_8 z15_9 z15_10 z15_11 z15_12 z15_13 w15 hs => ?_)
  refine tm_go 4 (pc' := 130) (L' := [some (.ref 127), some (.int a0), some (.int (w.1 181 a0.toInt.toNat)), some (.int (w.1 182 a0.toInt.toNat)), some (.int e20_4_15), some (.int 0), some (.int 1), z15_7, z15_8, z15_9, z15_10, z15_11, z15_12, z15_13]) (S' := []) (w' := w15) rfl ?_
  refine tx_Mo_flow_130 FU _ _ _ _ _ _ _ _ _ _ hs (fun e130_5_39 z39_2 z39_3 z39_4 z39_6 z39_7 z39_8 z39_9 z39_10 z39_11 z39_12 z39_13 w39 hs => ?_)
  refine tm_go 4 (pc' := 281) (L' := [some (.ref 127), some (.int a0), z39_2, z39_3, z39_4, some (.int e130_5_39), (ksl z39_6), some (.int 0), some (.int 0), z39_9, z39_10, z39_11, z39_12, z39_13]) (S' := []) (w' := w39) rfl ?_
  refine tx_Mo_flow_281 FU _ _ _ _ _ _ _ _ _ _ _ _ hs (fun  z64_0 z64_1 z64_2 z64_3 z64_4 z64_5 z64_6 z64_7 z64_8 z64_9 z64_10 z64_11 z64_12 z64_13 w64 hs => ?_)
  exact tm_r rfl ⟨rfl, hs⟩
set_option maxHeartbeats 4000000 in
set_option maxRecDepth 100000 in
theorem dm_Mo_sensed {d : Nat} {w : MW} {a0 : Int32} {b0 : Int32} {Q : Int64 → MW → Prop} (hs : p_Mo_sensed w a0 b0 Q) : Tc (d + 3) 97 [.ref 127, .int a0, .int b0] w (RJ Q) := by
  unfold p_Mo_sensed at hs
  refine tm_go 1 (pc' := 1) (L' := [some (.ref 127), some (.int a0), some (.int b0)]) (S' := [.int a0]) (w' := w) rfl ?_
  by_cases h1 : a0.toInt = 0
  · replace hs := hs.1 h1
    refine tm_tab (dflt := 119) (lo := 0) (ts := [32, 58, 83, 109]) rfl (by rw [h1]; decide) (t := 32) (by rw [h1]; rfl) ?_
    refine tm_go 2 (pc' := 34) (L' := [some (.ref 127), some (.int a0), some (.int b0)]) (S' := [.int b0, .ref 127]) (w' := w) rfl ?_
    refine tm_c rfl (Nat.le_of_ble_eq_true rfl) (dm_Mo_isTank (d := d + 1) hs) (fun v w2 hq => ?_)
    obtain ⟨r2, rfl, hz2, hs⟩ := hq
    refine tm_i (p1 := 54) (p2 := 40) rfl (fun h3 => ?_) (fun h3 => ?_)
    · replace hs := hs.1 h3
      refine tm_go 1 (pc' := 57) (L' := [some (.ref 127), some (.int a0), some (.int b0)]) (S' := [.long (-1)]) (w' := w2) rfl ?_
      exact tm_r rfl ⟨_, rfl, hs⟩
    · replace hs := hs.2 h3
      refine tm_go 4 (pc' := 48) (L' := [some (.ref 127), some (.int a0), some (.int b0)]) (S' := [.int b0, .ref 165, .long 1000]) (w' := w2) rfl ?_
      obtain ⟨b4, hs⟩ := hs
      refine tm_k (pc' := 49) (L' := [some (.ref 127), some (.int a0), some (.int b0)]) (S' := [.int (w2.1 165 b0.toInt.toNat), .long 1000]) (w' := w2) rfl b4 ?_
      refine tm_go 3 (pc' := 57) (L' := [some (.ref 127), some (.int a0), some (.int b0)]) (S' := [.long ((1000 : Int64) * (Int32.toInt64 (w2.1 165 b0.toInt.toNat)))]) (w' := w2) rfl ?_
      exact tm_r rfl ⟨_, rfl, hs⟩
  · replace hs := hs.2 h1
    by_cases h5 : a0.toInt = 1
    · replace hs := hs.1 h5
      refine tm_tab (dflt := 119) (lo := 0) (ts := [32, 58, 83, 109]) rfl (by rw [h5]; decide) (t := 58) (by rw [h5]; rfl) ?_
      refine tm_go 2 (pc' := 60) (L' := [some (.ref 127), some (.int a0), some (.int b0)]) (S' := [.int b0, .ref 127]) (w' := w) rfl ?_
      refine tm_c rfl (Nat.le_of_ble_eq_true rfl) (dm_Mo_holdsLiquid (d := d + 0) hs) (fun v w6 hq => ?_)
      obtain ⟨r6, rfl, hz6, hs⟩ := hq
      refine tm_i (p1 := 79) (p2 := 66) rfl (fun h7 => ?_) (fun h7 => ?_)
      · replace hs := hs.1 h7
        refine tm_go 1 (pc' := 82) (L' := [some (.ref 127), some (.int a0), some (.int b0)]) (S' := [.long (-1)]) (w' := w6) rfl ?_
        exact tm_r rfl ⟨_, rfl, hs⟩
      · replace hs := hs.2 h7
        refine tm_go 3 (pc' := 71) (L' := [some (.ref 127), some (.int a0), some (.int b0)]) (S' := [.int b0, .ref 127, .long 1000]) (w' := w6) rfl ?_
        refine tm_c rfl (Nat.le_of_ble_eq_true rfl) (dm_Mo_liquidIn (d := d + 2) hs) (fun v w8 hq => ?_)
        obtain ⟨r8, rfl, hs⟩ := hq
        refine tm_go 3 (pc' := 82) (L' := [some (.ref 127), some (.int a0), some (.int b0)]) (S' := [.long ((1000 : Int64) * (Int32.toInt64 r8))]) (w' := w8) rfl ?_
        exact tm_r rfl ⟨_, rfl, hs⟩
    · replace hs := hs.2 h5
      by_cases h9 : a0.toInt = 2
      · replace hs := hs.1 h9
        refine tm_tab (dflt := 119) (lo := 0) (ts := [32, 58, 83, 109]) rfl (by rw [h9]; decide) (t := 83) (by rw [h9]; rfl) ?_
        refine tm_go 2 (pc' := 85) (L' := [some (.ref 127), some (.int a0), some (.int b0)]) (S' := [.int b0, .ref 127]) (w' := w) rfl ?_
        refine tm_c rfl (Nat.le_of_ble_eq_true rfl) (dm_Mo_isValve (d := d + 1) hs) (fun v w10 hq => ?_)
        obtain ⟨r10, rfl, hz10, hs⟩ := hq
        refine tm_i (p1 := 105) (p2 := 91) rfl (fun h11 => ?_) (fun h11 => ?_)
        · replace hs := hs.1 h11
          refine tm_go 1 (pc' := 108) (L' := [some (.ref 127), some (.int a0), some (.int b0)]) (S' := [.long (-1)]) (w' := w10) rfl ?_
          exact tm_r rfl ⟨_, rfl, hs⟩
        · replace hs := hs.2 h11
          refine tm_go 4 (pc' := 99) (L' := [some (.ref 127), some (.int a0), some (.int b0)]) (S' := [.int b0, .ref 167, .long 1000]) (w' := w10) rfl ?_
          obtain ⟨b12, hs⟩ := hs
          refine tm_k (pc' := 100) (L' := [some (.ref 127), some (.int a0), some (.int b0)]) (S' := [.int (w10.1 167 b0.toInt.toNat), .long 1000]) (w' := w10) rfl b12 ?_
          refine tm_go 3 (pc' := 108) (L' := [some (.ref 127), some (.int a0), some (.int b0)]) (S' := [.long ((1000 : Int64) * (Int32.toInt64 (w10.1 167 b0.toInt.toNat)))]) (w' := w10) rfl ?_
          exact tm_r rfl ⟨_, rfl, hs⟩
      · replace hs := hs.2 h9
        by_cases h13 : a0.toInt = 3
        · replace hs := hs.1 h13
          refine tm_tab (dflt := 119) (lo := 0) (ts := [32, 58, 83, 109]) rfl (by rw [h13]; decide) (t := 109) (by rw [h13]; rfl) ?_
          refine tm_go 5 (pc' := 118) (L' := [some (.ref 127), some (.int a0), some (.int b0)]) (S' := [.long ((1000 : Int64) * (Int32.toInt64 (w.1 127 26)))]) (w' := w) rfl ?_
          exact tm_r rfl ⟨_, rfl, hs⟩
        · replace hs := hs.2 h13
          refine tm_tad (dflt := 119) (lo := 0) (ts := [32, 58, 83, 109]) rfl (by simp only [List.length_cons, List.length_nil]; omega) ?_
          refine tm_go 5 (pc' := 128) (L' := [some (.ref 127), some (.int a0), some (.int b0)]) (S' := [.long ((1000 : Int64) * (Int32.toInt64 (w.1 127 78)))]) (w' := w) rfl ?_
          exact tm_r rfl ⟨_, rfl, hs⟩
set_option maxHeartbeats 4000000 in
set_option maxRecDepth 100000 in
theorem tx_Mo_senseAll_2 {d : Nat} {E : MW → Prop} {Q : MW → Prop} (n : Nat) : ∀ (x2_1 : Int32)  (z2 : Option Value) (z3 : Option Value) (z4 : Option Value) (w : MW), q_Mo_senseAll_2  E Q n x2_1 w → (∀  (v1 : Option Value) (v2 : Option Value) (v3 : Option Value) (v4 : Option Value) (w : MW), E  w → Tm (d + 4) 98 61 [some (.ref 127), v1, v2, v3, v4] [] w (RV Q)) → Tm (d + 4) 98 2 [some (.ref 127), some (.int x2_1), z2, z3, z4] [] w (RV Q) := by
  induction n with
  | zero => intro x2_1 z2 z3 z4 w hs; rw [q_Mo_senseAll_2.eq_1] at hs; exact hs.elim
  | succ n ih =>
    intro x2_1 z2 z3 z4 w hs hE
    rw [q_Mo_senseAll_2.eq_2] at hs
    refine tm_go 4 (pc' := 10) (L' := [some (.ref 127), some (.int x2_1), z2, z3, z4]) (S' := [.int (w.1 129 32), .int x2_1]) (w' := w) rfl ?_
    refine tm_i (p1 := 61) (p2 := 13) rfl (fun h1 => ?_) (fun h1 => ?_)
    · replace hs := hs.1 h1
      exact hE _ _ _ _ _ hs
    · replace hs := hs.2 h1
      refine tm_go 3 (pc' := 18) (L' := [some (.ref 127), some (.int x2_1), z2, z3, z4]) (S' := [.int x2_1, .ref 201]) (w' := w) rfl ?_
      obtain ⟨b2, hs⟩ := hs
      refine tm_k (pc' := 19) (L' := [some (.ref 127), some (.int x2_1), z2, z3, z4]) (S' := [.int (w.1 201 x2_1.toInt.toNat)]) (w' := w) rfl b2 ?_
      refine tm_go 1 (pc' := 20) (L' := [some (.ref 127), some (.int x2_1), z2, z3, z4]) (S' := [.int (-1), .int (w.1 201 x2_1.toInt.toNat)]) (w' := w) rfl ?_
      refine tm_i (p1 := 55) (p2 := 23) rfl (fun h3 => ?_) (fun h3 => ?_)
      · replace hs := hs.1 h3
        refine tm_go 2 (pc' := 2) (L' := [some (.ref 127), some (.int (x2_1 + (1 : Int32))), z2, z3, z4]) (S' := []) (w' := w) rfl ?_
        exact ih _ _ _ _ _ hs hE
      · replace hs := hs.2 h3
        refine tm_go 3 (pc' := 28) (L' := [some (.ref 127), some (.int x2_1), z2, z3, z4]) (S' := [.int x2_1, .ref 201]) (w' := w) rfl ?_
        obtain ⟨b4, hs⟩ := hs
        refine tm_k (pc' := 29) (L' := [some (.ref 127), some (.int x2_1), z2, z3, z4]) (S' := [.int (w.1 201 x2_1.toInt.toNat)]) (w' := w) rfl b4 ?_
        refine tm_go 1 (pc' := 30) (L' := [some (.ref 127), some (.int x2_1), z2, z3, z4]) (S' := [.int 5, .int (w.1 201 x2_1.toInt.toNat)]) (w' := w) rfl ?_
        refine tm_i (p1 := 55) (p2 := 33) rfl (fun h5 => ?_) (fun h5 => ?_)
        · replace hs := hs.1 h5
          refine tm_go 2 (pc' := 2) (L' := [some (.ref 127), some (.int (x2_1 + (1 : Int32))), z2, z3, z4]) (S' := []) (w' := w) rfl ?_
          exact ih _ _ _ _ _ hs hE
        · replace hs := hs.2 h5
          refine tm_go 7 (pc' := 44) (L' := [some (.ref 127), some (.int x2_1), z2, z3, z4]) (S' := [.int x2_1, .ref 201, .ref 127, .int x2_1, .ref 206]) (w' := w) rfl ?_
          obtain ⟨b6, hs⟩ := hs
          refine tm_k (pc' := 45) (L' := [some (.ref 127), some (.int x2_1), z2, z3, z4]) (S' := [.int (w.1 201 x2_1.toInt.toNat), .ref 127, .int x2_1, .ref 206]) (w' := w) rfl b6 ?_
          refine tm_go 3 (pc' := 50) (L' := [some (.ref 127), some (.int x2_1), z2, z3, z4]) (S' := [.int x2_1, .ref 202, .int (w.1 201 x2_1.toInt.toNat), .ref 127, .int x2_1, .ref 206]) (w' := w) rfl ?_
          obtain ⟨b7, hs⟩ := hs
          refine tm_k (pc' := 51) (L' := [some (.ref 127), some (.int x2_1), z2, z3, z4]) (S' := [.int (w.1 202 x2_1.toInt.toNat), .int (w.1 201 x2_1.toInt.toNat), .ref 127, .int x2_1, .ref 206]) (w' := w) rfl b7 ?_
          refine tm_c rfl (Nat.le_of_ble_eq_true rfl) (dm_Mo_sensed (d := d + 0) hs) (fun v w8 hq => ?_)
          obtain ⟨r8, rfl, hs⟩ := hq
          obtain ⟨b9, hs⟩ := hs
          refine tm_k (pc' := 55) (L' := [some (.ref 127), some (.int x2_1), z2, z3, z4]) (S' := []) (w' := (sJ w8 206 x2_1.toInt.toNat r8)) rfl b9 ?_
          refine tm_go 2 (pc' := 2) (L' := [some (.ref 127), some (.int (x2_1 + (1 : Int32))), z2, z3, z4]) (S' := []) (w' := (sJ w8 206 x2_1.toInt.toNat r8)) rfl ?_
          exact ih _ _ _ _ _ hs hE
set_option maxHeartbeats 4000000 in
set_option maxRecDepth 100000 in
theorem tx_Mo_senseAll_146 {d : Nat} {y146_1 : Int32} {ys146_0 : Int32} {z2 : Option Value} {z3 : Option Value} {z4 : Option Value} {w : MW} {A : Int32 → MW → Prop} {E : MW → Prop} {Q : MW → Prop} (hs : q_Mo_senseAll_146 y146_1 ys146_0 w A E Q) (hA : ∀ (x63_1 : Int32)  (z2 : Option Value) (z3 : Option Value) (z4 : Option Value) (w : MW), A x63_1 w → Tm (d + 4) 98 63 [some (.ref 127), some (.int x63_1), z2, z3, z4] [] w (RV Q)) (hE : ∀  (v0 : Option Value) (v1 : Option Value) (v2 : Option Value) (v3 : Option Value) (v4 : Option Value) (w : MW), E  w → Tm (d + 4) 98 193 [v0, v1, v2, v3, v4] [] w (RV Q)) : Tm (d + 4) 98 146 [some (.ref 127), some (.int y146_1), z2, z3, z4] [.int ys146_0] w (RV Q) := by
  unfold q_Mo_senseAll_146 at hs
  refine tm_go 4 (pc' := 154) (L' := [some (.ref 127), some (.int y146_1), z2, (ksl z3), some (.int ys146_0)]) (S' := [.int ys146_0, .ref 147]) (w' := w) rfl ?_
  refine tm_i (p1 := 171) (p2 := 157) rfl (fun h18 => ?_) (fun h18 => ?_)
  · replace hs := hs.1 h18
    refine tm_go 12 (pc' := 63) (L' := [some (.ref 127), some (.int (y146_1 + (1 : Int32))), z2, (ksl z3), some (.int ys146_0)]) (S' := []) (w' := (sI w 147 24 ((w.1 147 24) &&& (((1 : Int32) <<< (y146_1 &&& 31)) ^^^ ((-1) : Int32))))) rfl ?_
    exact hA _ _ _ _ _ hs
  · replace hs := hs.2 h18
    refine tm_go 11 (pc' := 63) (L' := [some (.ref 127), some (.int (y146_1 + (1 : Int32))), z2, (ksl z3), some (.int ys146_0)]) (S' := []) (w' := (sI w 147 24 ((w.1 147 24) ||| ((1 : Int32) <<< (y146_1 &&& 31))))) rfl ?_
    exact hA _ _ _ _ _ hs
set_option maxHeartbeats 4000000 in
set_option maxRecDepth 100000 in
theorem tx_Mo_senseAll_109 {d : Nat} {y109_1 : Int32} {ys109_0 : Int64} {z2 : Option Value} {z3 : Option Value} {z4 : Option Value} {w : MW} {A : Int32 → MW → Prop} {E : MW → Prop} {Q : MW → Prop} (hs : q_Mo_senseAll_109 y109_1 ys109_0 w A E Q) (hA : ∀ (x63_1 : Int32)  (z2 : Option Value) (z3 : Option Value) (z4 : Option Value) (w : MW), A x63_1 w → Tm (d + 4) 98 63 [some (.ref 127), some (.int x63_1), z2, z3, z4] [] w (RV Q)) (hE : ∀  (v0 : Option Value) (v1 : Option Value) (v2 : Option Value) (v3 : Option Value) (v4 : Option Value) (w : MW), E  w → Tm (d + 4) 98 193 [v0, v1, v2, v3, v4] [] w (RV Q)) : Tm (d + 4) 98 109 [some (.ref 127), some (.int y109_1), z2, z3, z4] [.long ys109_0] w (RV Q) := by
  unfold q_Mo_senseAll_109 at hs
  refine tm_go 4 (pc' := 115) (L' := [some (.ref 127), some (.int y109_1), some (.long ys109_0), none, z4]) (S' := [.int y109_1, .ref 203]) (w' := w) rfl ?_
  obtain ⟨b16, hs⟩ := hs
  refine tm_k (pc' := 116) (L' := [some (.ref 127), some (.int y109_1), some (.long ys109_0), none, z4]) (S' := [.int (w.1 203 y109_1.toInt.toNat)]) (w' := w) rfl b16 ?_
  refine tm_go 1 (pc' := 117) (L' := [some (.ref 127), some (.int y109_1), some (.long ys109_0), none, z4]) (S' := [.int 5, .int (w.1 203 y109_1.toInt.toNat)]) (w' := w) rfl ?_
  refine tm_i (p1 := 145) (p2 := 120) rfl (fun h17 => ?_) (fun h17 => ?_)
  · replace hs := hs.1 h17
    refine tm_go 1 (pc' := 146) (L' := [some (.ref 127), some (.int y109_1), some (.long ys109_0), none, z4]) (S' := [.int 0]) (w' := w) rfl ?_
    exact tx_Mo_senseAll_146 hs hA hE
  · replace hs := hs.2 h17
    refine tm_go 3 (pc' := 123) (L' := [some (.ref 127), some (.int y109_1), some (.long ys109_0), none, z4]) (S' := [.int (lg_cmp ys109_0 (0 : Int64))]) (w' := w) rfl ?_
    refine tm_i (p1 := 145) (p2 := 126) rfl (fun h19 => ?_) (fun h19 => ?_)
    · replace hs := hs.1 h19
      refine tm_go 1 (pc' := 146) (L' := [some (.ref 127), some (.int y109_1), some (.long ys109_0), none, z4]) (S' := [.int 0]) (w' := w) rfl ?_
      exact tx_Mo_senseAll_146 hs hA hE
    · replace hs := hs.2 h19
      refine tm_go 6 (pc' := 136) (L' := [some (.ref 127), some (.int y109_1), some (.long ys109_0), none, z4]) (S' := [.int y109_1, .ref 205, .long (ys109_0 / (1000 : Int64))]) (w' := w) rfl ?_
      obtain ⟨b20, hs⟩ := hs
      refine tm_k (pc' := 137) (L' := [some (.ref 127), some (.int y109_1), some (.long ys109_0), none, z4]) (S' := [.long (w.2.1 205 y109_1.toInt.toNat), .long (ys109_0 / (1000 : Int64))]) (w' := w) rfl b20 ?_
      refine tm_go 1 (pc' := 138) (L' := [some (.ref 127), some (.int y109_1), some (.long ys109_0), none, z4]) (S' := [.int (lg_cmp (ys109_0 / (1000 : Int64)) (w.2.1 205 y109_1.toInt.toNat))]) (w' := w) rfl ?_
      refine tm_i (p1 := 145) (p2 := 141) rfl (fun h21 => ?_) (fun h21 => ?_)
      · replace hs := hs.1 h21
        refine tm_go 1 (pc' := 146) (L' := [some (.ref 127), some (.int y109_1), some (.long ys109_0), none, z4]) (S' := [.int 0]) (w' := w) rfl ?_
        exact tx_Mo_senseAll_146 hs hA hE
      · replace hs := hs.2 h21
        refine tm_go 2 (pc' := 146) (L' := [some (.ref 127), some (.int y109_1), some (.long ys109_0), none, z4]) (S' := [.int 1]) (w' := w) rfl ?_
        exact tx_Mo_senseAll_146 hs hA hE
set_option maxHeartbeats 4000000 in
set_option maxRecDepth 100000 in
theorem tx_Mo_senseAll_63 {d : Nat} {E : MW → Prop} {Q : MW → Prop} (n : Nat) : ∀ (x63_1 : Int32)  (z2 : Option Value) (z3 : Option Value) (z4 : Option Value) (w : MW), q_Mo_senseAll_63  E Q n x63_1 w → (∀  (v0 : Option Value) (v1 : Option Value) (v2 : Option Value) (v3 : Option Value) (v4 : Option Value) (w : MW), E  w → Tm (d + 4) 98 193 [v0, v1, v2, v3, v4] [] w (RV Q)) → Tm (d + 4) 98 63 [some (.ref 127), some (.int x63_1), z2, z3, z4] [] w (RV Q) := by
  induction n with
  | zero => intro x63_1 z2 z3 z4 w hs; rw [q_Mo_senseAll_63.eq_1] at hs; exact hs.elim
  | succ n ih =>
    intro x63_1 z2 z3 z4 w hs hE
    rw [q_Mo_senseAll_63.eq_2] at hs
    refine tm_go 2 (pc' := 66) (L' := [some (.ref 127), some (.int x63_1), z2, z3, z4]) (S' := [.int 16, .int x63_1]) (w' := w) rfl ?_
    refine tm_i (p1 := 193) (p2 := 69) rfl (fun h11 => ?_) (fun h11 => ?_)
    · replace hs := hs.1 h11
      exact hE _ _ _ _ _ _ hs
    · replace hs := hs.2 h11
      refine tm_go 3 (pc' := 74) (L' := [some (.ref 127), some (.int x63_1), z2, z3, z4]) (S' := [.int x63_1, .ref 203]) (w' := w) rfl ?_
      obtain ⟨b12, hs⟩ := hs
      refine tm_k (pc' := 75) (L' := [some (.ref 127), some (.int x63_1), z2, z3, z4]) (S' := [.int (w.1 203 x63_1.toInt.toNat)]) (w' := w) rfl b12 ?_
      refine tm_go 1 (pc' := 76) (L' := [some (.ref 127), some (.int x63_1), z2, z3, z4]) (S' := [.int (-1), .int (w.1 203 x63_1.toInt.toNat)]) (w' := w) rfl ?_
      refine tm_i (p1 := 187) (p2 := 79) rfl (fun h13 => ?_) (fun h13 => ?_)
      · replace hs := hs.1 h13
        refine tm_go 2 (pc' := 63) (L' := [some (.ref 127), some (.int (x63_1 + (1 : Int32))), z2, z3, z4]) (S' := []) (w' := w) rfl ?_
        exact ih _ _ _ _ _ hs hE
      · replace hs := hs.2 h13
        refine tm_go 3 (pc' := 84) (L' := [some (.ref 127), some (.int x63_1), z2, z3, z4]) (S' := [.int x63_1, .ref 203]) (w' := w) rfl ?_
        obtain ⟨b14, hs⟩ := hs
        refine tm_k (pc' := 85) (L' := [some (.ref 127), some (.int x63_1), z2, z3, z4]) (S' := [.int (w.1 203 x63_1.toInt.toNat)]) (w' := w) rfl b14 ?_
        refine tm_go 1 (pc' := 86) (L' := [some (.ref 127), some (.int x63_1), z2, z3, z4]) (S' := [.int 5, .int (w.1 203 x63_1.toInt.toNat)]) (w' := w) rfl ?_
        refine tm_i (p1 := 108) (p2 := 89) rfl (fun h15 => ?_) (fun h15 => ?_)
        · replace hs := hs.1 h15
          refine tm_go 1 (pc' := 109) (L' := [some (.ref 127), some (.int x63_1), z2, z3, z4]) (S' := [.long 0]) (w' := w) rfl ?_
          exact tx_Mo_senseAll_109 hs (fun q0 q1 q2 q3 q4 hs => ih q0 q1 q2 q3 q4 hs hE) hE
        · replace hs := hs.2 h15
          refine tm_go 4 (pc' := 95) (L' := [some (.ref 127), some (.int x63_1), z2, z3, z4]) (S' := [.int x63_1, .ref 203, .ref 127]) (w' := w) rfl ?_
          obtain ⟨b22, hs⟩ := hs
          refine tm_k (pc' := 96) (L' := [some (.ref 127), some (.int x63_1), z2, z3, z4]) (S' := [.int (w.1 203 x63_1.toInt.toNat), .ref 127]) (w' := w) rfl b22 ?_
          refine tm_go 3 (pc' := 101) (L' := [some (.ref 127), some (.int x63_1), z2, z3, z4]) (S' := [.int x63_1, .ref 204, .int (w.1 203 x63_1.toInt.toNat), .ref 127]) (w' := w) rfl ?_
          obtain ⟨b23, hs⟩ := hs
          refine tm_k (pc' := 102) (L' := [some (.ref 127), some (.int x63_1), z2, z3, z4]) (S' := [.int (w.1 204 x63_1.toInt.toNat), .int (w.1 203 x63_1.toInt.toNat), .ref 127]) (w' := w) rfl b23 ?_
          refine tm_c rfl (Nat.le_of_ble_eq_true rfl) (dm_Mo_sensed (d := d + 0) hs) (fun v w24 hq => ?_)
          obtain ⟨r24, rfl, hs⟩ := hq
          refine tm_go 1 (pc' := 109) (L' := [some (.ref 127), some (.int x63_1), z2, z3, z4]) (S' := [.long r24]) (w' := w24) rfl ?_
          exact tx_Mo_senseAll_109 hs (fun q0 q1 q2 q3 q4 hs => ih q0 q1 q2 q3 q4 hs hE) hE
set_option maxHeartbeats 4000000 in
set_option maxRecDepth 100000 in
theorem dm_Mo_senseAll {d : Nat} {w : MW} {Q : MW → Prop} (hs : p_Mo_senseAll w Q) : Tc (d + 4) 98 [.ref 127] w (RV Q) := by
  unfold p_Mo_senseAll at hs
  refine tm_go 2 (pc' := 2) (L' := [some (.ref 127), some (.int 0), none, none, none]) (S' := []) (w' := w) rfl ?_
  refine tx_Mo_senseAll_2 FU _ _ _ _ _ hs (fun  z10_1 z10_2 z10_3 z10_4 w10 hs => ?_)
  refine tm_go 2 (pc' := 63) (L' := [some (.ref 127), some (.int 0), z10_2, z10_3, z10_4]) (S' := []) (w' := w10) rfl ?_
  refine tx_Mo_senseAll_63 FU _ _ _ _ _ hs (fun  z25_0 z25_1 z25_2 z25_3 z25_4 w25 hs => ?_)
  exact tm_r rfl ⟨rfl, hs⟩
set_option maxHeartbeats 4000000 in
set_option maxRecDepth 100000 in
theorem dm_Mo_isBad {d : Nat} {w : MW} {Q : Int32 → MW → Prop} (hs : p_Mo_isBad w Q) : Tc (d + 1) 109 [.ref 127] w (RZ Q) := by
  unfold p_Mo_isBad at hs
  refine tm_go 3 (pc' := 5) (L' := [some (.ref 127)]) (S' := [.int (-1), .int (w.1 127 76)]) (w' := w) rfl ?_
  refine tm_i (p1 := 10) (p2 := 8) rfl (fun h1 => ?_) (fun h1 => ?_)
  · replace hs := hs.1 h1
    refine tm_go 4 (pc' := 16) (L' := [some (.ref 127)]) (S' := [.int 1, .int (w.1 127 76), .ref 127]) (w' := w) rfl ?_
    refine tm_c rfl (Nat.le_of_ble_eq_true rfl) (dm_Mo_raise (d := d + 0) hs) (fun v w2 hq => ?_)
    obtain ⟨rfl, hs⟩ := hq
    refine tm_go 4 (pc' := 25) (L' := [some (.ref 127)]) (S' := [.int 1]) (w' := (sI w2 127 76 (-1))) rfl ?_
    exact tm_r rfl ⟨_, rfl, by decide, hs⟩
  · replace hs := hs.2 h1
    refine tm_go 1 (pc' := 9) (L' := [some (.ref 127)]) (S' := [.int 0]) (w' := w) rfl ?_
    exact tm_r rfl ⟨_, rfl, by decide, hs⟩
set_option maxHeartbeats 4000000 in
set_option maxRecDepth 100000 in
theorem dm_Mo_kind {d : Nat} {w : MW} {a0 : Int32} {Q : Int32 → MW → Prop} (hs : p_Mo_kind w a0 Q) : Tc (d + 1) 103 [.ref 127, .int a0] w (RI Q) := by
  unfold p_Mo_kind at hs
  refine tm_go 3 (pc' := 5) (L' := [some (.ref 127), some (.int a0)]) (S' := [.int a0, .ref 207]) (w' := w) rfl ?_
  obtain ⟨b1, hs⟩ := hs
  refine tm_k (pc' := 6) (L' := [some (.ref 127), some (.int a0)]) (S' := [.int (w.1 207 a0.toInt.toNat)]) (w' := w) rfl b1 ?_
  refine tm_i (p1 := 14) (p2 := 9) rfl (fun h2 => ?_) (fun h2 => ?_)
  · replace hs := hs.1 h2
    refine tm_go 8 (pc' := 30) (L' := [some (.ref 127), some (.int a0)]) (S' := [.int a0, .ref 207, .ref 129, .ref 131]) (w' := w) rfl ?_
    obtain ⟨b3, hs⟩ := hs
    refine tm_k (pc' := 31) (L' := [some (.ref 127), some (.int a0)]) (S' := [.int (w.1 207 a0.toInt.toNat), .ref 129, .ref 131]) (w' := w) rfl b3 ?_
    refine tm_c rfl (Nat.le_of_ble_eq_true rfl) (dm_Tx_node1 (d := d + 0) hs) (fun v w4 hq => ?_)
    obtain ⟨r4, rfl, hs⟩ := hq
    obtain ⟨b5, hs⟩ := hs
    refine tm_k (pc' := 35) (L' := [some (.ref 127), some (.int a0)]) (S' := [.int (w4.1 131 r4.toInt.toNat)]) (w' := w4) rfl b5 ?_
    exact tm_r rfl ⟨_, rfl, hs⟩
  · replace hs := hs.2 h2
    refine tm_go 2 (pc' := 35) (L' := [some (.ref 127), some (.int a0)]) (S' := [.int 23]) (w' := w) rfl ?_
    exact tm_r rfl ⟨_, rfl, hs⟩
set_option maxHeartbeats 4000000 in
set_option maxRecDepth 100000 in
theorem dmb_Mo_reckon {d : Nat} {r_Mo_reckon : MW → Int32 → (Int64 → MW → Prop) → Prop} (hr_Mo_reckon : ∀ (w : MW) (a0 : Int32) (Q : Int64 → MW → Prop), r_Mo_reckon w a0 Q → Tc (d + 1) 108 [.ref 127, .int a0] w (RJ Q)) {w : MW} {a0 : Int32} {Q : Int64 → MW → Prop} (hs : pb_Mo_reckon r_Mo_reckon w a0 Q) : Tc (d + 2) 108 [.ref 127, .int a0] w (RJ Q) := by
  unfold pb_Mo_reckon at hs
  refine tm_go 3 (pc' := 5) (L' := [some (.ref 127), some (.int a0), none, none, none, none, none]) (S' := [.int (-1), .int (w.1 127 76)]) (w' := w) rfl ?_
  refine tm_i (p1 := 10) (p2 := 8) rfl (fun h1 => ?_) (fun h1 => ?_)
  · replace hs := hs.1 h1
    refine tm_go 6 (pc' := 22) (L' := [some (.ref 127), some (.int a0), none, none, none, none, none]) (S' := [.int a0, .ref 129, .ref 131]) (w' := w) rfl ?_
    refine tm_c rfl (Nat.le_of_ble_eq_true rfl) (dm_Tx_node1 (d := d + 1) hs) (fun v w2 hq => ?_)
    obtain ⟨r2, rfl, hs⟩ := hq
    obtain ⟨b3, hs⟩ := hs
    refine tm_k (pc' := 26) (L' := [some (.ref 127), some (.int a0), none, none, none, none, none]) (S' := [.int (w2.1 131 r2.toInt.toNat)]) (w' := w2) rfl b3 ?_
    refine tm_go 2 (pc' := 28) (L' := [some (.ref 127), some (.int a0), some (.int (w2.1 131 r2.toInt.toNat)), none, none, none, none]) (S' := [.int (w2.1 131 r2.toInt.toNat)]) (w' := w2) rfl ?_
    refine tm_i (p1 := 48) (p2 := 31) rfl (fun h4 => ?_) (fun h4 => ?_)
    · replace hs := hs.1 h4
      refine tm_go 2 (pc' := 50) (L' := [some (.ref 127), some (.int a0), some (.int (w2.1 131 r2.toInt.toNat)), none, none, none, none]) (S' := [.int 1, .int (w2.1 131 r2.toInt.toNat)]) (w' := w2) rfl ?_
      refine tm_i (p1 := 76) (p2 := 53) rfl (fun h5 => ?_) (fun h5 => ?_)
      · replace hs := hs.1 h5
        refine tm_go 5 (pc' := 83) (L' := [some (.ref 127), some (.int a0), some (.int (w2.1 131 r2.toInt.toNat)), none, none, none, none]) (S' := [.int 0, .int a0, .ref 129, .ref 127]) (w' := w2) rfl ?_
        refine tm_c rfl (Nat.le_of_ble_eq_true rfl) (dm_Tx_kid (d := d + 0) hs) (fun v w6 hq => ?_)
        obtain ⟨r6, rfl, hs⟩ := hq
        refine tm_c rfl (Nat.le_of_ble_eq_true rfl) (hr_Mo_reckon _ _ _ hs) (fun v w7 hq => ?_)
        obtain ⟨r7, rfl, hs⟩ := hq
        refine tm_go 3 (pc' := 93) (L' := [some (.ref 127), some (.int a0), some (.int (w2.1 131 r2.toInt.toNat)), some (.long r7), none, none, none]) (S' := [.int 6, .int (w2.1 131 r2.toInt.toNat)]) (w' := w7) rfl ?_
        refine tm_i (p1 := 99) (p2 := 96) rfl (fun h8 => ?_) (fun h8 => ?_)
        · replace hs := hs.1 h8
          refine tm_go 5 (pc' := 106) (L' := [some (.ref 127), some (.int a0), some (.int (w2.1 131 r2.toInt.toNat)), some (.long r7), none, none, none]) (S' := [.int 1, .int a0, .ref 129, .ref 127]) (w' := w7) rfl ?_
          refine tm_c rfl (Nat.le_of_ble_eq_true rfl) (dm_Tx_kid (d := d + 0) hs) (fun v w9 hq => ?_)
          obtain ⟨r9, rfl, hs⟩ := hq
          refine tm_c rfl (Nat.le_of_ble_eq_true rfl) (hr_Mo_reckon _ _ _ hs) (fun v w10 hq => ?_)
          obtain ⟨r10, rfl, hs⟩ := hq
          refine tm_go 4 (pc' := 119) (L' := [some (.ref 127), some (.int a0), some (.int (w2.1 131 r2.toInt.toNat)), some (.long r7), none, some (.long r10), none]) (S' := [.int (-1), .int (w10.1 127 76)]) (w' := w10) rfl ?_
          refine tm_i (p1 := 124) (p2 := 122) rfl (fun h11 => ?_) (fun h11 => ?_)
          · replace hs := hs.1 h11
            refine tm_go 1 (pc' := 125) (L' := [some (.ref 127), some (.int a0), some (.int (w2.1 131 r2.toInt.toNat)), some (.long r7), none, some (.long r10), none]) (S' := [.int (w2.1 131 r2.toInt.toNat)]) (w' := w10) rfl ?_
            by_cases h12 : (w2.1 131 r2.toInt.toNat).toInt = 2
            · replace hs := hs.1 h12
              refine tm_tab (dflt := 240) (lo := 2) (ts := [168, 173, 178, 187, 240, 210, 225]) rfl (by rw [h12]; decide) (t := 168) (by rw [h12]; rfl) ?_
              refine tm_go 3 (pc' := 172) (L' := [some (.ref 127), some (.int a0), some (.int (w2.1 131 r2.toInt.toNat)), some (.long r7), none, some (.long r10), none]) (S' := [.long (r7 + r10)]) (w' := w10) rfl ?_
              exact tm_r rfl ⟨_, rfl, hs⟩
            · replace hs := hs.2 h12
              by_cases h13 : (w2.1 131 r2.toInt.toNat).toInt = 3
              · replace hs := hs.1 h13
                refine tm_tab (dflt := 240) (lo := 2) (ts := [168, 173, 178, 187, 240, 210, 225]) rfl (by rw [h13]; decide) (t := 173) (by rw [h13]; rfl) ?_
                refine tm_go 3 (pc' := 177) (L' := [some (.ref 127), some (.int a0), some (.int (w2.1 131 r2.toInt.toNat)), some (.long r7), none, some (.long r10), none]) (S' := [.long (r7 - r10)]) (w' := w10) rfl ?_
                exact tm_r rfl ⟨_, rfl, hs⟩
              · replace hs := hs.2 h13
                by_cases h14 : (w2.1 131 r2.toInt.toNat).toInt = 4
                · replace hs := hs.1 h14
                  refine tm_tab (dflt := 240) (lo := 2) (ts := [168, 173, 178, 187, 240, 210, 225]) rfl (by rw [h14]; decide) (t := 178) (by rw [h14]; rfl) ?_
                  refine tm_go 5 (pc' := 186) (L' := [some (.ref 127), some (.int a0), some (.int (w2.1 131 r2.toInt.toNat)), some (.long r7), none, some (.long r10), none]) (S' := [.long ((r7 * r10) / (1000 : Int64))]) (w' := w10) rfl ?_
                  exact tm_r rfl ⟨_, rfl, hs⟩
                · replace hs := hs.2 h14
                  by_cases h15 : (w2.1 131 r2.toInt.toNat).toInt = 5
                  · replace hs := hs.1 h15
                    refine tm_tab (dflt := 240) (lo := 2) (ts := [168, 173, 178, 187, 240, 210, 225]) rfl (by rw [h15]; decide) (t := 187) (by rw [h15]; rfl) ?_
                    refine tm_go 3 (pc' := 191) (L' := [some (.ref 127), some (.int a0), some (.int (w2.1 131 r2.toInt.toNat)), some (.long r7), none, some (.long r10), none]) (S' := [.int (lg_cmp r10 (0 : Int64))]) (w' := w10) rfl ?_
                    refine tm_i (p1 := 201) (p2 := 194) rfl (fun h16 => ?_) (fun h16 => ?_)
                    · replace hs := hs.1 h16
                      refine tm_go 4 (pc' := 208) (L' := [some (.ref 127), some (.int a0), some (.int (w2.1 131 r2.toInt.toNat)), some (.long r7), none, some (.long r10), none]) (S' := [.long r10, .long (r7 * (1000 : Int64))]) (w' := w10) rfl ?_
                      obtain ⟨b17, hs⟩ := hs
                      refine tm_k (pc' := 209) (L' := [some (.ref 127), some (.int a0), some (.int (w2.1 131 r2.toInt.toNat)), some (.long r7), none, some (.long r10), none]) (S' := [.long ((r7 * (1000 : Int64)) / r10)]) (w' := w10) rfl b17 ?_
                      exact tm_r rfl ⟨_, rfl, hs⟩
                    · replace hs := hs.2 h16
                      refine tm_go 4 (pc' := 200) (L' := [some (.ref 127), some (.int a0), some (.int (w2.1 131 r2.toInt.toNat)), some (.long r7), none, some (.long r10), none]) (S' := [.long 0]) (w' := (sI w10 127 76 a0)) rfl ?_
                      exact tm_r rfl ⟨_, rfl, hs⟩
                  · replace hs := hs.2 h15
                    by_cases h18 : (w2.1 131 r2.toInt.toNat).toInt = 6
                    · replace hs := hs.1 h18
                      refine tm_tab (dflt := 240) (lo := 2) (ts := [168, 173, 178, 187, 240, 210, 225]) rfl (by rw [h18]; decide) (t := 240) (by rw [h18]; rfl) ?_
                      refine tm_go 3 (pc' := 244) (L' := [some (.ref 127), some (.int a0), some (.int (w2.1 131 r2.toInt.toNat)), some (.long r7), none, some (.long r10), none]) (S' := [.int (lg_cmp r7 r10)]) (w' := w10) rfl ?_
                      refine tm_i (p1 := 253) (p2 := 247) rfl (fun h19 => ?_) (fun h19 => ?_)
                      · replace hs := hs.1 h19
                        refine tm_go 1 (pc' := 254) (L' := [some (.ref 127), some (.int a0), some (.int (w2.1 131 r2.toInt.toNat)), some (.long r7), none, some (.long r10), none]) (S' := [.long 0]) (w' := w10) rfl ?_
                        exact tm_r rfl ⟨_, rfl, hs⟩
                      · replace hs := hs.2 h19
                        refine tm_go 2 (pc' := 254) (L' := [some (.ref 127), some (.int a0), some (.int (w2.1 131 r2.toInt.toNat)), some (.long r7), none, some (.long r10), none]) (S' := [.long 1000]) (w' := w10) rfl ?_
                        exact tm_r rfl ⟨_, rfl, hs⟩
                    · replace hs := hs.2 h18
                      by_cases h20 : (w2.1 131 r2.toInt.toNat).toInt = 7
                      · replace hs := hs.1 h20
                        refine tm_tab (dflt := 240) (lo := 2) (ts := [168, 173, 178, 187, 240, 210, 225]) rfl (by rw [h20]; decide) (t := 210) (by rw [h20]; rfl) ?_
                        refine tm_go 3 (pc' := 214) (L' := [some (.ref 127), some (.int a0), some (.int (w2.1 131 r2.toInt.toNat)), some (.long r7), none, some (.long r10), none]) (S' := [.int (lg_cmp r7 r10)]) (w' := w10) rfl ?_
                        refine tm_i (p1 := 223) (p2 := 217) rfl (fun h21 => ?_) (fun h21 => ?_)
                        · replace hs := hs.1 h21
                          refine tm_go 1 (pc' := 224) (L' := [some (.ref 127), some (.int a0), some (.int (w2.1 131 r2.toInt.toNat)), some (.long r7), none, some (.long r10), none]) (S' := [.long 0]) (w' := w10) rfl ?_
                          exact tm_r rfl ⟨_, rfl, hs⟩
                        · replace hs := hs.2 h21
                          refine tm_go 2 (pc' := 224) (L' := [some (.ref 127), some (.int a0), some (.int (w2.1 131 r2.toInt.toNat)), some (.long r7), none, some (.long r10), none]) (S' := [.long 1000]) (w' := w10) rfl ?_
                          exact tm_r rfl ⟨_, rfl, hs⟩
                      · replace hs := hs.2 h20
                        by_cases h22 : (w2.1 131 r2.toInt.toNat).toInt = 8
                        · replace hs := hs.1 h22
                          refine tm_tab (dflt := 240) (lo := 2) (ts := [168, 173, 178, 187, 240, 210, 225]) rfl (by rw [h22]; decide) (t := 225) (by rw [h22]; rfl) ?_
                          refine tm_go 3 (pc' := 229) (L' := [some (.ref 127), some (.int a0), some (.int (w2.1 131 r2.toInt.toNat)), some (.long r7), none, some (.long r10), none]) (S' := [.int (lg_cmp r7 r10)]) (w' := w10) rfl ?_
                          refine tm_i (p1 := 238) (p2 := 232) rfl (fun h23 => ?_) (fun h23 => ?_)
                          · replace hs := hs.1 h23
                            refine tm_go 1 (pc' := 239) (L' := [some (.ref 127), some (.int a0), some (.int (w2.1 131 r2.toInt.toNat)), some (.long r7), none, some (.long r10), none]) (S' := [.long 0]) (w' := w10) rfl ?_
                            exact tm_r rfl ⟨_, rfl, hs⟩
                          · replace hs := hs.2 h23
                            refine tm_go 2 (pc' := 239) (L' := [some (.ref 127), some (.int a0), some (.int (w2.1 131 r2.toInt.toNat)), some (.long r7), none, some (.long r10), none]) (S' := [.long 1000]) (w' := w10) rfl ?_
                            exact tm_r rfl ⟨_, rfl, hs⟩
                        · replace hs := hs.2 h22
                          refine tm_tad (dflt := 240) (lo := 2) (ts := [168, 173, 178, 187, 240, 210, 225]) rfl (by simp only [List.length_cons, List.length_nil]; omega) ?_
                          refine tm_go 3 (pc' := 244) (L' := [some (.ref 127), some (.int a0), some (.int (w2.1 131 r2.toInt.toNat)), some (.long r7), none, some (.long r10), none]) (S' := [.int (lg_cmp r7 r10)]) (w' := w10) rfl ?_
                          refine tm_i (p1 := 253) (p2 := 247) rfl (fun h24 => ?_) (fun h24 => ?_)
                          · replace hs := hs.1 h24
                            refine tm_go 1 (pc' := 254) (L' := [some (.ref 127), some (.int a0), some (.int (w2.1 131 r2.toInt.toNat)), some (.long r7), none, some (.long r10), none]) (S' := [.long 0]) (w' := w10) rfl ?_
                            exact tm_r rfl ⟨_, rfl, hs⟩
                          · replace hs := hs.2 h24
                            refine tm_go 2 (pc' := 254) (L' := [some (.ref 127), some (.int a0), some (.int (w2.1 131 r2.toInt.toNat)), some (.long r7), none, some (.long r10), none]) (S' := [.long 1000]) (w' := w10) rfl ?_
                            exact tm_r rfl ⟨_, rfl, hs⟩
          · replace hs := hs.2 h11
            refine tm_go 1 (pc' := 123) (L' := [some (.ref 127), some (.int a0), some (.int (w2.1 131 r2.toInt.toNat)), some (.long r7), none, some (.long r10), none]) (S' := [.long 0]) (w' := w10) rfl ?_
            exact tm_r rfl ⟨_, rfl, hs⟩
        · replace hs := hs.2 h8
          refine tm_go 2 (pc' := 98) (L' := [some (.ref 127), some (.int a0), some (.int (w2.1 131 r2.toInt.toNat)), some (.long r7), none, none, none]) (S' := [.long (-r7)]) (w' := w7) rfl ?_
          exact tm_r rfl ⟨_, rfl, hs⟩
      · replace hs := hs.2 h5
        refine tm_go 8 (pc' := 69) (L' := [some (.ref 127), some (.int a0), some (.int (w2.1 131 r2.toInt.toNat)), none, none, none, none]) (S' := [.int a0, .ref 129, .ref 132, .ref 206]) (w' := w2) rfl ?_
        refine tm_c rfl (Nat.le_of_ble_eq_true rfl) (dm_Tx_node1 (d := d + 1) hs) (fun v w25 hq => ?_)
        obtain ⟨r25, rfl, hs⟩ := hq
        obtain ⟨b26, hs⟩ := hs
        refine tm_k (pc' := 73) (L' := [some (.ref 127), some (.int a0), some (.int (w2.1 131 r2.toInt.toNat)), none, none, none, none]) (S' := [.long (w25.2.1 132 r25.toInt.toNat), .ref 206]) (w' := w25) rfl b26 ?_
        refine tm_go 1 (pc' := 74) (L' := [some (.ref 127), some (.int a0), some (.int (w2.1 131 r2.toInt.toNat)), none, none, none, none]) (S' := [.int (Int64.toInt32 (w25.2.1 132 r25.toInt.toNat)), .ref 206]) (w' := w25) rfl ?_
        obtain ⟨b27, hs⟩ := hs
        refine tm_k (pc' := 75) (L' := [some (.ref 127), some (.int a0), some (.int (w2.1 131 r2.toInt.toNat)), none, none, none, none]) (S' := [.long (w25.2.1 206 ((Int64.toInt32 (w25.2.1 132 r25.toInt.toNat)).toInt.toNat))]) (w' := w25) rfl b27 ?_
        exact tm_r rfl ⟨_, rfl, hs⟩
    · replace hs := hs.2 h4
      refine tm_go 6 (pc' := 43) (L' := [some (.ref 127), some (.int a0), some (.int (w2.1 131 r2.toInt.toNat)), none, none, none, none]) (S' := [.int a0, .ref 129, .ref 132]) (w' := w2) rfl ?_
      refine tm_c rfl (Nat.le_of_ble_eq_true rfl) (dm_Tx_node1 (d := d + 1) hs) (fun v w28 hq => ?_)
      obtain ⟨r28, rfl, hs⟩ := hq
      obtain ⟨b29, hs⟩ := hs
      refine tm_k (pc' := 47) (L' := [some (.ref 127), some (.int a0), some (.int (w2.1 131 r2.toInt.toNat)), none, none, none, none]) (S' := [.long (w28.2.1 132 r28.toInt.toNat)]) (w' := w28) rfl b29 ?_
      exact tm_r rfl ⟨_, rfl, hs⟩
  · replace hs := hs.2 h1
    refine tm_go 1 (pc' := 9) (L' := [some (.ref 127), some (.int a0), none, none, none, none, none]) (S' := [.long 0]) (w' := w) rfl ?_
    exact tm_r rfl ⟨_, rfl, hs⟩
theorem da_Mo_reckon (n : Nat) : (∀ (w : MW) (a0 : Int32) (Q : Int64 → MW → Prop), pn_Mo_reckon n w a0 Q → Tc (n + 1) 108 [.ref 127, .int a0] w (RJ Q)) := by
  induction n with
  | zero => exact fun _ _ _ h => h.elim
  | succ n h0 =>
    skip
    exact fun _ _ _ h => (dmb_Mo_reckon (d := n) h0 h).le (by omega)
theorem dm_Mo_reckon {d : Nat} {w : MW} {a0 : Int32} {Q : Int64 → MW → Prop} (hs : p_Mo_reckon w a0 Q) : Tc (d + 401) 108 [.ref 127, .int a0] w (RJ Q) := ((da_Mo_reckon 400) _ _ _ hs).le (by omega)
set_option maxHeartbeats 4000000 in
set_option maxRecDepth 100000 in
theorem tx_Mo_begin_538 {d : Nat} {E : MW → Prop} {Q : Int32 → MW → Prop} (n : Nat) : ∀ (x538_11 : Int32)  (z1 : Option Value) (z2 : Option Value) (z3 : Option Value) (z4 : Option Value) (z5 : Option Value) (z6 : Option Value) (z7 : Option Value) (z8 : Option Value) (z9 : Option Value) (z10 : Option Value) (w : MW), q_Mo_begin_538  E Q n x538_11 w → (∀  (v0 : Option Value) (v1 : Option Value) (v2 : Option Value) (v3 : Option Value) (v4 : Option Value) (v5 : Option Value) (v6 : Option Value) (v7 : Option Value) (v8 : Option Value) (v9 : Option Value) (v10 : Option Value) (v11 : Option Value) (w : MW), E  w → Tm (d + 404) 110 572 [v0, v1, v2, v3, v4, v5, v6, v7, v8, v9, v10, v11] [] w (RZ Q)) → Tm (d + 404) 110 538 [some (.ref 127), z1, z2, z3, z4, z5, z6, z7, z8, z9, z10, some (.int x538_11)] [] w (RZ Q) := by
  induction n with
  | zero => intro x538_11 z1 z2 z3 z4 z5 z6 z7 z8 z9 z10 w hs; rw [q_Mo_begin_538.eq_1] at hs; exact hs.elim
  | succ n ih =>
    intro x538_11 z1 z2 z3 z4 z5 z6 z7 z8 z9 z10 w hs hE
    rw [q_Mo_begin_538.eq_2] at hs
    refine tm_go 2 (pc' := 541) (L' := [some (.ref 127), z1, z2, z3, z4, z5, z6, z7, z8, z9, z10, some (.int x538_11)]) (S' := [.int (-1), .int x538_11]) (w' := w) rfl ?_
    refine tm_i (p1 := 572) (p2 := 544) rfl (fun h30 => ?_) (fun h30 => ?_)
    · replace hs := hs.1 h30
      exact hE _ _ _ _ _ _ _ _ _ _ _ _ _ hs
    · replace hs := hs.2 h30
      refine tm_go 4 (pc' := 551) (L' := [some (.ref 127), z1, z2, z3, z4, z5, z6, z7, z8, z9, z10, some (.int x538_11)]) (S' := [.int 0, .int x538_11, .ref 210]) (w' := w) rfl ?_
      obtain ⟨b31, hs⟩ := hs
      refine tm_k (pc' := 552) (L' := [some (.ref 127), z1, z2, z3, z4, z5, z6, z7, z8, z9, z10, some (.int x538_11)]) (S' := []) (w' := (sI w 210 x538_11.toInt.toNat (vp_nar .boolean (0 : Int32)))) rfl b31 ?_
      refine tm_go 4 (pc' := 559) (L' := [some (.ref 127), z1, z2, z3, z4, z5, z6, z7, z8, z9, z10, some (.int x538_11)]) (S' := [.int 0, .int x538_11, .ref 212]) (w' := (sI w 210 x538_11.toInt.toNat (vp_nar .boolean (0 : Int32)))) rfl ?_
      obtain ⟨b32, hs⟩ := hs
      refine tm_k (pc' := 560) (L' := [some (.ref 127), z1, z2, z3, z4, z5, z6, z7, z8, z9, z10, some (.int x538_11)]) (S' := []) (w' := (sI (sI w 210 x538_11.toInt.toNat (vp_nar .boolean (0 : Int32))) 212 x538_11.toInt.toNat (vp_nar .boolean (0 : Int32)))) rfl b32 ?_
      refine tm_go 3 (pc' := 566) (L' := [some (.ref 127), z1, z2, z3, z4, z5, z6, z7, z8, z9, z10, some (.int x538_11)]) (S' := [.int x538_11, .ref 209]) (w' := (sI (sI w 210 x538_11.toInt.toNat (vp_nar .boolean (0 : Int32))) 212 x538_11.toInt.toNat (vp_nar .boolean (0 : Int32)))) rfl ?_
      obtain ⟨b33, hs⟩ := hs
      refine tm_k (pc' := 567) (L' := [some (.ref 127), z1, z2, z3, z4, z5, z6, z7, z8, z9, z10, some (.int x538_11)]) (S' := [.int (w.1 209 x538_11.toInt.toNat)]) (w' := (sI (sI w 210 x538_11.toInt.toNat (vp_nar .boolean (0 : Int32))) 212 x538_11.toInt.toNat (vp_nar .boolean (0 : Int32)))) rfl b33 ?_
      refine tm_go 2 (pc' := 538) (L' := [some (.ref 127), z1, z2, z3, z4, z5, z6, z7, z8, z9, (ksl z10), some (.int (w.1 209 x538_11.toInt.toNat))]) (S' := []) (w' := (sI (sI w 210 x538_11.toInt.toNat (vp_nar .boolean (0 : Int32))) 212 x538_11.toInt.toNat (vp_nar .boolean (0 : Int32)))) rfl ?_
      exact ih _ _ _ _ _ _ _ _ _ _ _ _ hs hE
set_option maxHeartbeats 4000000 in
set_option maxRecDepth 100000 in
theorem tx_Mo_begin_470 {d : Nat} {y470_1 : Int32} {y470_2 : Int32} {y470_6 : Int64} {ys470_0 : Int32} {ys470_1 : Int32} {z3 : Option Value} {z4 : Option Value} {z5 : Option Value} {z8 : Option Value} {z9 : Option Value} {z10 : Option Value} {z11 : Option Value} {w : MW} {Q : Int32 → MW → Prop} (hs : q_Mo_begin_470 y470_1 y470_2 y470_6 ys470_0 ys470_1 w Q) : Tm (d + 404) 110 470 [some (.ref 127), some (.int y470_1), some (.int y470_2), z3, z4, z5, some (.long y470_6), none, z8, z9, z10, z11] [.int ys470_0, .int ys470_1, .ref 213] w (RZ Q) := by
  unfold q_Mo_begin_470 at hs
  obtain ⟨b47, hs⟩ := hs
  refine tm_k (pc' := 471) (L' := [some (.ref 127), some (.int y470_1), some (.int y470_2), z3, z4, z5, some (.long y470_6), none, z8, z9, z10, z11]) (S' := []) (w' := (sI w 213 ys470_1.toInt.toNat ys470_0)) rfl b47 ?_
  refine tm_go 3 (pc' := 475) (L' := [some (.ref 127), some (.int y470_1), some (.int y470_2), z3, z4, z5, some (.long y470_6), none, z8, z9, z10, z11]) (S' := [.int (lg_cmp y470_6 (0 : Int64))]) (w' := (sI w 213 ys470_1.toInt.toNat ys470_0)) rfl ?_
  refine tm_i (p1 := 530) (p2 := 478) rfl (fun h48 => ?_) (fun h48 => ?_)
  · replace hs := hs.1 h48
    refine tm_go 3 (pc' := 535) (L' := [some (.ref 127), some (.int y470_1), some (.int y470_2), z3, z4, z5, some (.long y470_6), none, z8, z9, z10, z11]) (S' := [.int y470_1, .ref 208]) (w' := (sI w 213 ys470_1.toInt.toNat ys470_0)) rfl ?_
    obtain ⟨b49, hs⟩ := hs
    refine tm_k (pc' := 536) (L' := [some (.ref 127), some (.int y470_1), some (.int y470_2), z3, z4, z5, some (.long y470_6), none, z8, z9, z10, z11]) (S' := [.int (w.1 208 y470_1.toInt.toNat)]) (w' := (sI w 213 ys470_1.toInt.toNat ys470_0)) rfl b49 ?_
    refine tm_go 1 (pc' := 538) (L' := [some (.ref 127), some (.int y470_1), some (.int y470_2), z3, z4, z5, some (.long y470_6), none, z8, z9, (ksl z10), some (.int (w.1 208 y470_1.toInt.toNat))]) (S' := []) (w' := (sI w 213 ys470_1.toInt.toNat ys470_0)) rfl ?_
    refine tx_Mo_begin_538 FU _ _ _ _ _ _ _ _ _ _ _ _ hs (fun  z50_0 z50_1 z50_2 z50_3 z50_4 z50_5 z50_6 z50_7 z50_8 z50_9 z50_10 z50_11 w50 hs => ?_)
    refine tm_go 1 (pc' := 573) (L' := [z50_0, z50_1, z50_2, z50_3, z50_4, z50_5, z50_6, z50_7, z50_8, z50_9, z50_10, z50_11]) (S' := [.int 1]) (w' := w50) rfl ?_
    exact tm_r rfl ⟨_, rfl, by decide, hs⟩
  · replace hs := hs.2 h48
    refine tm_go 3 (pc' := 481) (L' := [some (.ref 127), some (.int y470_1), some (.int y470_2), z3, z4, z5, some (.long y470_6), none, z8, z9, z10, z11]) (S' := [.int 3, .int y470_2, .ref 127]) (w' := (sI w 213 ys470_1.toInt.toNat ys470_0)) rfl ?_
    refine tm_c rfl (Nat.le_of_ble_eq_true rfl) (dm_Mo_raise (d := d + 403) hs) (fun v w51 hq => ?_)
    obtain ⟨rfl, hs⟩ := hq
    refine tm_go 4 (pc' := 535) (L' := [some (.ref 127), some (.int y470_1), some (.int y470_2), z3, z4, z5, some (.long y470_6), none, z8, z9, z10, z11]) (S' := [.int y470_1, .ref 208]) (w' := w51) rfl ?_
    obtain ⟨b52, hs⟩ := hs
    refine tm_k (pc' := 536) (L' := [some (.ref 127), some (.int y470_1), some (.int y470_2), z3, z4, z5, some (.long y470_6), none, z8, z9, z10, z11]) (S' := [.int (w51.1 208 y470_1.toInt.toNat)]) (w' := w51) rfl b52 ?_
    refine tm_go 1 (pc' := 538) (L' := [some (.ref 127), some (.int y470_1), some (.int y470_2), z3, z4, z5, some (.long y470_6), none, z8, z9, (ksl z10), some (.int (w51.1 208 y470_1.toInt.toNat))]) (S' := []) (w' := w51) rfl ?_
    refine tx_Mo_begin_538 FU _ _ _ _ _ _ _ _ _ _ _ _ hs (fun  z53_0 z53_1 z53_2 z53_3 z53_4 z53_5 z53_6 z53_7 z53_8 z53_9 z53_10 z53_11 w53 hs => ?_)
    refine tm_go 1 (pc' := 573) (L' := [z53_0, z53_1, z53_2, z53_3, z53_4, z53_5, z53_6, z53_7, z53_8, z53_9, z53_10, z53_11]) (S' := [.int 1]) (w' := w53) rfl ?_
    exact tm_r rfl ⟨_, rfl, by decide, hs⟩
set_option maxHeartbeats 4000000 in
set_option maxRecDepth 100000 in
theorem tx_Mo_begin_331 {d : Nat} {y331_1 : Int32} {y331_6 : Int64} {y331_10 : Int32} {ys331_0 : Int32} {ys331_1 : Int32} {z2 : Option Value} {z3 : Option Value} {z4 : Option Value} {z5 : Option Value} {z8 : Option Value} {z9 : Option Value} {z11 : Option Value} {w : MW} {Q : Int32 → MW → Prop} (hs : q_Mo_begin_331 y331_1 y331_6 y331_10 ys331_0 ys331_1 w Q) : Tm (d + 404) 110 331 [some (.ref 127), some (.int y331_1), z2, z3, z4, z5, some (.long y331_6), none, z8, z9, some (.int y331_10), z11] [.int ys331_0, .int ys331_1, .ref 211] w (RZ Q) := by
  unfold q_Mo_begin_331 at hs
  obtain ⟨b76, hs⟩ := hs
  refine tm_k (pc' := 332) (L' := [some (.ref 127), some (.int y331_1), z2, z3, z4, z5, some (.long y331_6), none, z8, z9, some (.int y331_10), z11]) (S' := []) (w' := (sI w 211 ys331_1.toInt.toNat (vp_nar .boolean ys331_0))) rfl b76 ?_
  refine tm_go 6 (pc' := 343) (L' := [some (.ref 127), some (.int y331_1), z2, z3, z4, z5, some (.long y331_6), none, z8, z9, some (.int y331_10), z11]) (S' := [.int y331_1, .ref 211, .int y331_10, .ref 206]) (w' := (sI w 211 ys331_1.toInt.toNat (vp_nar .boolean ys331_0))) rfl ?_
  obtain ⟨b77, hs⟩ := hs
  refine tm_k (pc' := 344) (L' := [some (.ref 127), some (.int y331_1), z2, z3, z4, z5, some (.long y331_6), none, z8, z9, some (.int y331_10), z11]) (S' := [.int ((sI w 211 ys331_1.toInt.toNat (vp_nar .boolean ys331_0)).1 211 y331_1.toInt.toNat), .int y331_10, .ref 206]) (w' := (sI w 211 ys331_1.toInt.toNat (vp_nar .boolean ys331_0))) rfl b77 ?_
  refine tm_i (p1 := 352) (p2 := 347) rfl (fun h78 => ?_) (fun h78 => ?_)
  · replace hs := hs.1 h78
    refine tm_go 3 (pc' := 358) (L' := [some (.ref 127), some (.int y331_1), z2, z3, z4, z5, some (.long y331_6), none, z8, z9, some (.int y331_10), z11]) (S' := [.int y331_10, .ref 206, .int y331_10, .ref 206]) (w' := (sI w 211 ys331_1.toInt.toNat (vp_nar .boolean ys331_0))) rfl ?_
    obtain ⟨b79, hs⟩ := hs
    refine tm_k (pc' := 359) (L' := [some (.ref 127), some (.int y331_1), z2, z3, z4, z5, some (.long y331_6), none, z8, z9, some (.int y331_10), z11]) (S' := [.long (w.2.1 206 y331_10.toInt.toNat), .int y331_10, .ref 206]) (w' := (sI w 211 ys331_1.toInt.toNat (vp_nar .boolean ys331_0))) rfl b79 ?_
    obtain ⟨b80, hs⟩ := hs
    refine tm_k (pc' := 360) (L' := [some (.ref 127), some (.int y331_1), z2, z3, z4, z5, some (.long y331_6), none, z8, z9, some (.int y331_10), z11]) (S' := []) (w' := (sJ (sI w 211 ys331_1.toInt.toNat (vp_nar .boolean ys331_0)) 206 y331_10.toInt.toNat (w.2.1 206 y331_10.toInt.toNat))) rfl b80 ?_
    refine tm_go 4 (pc' := 535) (L' := [some (.ref 127), some (.int y331_1), z2, z3, z4, z5, some (.long y331_6), none, z8, z9, some (.int y331_10), z11]) (S' := [.int y331_1, .ref 208]) (w' := (sJ (sI w 211 ys331_1.toInt.toNat (vp_nar .boolean ys331_0)) 206 y331_10.toInt.toNat (w.2.1 206 y331_10.toInt.toNat))) rfl ?_
    obtain ⟨b81, hs⟩ := hs
    refine tm_k (pc' := 536) (L' := [some (.ref 127), some (.int y331_1), z2, z3, z4, z5, some (.long y331_6), none, z8, z9, some (.int y331_10), z11]) (S' := [.int (w.1 208 y331_1.toInt.toNat)]) (w' := (sJ (sI w 211 ys331_1.toInt.toNat (vp_nar .boolean ys331_0)) 206 y331_10.toInt.toNat (w.2.1 206 y331_10.toInt.toNat))) rfl b81 ?_
    refine tm_go 1 (pc' := 538) (L' := [some (.ref 127), some (.int y331_1), z2, z3, z4, z5, some (.long y331_6), none, z8, z9, some (.int y331_10), some (.int (w.1 208 y331_1.toInt.toNat))]) (S' := []) (w' := (sJ (sI w 211 ys331_1.toInt.toNat (vp_nar .boolean ys331_0)) 206 y331_10.toInt.toNat (w.2.1 206 y331_10.toInt.toNat))) rfl ?_
    refine tx_Mo_begin_538 FU _ _ _ _ _ _ _ _ _ _ _ _ hs (fun  z82_0 z82_1 z82_2 z82_3 z82_4 z82_5 z82_6 z82_7 z82_8 z82_9 z82_10 z82_11 w82 hs => ?_)
    refine tm_go 1 (pc' := 573) (L' := [z82_0, z82_1, z82_2, z82_3, z82_4, z82_5, z82_6, z82_7, z82_8, z82_9, z82_10, z82_11]) (S' := [.int 1]) (w' := w82) rfl ?_
    exact tm_r rfl ⟨_, rfl, by decide, hs⟩
  · replace hs := hs.2 h78
    refine tm_go 2 (pc' := 359) (L' := [some (.ref 127), some (.int y331_1), z2, z3, z4, z5, some (.long y331_6), none, z8, z9, some (.int y331_10), z11]) (S' := [.long y331_6, .int y331_10, .ref 206]) (w' := (sI w 211 ys331_1.toInt.toNat (vp_nar .boolean ys331_0))) rfl ?_
    obtain ⟨b83, hs⟩ := hs
    refine tm_k (pc' := 360) (L' := [some (.ref 127), some (.int y331_1), z2, z3, z4, z5, some (.long y331_6), none, z8, z9, some (.int y331_10), z11]) (S' := []) (w' := (sJ (sI w 211 ys331_1.toInt.toNat (vp_nar .boolean ys331_0)) 206 y331_10.toInt.toNat y331_6)) rfl b83 ?_
    refine tm_go 4 (pc' := 535) (L' := [some (.ref 127), some (.int y331_1), z2, z3, z4, z5, some (.long y331_6), none, z8, z9, some (.int y331_10), z11]) (S' := [.int y331_1, .ref 208]) (w' := (sJ (sI w 211 ys331_1.toInt.toNat (vp_nar .boolean ys331_0)) 206 y331_10.toInt.toNat y331_6)) rfl ?_
    obtain ⟨b84, hs⟩ := hs
    refine tm_k (pc' := 536) (L' := [some (.ref 127), some (.int y331_1), z2, z3, z4, z5, some (.long y331_6), none, z8, z9, some (.int y331_10), z11]) (S' := [.int (w.1 208 y331_1.toInt.toNat)]) (w' := (sJ (sI w 211 ys331_1.toInt.toNat (vp_nar .boolean ys331_0)) 206 y331_10.toInt.toNat y331_6)) rfl b84 ?_
    refine tm_go 1 (pc' := 538) (L' := [some (.ref 127), some (.int y331_1), z2, z3, z4, z5, some (.long y331_6), none, z8, z9, some (.int y331_10), some (.int (w.1 208 y331_1.toInt.toNat))]) (S' := []) (w' := (sJ (sI w 211 ys331_1.toInt.toNat (vp_nar .boolean ys331_0)) 206 y331_10.toInt.toNat y331_6)) rfl ?_
    refine tx_Mo_begin_538 FU _ _ _ _ _ _ _ _ _ _ _ _ hs (fun  z85_0 z85_1 z85_2 z85_3 z85_4 z85_5 z85_6 z85_7 z85_8 z85_9 z85_10 z85_11 w85 hs => ?_)
    refine tm_go 1 (pc' := 573) (L' := [z85_0, z85_1, z85_2, z85_3, z85_4, z85_5, z85_6, z85_7, z85_8, z85_9, z85_10, z85_11]) (S' := [.int 1]) (w' := w85) rfl ?_
    exact tm_r rfl ⟨_, rfl, by decide, hs⟩
set_option maxHeartbeats 4000000 in
set_option maxRecDepth 100000 in
theorem tx_Mo_begin_248 {d : Nat} {y248_1 : Int32} {y248_2 : Int32} {y248_3 : Int32} {y248_4 : Int32} {y248_6 : Int64} {ys248_0 : Int64} {ys248_1 : Int32} {z5 : Option Value} {z8 : Option Value} {z9 : Option Value} {z10 : Option Value} {z11 : Option Value} {w : MW} {Q : Int32 → MW → Prop} (hs : q_Mo_begin_248 y248_1 y248_2 y248_3 y248_4 y248_6 ys248_0 ys248_1 w Q) : Tm (d + 404) 110 248 [some (.ref 127), some (.int y248_1), some (.int y248_2), some (.int y248_3), some (.int y248_4), z5, some (.long y248_6), none, z8, z9, z10, z11] [.long ys248_0, .int ys248_1, .ref 215] w (RZ Q) := by
  unfold q_Mo_begin_248 at hs
  refine tm_go 2 (pc' := 252) (L' := [some (.ref 127), some (.int y248_1), some (.int y248_2), some (.int y248_3), some (.int y248_4), z5, some (.long y248_6), none, z8, z9, z10, z11]) (S' := [.long (ys248_0 / (1000 : Int64)), .int ys248_1, .ref 215]) (w' := w) rfl ?_
  obtain ⟨b19, hs⟩ := hs
  refine tm_k (pc' := 253) (L' := [some (.ref 127), some (.int y248_1), some (.int y248_2), some (.int y248_3), some (.int y248_4), z5, some (.long y248_6), none, z8, z9, z10, z11]) (S' := []) (w' := (sJ w 215 ys248_1.toInt.toNat (ys248_0 / (1000 : Int64)))) rfl b19 ?_
  refine tm_go 4 (pc' := 259) (L' := [some (.ref 127), some (.int y248_1), some (.int y248_2), some (.int y248_3), some (.int y248_4), z5, some (.long y248_6), none, z8, z9, z10, z11]) (S' := [.int 0, .int y248_1, .ref 211]) (w' := (sJ w 215 ys248_1.toInt.toNat (ys248_0 / (1000 : Int64)))) rfl ?_
  obtain ⟨b20, hs⟩ := hs
  refine tm_k (pc' := 260) (L' := [some (.ref 127), some (.int y248_1), some (.int y248_2), some (.int y248_3), some (.int y248_4), z5, some (.long y248_6), none, z8, z9, z10, z11]) (S' := []) (w' := (sI (sJ w 215 ys248_1.toInt.toNat (ys248_0 / (1000 : Int64))) 211 y248_1.toInt.toNat (vp_nar .boolean (0 : Int32)))) rfl b20 ?_
  refine tm_go 4 (pc' := 269) (L' := [some (.ref 127), some (.int y248_1), some (.int y248_2), some (.int y248_3), some (.int y248_4), z5, some (.long y248_6), none, z8, z9, z10, z11]) (S' := [.int y248_4, .ref 132]) (w' := (sI (sJ w 215 ys248_1.toInt.toNat (ys248_0 / (1000 : Int64))) 211 y248_1.toInt.toNat (vp_nar .boolean (0 : Int32)))) rfl ?_
  obtain ⟨b21, hs⟩ := hs
  refine tm_k (pc' := 270) (L' := [some (.ref 127), some (.int y248_1), some (.int y248_2), some (.int y248_3), some (.int y248_4), z5, some (.long y248_6), none, z8, z9, z10, z11]) (S' := [.long (w.2.1 132 y248_4.toInt.toNat)]) (w' := (sI (sJ w 215 ys248_1.toInt.toNat (ys248_0 / (1000 : Int64))) 211 y248_1.toInt.toNat (vp_nar .boolean (0 : Int32)))) rfl b21 ?_
  refine tm_go 4 (pc' := 276) (L' := [some (.ref 127), some (.int y248_1), some (.int y248_2), some (.int y248_3), some (.int y248_4), z5, some (.long y248_6), none, z8, (ksl z9), some (.int (Int64.toInt32 (w.2.1 132 y248_4.toInt.toNat))), z11]) (S' := [.int 10, .int y248_3]) (w' := (sI (sJ w 215 ys248_1.toInt.toNat (ys248_0 / (1000 : Int64))) 211 y248_1.toInt.toNat (vp_nar .boolean (0 : Int32)))) rfl ?_
  refine tm_i (p1 := 291) (p2 := 279) rfl (fun h22 => ?_) (fun h22 => ?_)
  · replace hs := hs.1 h22
    refine tm_go 2 (pc' := 294) (L' := [some (.ref 127), some (.int y248_1), some (.int y248_2), some (.int y248_3), some (.int y248_4), z5, some (.long y248_6), none, z8, (ksl z9), some (.int (Int64.toInt32 (w.2.1 132 y248_4.toInt.toNat))), z11]) (S' := [.int 13, .int y248_3]) (w' := (sI (sJ w 215 ys248_1.toInt.toNat (ys248_0 / (1000 : Int64))) 211 y248_1.toInt.toNat (vp_nar .boolean (0 : Int32)))) rfl ?_
    refine tm_i (p1 := 363) (p2 := 297) rfl (fun h23 => ?_) (fun h23 => ?_)
    · replace hs := hs.1 h23
      refine tm_go 2 (pc' := 366) (L' := [some (.ref 127), some (.int y248_1), some (.int y248_2), some (.int y248_3), some (.int y248_4), z5, some (.long y248_6), none, z8, (ksl z9), some (.int (Int64.toInt32 (w.2.1 132 y248_4.toInt.toNat))), z11]) (S' := [.int 12, .int y248_3]) (w' := (sI (sJ w 215 ys248_1.toInt.toNat (ys248_0 / (1000 : Int64))) 211 y248_1.toInt.toNat (vp_nar .boolean (0 : Int32)))) rfl ?_
      refine tm_i (p1 := 390) (p2 := 369) rfl (fun h24 => ?_) (fun h24 => ?_)
      · replace hs := hs.1 h24
        refine tm_go 2 (pc' := 393) (L' := [some (.ref 127), some (.int y248_1), some (.int y248_2), some (.int y248_3), some (.int y248_4), z5, some (.long y248_6), none, z8, (ksl z9), some (.int (Int64.toInt32 (w.2.1 132 y248_4.toInt.toNat))), z11]) (S' := [.int 15, .int y248_3]) (w' := (sI (sJ w 215 ys248_1.toInt.toNat (ys248_0 / (1000 : Int64))) 211 y248_1.toInt.toNat (vp_nar .boolean (0 : Int32)))) rfl ?_
        refine tm_i (p1 := 432) (p2 := 396) rfl (fun h25 => ?_) (fun h25 => ?_)
        · replace hs := hs.1 h25
          refine tm_go 2 (pc' := 435) (L' := [some (.ref 127), some (.int y248_1), some (.int y248_2), some (.int y248_3), some (.int y248_4), z5, some (.long y248_6), none, z8, (ksl z9), some (.int (Int64.toInt32 (w.2.1 132 y248_4.toInt.toNat))), z11]) (S' := [.int 17, .int y248_3]) (w' := (sI (sJ w 215 ys248_1.toInt.toNat (ys248_0 / (1000 : Int64))) 211 y248_1.toInt.toNat (vp_nar .boolean (0 : Int32)))) rfl ?_
          refine tm_i (p1 := 487) (p2 := 438) rfl (fun h26 => ?_) (fun h26 => ?_)
          · replace hs := hs.1 h26
            refine tm_go 2 (pc' := 490) (L' := [some (.ref 127), some (.int y248_1), some (.int y248_2), some (.int y248_3), some (.int y248_4), z5, some (.long y248_6), none, z8, (ksl z9), some (.int (Int64.toInt32 (w.2.1 132 y248_4.toInt.toNat))), z11]) (S' := [.int 21, .int y248_3]) (w' := (sI (sJ w 215 ys248_1.toInt.toNat (ys248_0 / (1000 : Int64))) 211 y248_1.toInt.toNat (vp_nar .boolean (0 : Int32)))) rfl ?_
            refine tm_i (p1 := 501) (p2 := 493) rfl (fun h27 => ?_) (fun h27 => ?_)
            · replace hs := hs.1 h27
              refine tm_go 2 (pc' := 504) (L' := [some (.ref 127), some (.int y248_1), some (.int y248_2), some (.int y248_3), some (.int y248_4), z5, some (.long y248_6), none, z8, (ksl z9), some (.int (Int64.toInt32 (w.2.1 132 y248_4.toInt.toNat))), z11]) (S' := [.int 22, .int y248_3]) (w' := (sI (sJ w 215 ys248_1.toInt.toNat (ys248_0 / (1000 : Int64))) 211 y248_1.toInt.toNat (vp_nar .boolean (0 : Int32)))) rfl ?_
              refine tm_i (p1 := 530) (p2 := 507) rfl (fun h28 => ?_) (fun h28 => ?_)
              · replace hs := hs.1 h28
                refine tm_go 3 (pc' := 535) (L' := [some (.ref 127), some (.int y248_1), some (.int y248_2), some (.int y248_3), some (.int y248_4), z5, some (.long y248_6), none, z8, (ksl z9), some (.int (Int64.toInt32 (w.2.1 132 y248_4.toInt.toNat))), z11]) (S' := [.int y248_1, .ref 208]) (w' := (sI (sJ w 215 ys248_1.toInt.toNat (ys248_0 / (1000 : Int64))) 211 y248_1.toInt.toNat (vp_nar .boolean (0 : Int32)))) rfl ?_
                obtain ⟨b29, hs⟩ := hs
                refine tm_k (pc' := 536) (L' := [some (.ref 127), some (.int y248_1), some (.int y248_2), some (.int y248_3), some (.int y248_4), z5, some (.long y248_6), none, z8, (ksl z9), some (.int (Int64.toInt32 (w.2.1 132 y248_4.toInt.toNat))), z11]) (S' := [.int (w.1 208 y248_1.toInt.toNat)]) (w' := (sI (sJ w 215 ys248_1.toInt.toNat (ys248_0 / (1000 : Int64))) 211 y248_1.toInt.toNat (vp_nar .boolean (0 : Int32)))) rfl b29 ?_
                refine tm_go 1 (pc' := 538) (L' := [some (.ref 127), some (.int y248_1), some (.int y248_2), some (.int y248_3), some (.int y248_4), z5, some (.long y248_6), none, z8, (ksl z9), some (.int (Int64.toInt32 (w.2.1 132 y248_4.toInt.toNat))), some (.int (w.1 208 y248_1.toInt.toNat))]) (S' := []) (w' := (sI (sJ w 215 ys248_1.toInt.toNat (ys248_0 / (1000 : Int64))) 211 y248_1.toInt.toNat (vp_nar .boolean (0 : Int32)))) rfl ?_
                refine tx_Mo_begin_538 FU _ _ _ _ _ _ _ _ _ _ _ _ hs (fun  z34_0 z34_1 z34_2 z34_3 z34_4 z34_5 z34_6 z34_7 z34_8 z34_9 z34_10 z34_11 w34 hs => ?_)
                refine tm_go 1 (pc' := 573) (L' := [z34_0, z34_1, z34_2, z34_3, z34_4, z34_5, z34_6, z34_7, z34_8, z34_9, z34_10, z34_11]) (S' := [.int 1]) (w' := w34) rfl ?_
                exact tm_r rfl ⟨_, rfl, by decide, hs⟩
              · replace hs := hs.2 h28
                refine tm_go 2 (pc' := 510) (L' := [some (.ref 127), some (.int y248_1), some (.int y248_2), some (.int y248_3), some (.int y248_4), z5, some (.long y248_6), none, z8, (ksl z9), some (.int (Int64.toInt32 (w.2.1 132 y248_4.toInt.toNat))), z11]) (S' := [.int (Int64.toInt32 (w.2.1 132 y248_4.toInt.toNat)), .ref 127]) (w' := (sI (sJ w 215 ys248_1.toInt.toNat (ys248_0 / (1000 : Int64))) 211 y248_1.toInt.toNat (vp_nar .boolean (0 : Int32)))) rfl ?_
                refine tm_c rfl (Nat.le_of_ble_eq_true rfl) (dm_Mo_perform (d := d + 0) hs) (fun v w35 hq => ?_)
                obtain ⟨r35, rfl, hs⟩ := hq
                refine tm_go 2 (pc' := 517) (L' := [some (.ref 127), some (.int y248_1), some (.int y248_2), some (.int y248_3), some (.int y248_4), z5, some (.long y248_6), none, z8, (ksl z9), some (.int (Int64.toInt32 (w.2.1 132 y248_4.toInt.toNat))), some (.int r35)]) (S' := [.int r35]) (w' := w35) rfl ?_
                refine tm_i (p1 := 530) (p2 := 520) rfl (fun h36 => ?_) (fun h36 => ?_)
                · replace hs := hs.1 h36
                  refine tm_go 3 (pc' := 535) (L' := [some (.ref 127), some (.int y248_1), some (.int y248_2), some (.int y248_3), some (.int y248_4), z5, some (.long y248_6), none, z8, (ksl z9), some (.int (Int64.toInt32 (w.2.1 132 y248_4.toInt.toNat))), some (.int r35)]) (S' := [.int y248_1, .ref 208]) (w' := w35) rfl ?_
                  obtain ⟨b37, hs⟩ := hs
                  refine tm_k (pc' := 536) (L' := [some (.ref 127), some (.int y248_1), some (.int y248_2), some (.int y248_3), some (.int y248_4), z5, some (.long y248_6), none, z8, (ksl z9), some (.int (Int64.toInt32 (w.2.1 132 y248_4.toInt.toNat))), some (.int r35)]) (S' := [.int (w35.1 208 y248_1.toInt.toNat)]) (w' := w35) rfl b37 ?_
                  refine tm_go 1 (pc' := 538) (L' := [some (.ref 127), some (.int y248_1), some (.int y248_2), some (.int y248_3), some (.int y248_4), z5, some (.long y248_6), none, z8, (ksl z9), some (.int (Int64.toInt32 (w.2.1 132 y248_4.toInt.toNat))), some (.int (w35.1 208 y248_1.toInt.toNat))]) (S' := []) (w' := w35) rfl ?_
                  refine tx_Mo_begin_538 FU _ _ _ _ _ _ _ _ _ _ _ _ hs (fun  z38_0 z38_1 z38_2 z38_3 z38_4 z38_5 z38_6 z38_7 z38_8 z38_9 z38_10 z38_11 w38 hs => ?_)
                  refine tm_go 1 (pc' := 573) (L' := [z38_0, z38_1, z38_2, z38_3, z38_4, z38_5, z38_6, z38_7, z38_8, z38_9, z38_10, z38_11]) (S' := [.int 1]) (w' := w38) rfl ?_
                  exact tm_r rfl ⟨_, rfl, by decide, hs⟩
                · replace hs := hs.2 h36
                  refine tm_go 5 (pc' := 527) (L' := [some (.ref 127), some (.int y248_1), some (.int y248_2), some (.int y248_3), some (.int y248_4), z5, some (.long y248_6), none, z8, (ksl z9), some (.int (Int64.toInt32 (w.2.1 132 y248_4.toInt.toNat))), some (.int r35)]) (S' := [.int ((10 : Int32) + r35), .int y248_2, .ref 127]) (w' := w35) rfl ?_
                  refine tm_c rfl (Nat.le_of_ble_eq_true rfl) (dm_Mo_raise (d := d + 403) hs) (fun v w39 hq => ?_)
                  obtain ⟨rfl, hs⟩ := hq
                  refine tm_go 3 (pc' := 535) (L' := [some (.ref 127), some (.int y248_1), some (.int y248_2), some (.int y248_3), some (.int y248_4), z5, some (.long y248_6), none, z8, (ksl z9), some (.int (Int64.toInt32 (w.2.1 132 y248_4.toInt.toNat))), some (.int r35)]) (S' := [.int y248_1, .ref 208]) (w' := w39) rfl ?_
                  obtain ⟨b40, hs⟩ := hs
                  refine tm_k (pc' := 536) (L' := [some (.ref 127), some (.int y248_1), some (.int y248_2), some (.int y248_3), some (.int y248_4), z5, some (.long y248_6), none, z8, (ksl z9), some (.int (Int64.toInt32 (w.2.1 132 y248_4.toInt.toNat))), some (.int r35)]) (S' := [.int (w39.1 208 y248_1.toInt.toNat)]) (w' := w39) rfl b40 ?_
                  refine tm_go 1 (pc' := 538) (L' := [some (.ref 127), some (.int y248_1), some (.int y248_2), some (.int y248_3), some (.int y248_4), z5, some (.long y248_6), none, z8, (ksl z9), some (.int (Int64.toInt32 (w.2.1 132 y248_4.toInt.toNat))), some (.int (w39.1 208 y248_1.toInt.toNat))]) (S' := []) (w' := w39) rfl ?_
                  refine tx_Mo_begin_538 FU _ _ _ _ _ _ _ _ _ _ _ _ hs (fun  z41_0 z41_1 z41_2 z41_3 z41_4 z41_5 z41_6 z41_7 z41_8 z41_9 z41_10 z41_11 w41 hs => ?_)
                  refine tm_go 1 (pc' := 573) (L' := [z41_0, z41_1, z41_2, z41_3, z41_4, z41_5, z41_6, z41_7, z41_8, z41_9, z41_10, z41_11]) (S' := [.int 1]) (w' := w41) rfl ?_
                  exact tm_r rfl ⟨_, rfl, by decide, hs⟩
            · replace hs := hs.2 h27
              refine tm_go 7 (pc' := 535) (L' := [some (.ref 127), some (.int y248_1), some (.int y248_2), some (.int y248_3), some (.int y248_4), z5, some (.long y248_6), none, z8, (ksl z9), some (.int (Int64.toInt32 (w.2.1 132 y248_4.toInt.toNat))), z11]) (S' := [.int y248_1, .ref 208]) (w' := (sI (sI (sJ w 215 ys248_1.toInt.toNat (ys248_0 / (1000 : Int64))) 211 y248_1.toInt.toNat (vp_nar .boolean (0 : Int32))) 127 75 1)) rfl ?_
              obtain ⟨b42, hs⟩ := hs
              refine tm_k (pc' := 536) (L' := [some (.ref 127), some (.int y248_1), some (.int y248_2), some (.int y248_3), some (.int y248_4), z5, some (.long y248_6), none, z8, (ksl z9), some (.int (Int64.toInt32 (w.2.1 132 y248_4.toInt.toNat))), z11]) (S' := [.int (w.1 208 y248_1.toInt.toNat)]) (w' := (sI (sI (sJ w 215 ys248_1.toInt.toNat (ys248_0 / (1000 : Int64))) 211 y248_1.toInt.toNat (vp_nar .boolean (0 : Int32))) 127 75 1)) rfl b42 ?_
              refine tm_go 1 (pc' := 538) (L' := [some (.ref 127), some (.int y248_1), some (.int y248_2), some (.int y248_3), some (.int y248_4), z5, some (.long y248_6), none, z8, (ksl z9), some (.int (Int64.toInt32 (w.2.1 132 y248_4.toInt.toNat))), some (.int (w.1 208 y248_1.toInt.toNat))]) (S' := []) (w' := (sI (sI (sJ w 215 ys248_1.toInt.toNat (ys248_0 / (1000 : Int64))) 211 y248_1.toInt.toNat (vp_nar .boolean (0 : Int32))) 127 75 1)) rfl ?_
              refine tx_Mo_begin_538 FU _ _ _ _ _ _ _ _ _ _ _ _ hs (fun  z43_0 z43_1 z43_2 z43_3 z43_4 z43_5 z43_6 z43_7 z43_8 z43_9 z43_10 z43_11 w43 hs => ?_)
              refine tm_go 1 (pc' := 573) (L' := [z43_0, z43_1, z43_2, z43_3, z43_4, z43_5, z43_6, z43_7, z43_8, z43_9, z43_10, z43_11]) (S' := [.int 1]) (w' := w43) rfl ?_
              exact tm_r rfl ⟨_, rfl, by decide, hs⟩
          · replace hs := hs.2 h26
            refine tm_go 6 (pc' := 447) (L' := [some (.ref 127), some (.int y248_1), some (.int y248_2), some (.int y248_3), some (.int y248_4), z5, some (.long y248_6), none, z8, (ksl z9), some (.int (Int64.toInt32 (w.2.1 132 y248_4.toInt.toNat))), z11]) (S' := [.int (lg_cmp y248_6 (0 : Int64)), .int y248_1, .ref 213]) (w' := (sI (sJ w 215 ys248_1.toInt.toNat (ys248_0 / (1000 : Int64))) 211 y248_1.toInt.toNat (vp_nar .boolean (0 : Int32)))) rfl ?_
            refine tm_i (p1 := 459) (p2 := 450) rfl (fun h44 => ?_) (fun h44 => ?_)
            · replace hs := hs.1 h44
              refine tm_go 5 (pc' := 468) (L' := [some (.ref 127), some (.int y248_1), some (.int y248_2), some (.int y248_3), some (.int y248_4), z5, some (.long y248_6), none, z8, (ksl z9), some (.int (Int64.toInt32 (w.2.1 132 y248_4.toInt.toNat))), z11]) (S' := [.int y248_1, .ref 208, .ref 209, .int y248_1, .ref 213]) (w' := (sI (sJ w 215 ys248_1.toInt.toNat (ys248_0 / (1000 : Int64))) 211 y248_1.toInt.toNat (vp_nar .boolean (0 : Int32)))) rfl ?_
              obtain ⟨b45, hs⟩ := hs
              refine tm_k (pc' := 469) (L' := [some (.ref 127), some (.int y248_1), some (.int y248_2), some (.int y248_3), some (.int y248_4), z5, some (.long y248_6), none, z8, (ksl z9), some (.int (Int64.toInt32 (w.2.1 132 y248_4.toInt.toNat))), z11]) (S' := [.int (w.1 208 y248_1.toInt.toNat), .ref 209, .int y248_1, .ref 213]) (w' := (sI (sJ w 215 ys248_1.toInt.toNat (ys248_0 / (1000 : Int64))) 211 y248_1.toInt.toNat (vp_nar .boolean (0 : Int32)))) rfl b45 ?_
              obtain ⟨b46, hs⟩ := hs
              refine tm_k (pc' := 470) (L' := [some (.ref 127), some (.int y248_1), some (.int y248_2), some (.int y248_3), some (.int y248_4), z5, some (.long y248_6), none, z8, (ksl z9), some (.int (Int64.toInt32 (w.2.1 132 y248_4.toInt.toNat))), z11]) (S' := [.int (w.1 209 ((w.1 208 y248_1.toInt.toNat).toInt.toNat)), .int y248_1, .ref 213]) (w' := (sI (sJ w 215 ys248_1.toInt.toNat (ys248_0 / (1000 : Int64))) 211 y248_1.toInt.toNat (vp_nar .boolean (0 : Int32)))) rfl b46 ?_
              exact tx_Mo_begin_470 hs 
            · replace hs := hs.2 h44
              refine tm_go 3 (pc' := 455) (L' := [some (.ref 127), some (.int y248_1), some (.int y248_2), some (.int y248_3), some (.int y248_4), z5, some (.long y248_6), none, z8, (ksl z9), some (.int (Int64.toInt32 (w.2.1 132 y248_4.toInt.toNat))), z11]) (S' := [.int y248_1, .ref 208, .int y248_1, .ref 213]) (w' := (sI (sJ w 215 ys248_1.toInt.toNat (ys248_0 / (1000 : Int64))) 211 y248_1.toInt.toNat (vp_nar .boolean (0 : Int32)))) rfl ?_
              obtain ⟨b54, hs⟩ := hs
              refine tm_k (pc' := 456) (L' := [some (.ref 127), some (.int y248_1), some (.int y248_2), some (.int y248_3), some (.int y248_4), z5, some (.long y248_6), none, z8, (ksl z9), some (.int (Int64.toInt32 (w.2.1 132 y248_4.toInt.toNat))), z11]) (S' := [.int (w.1 208 y248_1.toInt.toNat), .int y248_1, .ref 213]) (w' := (sI (sJ w 215 ys248_1.toInt.toNat (ys248_0 / (1000 : Int64))) 211 y248_1.toInt.toNat (vp_nar .boolean (0 : Int32)))) rfl b54 ?_
              refine tm_go 1 (pc' := 470) (L' := [some (.ref 127), some (.int y248_1), some (.int y248_2), some (.int y248_3), some (.int y248_4), z5, some (.long y248_6), none, z8, (ksl z9), some (.int (Int64.toInt32 (w.2.1 132 y248_4.toInt.toNat))), z11]) (S' := [.int (w.1 208 y248_1.toInt.toNat), .int y248_1, .ref 213]) (w' := (sI (sJ w 215 ys248_1.toInt.toNat (ys248_0 / (1000 : Int64))) 211 y248_1.toInt.toNat (vp_nar .boolean (0 : Int32)))) rfl ?_
              exact tx_Mo_begin_470 hs 
        · replace hs := hs.2 h25
          refine tm_go 6 (pc' := 405) (L' := [some (.ref 127), some (.int y248_1), some (.int y248_2), some (.int y248_3), some (.int y248_4), z5, some (.long y248_6), none, z8, (ksl z9), some (.int (Int64.toInt32 (w.2.1 132 y248_4.toInt.toNat))), z11]) (S' := [.int (lg_cmp y248_6 (0 : Int64)), .int y248_1, .ref 213]) (w' := (sI (sJ w 215 ys248_1.toInt.toNat (ys248_0 / (1000 : Int64))) 211 y248_1.toInt.toNat (vp_nar .boolean (0 : Int32)))) rfl ?_
          refine tm_i (p1 := 417) (p2 := 408) rfl (fun h55 => ?_) (fun h55 => ?_)
          · replace hs := hs.1 h55
            refine tm_go 5 (pc' := 426) (L' := [some (.ref 127), some (.int y248_1), some (.int y248_2), some (.int y248_3), some (.int y248_4), z5, some (.long y248_6), none, z8, (ksl z9), some (.int (Int64.toInt32 (w.2.1 132 y248_4.toInt.toNat))), z11]) (S' := [.int y248_1, .ref 208, .ref 209, .int y248_1, .ref 213]) (w' := (sI (sJ w 215 ys248_1.toInt.toNat (ys248_0 / (1000 : Int64))) 211 y248_1.toInt.toNat (vp_nar .boolean (0 : Int32)))) rfl ?_
            obtain ⟨b56, hs⟩ := hs
            refine tm_k (pc' := 427) (L' := [some (.ref 127), some (.int y248_1), some (.int y248_2), some (.int y248_3), some (.int y248_4), z5, some (.long y248_6), none, z8, (ksl z9), some (.int (Int64.toInt32 (w.2.1 132 y248_4.toInt.toNat))), z11]) (S' := [.int (w.1 208 y248_1.toInt.toNat), .ref 209, .int y248_1, .ref 213]) (w' := (sI (sJ w 215 ys248_1.toInt.toNat (ys248_0 / (1000 : Int64))) 211 y248_1.toInt.toNat (vp_nar .boolean (0 : Int32)))) rfl b56 ?_
            obtain ⟨b57, hs⟩ := hs
            refine tm_k (pc' := 428) (L' := [some (.ref 127), some (.int y248_1), some (.int y248_2), some (.int y248_3), some (.int y248_4), z5, some (.long y248_6), none, z8, (ksl z9), some (.int (Int64.toInt32 (w.2.1 132 y248_4.toInt.toNat))), z11]) (S' := [.int (w.1 209 ((w.1 208 y248_1.toInt.toNat).toInt.toNat)), .int y248_1, .ref 213]) (w' := (sI (sJ w 215 ys248_1.toInt.toNat (ys248_0 / (1000 : Int64))) 211 y248_1.toInt.toNat (vp_nar .boolean (0 : Int32)))) rfl b57 ?_
            obtain ⟨b58, hs⟩ := hs
            refine tm_k (pc' := 429) (L' := [some (.ref 127), some (.int y248_1), some (.int y248_2), some (.int y248_3), some (.int y248_4), z5, some (.long y248_6), none, z8, (ksl z9), some (.int (Int64.toInt32 (w.2.1 132 y248_4.toInt.toNat))), z11]) (S' := []) (w' := (sI (sI (sJ w 215 ys248_1.toInt.toNat (ys248_0 / (1000 : Int64))) 211 y248_1.toInt.toNat (vp_nar .boolean (0 : Int32))) 213 y248_1.toInt.toNat (w.1 209 ((w.1 208 y248_1.toInt.toNat).toInt.toNat)))) rfl b58 ?_
            refine tm_go 4 (pc' := 535) (L' := [some (.ref 127), some (.int y248_1), some (.int y248_2), some (.int y248_3), some (.int y248_4), z5, some (.long y248_6), none, z8, (ksl z9), some (.int (Int64.toInt32 (w.2.1 132 y248_4.toInt.toNat))), z11]) (S' := [.int y248_1, .ref 208]) (w' := (sI (sI (sJ w 215 ys248_1.toInt.toNat (ys248_0 / (1000 : Int64))) 211 y248_1.toInt.toNat (vp_nar .boolean (0 : Int32))) 213 y248_1.toInt.toNat (w.1 209 ((w.1 208 y248_1.toInt.toNat).toInt.toNat)))) rfl ?_
            obtain ⟨b59, hs⟩ := hs
            refine tm_k (pc' := 536) (L' := [some (.ref 127), some (.int y248_1), some (.int y248_2), some (.int y248_3), some (.int y248_4), z5, some (.long y248_6), none, z8, (ksl z9), some (.int (Int64.toInt32 (w.2.1 132 y248_4.toInt.toNat))), z11]) (S' := [.int (w.1 208 y248_1.toInt.toNat)]) (w' := (sI (sI (sJ w 215 ys248_1.toInt.toNat (ys248_0 / (1000 : Int64))) 211 y248_1.toInt.toNat (vp_nar .boolean (0 : Int32))) 213 y248_1.toInt.toNat (w.1 209 ((w.1 208 y248_1.toInt.toNat).toInt.toNat)))) rfl b59 ?_
            refine tm_go 1 (pc' := 538) (L' := [some (.ref 127), some (.int y248_1), some (.int y248_2), some (.int y248_3), some (.int y248_4), z5, some (.long y248_6), none, z8, (ksl z9), some (.int (Int64.toInt32 (w.2.1 132 y248_4.toInt.toNat))), some (.int (w.1 208 y248_1.toInt.toNat))]) (S' := []) (w' := (sI (sI (sJ w 215 ys248_1.toInt.toNat (ys248_0 / (1000 : Int64))) 211 y248_1.toInt.toNat (vp_nar .boolean (0 : Int32))) 213 y248_1.toInt.toNat (w.1 209 ((w.1 208 y248_1.toInt.toNat).toInt.toNat)))) rfl ?_
            refine tx_Mo_begin_538 FU _ _ _ _ _ _ _ _ _ _ _ _ hs (fun  z60_0 z60_1 z60_2 z60_3 z60_4 z60_5 z60_6 z60_7 z60_8 z60_9 z60_10 z60_11 w60 hs => ?_)
            refine tm_go 1 (pc' := 573) (L' := [z60_0, z60_1, z60_2, z60_3, z60_4, z60_5, z60_6, z60_7, z60_8, z60_9, z60_10, z60_11]) (S' := [.int 1]) (w' := w60) rfl ?_
            exact tm_r rfl ⟨_, rfl, by decide, hs⟩
          · replace hs := hs.2 h55
            refine tm_go 3 (pc' := 413) (L' := [some (.ref 127), some (.int y248_1), some (.int y248_2), some (.int y248_3), some (.int y248_4), z5, some (.long y248_6), none, z8, (ksl z9), some (.int (Int64.toInt32 (w.2.1 132 y248_4.toInt.toNat))), z11]) (S' := [.int y248_1, .ref 208, .int y248_1, .ref 213]) (w' := (sI (sJ w 215 ys248_1.toInt.toNat (ys248_0 / (1000 : Int64))) 211 y248_1.toInt.toNat (vp_nar .boolean (0 : Int32)))) rfl ?_
            obtain ⟨b61, hs⟩ := hs
            refine tm_k (pc' := 414) (L' := [some (.ref 127), some (.int y248_1), some (.int y248_2), some (.int y248_3), some (.int y248_4), z5, some (.long y248_6), none, z8, (ksl z9), some (.int (Int64.toInt32 (w.2.1 132 y248_4.toInt.toNat))), z11]) (S' := [.int (w.1 208 y248_1.toInt.toNat), .int y248_1, .ref 213]) (w' := (sI (sJ w 215 ys248_1.toInt.toNat (ys248_0 / (1000 : Int64))) 211 y248_1.toInt.toNat (vp_nar .boolean (0 : Int32)))) rfl b61 ?_
            refine tm_go 1 (pc' := 428) (L' := [some (.ref 127), some (.int y248_1), some (.int y248_2), some (.int y248_3), some (.int y248_4), z5, some (.long y248_6), none, z8, (ksl z9), some (.int (Int64.toInt32 (w.2.1 132 y248_4.toInt.toNat))), z11]) (S' := [.int (w.1 208 y248_1.toInt.toNat), .int y248_1, .ref 213]) (w' := (sI (sJ w 215 ys248_1.toInt.toNat (ys248_0 / (1000 : Int64))) 211 y248_1.toInt.toNat (vp_nar .boolean (0 : Int32)))) rfl ?_
            obtain ⟨b62, hs⟩ := hs
            refine tm_k (pc' := 429) (L' := [some (.ref 127), some (.int y248_1), some (.int y248_2), some (.int y248_3), some (.int y248_4), z5, some (.long y248_6), none, z8, (ksl z9), some (.int (Int64.toInt32 (w.2.1 132 y248_4.toInt.toNat))), z11]) (S' := []) (w' := (sI (sI (sJ w 215 ys248_1.toInt.toNat (ys248_0 / (1000 : Int64))) 211 y248_1.toInt.toNat (vp_nar .boolean (0 : Int32))) 213 y248_1.toInt.toNat (w.1 208 y248_1.toInt.toNat))) rfl b62 ?_
            refine tm_go 4 (pc' := 535) (L' := [some (.ref 127), some (.int y248_1), some (.int y248_2), some (.int y248_3), some (.int y248_4), z5, some (.long y248_6), none, z8, (ksl z9), some (.int (Int64.toInt32 (w.2.1 132 y248_4.toInt.toNat))), z11]) (S' := [.int y248_1, .ref 208]) (w' := (sI (sI (sJ w 215 ys248_1.toInt.toNat (ys248_0 / (1000 : Int64))) 211 y248_1.toInt.toNat (vp_nar .boolean (0 : Int32))) 213 y248_1.toInt.toNat (w.1 208 y248_1.toInt.toNat))) rfl ?_
            obtain ⟨b63, hs⟩ := hs
            refine tm_k (pc' := 536) (L' := [some (.ref 127), some (.int y248_1), some (.int y248_2), some (.int y248_3), some (.int y248_4), z5, some (.long y248_6), none, z8, (ksl z9), some (.int (Int64.toInt32 (w.2.1 132 y248_4.toInt.toNat))), z11]) (S' := [.int (w.1 208 y248_1.toInt.toNat)]) (w' := (sI (sI (sJ w 215 ys248_1.toInt.toNat (ys248_0 / (1000 : Int64))) 211 y248_1.toInt.toNat (vp_nar .boolean (0 : Int32))) 213 y248_1.toInt.toNat (w.1 208 y248_1.toInt.toNat))) rfl b63 ?_
            refine tm_go 1 (pc' := 538) (L' := [some (.ref 127), some (.int y248_1), some (.int y248_2), some (.int y248_3), some (.int y248_4), z5, some (.long y248_6), none, z8, (ksl z9), some (.int (Int64.toInt32 (w.2.1 132 y248_4.toInt.toNat))), some (.int (w.1 208 y248_1.toInt.toNat))]) (S' := []) (w' := (sI (sI (sJ w 215 ys248_1.toInt.toNat (ys248_0 / (1000 : Int64))) 211 y248_1.toInt.toNat (vp_nar .boolean (0 : Int32))) 213 y248_1.toInt.toNat (w.1 208 y248_1.toInt.toNat))) rfl ?_
            refine tx_Mo_begin_538 FU _ _ _ _ _ _ _ _ _ _ _ _ hs (fun  z64_0 z64_1 z64_2 z64_3 z64_4 z64_5 z64_6 z64_7 z64_8 z64_9 z64_10 z64_11 w64 hs => ?_)
            refine tm_go 1 (pc' := 573) (L' := [z64_0, z64_1, z64_2, z64_3, z64_4, z64_5, z64_6, z64_7, z64_8, z64_9, z64_10, z64_11]) (S' := [.int 1]) (w' := w64) rfl ?_
            exact tm_r rfl ⟨_, rfl, by decide, hs⟩
      · replace hs := hs.2 h24
        refine tm_go 6 (pc' := 378) (L' := [some (.ref 127), some (.int y248_1), some (.int y248_2), some (.int y248_3), some (.int y248_4), z5, some (.long y248_6), none, z8, (ksl z9), some (.int (Int64.toInt32 (w.2.1 132 y248_4.toInt.toNat))), z11]) (S' := [.int (lg_cmp y248_6 (0 : Int64)), .int y248_1, .ref 211]) (w' := (sI (sJ w 215 ys248_1.toInt.toNat (ys248_0 / (1000 : Int64))) 211 y248_1.toInt.toNat (vp_nar .boolean (0 : Int32)))) rfl ?_
        refine tm_i (p1 := 385) (p2 := 381) rfl (fun h65 => ?_) (fun h65 => ?_)
        · replace hs := hs.1 h65
          refine tm_go 1 (pc' := 386) (L' := [some (.ref 127), some (.int y248_1), some (.int y248_2), some (.int y248_3), some (.int y248_4), z5, some (.long y248_6), none, z8, (ksl z9), some (.int (Int64.toInt32 (w.2.1 132 y248_4.toInt.toNat))), z11]) (S' := [.int 0, .int y248_1, .ref 211]) (w' := (sI (sJ w 215 ys248_1.toInt.toNat (ys248_0 / (1000 : Int64))) 211 y248_1.toInt.toNat (vp_nar .boolean (0 : Int32)))) rfl ?_
          obtain ⟨b66, hs⟩ := hs
          refine tm_k (pc' := 387) (L' := [some (.ref 127), some (.int y248_1), some (.int y248_2), some (.int y248_3), some (.int y248_4), z5, some (.long y248_6), none, z8, (ksl z9), some (.int (Int64.toInt32 (w.2.1 132 y248_4.toInt.toNat))), z11]) (S' := []) (w' := (sI (sI (sJ w 215 ys248_1.toInt.toNat (ys248_0 / (1000 : Int64))) 211 y248_1.toInt.toNat (vp_nar .boolean (0 : Int32))) 211 y248_1.toInt.toNat (vp_nar .boolean (0 : Int32)))) rfl b66 ?_
          refine tm_go 4 (pc' := 535) (L' := [some (.ref 127), some (.int y248_1), some (.int y248_2), some (.int y248_3), some (.int y248_4), z5, some (.long y248_6), none, z8, (ksl z9), some (.int (Int64.toInt32 (w.2.1 132 y248_4.toInt.toNat))), z11]) (S' := [.int y248_1, .ref 208]) (w' := (sI (sI (sJ w 215 ys248_1.toInt.toNat (ys248_0 / (1000 : Int64))) 211 y248_1.toInt.toNat (vp_nar .boolean (0 : Int32))) 211 y248_1.toInt.toNat (vp_nar .boolean (0 : Int32)))) rfl ?_
          obtain ⟨b67, hs⟩ := hs
          refine tm_k (pc' := 536) (L' := [some (.ref 127), some (.int y248_1), some (.int y248_2), some (.int y248_3), some (.int y248_4), z5, some (.long y248_6), none, z8, (ksl z9), some (.int (Int64.toInt32 (w.2.1 132 y248_4.toInt.toNat))), z11]) (S' := [.int (w.1 208 y248_1.toInt.toNat)]) (w' := (sI (sI (sJ w 215 ys248_1.toInt.toNat (ys248_0 / (1000 : Int64))) 211 y248_1.toInt.toNat (vp_nar .boolean (0 : Int32))) 211 y248_1.toInt.toNat (vp_nar .boolean (0 : Int32)))) rfl b67 ?_
          refine tm_go 1 (pc' := 538) (L' := [some (.ref 127), some (.int y248_1), some (.int y248_2), some (.int y248_3), some (.int y248_4), z5, some (.long y248_6), none, z8, (ksl z9), some (.int (Int64.toInt32 (w.2.1 132 y248_4.toInt.toNat))), some (.int (w.1 208 y248_1.toInt.toNat))]) (S' := []) (w' := (sI (sI (sJ w 215 ys248_1.toInt.toNat (ys248_0 / (1000 : Int64))) 211 y248_1.toInt.toNat (vp_nar .boolean (0 : Int32))) 211 y248_1.toInt.toNat (vp_nar .boolean (0 : Int32)))) rfl ?_
          refine tx_Mo_begin_538 FU _ _ _ _ _ _ _ _ _ _ _ _ hs (fun  z68_0 z68_1 z68_2 z68_3 z68_4 z68_5 z68_6 z68_7 z68_8 z68_9 z68_10 z68_11 w68 hs => ?_)
          refine tm_go 1 (pc' := 573) (L' := [z68_0, z68_1, z68_2, z68_3, z68_4, z68_5, z68_6, z68_7, z68_8, z68_9, z68_10, z68_11]) (S' := [.int 1]) (w' := w68) rfl ?_
          exact tm_r rfl ⟨_, rfl, by decide, hs⟩
        · replace hs := hs.2 h65
          refine tm_go 2 (pc' := 386) (L' := [some (.ref 127), some (.int y248_1), some (.int y248_2), some (.int y248_3), some (.int y248_4), z5, some (.long y248_6), none, z8, (ksl z9), some (.int (Int64.toInt32 (w.2.1 132 y248_4.toInt.toNat))), z11]) (S' := [.int 1, .int y248_1, .ref 211]) (w' := (sI (sJ w 215 ys248_1.toInt.toNat (ys248_0 / (1000 : Int64))) 211 y248_1.toInt.toNat (vp_nar .boolean (0 : Int32)))) rfl ?_
          obtain ⟨b69, hs⟩ := hs
          refine tm_k (pc' := 387) (L' := [some (.ref 127), some (.int y248_1), some (.int y248_2), some (.int y248_3), some (.int y248_4), z5, some (.long y248_6), none, z8, (ksl z9), some (.int (Int64.toInt32 (w.2.1 132 y248_4.toInt.toNat))), z11]) (S' := []) (w' := (sI (sI (sJ w 215 ys248_1.toInt.toNat (ys248_0 / (1000 : Int64))) 211 y248_1.toInt.toNat (vp_nar .boolean (0 : Int32))) 211 y248_1.toInt.toNat (vp_nar .boolean (1 : Int32)))) rfl b69 ?_
          refine tm_go 4 (pc' := 535) (L' := [some (.ref 127), some (.int y248_1), some (.int y248_2), some (.int y248_3), some (.int y248_4), z5, some (.long y248_6), none, z8, (ksl z9), some (.int (Int64.toInt32 (w.2.1 132 y248_4.toInt.toNat))), z11]) (S' := [.int y248_1, .ref 208]) (w' := (sI (sI (sJ w 215 ys248_1.toInt.toNat (ys248_0 / (1000 : Int64))) 211 y248_1.toInt.toNat (vp_nar .boolean (0 : Int32))) 211 y248_1.toInt.toNat (vp_nar .boolean (1 : Int32)))) rfl ?_
          obtain ⟨b70, hs⟩ := hs
          refine tm_k (pc' := 536) (L' := [some (.ref 127), some (.int y248_1), some (.int y248_2), some (.int y248_3), some (.int y248_4), z5, some (.long y248_6), none, z8, (ksl z9), some (.int (Int64.toInt32 (w.2.1 132 y248_4.toInt.toNat))), z11]) (S' := [.int (w.1 208 y248_1.toInt.toNat)]) (w' := (sI (sI (sJ w 215 ys248_1.toInt.toNat (ys248_0 / (1000 : Int64))) 211 y248_1.toInt.toNat (vp_nar .boolean (0 : Int32))) 211 y248_1.toInt.toNat (vp_nar .boolean (1 : Int32)))) rfl b70 ?_
          refine tm_go 1 (pc' := 538) (L' := [some (.ref 127), some (.int y248_1), some (.int y248_2), some (.int y248_3), some (.int y248_4), z5, some (.long y248_6), none, z8, (ksl z9), some (.int (Int64.toInt32 (w.2.1 132 y248_4.toInt.toNat))), some (.int (w.1 208 y248_1.toInt.toNat))]) (S' := []) (w' := (sI (sI (sJ w 215 ys248_1.toInt.toNat (ys248_0 / (1000 : Int64))) 211 y248_1.toInt.toNat (vp_nar .boolean (0 : Int32))) 211 y248_1.toInt.toNat (vp_nar .boolean (1 : Int32)))) rfl ?_
          refine tx_Mo_begin_538 FU _ _ _ _ _ _ _ _ _ _ _ _ hs (fun  z71_0 z71_1 z71_2 z71_3 z71_4 z71_5 z71_6 z71_7 z71_8 z71_9 z71_10 z71_11 w71 hs => ?_)
          refine tm_go 1 (pc' := 573) (L' := [z71_0, z71_1, z71_2, z71_3, z71_4, z71_5, z71_6, z71_7, z71_8, z71_9, z71_10, z71_11]) (S' := [.int 1]) (w' := w71) rfl ?_
          exact tm_r rfl ⟨_, rfl, by decide, hs⟩
    · replace hs := hs.2 h23
      refine tm_go 6 (pc' := 308) (L' := [some (.ref 127), some (.int y248_1), some (.int y248_2), some (.int y248_3), some (.int y248_4), z5, some (.long y248_6), none, z8, (ksl z9), some (.int (Int64.toInt32 (w.2.1 132 y248_4.toInt.toNat))), z11]) (S' := [.int (Int64.toInt32 (w.2.1 132 y248_4.toInt.toNat)), .ref 206, .int y248_1, .ref 217]) (w' := (sI (sJ w 215 ys248_1.toInt.toNat (ys248_0 / (1000 : Int64))) 211 y248_1.toInt.toNat (vp_nar .boolean (0 : Int32)))) rfl ?_
      obtain ⟨b72, hs⟩ := hs
      refine tm_k (pc' := 309) (L' := [some (.ref 127), some (.int y248_1), some (.int y248_2), some (.int y248_3), some (.int y248_4), z5, some (.long y248_6), none, z8, (ksl z9), some (.int (Int64.toInt32 (w.2.1 132 y248_4.toInt.toNat))), z11]) (S' := [.long (w.2.1 206 ((Int64.toInt32 (w.2.1 132 y248_4.toInt.toNat)).toInt.toNat)), .int y248_1, .ref 217]) (w' := (sI (sJ w 215 ys248_1.toInt.toNat (ys248_0 / (1000 : Int64))) 211 y248_1.toInt.toNat (vp_nar .boolean (0 : Int32)))) rfl b72 ?_
      obtain ⟨b73, hs⟩ := hs
      refine tm_k (pc' := 310) (L' := [some (.ref 127), some (.int y248_1), some (.int y248_2), some (.int y248_3), some (.int y248_4), z5, some (.long y248_6), none, z8, (ksl z9), some (.int (Int64.toInt32 (w.2.1 132 y248_4.toInt.toNat))), z11]) (S' := []) (w' := (sJ (sI (sJ w 215 ys248_1.toInt.toNat (ys248_0 / (1000 : Int64))) 211 y248_1.toInt.toNat (vp_nar .boolean (0 : Int32))) 217 y248_1.toInt.toNat (w.2.1 206 ((Int64.toInt32 (w.2.1 132 y248_4.toInt.toNat)).toInt.toNat)))) rfl b73 ?_
      refine tm_go 6 (pc' := 320) (L' := [some (.ref 127), some (.int y248_1), some (.int y248_2), some (.int y248_3), some (.int y248_4), z5, some (.long y248_6), none, z8, (ksl z9), some (.int (Int64.toInt32 (w.2.1 132 y248_4.toInt.toNat))), z11]) (S' := [.int y248_1, .ref 215, .int y248_1, .ref 211]) (w' := (sJ (sI (sJ w 215 ys248_1.toInt.toNat (ys248_0 / (1000 : Int64))) 211 y248_1.toInt.toNat (vp_nar .boolean (0 : Int32))) 217 y248_1.toInt.toNat (w.2.1 206 ((Int64.toInt32 (w.2.1 132 y248_4.toInt.toNat)).toInt.toNat)))) rfl ?_
      obtain ⟨b74, hs⟩ := hs
      refine tm_k (pc' := 321) (L' := [some (.ref 127), some (.int y248_1), some (.int y248_2), some (.int y248_3), some (.int y248_4), z5, some (.long y248_6), none, z8, (ksl z9), some (.int (Int64.toInt32 (w.2.1 132 y248_4.toInt.toNat))), z11]) (S' := [.long ((sJ w 215 ys248_1.toInt.toNat (ys248_0 / (1000 : Int64))).2.1 215 y248_1.toInt.toNat), .int y248_1, .ref 211]) (w' := (sJ (sI (sJ w 215 ys248_1.toInt.toNat (ys248_0 / (1000 : Int64))) 211 y248_1.toInt.toNat (vp_nar .boolean (0 : Int32))) 217 y248_1.toInt.toNat (w.2.1 206 ((Int64.toInt32 (w.2.1 132 y248_4.toInt.toNat)).toInt.toNat)))) rfl b74 ?_
      refine tm_go 2 (pc' := 323) (L' := [some (.ref 127), some (.int y248_1), some (.int y248_2), some (.int y248_3), some (.int y248_4), z5, some (.long y248_6), none, z8, (ksl z9), some (.int (Int64.toInt32 (w.2.1 132 y248_4.toInt.toNat))), z11]) (S' := [.int (lg_cmp ((sJ w 215 ys248_1.toInt.toNat (ys248_0 / (1000 : Int64))).2.1 215 y248_1.toInt.toNat) (1 : Int64)), .int y248_1, .ref 211]) (w' := (sJ (sI (sJ w 215 ys248_1.toInt.toNat (ys248_0 / (1000 : Int64))) 211 y248_1.toInt.toNat (vp_nar .boolean (0 : Int32))) 217 y248_1.toInt.toNat (w.2.1 206 ((Int64.toInt32 (w.2.1 132 y248_4.toInt.toNat)).toInt.toNat)))) rfl ?_
      refine tm_i (p1 := 330) (p2 := 326) rfl (fun h75 => ?_) (fun h75 => ?_)
      · replace hs := hs.1 h75
        refine tm_go 1 (pc' := 331) (L' := [some (.ref 127), some (.int y248_1), some (.int y248_2), some (.int y248_3), some (.int y248_4), z5, some (.long y248_6), none, z8, (ksl z9), some (.int (Int64.toInt32 (w.2.1 132 y248_4.toInt.toNat))), z11]) (S' := [.int 0, .int y248_1, .ref 211]) (w' := (sJ (sI (sJ w 215 ys248_1.toInt.toNat (ys248_0 / (1000 : Int64))) 211 y248_1.toInt.toNat (vp_nar .boolean (0 : Int32))) 217 y248_1.toInt.toNat (w.2.1 206 ((Int64.toInt32 (w.2.1 132 y248_4.toInt.toNat)).toInt.toNat)))) rfl ?_
        exact tx_Mo_begin_331 hs 
      · replace hs := hs.2 h75
        refine tm_go 2 (pc' := 331) (L' := [some (.ref 127), some (.int y248_1), some (.int y248_2), some (.int y248_3), some (.int y248_4), z5, some (.long y248_6), none, z8, (ksl z9), some (.int (Int64.toInt32 (w.2.1 132 y248_4.toInt.toNat))), z11]) (S' := [.int 1, .int y248_1, .ref 211]) (w' := (sJ (sI (sJ w 215 ys248_1.toInt.toNat (ys248_0 / (1000 : Int64))) 211 y248_1.toInt.toNat (vp_nar .boolean (0 : Int32))) 217 y248_1.toInt.toNat (w.2.1 206 ((Int64.toInt32 (w.2.1 132 y248_4.toInt.toNat)).toInt.toNat)))) rfl ?_
        exact tx_Mo_begin_331 hs 
  · replace hs := hs.2 h22
    refine tm_go 4 (pc' := 287) (L' := [some (.ref 127), some (.int y248_1), some (.int y248_2), some (.int y248_3), some (.int y248_4), z5, some (.long y248_6), none, z8, (ksl z9), some (.int (Int64.toInt32 (w.2.1 132 y248_4.toInt.toNat))), z11]) (S' := [.long y248_6, .int (Int64.toInt32 (w.2.1 132 y248_4.toInt.toNat)), .ref 206]) (w' := (sI (sJ w 215 ys248_1.toInt.toNat (ys248_0 / (1000 : Int64))) 211 y248_1.toInt.toNat (vp_nar .boolean (0 : Int32)))) rfl ?_
    obtain ⟨b86, hs⟩ := hs
    refine tm_k (pc' := 288) (L' := [some (.ref 127), some (.int y248_1), some (.int y248_2), some (.int y248_3), some (.int y248_4), z5, some (.long y248_6), none, z8, (ksl z9), some (.int (Int64.toInt32 (w.2.1 132 y248_4.toInt.toNat))), z11]) (S' := []) (w' := (sJ (sI (sJ w 215 ys248_1.toInt.toNat (ys248_0 / (1000 : Int64))) 211 y248_1.toInt.toNat (vp_nar .boolean (0 : Int32))) 206 ((Int64.toInt32 (w.2.1 132 y248_4.toInt.toNat)).toInt.toNat) y248_6)) rfl b86 ?_
    refine tm_go 4 (pc' := 535) (L' := [some (.ref 127), some (.int y248_1), some (.int y248_2), some (.int y248_3), some (.int y248_4), z5, some (.long y248_6), none, z8, (ksl z9), some (.int (Int64.toInt32 (w.2.1 132 y248_4.toInt.toNat))), z11]) (S' := [.int y248_1, .ref 208]) (w' := (sJ (sI (sJ w 215 ys248_1.toInt.toNat (ys248_0 / (1000 : Int64))) 211 y248_1.toInt.toNat (vp_nar .boolean (0 : Int32))) 206 ((Int64.toInt32 (w.2.1 132 y248_4.toInt.toNat)).toInt.toNat) y248_6)) rfl ?_
    obtain ⟨b87, hs⟩ := hs
    refine tm_k (pc' := 536) (L' := [some (.ref 127), some (.int y248_1), some (.int y248_2), some (.int y248_3), some (.int y248_4), z5, some (.long y248_6), none, z8, (ksl z9), some (.int (Int64.toInt32 (w.2.1 132 y248_4.toInt.toNat))), z11]) (S' := [.int (w.1 208 y248_1.toInt.toNat)]) (w' := (sJ (sI (sJ w 215 ys248_1.toInt.toNat (ys248_0 / (1000 : Int64))) 211 y248_1.toInt.toNat (vp_nar .boolean (0 : Int32))) 206 ((Int64.toInt32 (w.2.1 132 y248_4.toInt.toNat)).toInt.toNat) y248_6)) rfl b87 ?_
    refine tm_go 1 (pc' := 538) (L' := [some (.ref 127), some (.int y248_1), some (.int y248_2), some (.int y248_3), some (.int y248_4), z5, some (.long y248_6), none, z8, (ksl z9), some (.int (Int64.toInt32 (w.2.1 132 y248_4.toInt.toNat))), some (.int (w.1 208 y248_1.toInt.toNat))]) (S' := []) (w' := (sJ (sI (sJ w 215 ys248_1.toInt.toNat (ys248_0 / (1000 : Int64))) 211 y248_1.toInt.toNat (vp_nar .boolean (0 : Int32))) 206 ((Int64.toInt32 (w.2.1 132 y248_4.toInt.toNat)).toInt.toNat) y248_6)) rfl ?_
    refine tx_Mo_begin_538 FU _ _ _ _ _ _ _ _ _ _ _ _ hs (fun  z88_0 z88_1 z88_2 z88_3 z88_4 z88_5 z88_6 z88_7 z88_8 z88_9 z88_10 z88_11 w88 hs => ?_)
    refine tm_go 1 (pc' := 573) (L' := [z88_0, z88_1, z88_2, z88_3, z88_4, z88_5, z88_6, z88_7, z88_8, z88_9, z88_10, z88_11]) (S' := [.int 1]) (w' := w88) rfl ?_
    exact tm_r rfl ⟨_, rfl, by decide, hs⟩
set_option maxHeartbeats 4000000 in
set_option maxRecDepth 100000 in
theorem tx_Mo_begin_182 {d : Nat} {y182_1 : Int32} {y182_2 : Int32} {y182_3 : Int32} {y182_4 : Int32} {y182_6 : Int64} {ys182_0 : Int64} {z5 : Option Value} {z8 : Option Value} {z9 : Option Value} {z10 : Option Value} {z11 : Option Value} {w : MW} {Q : Int32 → MW → Prop} (hs : q_Mo_begin_182 y182_1 y182_2 y182_3 y182_4 y182_6 ys182_0 w Q) : Tm (d + 404) 110 182 [some (.ref 127), some (.int y182_1), some (.int y182_2), some (.int y182_3), some (.int y182_4), z5, some (.long y182_6), none, z8, z9, z10, z11] [.long ys182_0] w (RZ Q) := by
  unfold q_Mo_begin_182 at hs
  refine tm_go 2 (pc' := 185) (L' := [some (.ref 127), some (.int y182_1), some (.int y182_2), some (.int y182_3), some (.int y182_4), z5, some (.long y182_6), none, some (.long ys182_0), none, z10, z11]) (S' := [.ref 127]) (w' := w) rfl ?_
  refine tm_c rfl (Nat.le_of_ble_eq_true rfl) (dm_Mo_isBad (d := d + 402) hs) (fun v w11 hq => ?_)
  obtain ⟨r11, rfl, hz11, hs⟩ := hq
  refine tm_i (p1 := 193) (p2 := 191) rfl (fun h12 => ?_) (fun h12 => ?_)
  · replace hs := hs.1 h12
    refine tm_go 4 (pc' := 199) (L' := [some (.ref 127), some (.int y182_1), some (.int y182_2), some (.int y182_3), some (.int y182_4), z5, some (.long y182_6), none, some (.long ys182_0), none, z10, z11]) (S' := [.int 1, .int y182_1, .ref 210]) (w' := w11) rfl ?_
    obtain ⟨b13, hs⟩ := hs
    refine tm_k (pc' := 200) (L' := [some (.ref 127), some (.int y182_1), some (.int y182_2), some (.int y182_3), some (.int y182_4), z5, some (.long y182_6), none, some (.long ys182_0), none, z10, z11]) (S' := []) (w' := (sI w11 210 y182_1.toInt.toNat (vp_nar .boolean (1 : Int32)))) rfl b13 ?_
    refine tm_go 5 (pc' := 209) (L' := [some (.ref 127), some (.int y182_1), some (.int y182_2), some (.int y182_3), some (.int y182_4), z5, some (.long y182_6), none, some (.long ys182_0), none, z10, z11]) (S' := [.int (w11.1 127 74), .int y182_1, .ref 214]) (w' := (sI w11 210 y182_1.toInt.toNat (vp_nar .boolean (1 : Int32)))) rfl ?_
    obtain ⟨b14, hs⟩ := hs
    refine tm_k (pc' := 210) (L' := [some (.ref 127), some (.int y182_1), some (.int y182_2), some (.int y182_3), some (.int y182_4), z5, some (.long y182_6), none, some (.long ys182_0), none, z10, z11]) (S' := []) (w' := (sI (sI w11 210 y182_1.toInt.toNat (vp_nar .boolean (1 : Int32))) 214 y182_1.toInt.toNat (w11.1 127 74))) rfl b14 ?_
    refine tm_go 6 (pc' := 220) (L' := [some (.ref 127), some (.int y182_1), some (.int y182_2), some (.int y182_3), some (.int y182_4), z5, some (.long y182_6), none, some (.long ys182_0), none, z10, z11]) (S' := [.int y182_1, .ref 208, .int y182_1, .ref 213]) (w' := (sI (sI w11 210 y182_1.toInt.toNat (vp_nar .boolean (1 : Int32))) 214 y182_1.toInt.toNat (w11.1 127 74))) rfl ?_
    obtain ⟨b15, hs⟩ := hs
    refine tm_k (pc' := 221) (L' := [some (.ref 127), some (.int y182_1), some (.int y182_2), some (.int y182_3), some (.int y182_4), z5, some (.long y182_6), none, some (.long ys182_0), none, z10, z11]) (S' := [.int (w11.1 208 y182_1.toInt.toNat), .int y182_1, .ref 213]) (w' := (sI (sI w11 210 y182_1.toInt.toNat (vp_nar .boolean (1 : Int32))) 214 y182_1.toInt.toNat (w11.1 127 74))) rfl b15 ?_
    obtain ⟨b16, hs⟩ := hs
    refine tm_k (pc' := 222) (L' := [some (.ref 127), some (.int y182_1), some (.int y182_2), some (.int y182_3), some (.int y182_4), z5, some (.long y182_6), none, some (.long ys182_0), none, z10, z11]) (S' := []) (w' := (sI (sI (sI w11 210 y182_1.toInt.toNat (vp_nar .boolean (1 : Int32))) 214 y182_1.toInt.toNat (w11.1 127 74)) 213 y182_1.toInt.toNat (w11.1 208 y182_1.toInt.toNat))) rfl b16 ?_
    refine tm_go 4 (pc' := 229) (L' := [some (.ref 127), some (.int y182_1), some (.int y182_2), some (.int y182_3), some (.int y182_4), z5, some (.long y182_6), none, some (.long ys182_0), none, z10, z11]) (S' := [.long y182_6, .int y182_1, .ref 216]) (w' := (sI (sI (sI w11 210 y182_1.toInt.toNat (vp_nar .boolean (1 : Int32))) 214 y182_1.toInt.toNat (w11.1 127 74)) 213 y182_1.toInt.toNat (w11.1 208 y182_1.toInt.toNat))) rfl ?_
    obtain ⟨b17, hs⟩ := hs
    refine tm_k (pc' := 230) (L' := [some (.ref 127), some (.int y182_1), some (.int y182_2), some (.int y182_3), some (.int y182_4), z5, some (.long y182_6), none, some (.long ys182_0), none, z10, z11]) (S' := []) (w' := (sJ (sI (sI (sI w11 210 y182_1.toInt.toNat (vp_nar .boolean (1 : Int32))) 214 y182_1.toInt.toNat (w11.1 127 74)) 213 y182_1.toInt.toNat (w11.1 208 y182_1.toInt.toNat)) 216 y182_1.toInt.toNat y182_6)) rfl b17 ?_
    refine tm_go 5 (pc' := 238) (L' := [some (.ref 127), some (.int y182_1), some (.int y182_2), some (.int y182_3), some (.int y182_4), z5, some (.long y182_6), none, some (.long ys182_0), none, z10, z11]) (S' := [.int 13, .int y182_3, .int y182_1, .ref 215]) (w' := (sJ (sI (sI (sI w11 210 y182_1.toInt.toNat (vp_nar .boolean (1 : Int32))) 214 y182_1.toInt.toNat (w11.1 127 74)) 213 y182_1.toInt.toNat (w11.1 208 y182_1.toInt.toNat)) 216 y182_1.toInt.toNat y182_6)) rfl ?_
    refine tm_i (p1 := 246) (p2 := 241) rfl (fun h18 => ?_) (fun h18 => ?_)
    · replace hs := hs.1 h18
      refine tm_go 1 (pc' := 248) (L' := [some (.ref 127), some (.int y182_1), some (.int y182_2), some (.int y182_3), some (.int y182_4), z5, some (.long y182_6), none, some (.long ys182_0), none, z10, z11]) (S' := [.long y182_6, .int y182_1, .ref 215]) (w' := (sJ (sI (sI (sI w11 210 y182_1.toInt.toNat (vp_nar .boolean (1 : Int32))) 214 y182_1.toInt.toNat (w11.1 127 74)) 213 y182_1.toInt.toNat (w11.1 208 y182_1.toInt.toNat)) 216 y182_1.toInt.toNat y182_6)) rfl ?_
      exact tx_Mo_begin_248 hs 
    · replace hs := hs.2 h18
      refine tm_go 2 (pc' := 248) (L' := [some (.ref 127), some (.int y182_1), some (.int y182_2), some (.int y182_3), some (.int y182_4), z5, some (.long y182_6), none, some (.long ys182_0), none, z10, z11]) (S' := [.long ys182_0, .int y182_1, .ref 215]) (w' := (sJ (sI (sI (sI w11 210 y182_1.toInt.toNat (vp_nar .boolean (1 : Int32))) 214 y182_1.toInt.toNat (w11.1 127 74)) 213 y182_1.toInt.toNat (w11.1 208 y182_1.toInt.toNat)) 216 y182_1.toInt.toNat y182_6)) rfl ?_
      exact tx_Mo_begin_248 hs 
  · replace hs := hs.2 h12
    refine tm_go 1 (pc' := 192) (L' := [some (.ref 127), some (.int y182_1), some (.int y182_2), some (.int y182_3), some (.int y182_4), z5, some (.long y182_6), none, some (.long ys182_0), none, z10, z11]) (S' := [.int 0]) (w' := w11) rfl ?_
    exact tm_r rfl ⟨_, rfl, by decide, hs⟩
set_option maxHeartbeats 4000000 in
set_option maxRecDepth 100000 in
theorem tx_Mo_begin_157 {d : Nat} {y157_1 : Int32} {y157_2 : Int32} {y157_3 : Int32} {y157_4 : Int32} {ys157_0 : Int64} {z5 : Option Value} {z6 : Option Value} {z7 : Option Value} {z8 : Option Value} {z9 : Option Value} {z10 : Option Value} {z11 : Option Value} {w : MW} {Q : Int32 → MW → Prop} (hs : q_Mo_begin_157 y157_1 y157_2 y157_3 y157_4 ys157_0 w Q) : Tm (d + 404) 110 157 [some (.ref 127), some (.int y157_1), some (.int y157_2), some (.int y157_3), some (.int y157_4), z5, z6, z7, z8, z9, z10, z11] [.long ys157_0] w (RZ Q) := by
  unfold q_Mo_begin_157 at hs
  refine tm_go 3 (pc' := 162) (L' := [some (.ref 127), some (.int y157_1), some (.int y157_2), some (.int y157_3), some (.int y157_4), (ksl z5), some (.long ys157_0), none, z8, z9, z10, z11]) (S' := [.int 13, .int y157_3]) (w' := w) rfl ?_
  refine tm_i (p1 := 181) (p2 := 165) rfl (fun h10 => ?_) (fun h10 => ?_)
  · replace hs := hs.1 h10
    refine tm_go 1 (pc' := 182) (L' := [some (.ref 127), some (.int y157_1), some (.int y157_2), some (.int y157_3), some (.int y157_4), (ksl z5), some (.long ys157_0), none, z8, z9, z10, z11]) (S' := [.long 0]) (w' := w) rfl ?_
    exact tx_Mo_begin_182 hs 
  · replace hs := hs.2 h10
    refine tm_go 5 (pc' := 172) (L' := [some (.ref 127), some (.int y157_1), some (.int y157_2), some (.int y157_3), some (.int y157_4), (ksl z5), some (.long ys157_0), none, z8, z9, z10, z11]) (S' := [.int 1, .int y157_2, .ref 129, .ref 127]) (w' := w) rfl ?_
    refine tm_c rfl (Nat.le_of_ble_eq_true rfl) (dm_Tx_kid (d := d + 402) hs) (fun v w89 hq => ?_)
    obtain ⟨r89, rfl, hs⟩ := hq
    refine tm_c rfl (Nat.le_of_ble_eq_true rfl) (dm_Mo_reckon (d := d + 2) hs) (fun v w90 hq => ?_)
    obtain ⟨r90, rfl, hs⟩ := hq
    refine tm_go 1 (pc' := 182) (L' := [some (.ref 127), some (.int y157_1), some (.int y157_2), some (.int y157_3), some (.int y157_4), (ksl z5), some (.long ys157_0), none, z8, z9, z10, z11]) (S' := [.long r90]) (w' := w90) rfl ?_
    exact tx_Mo_begin_182 hs 
set_option maxHeartbeats 4000000 in
set_option maxRecDepth 100000 in
theorem tx_Mo_begin_133 {d : Nat} {y133_1 : Int32} {y133_2 : Int32} {y133_3 : Int32} {y133_4 : Int32} {ys133_0 : Int32} {z5 : Option Value} {z6 : Option Value} {z7 : Option Value} {z8 : Option Value} {z9 : Option Value} {z10 : Option Value} {z11 : Option Value} {w : MW} {Q : Int32 → MW → Prop} (hs : q_Mo_begin_133 y133_1 y133_2 y133_3 y133_4 ys133_0 w Q) : Tm (d + 404) 110 133 [some (.ref 127), some (.int y133_1), some (.int y133_2), some (.int y133_3), some (.int y133_4), z5, z6, z7, z8, z9, z10, z11] [.int ys133_0] w (RZ Q) := by
  unfold q_Mo_begin_133 at hs
  refine tm_go 2 (pc' := 137) (L' := [some (.ref 127), some (.int y133_1), some (.int y133_2), some (.int y133_3), some (.int y133_4), some (.int ys133_0), z6, z7, z8, z9, z10, z11]) (S' := [.int ys133_0]) (w' := w) rfl ?_
  refine tm_i (p1 := 156) (p2 := 140) rfl (fun h9 => ?_) (fun h9 => ?_)
  · replace hs := hs.1 h9
    refine tm_go 1 (pc' := 157) (L' := [some (.ref 127), some (.int y133_1), some (.int y133_2), some (.int y133_3), some (.int y133_4), some (.int ys133_0), z6, z7, z8, z9, z10, z11]) (S' := [.long 0]) (w' := w) rfl ?_
    exact tx_Mo_begin_157 hs 
  · replace hs := hs.2 h9
    refine tm_go 5 (pc' := 147) (L' := [some (.ref 127), some (.int y133_1), some (.int y133_2), some (.int y133_3), some (.int y133_4), some (.int ys133_0), z6, z7, z8, z9, z10, z11]) (S' := [.int 0, .int y133_2, .ref 129, .ref 127]) (w' := w) rfl ?_
    refine tm_c rfl (Nat.le_of_ble_eq_true rfl) (dm_Tx_kid (d := d + 402) hs) (fun v w91 hq => ?_)
    obtain ⟨r91, rfl, hs⟩ := hq
    refine tm_c rfl (Nat.le_of_ble_eq_true rfl) (dm_Mo_reckon (d := d + 2) hs) (fun v w92 hq => ?_)
    obtain ⟨r92, rfl, hs⟩ := hq
    refine tm_go 1 (pc' := 157) (L' := [some (.ref 127), some (.int y133_1), some (.int y133_2), some (.int y133_3), some (.int y133_4), some (.int ys133_0), z6, z7, z8, z9, z10, z11]) (S' := [.long r92]) (w' := w92) rfl ?_
    exact tx_Mo_begin_157 hs 
set_option maxHeartbeats 4000000 in
set_option maxRecDepth 100000 in
theorem tx_Mo_begin_72 {d : Nat} {y72_1 : Int32} {y72_2 : Int32} {y72_3 : Int32} {ys72_0 : Int32} {ys72_1 : Int32} {z4 : Option Value} {z5 : Option Value} {z6 : Option Value} {z7 : Option Value} {z8 : Option Value} {z9 : Option Value} {z10 : Option Value} {z11 : Option Value} {w : MW} {Q : Int32 → MW → Prop} (hs : q_Mo_begin_72 y72_1 y72_2 y72_3 ys72_0 ys72_1 w Q) : Tm (d + 404) 110 72 [some (.ref 127), some (.int y72_1), some (.int y72_2), some (.int y72_3), z4, z5, z6, z7, z8, z9, z10, z11] [.int ys72_0, .int ys72_1, .ref 127] w (RZ Q) := by
  unfold q_Mo_begin_72 at hs
  refine tm_go 5 (pc' := 81) (L' := [some (.ref 127), some (.int y72_1), some (.int y72_2), some (.int y72_3), z4, z5, z6, z7, z8, z9, z10, z11]) (S' := [.int y72_2, .ref 129]) (w' := (sI w 127 73 (ys72_1 + ys72_0))) rfl ?_
  refine tm_c rfl (Nat.le_of_ble_eq_true rfl) (dm_Tx_node1 (d := d + 403) hs) (fun v w7 hq => ?_)
  obtain ⟨r7, rfl, hs⟩ := hq
  refine tm_go 3 (pc' := 89) (L' := [some (.ref 127), some (.int y72_1), some (.int y72_2), some (.int y72_3), some (.int r7), z5, z6, z7, z8, z9, z10, z11]) (S' := [.int 10, .int y72_3]) (w' := w7) rfl ?_
  refine tm_i (p1 := 128) (p2 := 92) rfl (fun h8 => ?_) (fun h8 => ?_)
  · replace hs := hs.1 h8
    refine tm_go 2 (pc' := 133) (L' := [some (.ref 127), some (.int y72_1), some (.int y72_2), some (.int y72_3), some (.int r7), z5, z6, z7, z8, z9, z10, z11]) (S' := [.int 1]) (w' := w7) rfl ?_
    exact tx_Mo_begin_133 hs 
  · replace hs := hs.2 h8
    refine tm_go 2 (pc' := 95) (L' := [some (.ref 127), some (.int y72_1), some (.int y72_2), some (.int y72_3), some (.int r7), z5, z6, z7, z8, z9, z10, z11]) (S' := [.int 11, .int y72_3]) (w' := w7) rfl ?_
    refine tm_i (p1 := 128) (p2 := 98) rfl (fun h93 => ?_) (fun h93 => ?_)
    · replace hs := hs.1 h93
      refine tm_go 2 (pc' := 133) (L' := [some (.ref 127), some (.int y72_1), some (.int y72_2), some (.int y72_3), some (.int r7), z5, z6, z7, z8, z9, z10, z11]) (S' := [.int 1]) (w' := w7) rfl ?_
      exact tx_Mo_begin_133 hs 
    · replace hs := hs.2 h93
      refine tm_go 2 (pc' := 101) (L' := [some (.ref 127), some (.int y72_1), some (.int y72_2), some (.int y72_3), some (.int r7), z5, z6, z7, z8, z9, z10, z11]) (S' := [.int 12, .int y72_3]) (w' := w7) rfl ?_
      refine tm_i (p1 := 128) (p2 := 104) rfl (fun h94 => ?_) (fun h94 => ?_)
      · replace hs := hs.1 h94
        refine tm_go 2 (pc' := 133) (L' := [some (.ref 127), some (.int y72_1), some (.int y72_2), some (.int y72_3), some (.int r7), z5, z6, z7, z8, z9, z10, z11]) (S' := [.int 1]) (w' := w7) rfl ?_
        exact tx_Mo_begin_133 hs 
      · replace hs := hs.2 h94
        refine tm_go 2 (pc' := 107) (L' := [some (.ref 127), some (.int y72_1), some (.int y72_2), some (.int y72_3), some (.int r7), z5, z6, z7, z8, z9, z10, z11]) (S' := [.int 15, .int y72_3]) (w' := w7) rfl ?_
        refine tm_i (p1 := 128) (p2 := 110) rfl (fun h95 => ?_) (fun h95 => ?_)
        · replace hs := hs.1 h95
          refine tm_go 2 (pc' := 133) (L' := [some (.ref 127), some (.int y72_1), some (.int y72_2), some (.int y72_3), some (.int r7), z5, z6, z7, z8, z9, z10, z11]) (S' := [.int 1]) (w' := w7) rfl ?_
          exact tx_Mo_begin_133 hs 
        · replace hs := hs.2 h95
          refine tm_go 2 (pc' := 113) (L' := [some (.ref 127), some (.int y72_1), some (.int y72_2), some (.int y72_3), some (.int r7), z5, z6, z7, z8, z9, z10, z11]) (S' := [.int 16, .int y72_3]) (w' := w7) rfl ?_
          refine tm_i (p1 := 128) (p2 := 116) rfl (fun h96 => ?_) (fun h96 => ?_)
          · replace hs := hs.1 h96
            refine tm_go 2 (pc' := 133) (L' := [some (.ref 127), some (.int y72_1), some (.int y72_2), some (.int y72_3), some (.int r7), z5, z6, z7, z8, z9, z10, z11]) (S' := [.int 1]) (w' := w7) rfl ?_
            exact tx_Mo_begin_133 hs 
          · replace hs := hs.2 h96
            refine tm_go 2 (pc' := 119) (L' := [some (.ref 127), some (.int y72_1), some (.int y72_2), some (.int y72_3), some (.int r7), z5, z6, z7, z8, z9, z10, z11]) (S' := [.int 17, .int y72_3]) (w' := w7) rfl ?_
            refine tm_i (p1 := 128) (p2 := 122) rfl (fun h97 => ?_) (fun h97 => ?_)
            · replace hs := hs.1 h97
              refine tm_go 2 (pc' := 133) (L' := [some (.ref 127), some (.int y72_1), some (.int y72_2), some (.int y72_3), some (.int r7), z5, z6, z7, z8, z9, z10, z11]) (S' := [.int 1]) (w' := w7) rfl ?_
              exact tx_Mo_begin_133 hs 
            · replace hs := hs.2 h97
              refine tm_go 2 (pc' := 125) (L' := [some (.ref 127), some (.int y72_1), some (.int y72_2), some (.int y72_3), some (.int r7), z5, z6, z7, z8, z9, z10, z11]) (S' := [.int 13, .int y72_3]) (w' := w7) rfl ?_
              refine tm_i (p1 := 132) (p2 := 128) rfl (fun h98 => ?_) (fun h98 => ?_)
              · replace hs := hs.1 h98
                refine tm_go 1 (pc' := 133) (L' := [some (.ref 127), some (.int y72_1), some (.int y72_2), some (.int y72_3), some (.int r7), z5, z6, z7, z8, z9, z10, z11]) (S' := [.int 0]) (w' := w7) rfl ?_
                exact tx_Mo_begin_133 hs 
              · replace hs := hs.2 h98
                refine tm_go 2 (pc' := 133) (L' := [some (.ref 127), some (.int y72_1), some (.int y72_2), some (.int y72_3), some (.int r7), z5, z6, z7, z8, z9, z10, z11]) (S' := [.int 1]) (w' := w7) rfl ?_
                exact tx_Mo_begin_133 hs 
set_option maxHeartbeats 4000000 in
set_option maxRecDepth 100000 in
theorem tx_Mo_begin_46 {d : Nat} {y46_1 : Int32} {y46_2 : Int32} {y46_3 : Int32} {z4 : Option Value} {z5 : Option Value} {z6 : Option Value} {z7 : Option Value} {z8 : Option Value} {z9 : Option Value} {z10 : Option Value} {z11 : Option Value} {w : MW} {Q : Int32 → MW → Prop} (hs : q_Mo_begin_46 y46_1 y46_2 y46_3 w Q) : Tm (d + 404) 110 46 [some (.ref 127), some (.int y46_1), some (.int y46_2), some (.int y46_3), z4, z5, z6, z7, z8, z9, z10, z11] [] w (RZ Q) := by
  unfold q_Mo_begin_46 at hs
  refine tm_go 11 (pc' := 64) (L' := [some (.ref 127), some (.int y46_1), some (.int y46_2), some (.int y46_3), z4, z5, z6, z7, z8, z9, z10, z11]) (S' := [.int 22, .int y46_3, .int (w.1 127 73), .ref 127]) (w' := (sI w 127 72 ((w.1 127 72) + (1 : Int32)))) rfl ?_
  refine tm_i (p1 := 71) (p2 := 67) rfl (fun h6 => ?_) (fun h6 => ?_)
  · replace hs := hs.1 h6
    refine tm_go 1 (pc' := 72) (L' := [some (.ref 127), some (.int y46_1), some (.int y46_2), some (.int y46_3), z4, z5, z6, z7, z8, z9, z10, z11]) (S' := [.int 0, .int (w.1 127 73), .ref 127]) (w' := (sI w 127 72 ((w.1 127 72) + (1 : Int32)))) rfl ?_
    exact tx_Mo_begin_72 hs 
  · replace hs := hs.2 h6
    refine tm_go 2 (pc' := 72) (L' := [some (.ref 127), some (.int y46_1), some (.int y46_2), some (.int y46_3), z4, z5, z6, z7, z8, z9, z10, z11]) (S' := [.int 1, .int (w.1 127 73), .ref 127]) (w' := (sI w 127 72 ((w.1 127 72) + (1 : Int32)))) rfl ?_
    exact tx_Mo_begin_72 hs 
set_option maxHeartbeats 4000000 in
set_option maxRecDepth 100000 in
theorem dm_Mo_begin {d : Nat} {w : MW} {a0 : Int32} {Q : Int32 → MW → Prop} (hs : p_Mo_begin w a0 Q) : Tc (d + 404) 110 [.ref 127, .int a0] w (RZ Q) := by
  unfold p_Mo_begin at hs
  refine tm_go 3 (pc' := 5) (L' := [some (.ref 127), some (.int a0), none, none, none, none, none, none, none, none, none, none]) (S' := [.int a0, .ref 207]) (w' := w) rfl ?_
  obtain ⟨b1, hs⟩ := hs
  refine tm_k (pc' := 6) (L' := [some (.ref 127), some (.int a0), none, none, none, none, none, none, none, none, none, none]) (S' := [.int (w.1 207 a0.toInt.toNat)]) (w' := w) rfl b1 ?_
  refine tm_go 3 (pc' := 9) (L' := [some (.ref 127), some (.int a0), some (.int (w.1 207 a0.toInt.toNat)), none, none, none, none, none, none, none, none, none]) (S' := [.int a0, .ref 127]) (w' := w) rfl ?_
  refine tm_c rfl (Nat.le_of_ble_eq_true rfl) (dm_Mo_kind (d := d + 402) hs) (fun v w2 hq => ?_)
  obtain ⟨r2, rfl, hs⟩ := hq
  refine tm_go 4 (pc' := 20) (L' := [some (.ref 127), some (.int a0), some (.int (w.1 207 a0.toInt.toNat)), some (.int r2), none, none, none, none, none, none, none, none]) (S' := [.int 1000, .int (w2.1 127 72)]) (w' := w2) rfl ?_
  refine tm_i (p1 := 38) (p2 := 23) rfl (fun h3 => ?_) (fun h3 => ?_)
  · replace hs := hs.1 h3
    refine tm_go 3 (pc' := 41) (L' := [some (.ref 127), some (.int a0), some (.int (w.1 207 a0.toInt.toNat)), some (.int r2), none, none, none, none, none, none, none, none]) (S' := [.int 2, .int (w.1 207 a0.toInt.toNat), .ref 127]) (w' := w2) rfl ?_
    refine tm_c rfl (Nat.le_of_ble_eq_true rfl) (dm_Mo_raise (d := d + 403) hs) (fun v w4 hq => ?_)
    obtain ⟨rfl, hs⟩ := hq
    refine tm_go 1 (pc' := 45) (L' := [some (.ref 127), some (.int a0), some (.int (w.1 207 a0.toInt.toNat)), some (.int r2), none, none, none, none, none, none, none, none]) (S' := [.int 0]) (w' := w4) rfl ?_
    exact tm_r rfl ⟨_, rfl, by decide, hs⟩
  · replace hs := hs.2 h3
    refine tm_go 2 (pc' := 26) (L' := [some (.ref 127), some (.int a0), some (.int (w.1 207 a0.toInt.toNat)), some (.int r2), none, none, none, none, none, none, none, none]) (S' := [.int 22, .int r2]) (w' := w2) rfl ?_
    refine tm_i (p1 := 46) (p2 := 29) rfl (fun h5 => ?_) (fun h5 => ?_)
    · replace hs := hs.1 h5
      exact tx_Mo_begin_46 hs 
    · replace hs := hs.2 h5
      refine tm_go 3 (pc' := 35) (L' := [some (.ref 127), some (.int a0), some (.int (w.1 207 a0.toInt.toNat)), some (.int r2), none, none, none, none, none, none, none, none]) (S' := [.int 10, .int (w2.1 127 73)]) (w' := w2) rfl ?_
      refine tm_i (p1 := 46) (p2 := 38) rfl (fun h99 => ?_) (fun h99 => ?_)
      · replace hs := hs.1 h99
        exact tx_Mo_begin_46 hs 
      · replace hs := hs.2 h99
        refine tm_go 3 (pc' := 41) (L' := [some (.ref 127), some (.int a0), some (.int (w.1 207 a0.toInt.toNat)), some (.int r2), none, none, none, none, none, none, none, none]) (S' := [.int 2, .int (w.1 207 a0.toInt.toNat), .ref 127]) (w' := w2) rfl ?_
        refine tm_c rfl (Nat.le_of_ble_eq_true rfl) (dm_Mo_raise (d := d + 403) hs) (fun v w100 hq => ?_)
        obtain ⟨rfl, hs⟩ := hq
        refine tm_go 1 (pc' := 45) (L' := [some (.ref 127), some (.int a0), some (.int (w.1 207 a0.toInt.toNat)), some (.int r2), none, none, none, none, none, none, none, none]) (S' := [.int 0]) (w' := w100) rfl ?_
        exact tm_r rfl ⟨_, rfl, by decide, hs⟩
