def s_Tp_put (w : MW) (a0 : Int32) : Prop := (if (1005 : Int32).toInt ≤ ((w.1 1 1) >>> ((2 : Int32) &&& 31)).toInt then True else ((0 ≤ ((w.1 1 1) >>> ((2 : Int32) &&& 31)).toInt ∧ ((w.1 1 1) >>> ((2 : Int32) &&& 31)).toInt < 1005) ∧ True))
def u_Tp_put (w : MW) (a0 : Int32) : MW := (if (1005 : Int32).toInt ≤ ((w.1 1 1) >>> ((2 : Int32) &&& 31)).toInt then w else (sI (sI w 2 (((w.1 1 1) >>> ((2 : Int32) &&& 31)).toInt.toNat) a0) 1 1 ((w.1 1 1) + (4 : Int32))))
theorem ur_Tp_put (w : MW) (a0 : Int32) : (u_Tp_put w a0).2.2 = w.2.2 := (ite_R rfl rfl)
set_option maxHeartbeats 4000000 in
set_option maxRecDepth 100000 in
theorem c_Tp_put {d : Nat} (w : MW) (a0 : Int32)  (hs : s_Tp_put w a0) : Tc (d + 0) 256 [.ref 1, .int a0] w (fun v w1 => v = none ∧ w1 = u_Tp_put w a0) := by
  unfold s_Tp_put at hs
  refine tm_go 9 (pc' := 13) (L' := [some (.ref 1), some (.int a0), some (.int ((w.1 1 1) >>> ((2 : Int32) &&& 31)))]) (S' := [.int 1005, .int ((w.1 1 1) >>> ((2 : Int32) &&& 31))]) (w' := w) rfl ?_
  refine tm_i (p1 := 33) (p2 := 16) rfl (fun h1 => ?_) (fun h1 => ?_)
  · rw [if_pos h1] at hs
    exact tm_r rfl (⟨rfl, by unfold u_Tp_put; rw [if_pos h1]⟩)
  · rw [if_neg h1] at hs
    refine tm_go 4 (pc' := 22) (L' := [some (.ref 1), some (.int a0), some (.int ((w.1 1 1) >>> ((2 : Int32) &&& 31)))]) (S' := [.int a0, .int ((w.1 1 1) >>> ((2 : Int32) &&& 31)), .ref 2]) (w' := w) rfl ?_
    obtain ⟨b1, hs⟩ := hs
    refine tm_k (pc' := 23) (L' := [some (.ref 1), some (.int a0), some (.int ((w.1 1 1) >>> ((2 : Int32) &&& 31)))]) (S' := []) (w' := (sI w 2 (((w.1 1 1) >>> ((2 : Int32) &&& 31)).toInt.toNat) a0)) rfl b1 ?_
    refine tm_go 6 (pc' := 33) (L' := [some (.ref 1), some (.int a0), some (.int ((w.1 1 1) >>> ((2 : Int32) &&& 31)))]) (S' := []) (w' := (sI (sI w 2 (((w.1 1 1) >>> ((2 : Int32) &&& 31)).toInt.toNat) a0) 1 1 ((w.1 1 1) + (4 : Int32)))) rfl ?_
    exact tm_r rfl (⟨rfl, by unfold u_Tp_put; rw [if_neg h1]⟩)
def s_Tp_at (w : MW) (a0 : Int32) : Prop := (if a0.toInt < 0 then True else (if (w.1 1 2).toInt ≤ a0.toInt then True else (if a0.toInt < ((4 : Int32) * (1005 : Int32)).toInt then ((0 ≤ (a0 >>> ((2 : Int32) &&& 31)).toInt ∧ (a0 >>> ((2 : Int32) &&& 31)).toInt < 1005) ∧ True) else True)))
def g_Tp_at (w : MW) (a0 : Int32) : Int32 := (if a0.toInt < 0 then (-1) else (if (w.1 1 2).toInt ≤ a0.toInt then (-1) else (if a0.toInt < ((4 : Int32) * (1005 : Int32)).toInt then ((((w.1 2 ((a0 >>> ((2 : Int32) &&& 31)).toInt.toNat)).toUInt32 >>> (((24 : Int32) - ((8 : Int32) * (a0 &&& (3 : Int32)))).toUInt32 &&& Int32.toUInt32 31)).toInt32) &&& (255 : Int32)) else (-1))))
set_option maxHeartbeats 4000000 in
set_option maxRecDepth 100000 in
theorem c_Tp_at {d : Nat} (w : MW) (a0 : Int32)  (hs : s_Tp_at w a0) : Tc (d + 0) 257 [.ref 1, .int a0] w (fun v w1 => v = some (.int (g_Tp_at w a0)) ∧ w1 = w) := by
  unfold s_Tp_at at hs
  refine tm_go 1 (pc' := 1) (L' := [some (.ref 1), some (.int a0)]) (S' := [.int a0]) (w' := w) rfl ?_
  refine tm_i (p1 := 23) (p2 := 4) rfl (fun h1 => ?_) (fun h1 => ?_)
  · rw [if_pos h1] at hs
    refine tm_go 1 (pc' := 24) (L' := [some (.ref 1), some (.int a0)]) (S' := [.int (-1)]) (w' := w) rfl ?_
    exact tm_r rfl (⟨by unfold g_Tp_at; rw [if_pos h1], rfl⟩)
  · rw [if_neg h1] at hs
    refine tm_go 3 (pc' := 9) (L' := [some (.ref 1), some (.int a0)]) (S' := [.int (w.1 1 2), .int a0]) (w' := w) rfl ?_
    refine tm_i (p1 := 23) (p2 := 12) rfl (fun h2 => ?_) (fun h2 => ?_)
    · rw [if_pos h2] at hs
      refine tm_go 1 (pc' := 24) (L' := [some (.ref 1), some (.int a0)]) (S' := [.int (-1)]) (w' := w) rfl ?_
      exact tm_r rfl (⟨by unfold g_Tp_at; rw [if_neg h1, if_pos h2], rfl⟩)
    · rw [if_neg h2] at hs
      refine tm_go 6 (pc' := 20) (L' := [some (.ref 1), some (.int a0)]) (S' := [.int ((4 : Int32) * (1005 : Int32)), .int a0]) (w' := w) rfl ?_
      refine tm_i (p1 := 25) (p2 := 23) rfl (fun h3 => ?_) (fun h3 => ?_)
      · rw [if_pos h3] at hs
        refine tm_go 5 (pc' := 32) (L' := [some (.ref 1), some (.int a0)]) (S' := [.int (a0 >>> ((2 : Int32) &&& 31)), .ref 2]) (w' := w) rfl ?_
        obtain ⟨b1, hs⟩ := hs
        refine tm_k (pc' := 33) (L' := [some (.ref 1), some (.int a0)]) (S' := [.int (w.1 2 ((a0 >>> ((2 : Int32) &&& 31)).toInt.toNat))]) (w' := w) rfl b1 ?_
        refine tm_go 10 (pc' := 47) (L' := [some (.ref 1), some (.int a0)]) (S' := [.int ((((w.1 2 ((a0 >>> ((2 : Int32) &&& 31)).toInt.toNat)).toUInt32 >>> (((24 : Int32) - ((8 : Int32) * (a0 &&& (3 : Int32)))).toUInt32 &&& Int32.toUInt32 31)).toInt32) &&& (255 : Int32))]) (w' := w) rfl ?_
        exact tm_r rfl (⟨by unfold g_Tp_at; rw [if_neg h1, if_neg h2, if_pos h3], rfl⟩)
      · rw [if_neg h3] at hs
        refine tm_go 1 (pc' := 24) (L' := [some (.ref 1), some (.int a0)]) (S' := [.int (-1)]) (w' := w) rfl ?_
        exact tm_r rfl (⟨by unfold g_Tp_at; rw [if_neg h1, if_neg h2, if_neg h3], rfl⟩)
def g_Tp_isDigit (w : MW) (a0 : Int32) : Int32 := (if a0.toInt < (48 : Int32).toInt then 0 else (if (57 : Int32).toInt < a0.toInt then 0 else 1))
theorem z_Tp_isDigit (w : MW) (a0 : Int32) : (g_Tp_isDigit w a0).toInt = 0 ∨ (g_Tp_isDigit w a0).toInt = 1 := (ite_Z (by decide) (ite_Z (by decide) (by decide)))
set_option maxHeartbeats 4000000 in
set_option maxRecDepth 100000 in
theorem c_Tp_isDigit {d : Nat} (w : MW) (a0 : Int32)  : Tc (d + 0) 258 [.int a0] w (fun v w1 => v = some (.int (g_Tp_isDigit w a0)) ∧ w1 = w) := by
  refine tm_go 2 (pc' := 3) (L' := [some (.int a0)]) (S' := [.int 48, .int a0]) (w' := w) rfl ?_
  refine tm_i (p1 := 16) (p2 := 6) rfl (fun h1 => ?_) (fun h1 => ?_)
  · refine tm_go 1 (pc' := 17) (L' := [some (.int a0)]) (S' := [.int 0]) (w' := w) rfl ?_
    exact tm_r rfl (⟨by unfold g_Tp_isDigit; rw [if_pos h1], rfl⟩)
  · refine tm_go 2 (pc' := 9) (L' := [some (.int a0)]) (S' := [.int 57, .int a0]) (w' := w) rfl ?_
    refine tm_i (p1 := 16) (p2 := 12) rfl (fun h2 => ?_) (fun h2 => ?_)
    · refine tm_go 1 (pc' := 17) (L' := [some (.int a0)]) (S' := [.int 0]) (w' := w) rfl ?_
      exact tm_r rfl (⟨by unfold g_Tp_isDigit; rw [if_neg h1, if_pos h2], rfl⟩)
    · refine tm_go 2 (pc' := 17) (L' := [some (.int a0)]) (S' := [.int 1]) (w' := w) rfl ?_
      exact tm_r rfl (⟨by unfold g_Tp_isDigit; rw [if_neg h1, if_neg h2], rfl⟩)
def g_Tp_isLetter (w : MW) (a0 : Int32) : Int32 := (if a0.toInt < (97 : Int32).toInt then 0 else (if (122 : Int32).toInt < a0.toInt then 0 else 1))
theorem z_Tp_isLetter (w : MW) (a0 : Int32) : (g_Tp_isLetter w a0).toInt = 0 ∨ (g_Tp_isLetter w a0).toInt = 1 := (ite_Z (by decide) (ite_Z (by decide) (by decide)))
set_option maxHeartbeats 4000000 in
set_option maxRecDepth 100000 in
theorem c_Tp_isLetter {d : Nat} (w : MW) (a0 : Int32)  : Tc (d + 0) 259 [.int a0] w (fun v w1 => v = some (.int (g_Tp_isLetter w a0)) ∧ w1 = w) := by
  refine tm_go 2 (pc' := 3) (L' := [some (.int a0)]) (S' := [.int 97, .int a0]) (w' := w) rfl ?_
  refine tm_i (p1 := 16) (p2 := 6) rfl (fun h1 => ?_) (fun h1 => ?_)
  · refine tm_go 1 (pc' := 17) (L' := [some (.int a0)]) (S' := [.int 0]) (w' := w) rfl ?_
    exact tm_r rfl (⟨by unfold g_Tp_isLetter; rw [if_pos h1], rfl⟩)
  · refine tm_go 2 (pc' := 9) (L' := [some (.int a0)]) (S' := [.int 122, .int a0]) (w' := w) rfl ?_
    refine tm_i (p1 := 16) (p2 := 12) rfl (fun h2 => ?_) (fun h2 => ?_)
    · refine tm_go 1 (pc' := 17) (L' := [some (.int a0)]) (S' := [.int 0]) (w' := w) rfl ?_
      exact tm_r rfl (⟨by unfold g_Tp_isLetter; rw [if_neg h1, if_pos h2], rfl⟩)
    · refine tm_go 2 (pc' := 17) (L' := [some (.int a0)]) (S' := [.int 1]) (w' := w) rfl ?_
      exact tm_r rfl (⟨by unfold g_Tp_isLetter; rw [if_neg h1, if_neg h2], rfl⟩)
def g_Tp_isBlank (w : MW) (a0 : Int32) : Int32 := (if a0.toInt = (32 : Int32).toInt then 1 else (if ¬ a0.toInt = (10 : Int32).toInt then 0 else 1))
theorem z_Tp_isBlank (w : MW) (a0 : Int32) : (g_Tp_isBlank w a0).toInt = 0 ∨ (g_Tp_isBlank w a0).toInt = 1 := (ite_Z (by decide) (ite_Z (by decide) (by decide)))
set_option maxHeartbeats 4000000 in
set_option maxRecDepth 100000 in
theorem c_Tp_isBlank {d : Nat} (w : MW) (a0 : Int32)  : Tc (d + 0) 260 [.int a0] w (fun v w1 => v = some (.int (g_Tp_isBlank w a0)) ∧ w1 = w) := by
  refine tm_go 2 (pc' := 3) (L' := [some (.int a0)]) (S' := [.int 32, .int a0]) (w' := w) rfl ?_
  refine tm_i (p1 := 12) (p2 := 6) rfl (fun h1 => ?_) (fun h1 => ?_)
  · refine tm_go 2 (pc' := 17) (L' := [some (.int a0)]) (S' := [.int 1]) (w' := w) rfl ?_
    exact tm_r rfl (⟨by unfold g_Tp_isBlank; rw [if_pos h1], rfl⟩)
  · refine tm_go 2 (pc' := 9) (L' := [some (.int a0)]) (S' := [.int 10, .int a0]) (w' := w) rfl ?_
    refine tm_i (p1 := 16) (p2 := 12) rfl (fun h2 => ?_) (fun h2 => ?_)
    · refine tm_go 1 (pc' := 17) (L' := [some (.int a0)]) (S' := [.int 0]) (w' := w) rfl ?_
      exact tm_r rfl (⟨by unfold g_Tp_isBlank; rw [if_neg h1, if_pos h2], rfl⟩)
    · refine tm_go 2 (pc' := 17) (L' := [some (.int a0)]) (S' := [.int 1]) (w' := w) rfl ?_
      exact tm_r rfl (⟨by unfold g_Tp_isBlank; rw [if_neg h1, if_neg h2], rfl⟩)
def s_Wa_goesOver (w : MW) (a0 : Int32) : Prop := ((0 ≤ a0.toInt ∧ a0.toInt < 20) ∧ (if (w.1 37 a0.toInt.toNat).toInt ≤ 0 then True else True))
def g_Wa_goesOver (w : MW) (a0 : Int32) : Int32 := (if (w.1 37 a0.toInt.toNat).toInt ≤ 0 then 0 else 1)
theorem z_Wa_goesOver (w : MW) (a0 : Int32) : (g_Wa_goesOver w a0).toInt = 0 ∨ (g_Wa_goesOver w a0).toInt = 1 := (ite_Z (by decide) (by decide))
set_option maxHeartbeats 4000000 in
set_option maxRecDepth 100000 in
theorem c_Wa_goesOver {d : Nat} (w : MW) (a0 : Int32)  (hs : s_Wa_goesOver w a0) : Tc (d + 0) 265 [.ref 26, .int a0] w (fun v w1 => v = some (.int (g_Wa_goesOver w a0)) ∧ w1 = w) := by
  unfold s_Wa_goesOver at hs
  refine tm_go 3 (pc' := 5) (L' := [some (.ref 26), some (.int a0)]) (S' := [.int a0, .ref 37]) (w' := w) rfl ?_
  obtain ⟨b1, hs⟩ := hs
  refine tm_k (pc' := 6) (L' := [some (.ref 26), some (.int a0)]) (S' := [.int (w.1 37 a0.toInt.toNat)]) (w' := w) rfl b1 ?_
  refine tm_i (p1 := 13) (p2 := 9) rfl (fun h1 => ?_) (fun h1 => ?_)
  · rw [if_pos h1] at hs
    refine tm_go 1 (pc' := 14) (L' := [some (.ref 26), some (.int a0)]) (S' := [.int 0]) (w' := w) rfl ?_
    exact tm_r rfl (⟨by unfold g_Wa_goesOver; rw [if_pos h1], rfl⟩)
  · rw [if_neg h1] at hs
    refine tm_go 2 (pc' := 14) (L' := [some (.ref 26), some (.int a0)]) (S' := [.int 1]) (w' := w) rfl ?_
    exact tm_r rfl (⟨by unfold g_Wa_goesOver; rw [if_neg h1], rfl⟩)
def s_Wa_goesForth (w : MW) (a0 : Int32) : Prop := ((0 ≤ a0.toInt ∧ a0.toInt < 24) ∧ (if ¬ ((w.1 34 a0.toInt.toNat) &&& (1 : Int32)).toInt = (1 : Int32).toInt then True else True))
def g_Wa_goesForth (w : MW) (a0 : Int32) : Int32 := (if ¬ ((w.1 34 a0.toInt.toNat) &&& (1 : Int32)).toInt = (1 : Int32).toInt then 0 else 1)
theorem z_Wa_goesForth (w : MW) (a0 : Int32) : (g_Wa_goesForth w a0).toInt = 0 ∨ (g_Wa_goesForth w a0).toInt = 1 := (ite_Z (by decide) (by decide))
set_option maxHeartbeats 4000000 in
set_option maxRecDepth 100000 in
theorem c_Wa_goesForth {d : Nat} (w : MW) (a0 : Int32)  (hs : s_Wa_goesForth w a0) : Tc (d + 0) 277 [.ref 26, .int a0] w (fun v w1 => v = some (.int (g_Wa_goesForth w a0)) ∧ w1 = w) := by
  unfold s_Wa_goesForth at hs
  refine tm_go 3 (pc' := 5) (L' := [some (.ref 26), some (.int a0)]) (S' := [.int a0, .ref 34]) (w' := w) rfl ?_
  obtain ⟨b1, hs⟩ := hs
  refine tm_k (pc' := 6) (L' := [some (.ref 26), some (.int a0)]) (S' := [.int (w.1 34 a0.toInt.toNat)]) (w' := w) rfl b1 ?_
  refine tm_go 3 (pc' := 9) (L' := [some (.ref 26), some (.int a0)]) (S' := [.int 1, .int ((w.1 34 a0.toInt.toNat) &&& (1 : Int32))]) (w' := w) rfl ?_
  refine tm_i (p1 := 16) (p2 := 12) rfl (fun h1 => ?_) (fun h1 => ?_)
  · rw [if_pos h1] at hs
    refine tm_go 1 (pc' := 17) (L' := [some (.ref 26), some (.int a0)]) (S' := [.int 0]) (w' := w) rfl ?_
    exact tm_r rfl (⟨by unfold g_Wa_goesForth; rw [if_pos h1], rfl⟩)
  · rw [if_neg h1] at hs
    refine tm_go 2 (pc' := 17) (L' := [some (.ref 26), some (.int a0)]) (S' := [.int 1]) (w' := w) rfl ?_
    exact tm_r rfl (⟨by unfold g_Wa_goesForth; rw [if_neg h1], rfl⟩)
def s_Mr_unit (w : MW) (a0 : Int32) : Prop := (if a0.toInt < (1 : Int32).toInt then True else (if (127 : Int32).toInt < a0.toInt then True else (if ¬ (w.1 147 1).toInt = (4020 : Int32).toInt then ((0 ≤ (w.1 147 1).toInt ∧ (w.1 147 1).toInt < 4020) ∧ True) else True)))
def g_Mr_unit (w : MW) (a0 : Int32) : Int32 := (if a0.toInt < (1 : Int32).toInt then 0 else (if (127 : Int32).toInt < a0.toInt then 0 else (if ¬ (w.1 147 1).toInt = (4020 : Int32).toInt then 1 else 0)))
def u_Mr_unit (w : MW) (a0 : Int32) : MW := (if a0.toInt < (1 : Int32).toInt then w else (if (127 : Int32).toInt < a0.toInt then w else (if ¬ (w.1 147 1).toInt = (4020 : Int32).toInt then (sI (sI w 148 ((w.1 147 1).toInt.toNat) (vp_nar .byte ((Int32.toInt8 a0).toInt32))) 147 1 ((w.1 147 1) + (1 : Int32))) else w)))
theorem ur_Mr_unit (w : MW) (a0 : Int32) : (u_Mr_unit w a0).2.2 = w.2.2 := (ite_R rfl (ite_R rfl (ite_R rfl rfl)))
theorem z_Mr_unit (w : MW) (a0 : Int32) : (g_Mr_unit w a0).toInt = 0 ∨ (g_Mr_unit w a0).toInt = 1 := (ite_Z (by decide) (ite_Z (by decide) (ite_Z (by decide) (by decide))))
set_option maxHeartbeats 4000000 in
set_option maxRecDepth 100000 in
theorem c_Mr_unit {d : Nat} (w : MW) (a0 : Int32)  (hs : s_Mr_unit w a0) : Tc (d + 0) 279 [.ref 147, .int a0] w (fun v w1 => v = some (.int (g_Mr_unit w a0)) ∧ w1 = u_Mr_unit w a0) := by
  unfold s_Mr_unit at hs
  refine tm_go 2 (pc' := 2) (L' := [some (.ref 147), some (.int a0)]) (S' := [.int 1, .int a0]) (w' := w) rfl ?_
  refine tm_i (p1 := 21) (p2 := 5) rfl (fun h1 => ?_) (fun h1 => ?_)
  · rw [if_pos h1] at hs
    refine tm_go 1 (pc' := 22) (L' := [some (.ref 147), some (.int a0)]) (S' := [.int 0]) (w' := w) rfl ?_
    exact tm_r rfl (⟨by unfold g_Mr_unit; rw [if_pos h1], by unfold u_Mr_unit; rw [if_pos h1]⟩)
  · rw [if_neg h1] at hs
    refine tm_go 2 (pc' := 8) (L' := [some (.ref 147), some (.int a0)]) (S' := [.int 127, .int a0]) (w' := w) rfl ?_
    refine tm_i (p1 := 21) (p2 := 11) rfl (fun h2 => ?_) (fun h2 => ?_)
    · rw [if_pos h2] at hs
      refine tm_go 1 (pc' := 22) (L' := [some (.ref 147), some (.int a0)]) (S' := [.int 0]) (w' := w) rfl ?_
      exact tm_r rfl (⟨by unfold g_Mr_unit; rw [if_neg h1, if_pos h2], by unfold u_Mr_unit; rw [if_neg h1, if_pos h2]⟩)
    · rw [if_neg h2] at hs
      refine tm_go 3 (pc' := 18) (L' := [some (.ref 147), some (.int a0)]) (S' := [.int 4020, .int (w.1 147 1)]) (w' := w) rfl ?_
      refine tm_i (p1 := 23) (p2 := 21) rfl (fun h3 => ?_) (fun h3 => ?_)
      · rw [if_pos h3] at hs
        refine tm_go 6 (pc' := 33) (L' := [some (.ref 147), some (.int a0)]) (S' := [.int (Int32.toInt8 a0).toInt32, .int (w.1 147 1), .ref 148]) (w' := w) rfl ?_
        obtain ⟨b1, hs⟩ := hs
        refine tm_k (pc' := 34) (L' := [some (.ref 147), some (.int a0)]) (S' := []) (w' := (sI w 148 ((w.1 147 1).toInt.toNat) (vp_nar .byte ((Int32.toInt8 a0).toInt32)))) rfl b1 ?_
        refine tm_go 7 (pc' := 45) (L' := [some (.ref 147), some (.int a0)]) (S' := [.int 1]) (w' := (sI (sI w 148 ((w.1 147 1).toInt.toNat) (vp_nar .byte ((Int32.toInt8 a0).toInt32))) 147 1 ((w.1 147 1) + (1 : Int32)))) rfl ?_
        exact tm_r rfl (⟨by unfold g_Mr_unit; rw [if_neg h1, if_neg h2, if_pos h3], by unfold u_Mr_unit; rw [if_neg h1, if_neg h2, if_pos h3]⟩)
      · rw [if_neg h3] at hs
        refine tm_go 1 (pc' := 22) (L' := [some (.ref 147), some (.int a0)]) (S' := [.int 0]) (w' := w) rfl ?_
        exact tm_r rfl (⟨by unfold g_Mr_unit; rw [if_neg h1, if_neg h2, if_neg h3], by unfold u_Mr_unit; rw [if_neg h1, if_neg h2, if_neg h3]⟩)
def g_Mr_isSign (w : MW) (a0 : Int32) : Int32 := (if a0.toInt = (40 : Int32).toInt then 1 else (if a0.toInt = (41 : Int32).toInt then 1 else (if ¬ a0.toInt = (59 : Int32).toInt then 0 else 1)))
theorem z_Mr_isSign (w : MW) (a0 : Int32) : (g_Mr_isSign w a0).toInt = 0 ∨ (g_Mr_isSign w a0).toInt = 1 := (ite_Z (by decide) (ite_Z (by decide) (ite_Z (by decide) (by decide))))
set_option maxHeartbeats 4000000 in
set_option maxRecDepth 100000 in
theorem c_Mr_isSign {d : Nat} (w : MW) (a0 : Int32)  : Tc (d + 0) 280 [.int a0] w (fun v w1 => v = some (.int (g_Mr_isSign w a0)) ∧ w1 = w) := by
  refine tm_go 2 (pc' := 3) (L' := [some (.int a0)]) (S' := [.int 40, .int a0]) (w' := w) rfl ?_
  refine tm_i (p1 := 18) (p2 := 6) rfl (fun h1 => ?_) (fun h1 => ?_)
  · refine tm_go 2 (pc' := 23) (L' := [some (.int a0)]) (S' := [.int 1]) (w' := w) rfl ?_
    exact tm_r rfl (⟨by unfold g_Mr_isSign; rw [if_pos h1], rfl⟩)
  · refine tm_go 2 (pc' := 9) (L' := [some (.int a0)]) (S' := [.int 41, .int a0]) (w' := w) rfl ?_
    refine tm_i (p1 := 18) (p2 := 12) rfl (fun h2 => ?_) (fun h2 => ?_)
    · refine tm_go 2 (pc' := 23) (L' := [some (.int a0)]) (S' := [.int 1]) (w' := w) rfl ?_
      exact tm_r rfl (⟨by unfold g_Mr_isSign; rw [if_neg h1, if_pos h2], rfl⟩)
    · refine tm_go 2 (pc' := 15) (L' := [some (.int a0)]) (S' := [.int 59, .int a0]) (w' := w) rfl ?_
      refine tm_i (p1 := 22) (p2 := 18) rfl (fun h3 => ?_) (fun h3 => ?_)
      · refine tm_go 1 (pc' := 23) (L' := [some (.int a0)]) (S' := [.int 0]) (w' := w) rfl ?_
        exact tm_r rfl (⟨by unfold g_Mr_isSign; rw [if_neg h1, if_neg h2, if_pos h3], rfl⟩)
      · refine tm_go 2 (pc' := 23) (L' := [some (.int a0)]) (S' := [.int 1]) (w' := w) rfl ?_
        exact tm_r rfl (⟨by unfold g_Mr_isSign; rw [if_neg h1, if_neg h2, if_neg h3], rfl⟩)
def s_Mr_at (w : MW) (a0 : Int32) : Prop := (if (w.1 147 4).toInt ≤ (w.1 147 5).toInt then True else ((0 ≤ (w.1 147 5).toInt ∧ (w.1 147 5).toInt < 4021) ∧ ((0 ≤ (w.1 147 5).toInt ∧ (w.1 147 5).toInt < 4021) ∧ (if (w.1 150 ((w.1 147 5).toInt.toNat)).toInt ≤ ((w.1 149 ((w.1 147 5).toInt.toNat)) + a0).toInt then True else ((0 ≤ ((w.1 149 ((w.1 147 5).toInt.toNat)) + a0).toInt ∧ ((w.1 149 ((w.1 147 5).toInt.toNat)) + a0).toInt < 4020) ∧ True)))))
def g_Mr_at (w : MW) (a0 : Int32) : Int32 := (if (w.1 147 4).toInt ≤ (w.1 147 5).toInt then 0 else (if (w.1 150 ((w.1 147 5).toInt.toNat)).toInt ≤ ((w.1 149 ((w.1 147 5).toInt.toNat)) + a0).toInt then 0 else (w.1 148 (((w.1 149 ((w.1 147 5).toInt.toNat)) + a0).toInt.toNat))))
set_option maxHeartbeats 4000000 in
set_option maxRecDepth 100000 in
theorem c_Mr_at {d : Nat} (w : MW) (a0 : Int32)  (hs : s_Mr_at w a0) : Tc (d + 0) 282 [.ref 147, .int a0] w (fun v w1 => v = some (.int (g_Mr_at w a0)) ∧ w1 = w) := by
  unfold s_Mr_at at hs
  refine tm_go 4 (pc' := 8) (L' := [some (.ref 147), some (.int a0), none]) (S' := [.int (w.1 147 4), .int (w.1 147 5)]) (w' := w) rfl ?_
  refine tm_i (p1 := 25) (p2 := 11) rfl (fun h1 => ?_) (fun h1 => ?_)
  · rw [if_pos h1] at hs
    refine tm_go 6 (pc' := 37) (L' := [some (.ref 147), some (.int a0), some (.int 4020)]) (S' := [.int (w.1 147 4), .int (w.1 147 5)]) (w' := w) rfl ?_
    refine tm_i (p1 := 62) (p2 := 40) rfl (fun _ => ?_) (fun h => absurd h1 h)
    refine tm_go 1 (pc' := 63) (L' := [some (.ref 147), some (.int a0), some (.int 4020)]) (S' := [.int 0]) (w' := w) rfl ?_
    exact tm_r rfl (⟨by unfold g_Mr_at; rw [if_pos h1], rfl⟩)
  · rw [if_neg h1] at hs
    refine tm_go 4 (pc' := 19) (L' := [some (.ref 147), some (.int a0), none]) (S' := [.int (w.1 147 5), .ref 149]) (w' := w) rfl ?_
    obtain ⟨b1, hs⟩ := hs
    refine tm_k (pc' := 20) (L' := [some (.ref 147), some (.int a0), none]) (S' := [.int (w.1 149 ((w.1 147 5).toInt.toNat))]) (w' := w) rfl b1 ?_
    refine tm_go 8 (pc' := 37) (L' := [some (.ref 147), some (.int a0), some (.int ((w.1 149 ((w.1 147 5).toInt.toNat)) + a0))]) (S' := [.int (w.1 147 4), .int (w.1 147 5)]) (w' := w) rfl ?_
    refine tm_i (p1 := 62) (p2 := 40) rfl (fun h => absurd h h1) (fun _ => ?_)
    refine tm_go 5 (pc' := 49) (L' := [some (.ref 147), some (.int a0), some (.int ((w.1 149 ((w.1 147 5).toInt.toNat)) + a0))]) (S' := [.int (w.1 147 5), .ref 150, .int ((w.1 149 ((w.1 147 5).toInt.toNat)) + a0)]) (w' := w) rfl ?_
    obtain ⟨b2, hs⟩ := hs
    refine tm_k (pc' := 50) (L' := [some (.ref 147), some (.int a0), some (.int ((w.1 149 ((w.1 147 5).toInt.toNat)) + a0))]) (S' := [.int (w.1 150 ((w.1 147 5).toInt.toNat)), .int ((w.1 149 ((w.1 147 5).toInt.toNat)) + a0)]) (w' := w) rfl b2 ?_
    refine tm_i (p1 := 62) (p2 := 53) rfl (fun h4 => ?_) (fun h4 => ?_)
    · rw [if_pos h4] at hs
      refine tm_go 1 (pc' := 63) (L' := [some (.ref 147), some (.int a0), some (.int ((w.1 149 ((w.1 147 5).toInt.toNat)) + a0))]) (S' := [.int 0]) (w' := w) rfl ?_
      exact tm_r rfl (⟨by unfold g_Mr_at; rw [if_neg h1, if_pos h4], rfl⟩)
    · rw [if_neg h4] at hs
      refine tm_go 3 (pc' := 58) (L' := [some (.ref 147), some (.int a0), some (.int ((w.1 149 ((w.1 147 5).toInt.toNat)) + a0))]) (S' := [.int ((w.1 149 ((w.1 147 5).toInt.toNat)) + a0), .ref 148]) (w' := w) rfl ?_
      obtain ⟨b3, hs⟩ := hs
      refine tm_k (pc' := 59) (L' := [some (.ref 147), some (.int a0), some (.int ((w.1 149 ((w.1 147 5).toInt.toNat)) + a0))]) (S' := [.int (w.1 148 (((w.1 149 ((w.1 147 5).toInt.toNat)) + a0).toInt.toNat))]) (w' := w) rfl b3 ?_
      refine tm_go 1 (pc' := 63) (L' := [some (.ref 147), some (.int a0), some (.int ((w.1 149 ((w.1 147 5).toInt.toNat)) + a0))]) (S' := [.int (w.1 148 (((w.1 149 ((w.1 147 5).toInt.toNat)) + a0).toInt.toNat))]) (w' := w) rfl ?_
      exact tm_r rfl (⟨by unfold g_Mr_at; rw [if_neg h1, if_neg h4], rfl⟩)
def s_Mr_wide (w : MW)  : Prop := (if (w.1 147 4).toInt ≤ (w.1 147 5).toInt then True else ((0 ≤ (w.1 147 5).toInt ∧ (w.1 147 5).toInt < 4021) ∧ ((0 ≤ (w.1 147 5).toInt ∧ (w.1 147 5).toInt < 4021) ∧ True)))
def g_Mr_wide (w : MW)  : Int32 := (if (w.1 147 4).toInt ≤ (w.1 147 5).toInt then 0 else ((w.1 150 ((w.1 147 5).toInt.toNat)) - (w.1 149 ((w.1 147 5).toInt.toNat))))
set_option maxHeartbeats 4000000 in
set_option maxRecDepth 100000 in
theorem c_Mr_wide {d : Nat} (w : MW)   (hs : s_Mr_wide w) : Tc (d + 0) 283 [.ref 147] w (fun v w1 => v = some (.int (g_Mr_wide w)) ∧ w1 = w) := by
  unfold s_Mr_wide at hs
  refine tm_go 4 (pc' := 8) (L' := [some (.ref 147)]) (S' := [.int (w.1 147 4), .int (w.1 147 5)]) (w' := w) rfl ?_
  refine tm_i (p1 := 33) (p2 := 11) rfl (fun h1 => ?_) (fun h1 => ?_)
  · rw [if_pos h1] at hs
    refine tm_go 1 (pc' := 34) (L' := [some (.ref 147)]) (S' := [.int 0]) (w' := w) rfl ?_
    exact tm_r rfl (⟨by unfold g_Mr_wide; rw [if_pos h1], rfl⟩)
  · rw [if_neg h1] at hs
    refine tm_go 4 (pc' := 19) (L' := [some (.ref 147)]) (S' := [.int (w.1 147 5), .ref 150]) (w' := w) rfl ?_
    obtain ⟨b1, hs⟩ := hs
    refine tm_k (pc' := 20) (L' := [some (.ref 147)]) (S' := [.int (w.1 150 ((w.1 147 5).toInt.toNat))]) (w' := w) rfl b1 ?_
    refine tm_go 4 (pc' := 28) (L' := [some (.ref 147)]) (S' := [.int (w.1 147 5), .ref 149, .int (w.1 150 ((w.1 147 5).toInt.toNat))]) (w' := w) rfl ?_
    obtain ⟨b2, hs⟩ := hs
    refine tm_k (pc' := 29) (L' := [some (.ref 147)]) (S' := [.int (w.1 149 ((w.1 147 5).toInt.toNat)), .int (w.1 150 ((w.1 147 5).toInt.toNat))]) (w' := w) rfl b2 ?_
    refine tm_go 2 (pc' := 34) (L' := [some (.ref 147)]) (S' := [.int ((w.1 150 ((w.1 147 5).toInt.toNat)) - (w.1 149 ((w.1 147 5).toInt.toNat)))]) (w' := w) rfl ?_
    exact tm_r rfl (⟨by unfold g_Mr_wide; rw [if_neg h1], rfl⟩)
def s_Mr_isOne (w : MW) (a0 : Int32) : Prop := ((s_Mr_wide w) ∧ (if ¬ (g_Mr_wide w).toInt = (1 : Int32).toInt then True else ((s_Mr_at w 0) ∧ (if ¬ (g_Mr_at w 0).toInt = a0.toInt then True else True))))
def g_Mr_isOne (w : MW) (a0 : Int32) : Int32 := (if ¬ (g_Mr_wide w).toInt = (1 : Int32).toInt then 0 else (if ¬ (g_Mr_at w 0).toInt = a0.toInt then 0 else 1))
theorem z_Mr_isOne (w : MW) (a0 : Int32) : (g_Mr_isOne w a0).toInt = 0 ∨ (g_Mr_isOne w a0).toInt = 1 := (ite_Z (by decide) (ite_Z (by decide) (by decide)))
set_option maxHeartbeats 4000000 in
set_option maxRecDepth 100000 in
theorem c_Mr_isOne {d : Nat} (w : MW) (a0 : Int32)  (hs : s_Mr_isOne w a0) : Tc (d + 1) 285 [.ref 147, .int a0] w (fun v w1 => v = some (.int (g_Mr_isOne w a0)) ∧ w1 = w) := by
  unfold s_Mr_isOne at hs
  refine tm_go 1 (pc' := 1) (L' := [some (.ref 147), some (.int a0)]) (S' := [.ref 147]) (w' := w) rfl ?_
  obtain ⟨b1, hs⟩ := hs
  refine tm_c rfl (Nat.le_of_ble_eq_true rfl) (c_Mr_wide (d := d + 0) w   b1) (fun v w1 hq => ?_)
  obtain ⟨rfl, hw9⟩ := hq; rw [hw9]; clear hw9
  refine tm_go 1 (pc' := 5) (L' := [some (.ref 147), some (.int a0)]) (S' := [.int 1, .int (g_Mr_wide w)]) (w' := w) rfl ?_
  refine tm_i (p1 := 21) (p2 := 8) rfl (fun h1 => ?_) (fun h1 => ?_)
  · rw [if_pos h1] at hs
    refine tm_go 1 (pc' := 22) (L' := [some (.ref 147), some (.int a0)]) (S' := [.int 0]) (w' := w) rfl ?_
    exact tm_r rfl (⟨by unfold g_Mr_isOne; rw [if_pos h1], rfl⟩)
  · rw [if_neg h1] at hs
    refine tm_go 2 (pc' := 10) (L' := [some (.ref 147), some (.int a0)]) (S' := [.int 0, .ref 147]) (w' := w) rfl ?_
    obtain ⟨b2, hs⟩ := hs
    refine tm_c rfl (Nat.le_of_ble_eq_true rfl) (c_Mr_at (d := d + 0) w 0  b2) (fun v w1 hq => ?_)
    obtain ⟨rfl, hw9⟩ := hq; rw [hw9]; clear hw9
    refine tm_go 1 (pc' := 14) (L' := [some (.ref 147), some (.int a0)]) (S' := [.int a0, .int (g_Mr_at w 0)]) (w' := w) rfl ?_
    refine tm_i (p1 := 21) (p2 := 17) rfl (fun h2 => ?_) (fun h2 => ?_)
    · rw [if_pos h2] at hs
      refine tm_go 1 (pc' := 22) (L' := [some (.ref 147), some (.int a0)]) (S' := [.int 0]) (w' := w) rfl ?_
      exact tm_r rfl (⟨by unfold g_Mr_isOne; rw [if_neg h1, if_pos h2], rfl⟩)
    · rw [if_neg h2] at hs
      refine tm_go 2 (pc' := 22) (L' := [some (.ref 147), some (.int a0)]) (S' := [.int 1]) (w' := w) rfl ?_
      exact tm_r rfl (⟨by unfold g_Mr_isOne; rw [if_neg h1, if_neg h2], rfl⟩)
def s_Mr_node (w : MW) (a0 : Int32) (b0 : Int32) (c0 : Int32) : Prop := ((0 ≤ (((3000 : Int32) * ((1 : Int32) - (w.1 147 12))) + (w.1 147 11)).toInt ∧ (((3000 : Int32) * ((1 : Int32) - (w.1 147 12))) + (w.1 147 11)).toInt < 6000) ∧ ((0 ≤ (((3000 : Int32) * ((1 : Int32) - (w.1 147 12))) + (w.1 147 11)).toInt ∧ (((3000 : Int32) * ((1 : Int32) - (w.1 147 12))) + (w.1 147 11)).toInt < 6000) ∧ ((0 ≤ (((3000 : Int32) * ((1 : Int32) - (w.1 147 12))) + (w.1 147 11)).toInt ∧ (((3000 : Int32) * ((1 : Int32) - (w.1 147 12))) + (w.1 147 11)).toInt < 6000) ∧ True)))
def g_Mr_node (w : MW) (a0 : Int32) (b0 : Int32) (c0 : Int32) : Int32 := (((3000 : Int32) * ((1 : Int32) - (w.1 147 12))) + (w.1 147 11))
def u_Mr_node (w : MW) (a0 : Int32) (b0 : Int32) (c0 : Int32) : MW := (sI (sI (sI (sI w 151 ((((3000 : Int32) * ((1 : Int32) - (w.1 147 12))) + (w.1 147 11)).toInt.toNat) a0) 152 ((((3000 : Int32) * ((1 : Int32) - (w.1 147 12))) + (w.1 147 11)).toInt.toNat) b0) 153 ((((3000 : Int32) * ((1 : Int32) - (w.1 147 12))) + (w.1 147 11)).toInt.toNat) c0) 147 11 ((w.1 147 11) + (1 : Int32)))
theorem ur_Mr_node (w : MW) (a0 : Int32) (b0 : Int32) (c0 : Int32) : (u_Mr_node w a0 b0 c0).2.2 = w.2.2 := rfl
set_option maxHeartbeats 4000000 in
set_option maxRecDepth 100000 in
theorem c_Mr_node {d : Nat} (w : MW) (a0 : Int32) (b0 : Int32) (c0 : Int32)  (hs : s_Mr_node w a0 b0 c0) : Tc (d + 0) 289 [.ref 147, .int a0, .int b0, .int c0] w (fun v w1 => v = some (.int (g_Mr_node w a0 b0 c0)) ∧ w1 = u_Mr_node w a0 b0 c0) := by
  unfold s_Mr_node at hs
  refine tm_go 14 (pc' := 24) (L' := [some (.ref 147), some (.int a0), some (.int b0), some (.int c0), some (.int (((3000 : Int32) * ((1 : Int32) - (w.1 147 12))) + (w.1 147 11)))]) (S' := [.int a0, .int (((3000 : Int32) * ((1 : Int32) - (w.1 147 12))) + (w.1 147 11)), .ref 151]) (w' := w) rfl ?_
  obtain ⟨b1, hs⟩ := hs
  refine tm_k (pc' := 25) (L' := [some (.ref 147), some (.int a0), some (.int b0), some (.int c0), some (.int (((3000 : Int32) * ((1 : Int32) - (w.1 147 12))) + (w.1 147 11)))]) (S' := []) (w' := (sI w 151 ((((3000 : Int32) * ((1 : Int32) - (w.1 147 12))) + (w.1 147 11)).toInt.toNat) a0)) rfl b1 ?_
  refine tm_go 4 (pc' := 32) (L' := [some (.ref 147), some (.int a0), some (.int b0), some (.int c0), some (.int (((3000 : Int32) * ((1 : Int32) - (w.1 147 12))) + (w.1 147 11)))]) (S' := [.int b0, .int (((3000 : Int32) * ((1 : Int32) - (w.1 147 12))) + (w.1 147 11)), .ref 152]) (w' := (sI w 151 ((((3000 : Int32) * ((1 : Int32) - (w.1 147 12))) + (w.1 147 11)).toInt.toNat) a0)) rfl ?_
  obtain ⟨b2, hs⟩ := hs
  refine tm_k (pc' := 33) (L' := [some (.ref 147), some (.int a0), some (.int b0), some (.int c0), some (.int (((3000 : Int32) * ((1 : Int32) - (w.1 147 12))) + (w.1 147 11)))]) (S' := []) (w' := (sI (sI w 151 ((((3000 : Int32) * ((1 : Int32) - (w.1 147 12))) + (w.1 147 11)).toInt.toNat) a0) 152 ((((3000 : Int32) * ((1 : Int32) - (w.1 147 12))) + (w.1 147 11)).toInt.toNat) b0)) rfl b2 ?_
  refine tm_go 4 (pc' := 40) (L' := [some (.ref 147), some (.int a0), some (.int b0), some (.int c0), some (.int (((3000 : Int32) * ((1 : Int32) - (w.1 147 12))) + (w.1 147 11)))]) (S' := [.int c0, .int (((3000 : Int32) * ((1 : Int32) - (w.1 147 12))) + (w.1 147 11)), .ref 153]) (w' := (sI (sI w 151 ((((3000 : Int32) * ((1 : Int32) - (w.1 147 12))) + (w.1 147 11)).toInt.toNat) a0) 152 ((((3000 : Int32) * ((1 : Int32) - (w.1 147 12))) + (w.1 147 11)).toInt.toNat) b0)) rfl ?_
  obtain ⟨b3, hs⟩ := hs
  refine tm_k (pc' := 41) (L' := [some (.ref 147), some (.int a0), some (.int b0), some (.int c0), some (.int (((3000 : Int32) * ((1 : Int32) - (w.1 147 12))) + (w.1 147 11)))]) (S' := []) (w' := (sI (sI (sI w 151 ((((3000 : Int32) * ((1 : Int32) - (w.1 147 12))) + (w.1 147 11)).toInt.toNat) a0) 152 ((((3000 : Int32) * ((1 : Int32) - (w.1 147 12))) + (w.1 147 11)).toInt.toNat) b0) 153 ((((3000 : Int32) * ((1 : Int32) - (w.1 147 12))) + (w.1 147 11)).toInt.toNat) c0)) rfl b3 ?_
  refine tm_go 7 (pc' := 53) (L' := [some (.ref 147), some (.int a0), some (.int b0), some (.int c0), some (.int (((3000 : Int32) * ((1 : Int32) - (w.1 147 12))) + (w.1 147 11)))]) (S' := [.int (((3000 : Int32) * ((1 : Int32) - (w.1 147 12))) + (w.1 147 11))]) (w' := (sI (sI (sI (sI w 151 ((((3000 : Int32) * ((1 : Int32) - (w.1 147 12))) + (w.1 147 11)).toInt.toNat) a0) 152 ((((3000 : Int32) * ((1 : Int32) - (w.1 147 12))) + (w.1 147 11)).toInt.toNat) b0) 153 ((((3000 : Int32) * ((1 : Int32) - (w.1 147 12))) + (w.1 147 11)).toInt.toNat) c0) 147 11 ((w.1 147 11) + (1 : Int32)))) rfl ?_
  exact tm_r rfl (⟨by unfold g_Mr_node; rfl, by unfold u_Mr_node; rfl⟩)
def g_Mr_isRow (w : MW) (a0 : Int32) : Int32 := (if a0.toInt < (1 : Int32).toInt then 0 else (if (w.1 147 20).toInt < a0.toInt then 0 else 1))
theorem z_Mr_isRow (w : MW) (a0 : Int32) : (g_Mr_isRow w a0).toInt = 0 ∨ (g_Mr_isRow w a0).toInt = 1 := (ite_Z (by decide) (ite_Z (by decide) (by decide)))
set_option maxHeartbeats 4000000 in
set_option maxRecDepth 100000 in
theorem c_Mr_isRow {d : Nat} (w : MW) (a0 : Int32)  : Tc (d + 0) 300 [.ref 147, .int a0] w (fun v w1 => v = some (.int (g_Mr_isRow w a0)) ∧ w1 = w) := by
  refine tm_go 2 (pc' := 2) (L' := [some (.ref 147), some (.int a0)]) (S' := [.int 1, .int a0]) (w' := w) rfl ?_
  refine tm_i (p1 := 17) (p2 := 5) rfl (fun h1 => ?_) (fun h1 => ?_)
  · refine tm_go 1 (pc' := 18) (L' := [some (.ref 147), some (.int a0)]) (S' := [.int 0]) (w' := w) rfl ?_
    exact tm_r rfl (⟨by unfold g_Mr_isRow; rw [if_pos h1], rfl⟩)
  · refine tm_go 3 (pc' := 10) (L' := [some (.ref 147), some (.int a0)]) (S' := [.int (w.1 147 20), .int a0]) (w' := w) rfl ?_
    refine tm_i (p1 := 17) (p2 := 13) rfl (fun h2 => ?_) (fun h2 => ?_)
    · refine tm_go 1 (pc' := 18) (L' := [some (.ref 147), some (.int a0)]) (S' := [.int 0]) (w' := w) rfl ?_
      exact tm_r rfl (⟨by unfold g_Mr_isRow; rw [if_neg h1, if_pos h2], rfl⟩)
    · refine tm_go 2 (pc' := 18) (L' := [some (.ref 147), some (.int a0)]) (S' := [.int 1]) (w' := w) rfl ?_
      exact tm_r rfl (⟨by unfold g_Mr_isRow; rw [if_neg h1, if_neg h2], rfl⟩)
def s_Mr_pass (w : MW) (a0 : Int32) (b0 : Int32) (c0 : Int32) (e0 : Int32) : Prop := (if ¬ (g_Mr_isRow w a0).toInt = 0 then (if b0.toInt < (1 : Int32).toInt then True else (if (999 : Int32).toInt < b0.toInt then True else (if c0.toInt < (1 : Int32).toInt then True else (if (999 : Int32).toInt < c0.toInt then True else (if ¬ b0.toInt = c0.toInt then (if e0.toInt < (1 : Int32).toInt then True else (if e0.toInt ≤ (3600 : Int32).toInt then ((0 ≤ (a0 - (1 : Int32)).toInt ∧ (a0 - (1 : Int32)).toInt < 40) ∧ (if (w.1 162 ((a0 - (1 : Int32)).toInt.toNat)).toInt ≤ 0 then ((0 ≤ (a0 - (1 : Int32)).toInt ∧ (a0 - (1 : Int32)).toInt < 40) ∧ True) else True)) else True)) else True))))) else True)
def g_Mr_pass (w : MW) (a0 : Int32) (b0 : Int32) (c0 : Int32) (e0 : Int32) : Int32 := (if ¬ (g_Mr_isRow w a0).toInt = 0 then (if b0.toInt < (1 : Int32).toInt then (-2) else (if (999 : Int32).toInt < b0.toInt then (-2) else (if c0.toInt < (1 : Int32).toInt then (-2) else (if (999 : Int32).toInt < c0.toInt then (-2) else (if ¬ b0.toInt = c0.toInt then (if e0.toInt < (1 : Int32).toInt then (-3) else (if e0.toInt ≤ (3600 : Int32).toInt then (if (w.1 162 ((a0 - (1 : Int32)).toInt.toNat)).toInt ≤ 0 then 0 else (-4)) else (-3))) else (-2)))))) else (-1))
def u_Mr_pass (w : MW) (a0 : Int32) (b0 : Int32) (c0 : Int32) (e0 : Int32) : MW := (if ¬ (g_Mr_isRow w a0).toInt = 0 then (if b0.toInt < (1 : Int32).toInt then w else (if (999 : Int32).toInt < b0.toInt then w else (if c0.toInt < (1 : Int32).toInt then w else (if (999 : Int32).toInt < c0.toInt then w else (if ¬ b0.toInt = c0.toInt then (if e0.toInt < (1 : Int32).toInt then w else (if e0.toInt ≤ (3600 : Int32).toInt then (if (w.1 162 ((a0 - (1 : Int32)).toInt.toNat)).toInt ≤ 0 then (sI w 162 ((a0 - (1 : Int32)).toInt.toNat) e0) else w) else w)) else w))))) else w)
theorem ur_Mr_pass (w : MW) (a0 : Int32) (b0 : Int32) (c0 : Int32) (e0 : Int32) : (u_Mr_pass w a0 b0 c0 e0).2.2 = w.2.2 := (ite_R (ite_R rfl (ite_R rfl (ite_R rfl (ite_R rfl (ite_R (ite_R rfl (ite_R (ite_R rfl rfl) rfl)) rfl))))) rfl)
set_option maxHeartbeats 4000000 in
set_option maxRecDepth 100000 in
theorem c_Mr_pass {d : Nat} (w : MW) (a0 : Int32) (b0 : Int32) (c0 : Int32) (e0 : Int32)  (hs : s_Mr_pass w a0 b0 c0 e0) : Tc (d + 1) 301 [.ref 147, .int a0, .int b0, .int c0, .int e0] w (fun v w1 => v = some (.int (g_Mr_pass w a0 b0 c0 e0)) ∧ w1 = u_Mr_pass w a0 b0 c0 e0) := by
  unfold s_Mr_pass at hs
  refine tm_go 2 (pc' := 2) (L' := [some (.ref 147), some (.int a0), some (.int b0), some (.int c0), some (.int e0)]) (S' := [.int a0, .ref 147]) (w' := w) rfl ?_
  refine tm_c rfl (Nat.le_of_ble_eq_true rfl) (c_Mr_isRow (d := d + 0) w a0 ) (fun v w1 hq => ?_)
  obtain ⟨rfl, hw9⟩ := hq; rw [hw9]; clear hw9
  refine tm_i (p1 := 10) (p2 := 8) rfl (fun h1 => ?_) (fun h1 => ?_)
  · rw [if_pos h1] at hs
    refine tm_go 2 (pc' := 12) (L' := [some (.ref 147), some (.int a0), some (.int b0), some (.int c0), some (.int e0)]) (S' := [.int 1, .int b0]) (w' := w) rfl ?_
    refine tm_i (p1 := 39) (p2 := 15) rfl (fun h2 => ?_) (fun h2 => ?_)
    · rw [if_pos h2] at hs
      refine tm_go 1 (pc' := 41) (L' := [some (.ref 147), some (.int a0), some (.int b0), some (.int c0), some (.int e0)]) (S' := [.int (-2)]) (w' := w) rfl ?_
      exact tm_r rfl (⟨by unfold g_Mr_pass; rw [if_pos h1, if_pos h2], by unfold u_Mr_pass; rw [if_pos h1, if_pos h2]⟩)
    · rw [if_neg h2] at hs
      refine tm_go 2 (pc' := 19) (L' := [some (.ref 147), some (.int a0), some (.int b0), some (.int c0), some (.int e0)]) (S' := [.int 999, .int b0]) (w' := w) rfl ?_
      refine tm_i (p1 := 39) (p2 := 22) rfl (fun h3 => ?_) (fun h3 => ?_)
      · rw [if_pos h3] at hs
        refine tm_go 1 (pc' := 41) (L' := [some (.ref 147), some (.int a0), some (.int b0), some (.int c0), some (.int e0)]) (S' := [.int (-2)]) (w' := w) rfl ?_
        exact tm_r rfl (⟨by unfold g_Mr_pass; rw [if_pos h1, if_neg h2, if_pos h3], by unfold u_Mr_pass; rw [if_pos h1, if_neg h2, if_pos h3]⟩)
      · rw [if_neg h3] at hs
        refine tm_go 2 (pc' := 24) (L' := [some (.ref 147), some (.int a0), some (.int b0), some (.int c0), some (.int e0)]) (S' := [.int 1, .int c0]) (w' := w) rfl ?_
        refine tm_i (p1 := 39) (p2 := 27) rfl (fun h4 => ?_) (fun h4 => ?_)
        · rw [if_pos h4] at hs
          refine tm_go 1 (pc' := 41) (L' := [some (.ref 147), some (.int a0), some (.int b0), some (.int c0), some (.int e0)]) (S' := [.int (-2)]) (w' := w) rfl ?_
          exact tm_r rfl (⟨by unfold g_Mr_pass; rw [if_pos h1, if_neg h2, if_neg h3, if_pos h4], by unfold u_Mr_pass; rw [if_pos h1, if_neg h2, if_neg h3, if_pos h4]⟩)
        · rw [if_neg h4] at hs
          refine tm_go 2 (pc' := 31) (L' := [some (.ref 147), some (.int a0), some (.int b0), some (.int c0), some (.int e0)]) (S' := [.int 999, .int c0]) (w' := w) rfl ?_
          refine tm_i (p1 := 39) (p2 := 34) rfl (fun h5 => ?_) (fun h5 => ?_)
          · rw [if_pos h5] at hs
            refine tm_go 1 (pc' := 41) (L' := [some (.ref 147), some (.int a0), some (.int b0), some (.int c0), some (.int e0)]) (S' := [.int (-2)]) (w' := w) rfl ?_
            exact tm_r rfl (⟨by unfold g_Mr_pass; rw [if_pos h1, if_neg h2, if_neg h3, if_neg h4, if_pos h5], by unfold u_Mr_pass; rw [if_pos h1, if_neg h2, if_neg h3, if_neg h4, if_pos h5]⟩)
          · rw [if_neg h5] at hs
            refine tm_go 2 (pc' := 36) (L' := [some (.ref 147), some (.int a0), some (.int b0), some (.int c0), some (.int e0)]) (S' := [.int c0, .int b0]) (w' := w) rfl ?_
            refine tm_i (p1 := 42) (p2 := 39) rfl (fun h6 => ?_) (fun h6 => ?_)
            · rw [if_pos h6] at hs
              refine tm_go 2 (pc' := 45) (L' := [some (.ref 147), some (.int a0), some (.int b0), some (.int c0), some (.int e0)]) (S' := [.int 1, .int e0]) (w' := w) rfl ?_
              refine tm_i (p1 := 56) (p2 := 48) rfl (fun h7 => ?_) (fun h7 => ?_)
              · rw [if_pos h7] at hs
                refine tm_go 1 (pc' := 58) (L' := [some (.ref 147), some (.int a0), some (.int b0), some (.int c0), some (.int e0)]) (S' := [.int (-3)]) (w' := w) rfl ?_
                exact tm_r rfl (⟨by unfold g_Mr_pass; rw [if_pos h1, if_neg h2, if_neg h3, if_neg h4, if_neg h5, if_pos h6, if_pos h7], by unfold u_Mr_pass; rw [if_pos h1, if_neg h2, if_neg h3, if_neg h4, if_neg h5, if_pos h6, if_pos h7]⟩)
              · rw [if_neg h7] at hs
                refine tm_go 2 (pc' := 53) (L' := [some (.ref 147), some (.int a0), some (.int b0), some (.int c0), some (.int e0)]) (S' := [.int 3600, .int e0]) (w' := w) rfl ?_
                refine tm_i (p1 := 59) (p2 := 56) rfl (fun h8 => ?_) (fun h8 => ?_)
                · rw [if_pos h8] at hs
                  refine tm_go 5 (pc' := 66) (L' := [some (.ref 147), some (.int a0), some (.int b0), some (.int c0), some (.int e0)]) (S' := [.int (a0 - (1 : Int32)), .ref 162]) (w' := w) rfl ?_
                  obtain ⟨b1, hs⟩ := hs
                  refine tm_k (pc' := 67) (L' := [some (.ref 147), some (.int a0), some (.int b0), some (.int c0), some (.int e0)]) (S' := [.int (w.1 162 ((a0 - (1 : Int32)).toInt.toNat))]) (w' := w) rfl b1 ?_
                  refine tm_i (p1 := 73) (p2 := 70) rfl (fun h9 => ?_) (fun h9 => ?_)
                  · rw [if_pos h9] at hs
                    refine tm_go 6 (pc' := 82) (L' := [some (.ref 147), some (.int a0), some (.int b0), some (.int c0), some (.int e0)]) (S' := [.int e0, .int (a0 - (1 : Int32)), .ref 162]) (w' := w) rfl ?_
                    obtain ⟨b2, hs⟩ := hs
                    refine tm_k (pc' := 83) (L' := [some (.ref 147), some (.int a0), some (.int b0), some (.int c0), some (.int e0)]) (S' := []) (w' := (sI w 162 ((a0 - (1 : Int32)).toInt.toNat) e0)) rfl b2 ?_
                    refine tm_go 1 (pc' := 84) (L' := [some (.ref 147), some (.int a0), some (.int b0), some (.int c0), some (.int e0)]) (S' := [.int 0]) (w' := (sI w 162 ((a0 - (1 : Int32)).toInt.toNat) e0)) rfl ?_
                    exact tm_r rfl (⟨by unfold g_Mr_pass; rw [if_pos h1, if_neg h2, if_neg h3, if_neg h4, if_neg h5, if_pos h6, if_neg h7, if_pos h8, if_pos h9], by unfold u_Mr_pass; rw [if_pos h1, if_neg h2, if_neg h3, if_neg h4, if_neg h5, if_pos h6, if_neg h7, if_pos h8, if_pos h9]⟩)
                  · rw [if_neg h9] at hs
                    refine tm_go 1 (pc' := 72) (L' := [some (.ref 147), some (.int a0), some (.int b0), some (.int c0), some (.int e0)]) (S' := [.int (-4)]) (w' := w) rfl ?_
                    exact tm_r rfl (⟨by unfold g_Mr_pass; rw [if_pos h1, if_neg h2, if_neg h3, if_neg h4, if_neg h5, if_pos h6, if_neg h7, if_pos h8, if_neg h9], by unfold u_Mr_pass; rw [if_pos h1, if_neg h2, if_neg h3, if_neg h4, if_neg h5, if_pos h6, if_neg h7, if_pos h8, if_neg h9]⟩)
                · rw [if_neg h8] at hs
                  refine tm_go 1 (pc' := 58) (L' := [some (.ref 147), some (.int a0), some (.int b0), some (.int c0), some (.int e0)]) (S' := [.int (-3)]) (w' := w) rfl ?_
                  exact tm_r rfl (⟨by unfold g_Mr_pass; rw [if_pos h1, if_neg h2, if_neg h3, if_neg h4, if_neg h5, if_pos h6, if_neg h7, if_neg h8], by unfold u_Mr_pass; rw [if_pos h1, if_neg h2, if_neg h3, if_neg h4, if_neg h5, if_pos h6, if_neg h7, if_neg h8]⟩)
            · rw [if_neg h6] at hs
              refine tm_go 1 (pc' := 41) (L' := [some (.ref 147), some (.int a0), some (.int b0), some (.int c0), some (.int e0)]) (S' := [.int (-2)]) (w' := w) rfl ?_
              exact tm_r rfl (⟨by unfold g_Mr_pass; rw [if_pos h1, if_neg h2, if_neg h3, if_neg h4, if_neg h5, if_neg h6], by unfold u_Mr_pass; rw [if_pos h1, if_neg h2, if_neg h3, if_neg h4, if_neg h5, if_neg h6]⟩)
  · rw [if_neg h1] at hs
    refine tm_go 1 (pc' := 9) (L' := [some (.ref 147), some (.int a0), some (.int b0), some (.int c0), some (.int e0)]) (S' := [.int (-1)]) (w' := w) rfl ?_
    exact tm_r rfl (⟨by unfold g_Mr_pass; rw [if_neg h1], by unfold u_Mr_pass; rw [if_neg h1]⟩)
def s_Tx_unit (w : MW) (a0 : Int32) : Prop := (if a0.toInt < (1 : Int32).toInt then True else (if (127 : Int32).toInt < a0.toInt then True else (if ¬ (w.1 129 1).toInt = (4020 : Int32).toInt then ((0 ≤ (w.1 129 1).toInt ∧ (w.1 129 1).toInt < 4020) ∧ True) else True)))
def g_Tx_unit (w : MW) (a0 : Int32) : Int32 := (if a0.toInt < (1 : Int32).toInt then 0 else (if (127 : Int32).toInt < a0.toInt then 0 else (if ¬ (w.1 129 1).toInt = (4020 : Int32).toInt then 1 else 0)))
def u_Tx_unit (w : MW) (a0 : Int32) : MW := (if a0.toInt < (1 : Int32).toInt then w else (if (127 : Int32).toInt < a0.toInt then w else (if ¬ (w.1 129 1).toInt = (4020 : Int32).toInt then (sI (sI w 130 ((w.1 129 1).toInt.toNat) (vp_nar .byte ((Int32.toInt8 a0).toInt32))) 129 1 ((w.1 129 1) + (1 : Int32))) else w)))
theorem ur_Tx_unit (w : MW) (a0 : Int32) : (u_Tx_unit w a0).2.2 = w.2.2 := (ite_R rfl (ite_R rfl (ite_R rfl rfl)))
theorem z_Tx_unit (w : MW) (a0 : Int32) : (g_Tx_unit w a0).toInt = 0 ∨ (g_Tx_unit w a0).toInt = 1 := (ite_Z (by decide) (ite_Z (by decide) (ite_Z (by decide) (by decide))))
set_option maxHeartbeats 4000000 in
set_option maxRecDepth 100000 in
theorem c_Tx_unit {d : Nat} (w : MW) (a0 : Int32)  (hs : s_Tx_unit w a0) : Tc (d + 0) 303 [.ref 129, .int a0] w (fun v w1 => v = some (.int (g_Tx_unit w a0)) ∧ w1 = u_Tx_unit w a0) := by
  unfold s_Tx_unit at hs
  refine tm_go 2 (pc' := 2) (L' := [some (.ref 129), some (.int a0)]) (S' := [.int 1, .int a0]) (w' := w) rfl ?_
  refine tm_i (p1 := 21) (p2 := 5) rfl (fun h1 => ?_) (fun h1 => ?_)
  · rw [if_pos h1] at hs
    refine tm_go 1 (pc' := 22) (L' := [some (.ref 129), some (.int a0)]) (S' := [.int 0]) (w' := w) rfl ?_
    exact tm_r rfl (⟨by unfold g_Tx_unit; rw [if_pos h1], by unfold u_Tx_unit; rw [if_pos h1]⟩)
  · rw [if_neg h1] at hs
    refine tm_go 2 (pc' := 8) (L' := [some (.ref 129), some (.int a0)]) (S' := [.int 127, .int a0]) (w' := w) rfl ?_
    refine tm_i (p1 := 21) (p2 := 11) rfl (fun h2 => ?_) (fun h2 => ?_)
    · rw [if_pos h2] at hs
      refine tm_go 1 (pc' := 22) (L' := [some (.ref 129), some (.int a0)]) (S' := [.int 0]) (w' := w) rfl ?_
      exact tm_r rfl (⟨by unfold g_Tx_unit; rw [if_neg h1, if_pos h2], by unfold u_Tx_unit; rw [if_neg h1, if_pos h2]⟩)
    · rw [if_neg h2] at hs
      refine tm_go 3 (pc' := 18) (L' := [some (.ref 129), some (.int a0)]) (S' := [.int 4020, .int (w.1 129 1)]) (w' := w) rfl ?_
      refine tm_i (p1 := 23) (p2 := 21) rfl (fun h3 => ?_) (fun h3 => ?_)
      · rw [if_pos h3] at hs
        refine tm_go 6 (pc' := 33) (L' := [some (.ref 129), some (.int a0)]) (S' := [.int (Int32.toInt8 a0).toInt32, .int (w.1 129 1), .ref 130]) (w' := w) rfl ?_
        obtain ⟨b1, hs⟩ := hs
        refine tm_k (pc' := 34) (L' := [some (.ref 129), some (.int a0)]) (S' := []) (w' := (sI w 130 ((w.1 129 1).toInt.toNat) (vp_nar .byte ((Int32.toInt8 a0).toInt32)))) rfl b1 ?_
        refine tm_go 7 (pc' := 45) (L' := [some (.ref 129), some (.int a0)]) (S' := [.int 1]) (w' := (sI (sI w 130 ((w.1 129 1).toInt.toNat) (vp_nar .byte ((Int32.toInt8 a0).toInt32))) 129 1 ((w.1 129 1) + (1 : Int32)))) rfl ?_
        exact tm_r rfl (⟨by unfold g_Tx_unit; rw [if_neg h1, if_neg h2, if_pos h3], by unfold u_Tx_unit; rw [if_neg h1, if_neg h2, if_pos h3]⟩)
      · rw [if_neg h3] at hs
        refine tm_go 1 (pc' := 22) (L' := [some (.ref 129), some (.int a0)]) (S' := [.int 0]) (w' := w) rfl ?_
        exact tm_r rfl (⟨by unfold g_Tx_unit; rw [if_neg h1, if_neg h2, if_neg h3], by unfold u_Tx_unit; rw [if_neg h1, if_neg h2, if_neg h3]⟩)
def s_Tx_at (w : MW) (a0 : Int32) : Prop := (if (w.1 129 1).toInt ≤ a0.toInt then True else ((0 ≤ a0.toInt ∧ a0.toInt < 4020) ∧ True))
def g_Tx_at (w : MW) (a0 : Int32) : Int32 := (if (w.1 129 1).toInt ≤ a0.toInt then 0 else (w.1 130 a0.toInt.toNat))
set_option maxHeartbeats 4000000 in
set_option maxRecDepth 100000 in
theorem c_Tx_at {d : Nat} (w : MW) (a0 : Int32)  (hs : s_Tx_at w a0) : Tc (d + 0) 304 [.ref 129, .int a0] w (fun v w1 => v = some (.int (g_Tx_at w a0)) ∧ w1 = w) := by
  unfold s_Tx_at at hs
  refine tm_go 3 (pc' := 5) (L' := [some (.ref 129), some (.int a0)]) (S' := [.int (w.1 129 1), .int a0]) (w' := w) rfl ?_
  refine tm_i (p1 := 17) (p2 := 8) rfl (fun h1 => ?_) (fun h1 => ?_)
  · rw [if_pos h1] at hs
    refine tm_go 1 (pc' := 18) (L' := [some (.ref 129), some (.int a0)]) (S' := [.int 0]) (w' := w) rfl ?_
    exact tm_r rfl (⟨by unfold g_Tx_at; rw [if_pos h1], rfl⟩)
  · rw [if_neg h1] at hs
    refine tm_go 3 (pc' := 13) (L' := [some (.ref 129), some (.int a0)]) (S' := [.int a0, .ref 130]) (w' := w) rfl ?_
    obtain ⟨b1, hs⟩ := hs
    refine tm_k (pc' := 14) (L' := [some (.ref 129), some (.int a0)]) (S' := [.int (w.1 130 a0.toInt.toNat)]) (w' := w) rfl b1 ?_
    refine tm_go 1 (pc' := 18) (L' := [some (.ref 129), some (.int a0)]) (S' := [.int (w.1 130 a0.toInt.toNat)]) (w' := w) rfl ?_
    exact tm_r rfl (⟨by unfold g_Tx_at; rw [if_neg h1], rfl⟩)
def g_Tx_isDigit (w : MW) (a0 : Int32) : Int32 := (if a0.toInt < (48 : Int32).toInt then 0 else (if (57 : Int32).toInt < a0.toInt then 0 else 1))
theorem z_Tx_isDigit (w : MW) (a0 : Int32) : (g_Tx_isDigit w a0).toInt = 0 ∨ (g_Tx_isDigit w a0).toInt = 1 := (ite_Z (by decide) (ite_Z (by decide) (by decide)))
set_option maxHeartbeats 4000000 in
set_option maxRecDepth 100000 in
theorem c_Tx_isDigit {d : Nat} (w : MW) (a0 : Int32)  : Tc (d + 0) 305 [.int a0] w (fun v w1 => v = some (.int (g_Tx_isDigit w a0)) ∧ w1 = w) := by
  refine tm_go 2 (pc' := 3) (L' := [some (.int a0)]) (S' := [.int 48, .int a0]) (w' := w) rfl ?_
  refine tm_i (p1 := 16) (p2 := 6) rfl (fun h1 => ?_) (fun h1 => ?_)
  · refine tm_go 1 (pc' := 17) (L' := [some (.int a0)]) (S' := [.int 0]) (w' := w) rfl ?_
    exact tm_r rfl (⟨by unfold g_Tx_isDigit; rw [if_pos h1], rfl⟩)
  · refine tm_go 2 (pc' := 9) (L' := [some (.int a0)]) (S' := [.int 57, .int a0]) (w' := w) rfl ?_
    refine tm_i (p1 := 16) (p2 := 12) rfl (fun h2 => ?_) (fun h2 => ?_)
    · refine tm_go 1 (pc' := 17) (L' := [some (.int a0)]) (S' := [.int 0]) (w' := w) rfl ?_
      exact tm_r rfl (⟨by unfold g_Tx_isDigit; rw [if_neg h1, if_pos h2], rfl⟩)
    · refine tm_go 2 (pc' := 17) (L' := [some (.int a0)]) (S' := [.int 1]) (w' := w) rfl ?_
      exact tm_r rfl (⟨by unfold g_Tx_isDigit; rw [if_neg h1, if_neg h2], rfl⟩)
def g_Tx_isLetter (w : MW) (a0 : Int32) : Int32 := (if a0.toInt < (97 : Int32).toInt then 0 else (if (122 : Int32).toInt < a0.toInt then 0 else 1))
theorem z_Tx_isLetter (w : MW) (a0 : Int32) : (g_Tx_isLetter w a0).toInt = 0 ∨ (g_Tx_isLetter w a0).toInt = 1 := (ite_Z (by decide) (ite_Z (by decide) (by decide)))
set_option maxHeartbeats 4000000 in
set_option maxRecDepth 100000 in
theorem c_Tx_isLetter {d : Nat} (w : MW) (a0 : Int32)  : Tc (d + 0) 306 [.int a0] w (fun v w1 => v = some (.int (g_Tx_isLetter w a0)) ∧ w1 = w) := by
  refine tm_go 2 (pc' := 3) (L' := [some (.int a0)]) (S' := [.int 97, .int a0]) (w' := w) rfl ?_
  refine tm_i (p1 := 16) (p2 := 6) rfl (fun h1 => ?_) (fun h1 => ?_)
  · refine tm_go 1 (pc' := 17) (L' := [some (.int a0)]) (S' := [.int 0]) (w' := w) rfl ?_
    exact tm_r rfl (⟨by unfold g_Tx_isLetter; rw [if_pos h1], rfl⟩)
  · refine tm_go 2 (pc' := 9) (L' := [some (.int a0)]) (S' := [.int 122, .int a0]) (w' := w) rfl ?_
    refine tm_i (p1 := 16) (p2 := 12) rfl (fun h2 => ?_) (fun h2 => ?_)
    · refine tm_go 1 (pc' := 17) (L' := [some (.int a0)]) (S' := [.int 0]) (w' := w) rfl ?_
      exact tm_r rfl (⟨by unfold g_Tx_isLetter; rw [if_neg h1, if_pos h2], rfl⟩)
    · refine tm_go 2 (pc' := 17) (L' := [some (.int a0)]) (S' := [.int 1]) (w' := w) rfl ?_
      exact tm_r rfl (⟨by unfold g_Tx_isLetter; rw [if_neg h1, if_neg h2], rfl⟩)
def g_Tx_bad (w : MW)  : Int32 := (-1)
def u_Tx_bad (w : MW)  : MW := (sI w 129 10 (w.1 129 5))
theorem ur_Tx_bad (w : MW)  : (u_Tx_bad w).2.2 = w.2.2 := rfl
set_option maxHeartbeats 4000000 in
set_option maxRecDepth 100000 in
theorem c_Tx_bad {d : Nat} (w : MW)   : Tc (d + 0) 311 [.ref 129] w (fun v w1 => v = some (.int (g_Tx_bad w)) ∧ w1 = u_Tx_bad w) := by
  refine tm_go 5 (pc' := 9) (L' := [some (.ref 129)]) (S' := [.int (-1)]) (w' := (sI w 129 10 (w.1 129 5))) rfl ?_
  exact tm_r rfl (⟨by unfold g_Tx_bad; rfl, by unfold u_Tx_bad; rfl⟩)
def g_Tx_isWord (w : MW) (a0 : Int32) : Int32 := (if ¬ (w.1 129 4).toInt = ((1000 : Int32) + a0).toInt then 0 else 1)
theorem z_Tx_isWord (w : MW) (a0 : Int32) : (g_Tx_isWord w a0).toInt = 0 ∨ (g_Tx_isWord w a0).toInt = 1 := (ite_Z (by decide) (by decide))
set_option maxHeartbeats 4000000 in
set_option maxRecDepth 100000 in
theorem c_Tx_isWord {d : Nat} (w : MW) (a0 : Int32)  : Tc (d + 0) 313 [.ref 129, .int a0] w (fun v w1 => v = some (.int (g_Tx_isWord w a0)) ∧ w1 = w) := by
  refine tm_go 5 (pc' := 9) (L' := [some (.ref 129), some (.int a0)]) (S' := [.int ((1000 : Int32) + a0), .int (w.1 129 4)]) (w' := w) rfl ?_
  refine tm_i (p1 := 16) (p2 := 12) rfl (fun h1 => ?_) (fun h1 => ?_)
  · refine tm_go 1 (pc' := 17) (L' := [some (.ref 129), some (.int a0)]) (S' := [.int 0]) (w' := w) rfl ?_
    exact tm_r rfl (⟨by unfold g_Tx_isWord; rw [if_pos h1], rfl⟩)
  · refine tm_go 2 (pc' := 17) (L' := [some (.ref 129), some (.int a0)]) (S' := [.int 1]) (w' := w) rfl ?_
    exact tm_r rfl (⟨by unfold g_Tx_isWord; rw [if_neg h1], rfl⟩)
def g_Tx_unitWord (w : MW)  : Int32 := (if (((w.1 129 4) - (1000 : Int32)) - (39 : Int32)).toInt < (1 : Int32).toInt then 0 else (if (5 : Int32).toInt < (((w.1 129 4) - (1000 : Int32)) - (39 : Int32)).toInt then 0 else (((w.1 129 4) - (1000 : Int32)) - (39 : Int32))))
set_option maxHeartbeats 4000000 in
set_option maxRecDepth 100000 in
theorem c_Tx_unitWord {d : Nat} (w : MW)   : Tc (d + 0) 314 [.ref 129] w (fun v w1 => v = some (.int (g_Tx_unitWord w)) ∧ w1 = w) := by
  refine tm_go 9 (pc' := 14) (L' := [some (.ref 129), some (.int (((w.1 129 4) - (1000 : Int32)) - (39 : Int32)))]) (S' := [.int 1, .int (((w.1 129 4) - (1000 : Int32)) - (39 : Int32))]) (w' := w) rfl ?_
  refine tm_i (p1 := 26) (p2 := 17) rfl (fun h1 => ?_) (fun h1 => ?_)
  · refine tm_go 1 (pc' := 27) (L' := [some (.ref 129), some (.int (((w.1 129 4) - (1000 : Int32)) - (39 : Int32)))]) (S' := [.int 0]) (w' := w) rfl ?_
    exact tm_r rfl (⟨by unfold g_Tx_unitWord; rw [if_pos h1], rfl⟩)
  · refine tm_go 2 (pc' := 19) (L' := [some (.ref 129), some (.int (((w.1 129 4) - (1000 : Int32)) - (39 : Int32)))]) (S' := [.int 5, .int (((w.1 129 4) - (1000 : Int32)) - (39 : Int32))]) (w' := w) rfl ?_
    refine tm_i (p1 := 26) (p2 := 22) rfl (fun h2 => ?_) (fun h2 => ?_)
    · refine tm_go 1 (pc' := 27) (L' := [some (.ref 129), some (.int (((w.1 129 4) - (1000 : Int32)) - (39 : Int32)))]) (S' := [.int 0]) (w' := w) rfl ?_
      exact tm_r rfl (⟨by unfold g_Tx_unitWord; rw [if_neg h1, if_pos h2], rfl⟩)
    · refine tm_go 2 (pc' := 27) (L' := [some (.ref 129), some (.int (((w.1 129 4) - (1000 : Int32)) - (39 : Int32)))]) (S' := [.int (((w.1 129 4) - (1000 : Int32)) - (39 : Int32))]) (w' := w) rfl ?_
      exact tm_r rfl (⟨by unfold g_Tx_unitWord; rw [if_neg h1, if_neg h2], rfl⟩)
def g_Tx_base (w : MW)  : Int32 := ((300 : Int32) * ((1 : Int32) - (w.1 129 12)))
set_option maxHeartbeats 4000000 in
set_option maxRecDepth 100000 in
theorem c_Tx_base {d : Nat} (w : MW)   : Tc (d + 0) 315 [.ref 129] w (fun v w1 => v = some (.int (g_Tx_base w)) ∧ w1 = w) := by
  refine tm_go 6 (pc' := 10) (L' := [some (.ref 129)]) (S' := [.int ((300 : Int32) * ((1 : Int32) - (w.1 129 12)))]) (w' := w) rfl ?_
  exact tm_r rfl (⟨by unfold g_Tx_base; rfl, rfl⟩)
def s_Tx_push (w : MW) (a0 : Int32) : Prop := ((0 ≤ (w.1 129 35).toInt ∧ (w.1 129 35).toInt < 600) ∧ True)
def u_Tx_push (w : MW) (a0 : Int32) : MW := (sI (sI w 144 ((w.1 129 35).toInt.toNat) a0) 129 35 ((w.1 129 35) + (1 : Int32)))
theorem ur_Tx_push (w : MW) (a0 : Int32) : (u_Tx_push w a0).2.2 = w.2.2 := rfl
set_option maxHeartbeats 4000000 in
set_option maxRecDepth 100000 in
theorem c_Tx_push {d : Nat} (w : MW) (a0 : Int32)  (hs : s_Tx_push w a0) : Tc (d + 0) 317 [.ref 129, .int a0] w (fun v w1 => v = none ∧ w1 = u_Tx_push w a0) := by
  unfold s_Tx_push at hs
  refine tm_go 5 (pc' := 9) (L' := [some (.ref 129), some (.int a0)]) (S' := [.int a0, .int (w.1 129 35), .ref 144]) (w' := w) rfl ?_
  obtain ⟨b1, hs⟩ := hs
  refine tm_k (pc' := 10) (L' := [some (.ref 129), some (.int a0)]) (S' := []) (w' := (sI w 144 ((w.1 129 35).toInt.toNat) a0)) rfl b1 ?_
  refine tm_go 6 (pc' := 20) (L' := [some (.ref 129), some (.int a0)]) (S' := []) (w' := (sI (sI w 144 ((w.1 129 35).toInt.toNat) a0) 129 35 ((w.1 129 35) + (1 : Int32)))) rfl ?_
  exact tm_r rfl (⟨rfl, by unfold u_Tx_push; rfl⟩)
def s_Tx_unitIn (w : MW) (a0 : Int32) : Prop := ((0 ≤ ((g_Tx_base w) + a0).toInt ∧ ((g_Tx_base w) + a0).toInt < 600) ∧ True)
def g_Tx_unitIn (w : MW) (a0 : Int32) : Int32 := (w.1 134 (((g_Tx_base w) + a0).toInt.toNat))
set_option maxHeartbeats 4000000 in
set_option maxRecDepth 100000 in
theorem c_Tx_unitIn {d : Nat} (w : MW) (a0 : Int32)  (hs : s_Tx_unitIn w a0) : Tc (d + 1) 318 [.ref 129, .int a0] w (fun v w1 => v = some (.int (g_Tx_unitIn w a0)) ∧ w1 = w) := by
  unfold s_Tx_unitIn at hs
  refine tm_go 3 (pc' := 5) (L' := [some (.ref 129), some (.int a0)]) (S' := [.ref 129, .ref 134]) (w' := w) rfl ?_
  refine tm_c rfl (Nat.le_of_ble_eq_true rfl) (c_Tx_base (d := d + 0) w  ) (fun v w1 hq => ?_)
  obtain ⟨rfl, hw9⟩ := hq; rw [hw9]; clear hw9
  refine tm_go 2 (pc' := 10) (L' := [some (.ref 129), some (.int a0)]) (S' := [.int ((g_Tx_base w) + a0), .ref 134]) (w' := w) rfl ?_
  obtain ⟨b1, hs⟩ := hs
  refine tm_k (pc' := 11) (L' := [some (.ref 129), some (.int a0)]) (S' := [.int (w.1 134 (((g_Tx_base w) + a0).toInt.toNat))]) (w' := w) rfl b1 ?_
  exact tm_r rfl (⟨by unfold g_Tx_unitIn; rfl, rfl⟩)
def s_Tx_pushed (w : MW) (a0 : Int32) : Prop := (if 0 ≤ a0.toInt then ((s_Tx_push w a0) ∧ True) else True)
def g_Tx_pushed (w : MW) (a0 : Int32) : Int32 := (if 0 ≤ a0.toInt then 1 else 0)
def u_Tx_pushed (w : MW) (a0 : Int32) : MW := (if 0 ≤ a0.toInt then (u_Tx_push w a0) else w)
theorem ur_Tx_pushed (w : MW) (a0 : Int32) : (u_Tx_pushed w a0).2.2 = w.2.2 := (ite_R (by simp only [sI_R, sJ_R, ur_Tx_push]) rfl)
theorem z_Tx_pushed (w : MW) (a0 : Int32) : (g_Tx_pushed w a0).toInt = 0 ∨ (g_Tx_pushed w a0).toInt = 1 := (ite_Z (by decide) (by decide))
set_option maxHeartbeats 4000000 in
set_option maxRecDepth 100000 in
theorem c_Tx_pushed {d : Nat} (w : MW) (a0 : Int32)  (hs : s_Tx_pushed w a0) : Tc (d + 1) 330 [.ref 129, .int a0] w (fun v w1 => v = some (.int (g_Tx_pushed w a0)) ∧ w1 = u_Tx_pushed w a0) := by
  unfold s_Tx_pushed at hs
  refine tm_go 1 (pc' := 1) (L' := [some (.ref 129), some (.int a0)]) (S' := [.int a0]) (w' := w) rfl ?_
  refine tm_i (p1 := 6) (p2 := 4) rfl (fun h1 => ?_) (fun h1 => ?_)
  · rw [if_pos h1] at hs
    refine tm_go 2 (pc' := 8) (L' := [some (.ref 129), some (.int a0)]) (S' := [.int a0, .ref 129]) (w' := w) rfl ?_
    obtain ⟨b1, hs⟩ := hs
    refine tm_c rfl (Nat.le_of_ble_eq_true rfl) (c_Tx_push (d := d + 0) w a0  b1) (fun v w_1 hq => ?_)
    obtain ⟨rfl, ew_1⟩ := hq
    try rw [← ew_1] at hs
    refine tm_go 1 (pc' := 12) (L' := [some (.ref 129), some (.int a0)]) (S' := [.int 1]) (w' := w_1) rfl ?_
    exact tm_r rfl (⟨by unfold g_Tx_pushed; subst ew_1; rw [if_pos h1], by unfold u_Tx_pushed; subst ew_1; rw [if_pos h1]⟩)
  · rw [if_neg h1] at hs
    refine tm_go 1 (pc' := 5) (L' := [some (.ref 129), some (.int a0)]) (S' := [.int 0]) (w' := w) rfl ?_
    exact tm_r rfl (⟨by unfold g_Tx_pushed; rw [if_neg h1], by unfold u_Tx_pushed; rw [if_neg h1]⟩)
def g_Tx_node1 (w : MW) (a0 : Int32) : Int32 := (((300 : Int32) * (w.1 129 12)) + a0)
set_option maxHeartbeats 4000000 in
set_option maxRecDepth 100000 in
theorem c_Tx_node1 {d : Nat} (w : MW) (a0 : Int32)  : Tc (d + 0) 336 [.ref 129, .int a0] w (fun v w1 => v = some (.int (g_Tx_node1 w a0)) ∧ w1 = w) := by
  refine tm_go 6 (pc' := 10) (L' := [some (.ref 129), some (.int a0)]) (S' := [.int (((300 : Int32) * (w.1 129 12)) + a0)]) (w' := w) rfl ?_
  exact tm_r rfl (⟨by unfold g_Tx_node1; rfl, rfl⟩)
def s_Tx_kid (w : MW) (a0 : Int32) (b0 : Int32) : Prop := ((0 ≤ (g_Tx_node1 w a0).toInt ∧ (g_Tx_node1 w a0).toInt < 600) ∧ ((0 ≤ ((((300 : Int32) * (w.1 129 12)) + (w.1 135 ((g_Tx_node1 w a0).toInt.toNat))) + b0).toInt ∧ ((((300 : Int32) * (w.1 129 12)) + (w.1 135 ((g_Tx_node1 w a0).toInt.toNat))) + b0).toInt < 600) ∧ True))
def g_Tx_kid (w : MW) (a0 : Int32) (b0 : Int32) : Int32 := (w.1 137 (((((300 : Int32) * (w.1 129 12)) + (w.1 135 ((g_Tx_node1 w a0).toInt.toNat))) + b0).toInt.toNat))
set_option maxHeartbeats 4000000 in
set_option maxRecDepth 100000 in
theorem c_Tx_kid {d : Nat} (w : MW) (a0 : Int32) (b0 : Int32)  (hs : s_Tx_kid w a0 b0) : Tc (d + 1) 337 [.ref 129, .int a0, .int b0] w (fun v w1 => v = some (.int (g_Tx_kid w a0 b0)) ∧ w1 = w) := by
  unfold s_Tx_kid at hs
  refine tm_go 10 (pc' := 18) (L' := [some (.ref 129), some (.int a0), some (.int b0)]) (S' := [.int a0, .ref 129, .ref 135, .int ((300 : Int32) * (w.1 129 12)), .ref 137]) (w' := w) rfl ?_
  refine tm_c rfl (Nat.le_of_ble_eq_true rfl) (c_Tx_node1 (d := d + 0) w a0 ) (fun v w1 hq => ?_)
  obtain ⟨rfl, hw9⟩ := hq; rw [hw9]; clear hw9
  obtain ⟨b1, hs⟩ := hs
  refine tm_k (pc' := 22) (L' := [some (.ref 129), some (.int a0), some (.int b0)]) (S' := [.int (w.1 135 ((g_Tx_node1 w a0).toInt.toNat)), .int ((300 : Int32) * (w.1 129 12)), .ref 137]) (w' := w) rfl b1 ?_
  refine tm_go 3 (pc' := 25) (L' := [some (.ref 129), some (.int a0), some (.int b0)]) (S' := [.int ((((300 : Int32) * (w.1 129 12)) + (w.1 135 ((g_Tx_node1 w a0).toInt.toNat))) + b0), .ref 137]) (w' := w) rfl ?_
  obtain ⟨b2, hs⟩ := hs
  refine tm_k (pc' := 26) (L' := [some (.ref 129), some (.int a0), some (.int b0)]) (S' := [.int (w.1 137 (((((300 : Int32) * (w.1 129 12)) + (w.1 135 ((g_Tx_node1 w a0).toInt.toNat))) + b0).toInt.toNat))]) (w' := w) rfl b2 ?_
  exact tm_r rfl (⟨by unfold g_Tx_kid; rfl, rfl⟩)
def g_Ma_min (w : MW) (a0 : Int32) (b0 : Int32) : Int32 := (if b0.toInt < a0.toInt then b0 else a0)
set_option maxHeartbeats 4000000 in
set_option maxRecDepth 100000 in
theorem c_Ma_min {d : Nat} (w : MW) (a0 : Int32) (b0 : Int32)  : Tc (d + 0) 338 [.int a0, .int b0] w (fun v w1 => v = some (.int (g_Ma_min w a0 b0)) ∧ w1 = w) := by
  refine tm_go 2 (pc' := 2) (L' := [some (.int a0), some (.int b0)]) (S' := [.int b0, .int a0]) (w' := w) rfl ?_
  refine tm_i (p1 := 9) (p2 := 5) rfl (fun h1 => ?_) (fun h1 => ?_)
  · refine tm_go 1 (pc' := 10) (L' := [some (.int a0), some (.int b0)]) (S' := [.int b0]) (w' := w) rfl ?_
    exact tm_r rfl (⟨by unfold g_Ma_min; rw [if_pos h1], rfl⟩)
  · refine tm_go 2 (pc' := 10) (L' := [some (.int a0), some (.int b0)]) (S' := [.int a0]) (w' := w) rfl ?_
    exact tm_r rfl (⟨by unfold g_Ma_min; rw [if_neg h1], rfl⟩)
def g_Ma_max (w : MW) (a0 : Int32) (b0 : Int32) : Int32 := (if a0.toInt < b0.toInt then b0 else a0)
set_option maxHeartbeats 4000000 in
set_option maxRecDepth 100000 in
theorem c_Ma_max {d : Nat} (w : MW) (a0 : Int32) (b0 : Int32)  : Tc (d + 0) 339 [.int a0, .int b0] w (fun v w1 => v = some (.int (g_Ma_max w a0 b0)) ∧ w1 = w) := by
  refine tm_go 2 (pc' := 2) (L' := [some (.int a0), some (.int b0)]) (S' := [.int b0, .int a0]) (w' := w) rfl ?_
  refine tm_i (p1 := 9) (p2 := 5) rfl (fun h1 => ?_) (fun h1 => ?_)
  · refine tm_go 1 (pc' := 10) (L' := [some (.int a0), some (.int b0)]) (S' := [.int b0]) (w' := w) rfl ?_
    exact tm_r rfl (⟨by unfold g_Ma_max; rw [if_pos h1], rfl⟩)
  · refine tm_go 2 (pc' := 10) (L' := [some (.int a0), some (.int b0)]) (S' := [.int a0]) (w' := w) rfl ?_
    exact tm_r rfl (⟨by unfold g_Ma_max; rw [if_neg h1], rfl⟩)
def s_Ma_floorDiv (w : MW) (a0 : Int64) (b0 : Int64) : Prop := ((¬ b0.toInt = 0) ∧ (if 0 ≤ (lg_cmp (a0 ^^^ b0) 0).toInt then True else (if (lg_cmp ((a0 / b0) * b0) a0).toInt = 0 then True else True)))
def g_Ma_floorDiv (w : MW) (a0 : Int64) (b0 : Int64) : Int64 := (if 0 ≤ (lg_cmp (a0 ^^^ b0) 0).toInt then (a0 / b0) else (if (lg_cmp ((a0 / b0) * b0) a0).toInt = 0 then (a0 / b0) else ((a0 / b0) - (1 : Int64))))
set_option maxHeartbeats 4000000 in
set_option maxRecDepth 100000 in
theorem c_Ma_floorDiv {d : Nat} (w : MW) (a0 : Int64) (b0 : Int64)  (hs : s_Ma_floorDiv w a0 b0) : Tc (d + 0) 340 [.long a0, .long b0] w (fun v w1 => v = some (.long (g_Ma_floorDiv w a0 b0)) ∧ w1 = w) := by
  unfold s_Ma_floorDiv at hs
  refine tm_go 2 (pc' := 2) (L' := [some (.long a0), none, some (.long b0), none, none, none]) (S' := [.long b0, .long a0]) (w' := w) rfl ?_
  obtain ⟨b1, hs⟩ := hs
  refine tm_k (pc' := 3) (L' := [some (.long a0), none, some (.long b0), none, none, none]) (S' := [.long (a0 / b0)]) (w' := w) rfl b1 ?_
  refine tm_go 6 (pc' := 10) (L' := [some (.long a0), none, some (.long b0), none, some (.long (a0 / b0)), none]) (S' := [.int (lg_cmp (a0 ^^^ b0) 0)]) (w' := w) rfl ?_
  refine tm_i (p1 := 27) (p2 := 13) rfl (fun h1 => ?_) (fun h1 => ?_)
  · rw [if_pos h1] at hs
    refine tm_go 1 (pc' := 29) (L' := [some (.long a0), none, some (.long b0), none, some (.long (a0 / b0)), none]) (S' := [.long (a0 / b0)]) (w' := w) rfl ?_
    exact tm_r rfl (⟨by unfold g_Ma_floorDiv; rw [if_pos h1], rfl⟩)
  · rw [if_neg h1] at hs
    refine tm_go 5 (pc' := 19) (L' := [some (.long a0), none, some (.long b0), none, some (.long (a0 / b0)), none]) (S' := [.int (lg_cmp ((a0 / b0) * b0) a0)]) (w' := w) rfl ?_
    refine tm_i (p1 := 27) (p2 := 22) rfl (fun h2 => ?_) (fun h2 => ?_)
    · rw [if_pos h2] at hs
      refine tm_go 1 (pc' := 29) (L' := [some (.long a0), none, some (.long b0), none, some (.long (a0 / b0)), none]) (S' := [.long (a0 / b0)]) (w' := w) rfl ?_
      exact tm_r rfl (⟨by unfold g_Ma_floorDiv; rw [if_neg h1, if_pos h2], rfl⟩)
    · rw [if_neg h2] at hs
      refine tm_go 3 (pc' := 26) (L' := [some (.long a0), none, some (.long b0), none, some (.long (a0 / b0)), none]) (S' := [.long ((a0 / b0) - (1 : Int64))]) (w' := w) rfl ?_
      exact tm_r rfl (⟨by unfold g_Ma_floorDiv; rw [if_neg h1, if_neg h2], rfl⟩)
def s_Bh_feed (w : MW) (a0 : Int32) (b0 : Int32) (c0 : Int32) (e0 : Int32) (f0 : Int32) : Prop := (if ¬ (g_Tp_hasRoom w).toInt = 0 then ((s_Tp_put w a0) ∧ ((s_Tp_put (u_Tp_put w a0) b0) ∧ ((s_Tp_put (u_Tp_put (u_Tp_put w a0) b0) c0) ∧ ((s_Tp_put (u_Tp_put (u_Tp_put (u_Tp_put w a0) b0) c0) e0) ∧ ((s_Tp_put (u_Tp_put (u_Tp_put (u_Tp_put (u_Tp_put w a0) b0) c0) e0) f0) ∧ True))))) else True)
def g_Bh_feed (w : MW) (a0 : Int32) (b0 : Int32) (c0 : Int32) (e0 : Int32) (f0 : Int32) : Int32 := (if ¬ (g_Tp_hasRoom w).toInt = 0 then ((u_Tp_put (u_Tp_put (u_Tp_put (u_Tp_put (u_Tp_put w a0) b0) c0) e0) f0).1 1 1) else (-2))
def u_Bh_feed (w : MW) (a0 : Int32) (b0 : Int32) (c0 : Int32) (e0 : Int32) (f0 : Int32) : MW := (if ¬ (g_Tp_hasRoom w).toInt = 0 then (u_Tp_put (u_Tp_put (u_Tp_put (u_Tp_put (u_Tp_put w a0) b0) c0) e0) f0) else w)
theorem ur_Bh_feed (w : MW) (a0 : Int32) (b0 : Int32) (c0 : Int32) (e0 : Int32) (f0 : Int32) : (u_Bh_feed w a0 b0 c0 e0 f0).2.2 = w.2.2 := (ite_R (by simp only [sI_R, sJ_R, ur_Tp_put]) rfl)
set_option maxHeartbeats 4000000 in
set_option maxRecDepth 100000 in
theorem c_Bh_feed {d : Nat} (w : MW) (a0 : Int32) (b0 : Int32) (c0 : Int32) (e0 : Int32) (f0 : Int32)  (hs : s_Bh_feed w a0 b0 c0 e0 f0) : Tc (d + 1) 0 [.ref 0, .int a0, .int b0, .int c0, .int e0, .int f0] w (fun v w1 => v = some (.int (g_Bh_feed w a0 b0 c0 e0 f0)) ∧ w1 = u_Bh_feed w a0 b0 c0 e0 f0) := by
  unfold s_Bh_feed at hs
  refine tm_go 2 (pc' := 4) (L' := [some (.ref 0), some (.int a0), some (.int b0), some (.int c0), some (.int e0), some (.int f0)]) (S' := [.ref 1]) (w' := w) rfl ?_
  refine tm_c rfl (Nat.le_of_ble_eq_true rfl) (c_Tp_hasRoom (d := d + 0) w  ) (fun v w1 hq => ?_)
  obtain ⟨rfl, hw9⟩ := hq; rw [hw9]; clear hw9
  refine tm_i (p1 := 13) (p2 := 10) rfl (fun h1 => ?_) (fun h1 => ?_)
  · rw [if_pos h1] at hs
    refine tm_go 3 (pc' := 18) (L' := [some (.ref 0), some (.int a0), some (.int b0), some (.int c0), some (.int e0), some (.int f0)]) (S' := [.int a0, .ref 1]) (w' := w) rfl ?_
    obtain ⟨b1, hs⟩ := hs
    refine tm_c rfl (Nat.le_of_ble_eq_true rfl) (c_Tp_put (d := d + 0) w a0  b1) (fun v w_1 hq => ?_)
    obtain ⟨rfl, ew_1⟩ := hq
    try rw [← ew_1] at hs
    refine tm_go 3 (pc' := 26) (L' := [some (.ref 0), some (.int a0), some (.int b0), some (.int c0), some (.int e0), some (.int f0)]) (S' := [.int b0, .ref 1]) (w' := w_1) rfl ?_
    obtain ⟨b2, hs⟩ := hs
    refine tm_c rfl (Nat.le_of_ble_eq_true rfl) (c_Tp_put (d := d + 0) w_1 b0  b2) (fun v w_2 hq => ?_)
    obtain ⟨rfl, ew_2⟩ := hq
    try rw [← ew_2] at hs
    refine tm_go 3 (pc' := 34) (L' := [some (.ref 0), some (.int a0), some (.int b0), some (.int c0), some (.int e0), some (.int f0)]) (S' := [.int c0, .ref 1]) (w' := w_2) rfl ?_
    obtain ⟨b3, hs⟩ := hs
    refine tm_c rfl (Nat.le_of_ble_eq_true rfl) (c_Tp_put (d := d + 0) w_2 c0  b3) (fun v w_3 hq => ?_)
    obtain ⟨rfl, ew_3⟩ := hq
    try rw [← ew_3] at hs
    refine tm_go 3 (pc' := 43) (L' := [some (.ref 0), some (.int a0), some (.int b0), some (.int c0), some (.int e0), some (.int f0)]) (S' := [.int e0, .ref 1]) (w' := w_3) rfl ?_
    obtain ⟨b4, hs⟩ := hs
    refine tm_c rfl (Nat.le_of_ble_eq_true rfl) (c_Tp_put (d := d + 0) w_3 e0  b4) (fun v w_4 hq => ?_)
    obtain ⟨rfl, ew_4⟩ := hq
    try rw [← ew_4] at hs
    refine tm_go 3 (pc' := 52) (L' := [some (.ref 0), some (.int a0), some (.int b0), some (.int c0), some (.int e0), some (.int f0)]) (S' := [.int f0, .ref 1]) (w' := w_4) rfl ?_
    obtain ⟨b5, hs⟩ := hs
    refine tm_c rfl (Nat.le_of_ble_eq_true rfl) (c_Tp_put (d := d + 0) w_4 f0  b5) (fun v w_5 hq => ?_)
    obtain ⟨rfl, ew_5⟩ := hq
    try rw [← ew_5] at hs
    refine tm_go 3 (pc' := 62) (L' := [some (.ref 0), some (.int a0), some (.int b0), some (.int c0), some (.int e0), some (.int f0)]) (S' := [.int (w_5.1 1 1)]) (w' := w_5) rfl ?_
    exact tm_r rfl (⟨by unfold g_Bh_feed; subst ew_5; subst ew_4; subst ew_3; subst ew_2; subst ew_1; rw [if_pos h1], by unfold u_Bh_feed; subst ew_5; subst ew_4; subst ew_3; subst ew_2; subst ew_1; rw [if_pos h1]⟩)
  · rw [if_neg h1] at hs
    refine tm_go 1 (pc' := 12) (L' := [some (.ref 0), some (.int a0), some (.int b0), some (.int c0), some (.int e0), some (.int f0)]) (S' := [.int (-2)]) (w' := w) rfl ?_
    exact tm_r rfl (⟨by unfold g_Bh_feed; rw [if_neg h1], by unfold u_Bh_feed; rw [if_neg h1]⟩)
def s_Bh_may (w : MW) (a0 : Int32) (b0 : Int32) : Prop := (if (g_Bh_isLiquid w a0).toInt = 0 then True else (if (g_Bh_isLiquid w b0).toInt = 0 then True else (if a0.toInt = b0.toInt then True else ((s_St_mayMeet w a0 b0) ∧ (if (g_St_mayMeet w a0 b0).toInt = 0 then ((0 ≤ a0.toInt ∧ a0.toInt < 15) ∧ ((0 ≤ a0.toInt ∧ a0.toInt < 15) ∧ ((0 ≤ b0.toInt ∧ b0.toInt < 15) ∧ ((0 ≤ b0.toInt ∧ b0.toInt < 15) ∧ True)))) else True)))))
def g_Bh_may (w : MW) (a0 : Int32) (b0 : Int32) : Int32 := (if (g_Bh_isLiquid w a0).toInt = 0 then 0 else (if (g_Bh_isLiquid w b0).toInt = 0 then 0 else (if a0.toInt = b0.toInt then 0 else (if (g_St_mayMeet w a0 b0).toInt = 0 then 1 else 0))))
def u_Bh_may (w : MW) (a0 : Int32) (b0 : Int32) : MW := (if (g_Bh_isLiquid w a0).toInt = 0 then w else (if (g_Bh_isLiquid w b0).toInt = 0 then w else (if a0.toInt = b0.toInt then w else (if (g_St_mayMeet w a0 b0).toInt = 0 then (sI (sI w 22 a0.toInt.toNat ((w.1 22 a0.toInt.toNat) ||| ((1 : Int32) <<< (b0 &&& 31)))) 22 b0.toInt.toNat (((sI w 22 a0.toInt.toNat ((w.1 22 a0.toInt.toNat) ||| ((1 : Int32) <<< (b0 &&& 31)))).1 22 b0.toInt.toNat) ||| ((1 : Int32) <<< (a0 &&& 31)))) else w))))
theorem ur_Bh_may (w : MW) (a0 : Int32) (b0 : Int32) : (u_Bh_may w a0 b0).2.2 = w.2.2 := (ite_R rfl (ite_R rfl (ite_R rfl (ite_R rfl rfl))))
theorem z_Bh_may (w : MW) (a0 : Int32) (b0 : Int32) : (g_Bh_may w a0 b0).toInt = 0 ∨ (g_Bh_may w a0 b0).toInt = 1 := (ite_Z (by decide) (ite_Z (by decide) (ite_Z (by decide) (ite_Z (by decide) (by decide)))))
set_option maxHeartbeats 4000000 in
set_option maxRecDepth 100000 in
theorem c_Bh_may {d : Nat} (w : MW) (a0 : Int32) (b0 : Int32)  (hs : s_Bh_may w a0 b0) : Tc (d + 1) 7 [.ref 0, .int a0, .int b0] w (fun v w1 => v = some (.int (g_Bh_may w a0 b0)) ∧ w1 = u_Bh_may w a0 b0) := by
  unfold s_Bh_may at hs
  refine tm_go 1 (pc' := 1) (L' := [some (.ref 0), some (.int a0), some (.int b0)]) (S' := [.int a0]) (w' := w) rfl ?_
  refine tm_c rfl (Nat.le_of_ble_eq_true rfl) (c_Bh_isLiquid (d := d + 0) w a0 ) (fun v w1 hq => ?_)
  obtain ⟨rfl, hw9⟩ := hq; rw [hw9]; clear hw9
  refine tm_i (p1 := 31) (p2 := 7) rfl (fun h1 => ?_) (fun h1 => ?_)
  · rw [if_pos h1] at hs
    refine tm_go 1 (pc' := 32) (L' := [some (.ref 0), some (.int a0), some (.int b0)]) (S' := [.int 0]) (w' := w) rfl ?_
    exact tm_r rfl (⟨by unfold g_Bh_may; rw [if_pos h1], by unfold u_Bh_may; rw [if_pos h1]⟩)
  · rw [if_neg h1] at hs
    refine tm_go 1 (pc' := 8) (L' := [some (.ref 0), some (.int a0), some (.int b0)]) (S' := [.int b0]) (w' := w) rfl ?_
    refine tm_c rfl (Nat.le_of_ble_eq_true rfl) (c_Bh_isLiquid (d := d + 0) w b0 ) (fun v w1 hq => ?_)
    obtain ⟨rfl, hw9⟩ := hq; rw [hw9]; clear hw9
    refine tm_i (p1 := 31) (p2 := 14) rfl (fun h2 => ?_) (fun h2 => ?_)
    · rw [if_pos h2] at hs
      refine tm_go 1 (pc' := 32) (L' := [some (.ref 0), some (.int a0), some (.int b0)]) (S' := [.int 0]) (w' := w) rfl ?_
      exact tm_r rfl (⟨by unfold g_Bh_may; rw [if_neg h1, if_pos h2], by unfold u_Bh_may; rw [if_neg h1, if_pos h2]⟩)
    · rw [if_neg h2] at hs
      refine tm_go 2 (pc' := 16) (L' := [some (.ref 0), some (.int a0), some (.int b0)]) (S' := [.int b0, .int a0]) (w' := w) rfl ?_
      refine tm_i (p1 := 31) (p2 := 19) rfl (fun h3 => ?_) (fun h3 => ?_)
      · rw [if_pos h3] at hs
        refine tm_go 1 (pc' := 32) (L' := [some (.ref 0), some (.int a0), some (.int b0)]) (S' := [.int 0]) (w' := w) rfl ?_
        exact tm_r rfl (⟨by unfold g_Bh_may; rw [if_neg h1, if_neg h2, if_pos h3], by unfold u_Bh_may; rw [if_neg h1, if_neg h2, if_pos h3]⟩)
      · rw [if_neg h3] at hs
        refine tm_go 4 (pc' := 25) (L' := [some (.ref 0), some (.int a0), some (.int b0)]) (S' := [.int b0, .int a0, .ref 7]) (w' := w) rfl ?_
        obtain ⟨b1, hs⟩ := hs
        refine tm_c rfl (Nat.le_of_ble_eq_true rfl) (c_St_mayMeet (d := d + 0) w a0 b0  b1) (fun v w1 hq => ?_)
        obtain ⟨rfl, hw9⟩ := hq; rw [hw9]; clear hw9
        refine tm_i (p1 := 33) (p2 := 31) rfl (fun h4 => ?_) (fun h4 => ?_)
        · rw [if_pos h4] at hs
          refine tm_go 5 (pc' := 42) (L' := [some (.ref 0), some (.int a0), some (.int b0)]) (S' := [.int a0, .ref 22, .int a0, .ref 22]) (w' := w) rfl ?_
          obtain ⟨b2, hs⟩ := hs
          refine tm_k (pc' := 43) (L' := [some (.ref 0), some (.int a0), some (.int b0)]) (S' := [.int (w.1 22 a0.toInt.toNat), .int a0, .ref 22]) (w' := w) rfl b2 ?_
          refine tm_go 4 (pc' := 47) (L' := [some (.ref 0), some (.int a0), some (.int b0)]) (S' := [.int ((w.1 22 a0.toInt.toNat) ||| ((1 : Int32) <<< (b0 &&& 31))), .int a0, .ref 22]) (w' := w) rfl ?_
          obtain ⟨b3, hs⟩ := hs
          refine tm_k (pc' := 48) (L' := [some (.ref 0), some (.int a0), some (.int b0)]) (S' := []) (w' := (sI w 22 a0.toInt.toNat ((w.1 22 a0.toInt.toNat) ||| ((1 : Int32) <<< (b0 &&& 31))))) rfl b3 ?_
          refine tm_go 5 (pc' := 57) (L' := [some (.ref 0), some (.int a0), some (.int b0)]) (S' := [.int b0, .ref 22, .int b0, .ref 22]) (w' := (sI w 22 a0.toInt.toNat ((w.1 22 a0.toInt.toNat) ||| ((1 : Int32) <<< (b0 &&& 31))))) rfl ?_
          obtain ⟨b4, hs⟩ := hs
          refine tm_k (pc' := 58) (L' := [some (.ref 0), some (.int a0), some (.int b0)]) (S' := [.int ((sI w 22 a0.toInt.toNat ((w.1 22 a0.toInt.toNat) ||| ((1 : Int32) <<< (b0 &&& 31)))).1 22 b0.toInt.toNat), .int b0, .ref 22]) (w' := (sI w 22 a0.toInt.toNat ((w.1 22 a0.toInt.toNat) ||| ((1 : Int32) <<< (b0 &&& 31))))) rfl b4 ?_
          refine tm_go 4 (pc' := 62) (L' := [some (.ref 0), some (.int a0), some (.int b0)]) (S' := [.int (((sI w 22 a0.toInt.toNat ((w.1 22 a0.toInt.toNat) ||| ((1 : Int32) <<< (b0 &&& 31)))).1 22 b0.toInt.toNat) ||| ((1 : Int32) <<< (a0 &&& 31))), .int b0, .ref 22]) (w' := (sI w 22 a0.toInt.toNat ((w.1 22 a0.toInt.toNat) ||| ((1 : Int32) <<< (b0 &&& 31))))) rfl ?_
          obtain ⟨b5, hs⟩ := hs
          refine tm_k (pc' := 63) (L' := [some (.ref 0), some (.int a0), some (.int b0)]) (S' := []) (w' := (sI (sI w 22 a0.toInt.toNat ((w.1 22 a0.toInt.toNat) ||| ((1 : Int32) <<< (b0 &&& 31)))) 22 b0.toInt.toNat (((sI w 22 a0.toInt.toNat ((w.1 22 a0.toInt.toNat) ||| ((1 : Int32) <<< (b0 &&& 31)))).1 22 b0.toInt.toNat) ||| ((1 : Int32) <<< (a0 &&& 31))))) rfl b5 ?_
          refine tm_go 1 (pc' := 64) (L' := [some (.ref 0), some (.int a0), some (.int b0)]) (S' := [.int 1]) (w' := (sI (sI w 22 a0.toInt.toNat ((w.1 22 a0.toInt.toNat) ||| ((1 : Int32) <<< (b0 &&& 31)))) 22 b0.toInt.toNat (((sI w 22 a0.toInt.toNat ((w.1 22 a0.toInt.toNat) ||| ((1 : Int32) <<< (b0 &&& 31)))).1 22 b0.toInt.toNat) ||| ((1 : Int32) <<< (a0 &&& 31))))) rfl ?_
          exact tm_r rfl (⟨by unfold g_Bh_may; rw [if_neg h1, if_neg h2, if_neg h3, if_pos h4], by unfold u_Bh_may; rw [if_neg h1, if_neg h2, if_neg h3, if_pos h4]⟩)
        · rw [if_neg h4] at hs
          refine tm_go 1 (pc' := 32) (L' := [some (.ref 0), some (.int a0), some (.int b0)]) (S' := [.int 0]) (w' := w) rfl ?_
          exact tm_r rfl (⟨by unfold g_Bh_may; rw [if_neg h1, if_neg h2, if_neg h3, if_neg h4], by unfold u_Bh_may; rw [if_neg h1, if_neg h2, if_neg h3, if_neg h4]⟩)
def s_Bh_sense (w : MW) (a0 : Int32) (b0 : Int32) (c0 : Int32) : Prop := (((w.2.2 61 3) = some 62) ∧ ((s_Pr_isSignal w a0) ∧ (if (g_Pr_isSignal w a0).toInt = 0 then True else (if b0.toInt < 0 then True else (if b0.toInt ≤ (5 : Int32).toInt then (((w.2.2 61 3) = some 62) ∧ ((0 ≤ a0.toInt ∧ a0.toInt < 40) ∧ (((w.2.2 61 3) = some 62) ∧ ((0 ≤ a0.toInt ∧ a0.toInt < 40) ∧ True)))) else True)))))
def g_Bh_sense (w : MW) (a0 : Int32) (b0 : Int32) (c0 : Int32) : Int32 := (if (g_Pr_isSignal w a0).toInt = 0 then 0 else (if b0.toInt < 0 then 0 else (if b0.toInt ≤ (5 : Int32).toInt then 1 else 0)))
def u_Bh_sense (w : MW) (a0 : Int32) (b0 : Int32) (c0 : Int32) : MW := (if (g_Pr_isSignal w a0).toInt = 0 then w else (if b0.toInt < 0 then w else (if b0.toInt ≤ (5 : Int32).toInt then (sI (sI w 75 a0.toInt.toNat b0) 76 a0.toInt.toNat c0) else w)))
theorem ur_Bh_sense (w : MW) (a0 : Int32) (b0 : Int32) (c0 : Int32) : (u_Bh_sense w a0 b0 c0).2.2 = w.2.2 := (ite_R rfl (ite_R rfl (ite_R rfl rfl)))
theorem z_Bh_sense (w : MW) (a0 : Int32) (b0 : Int32) (c0 : Int32) : (g_Bh_sense w a0 b0 c0).toInt = 0 ∨ (g_Bh_sense w a0 b0 c0).toInt = 1 := (ite_Z (by decide) (ite_Z (by decide) (ite_Z (by decide) (by decide))))
set_option maxHeartbeats 4000000 in
set_option maxRecDepth 100000 in
theorem c_Bh_sense {d : Nat} (w : MW) (a0 : Int32) (b0 : Int32) (c0 : Int32)  (hs : s_Bh_sense w a0 b0 c0) : Tc (d + 1) 10 [.ref 0, .int a0, .int b0, .int c0] w (fun v w1 => v = some (.int (g_Bh_sense w a0 b0 c0)) ∧ w1 = u_Bh_sense w a0 b0 c0) := by
  unfold s_Bh_sense at hs
  refine tm_go 2 (pc' := 4) (L' := [some (.ref 0), some (.int a0), some (.int b0), some (.int c0)]) (S' := [.ref 61]) (w' := w) rfl ?_
  obtain ⟨b1, hs⟩ := hs
  refine tm_g (pc' := 7) (k := 61) (j := 3) rfl b1 ?_
  refine tm_go 1 (pc' := 8) (L' := [some (.ref 0), some (.int a0), some (.int b0), some (.int c0)]) (S' := [.int a0, .ref 62]) (w' := w) rfl ?_
  obtain ⟨b2, hs⟩ := hs
  refine tm_c rfl (Nat.le_of_ble_eq_true rfl) (c_Pr_isSignal (d := d + 0) w a0  b2) (fun v w1 hq => ?_)
  obtain ⟨rfl, hw9⟩ := hq; rw [hw9]; clear hw9
  refine tm_i (p1 := 23) (p2 := 14) rfl (fun h1 => ?_) (fun h1 => ?_)
  · rw [if_pos h1] at hs
    refine tm_go 1 (pc' := 24) (L' := [some (.ref 0), some (.int a0), some (.int b0), some (.int c0)]) (S' := [.int 0]) (w' := w) rfl ?_
    exact tm_r rfl (⟨by unfold g_Bh_sense; rw [if_pos h1], by unfold u_Bh_sense; rw [if_pos h1]⟩)
  · rw [if_neg h1] at hs
    refine tm_go 1 (pc' := 15) (L' := [some (.ref 0), some (.int a0), some (.int b0), some (.int c0)]) (S' := [.int b0]) (w' := w) rfl ?_
    refine tm_i (p1 := 23) (p2 := 18) rfl (fun h2 => ?_) (fun h2 => ?_)
    · rw [if_pos h2] at hs
      refine tm_go 1 (pc' := 24) (L' := [some (.ref 0), some (.int a0), some (.int b0), some (.int c0)]) (S' := [.int 0]) (w' := w) rfl ?_
      exact tm_r rfl (⟨by unfold g_Bh_sense; rw [if_neg h1, if_pos h2], by unfold u_Bh_sense; rw [if_neg h1, if_pos h2]⟩)
    · rw [if_neg h2] at hs
      refine tm_go 2 (pc' := 20) (L' := [some (.ref 0), some (.int a0), some (.int b0), some (.int c0)]) (S' := [.int 5, .int b0]) (w' := w) rfl ?_
      refine tm_i (p1 := 25) (p2 := 23) rfl (fun h3 => ?_) (fun h3 => ?_)
      · rw [if_pos h3] at hs
        refine tm_go 2 (pc' := 29) (L' := [some (.ref 0), some (.int a0), some (.int b0), some (.int c0)]) (S' := [.ref 61]) (w' := w) rfl ?_
        obtain ⟨b3, hs⟩ := hs
        refine tm_g (pc' := 32) (k := 61) (j := 3) rfl b3 ?_
        refine tm_go 3 (pc' := 37) (L' := [some (.ref 0), some (.int a0), some (.int b0), some (.int c0)]) (S' := [.int b0, .int a0, .ref 75]) (w' := w) rfl ?_
        obtain ⟨b4, hs⟩ := hs
        refine tm_k (pc' := 38) (L' := [some (.ref 0), some (.int a0), some (.int b0), some (.int c0)]) (S' := []) (w' := (sI w 75 a0.toInt.toNat b0)) rfl b4 ?_
        refine tm_go 2 (pc' := 42) (L' := [some (.ref 0), some (.int a0), some (.int b0), some (.int c0)]) (S' := [.ref 61]) (w' := (sI w 75 a0.toInt.toNat b0)) rfl ?_
        obtain ⟨b5, hs⟩ := hs
        refine tm_g (pc' := 45) (k := 61) (j := 3) rfl b5 ?_
        refine tm_go 3 (pc' := 50) (L' := [some (.ref 0), some (.int a0), some (.int b0), some (.int c0)]) (S' := [.int c0, .int a0, .ref 76]) (w' := (sI w 75 a0.toInt.toNat b0)) rfl ?_
        obtain ⟨b6, hs⟩ := hs
        refine tm_k (pc' := 51) (L' := [some (.ref 0), some (.int a0), some (.int b0), some (.int c0)]) (S' := []) (w' := (sI (sI w 75 a0.toInt.toNat b0) 76 a0.toInt.toNat c0)) rfl b6 ?_
        refine tm_go 1 (pc' := 52) (L' := [some (.ref 0), some (.int a0), some (.int b0), some (.int c0)]) (S' := [.int 1]) (w' := (sI (sI w 75 a0.toInt.toNat b0) 76 a0.toInt.toNat c0)) rfl ?_
        exact tm_r rfl (⟨by unfold g_Bh_sense; rw [if_neg h1, if_neg h2, if_pos h3], by unfold u_Bh_sense; rw [if_neg h1, if_neg h2, if_pos h3]⟩)
      · rw [if_neg h3] at hs
        refine tm_go 1 (pc' := 24) (L' := [some (.ref 0), some (.int a0), some (.int b0), some (.int c0)]) (S' := [.int 0]) (w' := w) rfl ?_
        exact tm_r rfl (⟨by unfold g_Bh_sense; rw [if_neg h1, if_neg h2, if_neg h3], by unfold u_Bh_sense; rw [if_neg h1, if_neg h2, if_neg h3]⟩)
def s_Bh_signal (w : MW) (a0 : Int32) (b0 : Int64) : Prop := (((w.2.2 61 3) = some 62) ∧ ((s_Pr_isSignal w a0) ∧ (if ¬ (g_Pr_isSignal w a0).toInt = 0 then (((w.2.2 61 3) = some 62) ∧ ((0 ≤ a0.toInt ∧ a0.toInt < 40) ∧ True)) else True)))
def g_Bh_signal (w : MW) (a0 : Int32) (b0 : Int64) : Int32 := (if ¬ (g_Pr_isSignal w a0).toInt = 0 then 1 else 0)
def u_Bh_signal (w : MW) (a0 : Int32) (b0 : Int64) : MW := (if ¬ (g_Pr_isSignal w a0).toInt = 0 then (sJ w 74 a0.toInt.toNat b0) else w)
theorem ur_Bh_signal (w : MW) (a0 : Int32) (b0 : Int64) : (u_Bh_signal w a0 b0).2.2 = w.2.2 := (ite_R rfl rfl)
theorem z_Bh_signal (w : MW) (a0 : Int32) (b0 : Int64) : (g_Bh_signal w a0 b0).toInt = 0 ∨ (g_Bh_signal w a0 b0).toInt = 1 := (ite_Z (by decide) (by decide))
set_option maxHeartbeats 4000000 in
set_option maxRecDepth 100000 in
theorem c_Bh_signal {d : Nat} (w : MW) (a0 : Int32) (b0 : Int64)  (hs : s_Bh_signal w a0 b0) : Tc (d + 1) 12 [.ref 0, .int a0, .long b0] w (fun v w1 => v = some (.int (g_Bh_signal w a0 b0)) ∧ w1 = u_Bh_signal w a0 b0) := by
  unfold s_Bh_signal at hs
  refine tm_go 2 (pc' := 4) (L' := [some (.ref 0), some (.int a0), some (.long b0), none]) (S' := [.ref 61]) (w' := w) rfl ?_
  obtain ⟨b1, hs⟩ := hs
  refine tm_g (pc' := 7) (k := 61) (j := 3) rfl b1 ?_
  refine tm_go 1 (pc' := 8) (L' := [some (.ref 0), some (.int a0), some (.long b0), none]) (S' := [.int a0, .ref 62]) (w' := w) rfl ?_
  obtain ⟨b2, hs⟩ := hs
  refine tm_c rfl (Nat.le_of_ble_eq_true rfl) (c_Pr_isSignal (d := d + 0) w a0  b2) (fun v w1 hq => ?_)
  obtain ⟨rfl, hw9⟩ := hq; rw [hw9]; clear hw9
  refine tm_i (p1 := 16) (p2 := 14) rfl (fun h1 => ?_) (fun h1 => ?_)
  · rw [if_pos h1] at hs
    refine tm_go 2 (pc' := 20) (L' := [some (.ref 0), some (.int a0), some (.long b0), none]) (S' := [.ref 61]) (w' := w) rfl ?_
    obtain ⟨b3, hs⟩ := hs
    refine tm_g (pc' := 23) (k := 61) (j := 3) rfl b3 ?_
    refine tm_go 3 (pc' := 28) (L' := [some (.ref 0), some (.int a0), some (.long b0), none]) (S' := [.long b0, .int a0, .ref 74]) (w' := w) rfl ?_
    obtain ⟨b4, hs⟩ := hs
    refine tm_k (pc' := 29) (L' := [some (.ref 0), some (.int a0), some (.long b0), none]) (S' := []) (w' := (sJ w 74 a0.toInt.toNat b0)) rfl b4 ?_
    refine tm_go 1 (pc' := 30) (L' := [some (.ref 0), some (.int a0), some (.long b0), none]) (S' := [.int 1]) (w' := (sJ w 74 a0.toInt.toNat b0)) rfl ?_
    exact tm_r rfl (⟨by unfold g_Bh_signal; rw [if_pos h1], by unfold u_Bh_signal; rw [if_pos h1]⟩)
  · rw [if_neg h1] at hs
    refine tm_go 1 (pc' := 15) (L' := [some (.ref 0), some (.int a0), some (.long b0), none]) (S' := [.int 0]) (w' := w) rfl ?_
    exact tm_r rfl (⟨by unfold g_Bh_signal; rw [if_neg h1], by unfold u_Bh_signal; rw [if_neg h1]⟩)
def s_Bh_bind (w : MW) (a0 : Int32) (b0 : Int32) (c0 : Int32) (e0 : Int32) (f0 : Int32) : Prop := ((s_Ac_tie w a0 b0 c0 e0 f0) ∧ True)
def g_Bh_bind (w : MW) (a0 : Int32) (b0 : Int32) (c0 : Int32) (e0 : Int32) (f0 : Int32) : Int32 := (g_Ac_tie w a0 b0 c0 e0 f0)
def u_Bh_bind (w : MW) (a0 : Int32) (b0 : Int32) (c0 : Int32) (e0 : Int32) (f0 : Int32) : MW := (u_Ac_tie w a0 b0 c0 e0 f0)
theorem ur_Bh_bind (w : MW) (a0 : Int32) (b0 : Int32) (c0 : Int32) (e0 : Int32) (f0 : Int32) : (u_Bh_bind w a0 b0 c0 e0 f0).2.2 = w.2.2 := (by unfold u_Bh_bind; simp only [sI_R, sJ_R, ur_Ac_tie])
theorem z_Bh_bind (w : MW) (a0 : Int32) (b0 : Int32) (c0 : Int32) (e0 : Int32) (f0 : Int32) : (g_Bh_bind w a0 b0 c0 e0 f0).toInt = 0 ∨ (g_Bh_bind w a0 b0 c0 e0 f0).toInt = 1 := (z_Ac_tie w a0 b0 c0 e0 f0)
set_option maxHeartbeats 4000000 in
set_option maxRecDepth 100000 in
theorem c_Bh_bind {d : Nat} (w : MW) (a0 : Int32) (b0 : Int32) (c0 : Int32) (e0 : Int32) (f0 : Int32)  (hs : s_Bh_bind w a0 b0 c0 e0 f0) : Tc (d + 2) 13 [.ref 0, .int a0, .int b0, .int c0, .int e0, .int f0] w (fun v w1 => v = some (.int (g_Bh_bind w a0 b0 c0 e0 f0)) ∧ w1 = u_Bh_bind w a0 b0 c0 e0 f0) := by
  unfold s_Bh_bind at hs
  refine tm_go 7 (pc' := 11) (L' := [some (.ref 0), some (.int a0), some (.int b0), some (.int c0), some (.int e0), some (.int f0)]) (S' := [.int f0, .int e0, .int c0, .int b0, .int a0, .ref 47]) (w' := w) rfl ?_
  obtain ⟨b1, hs⟩ := hs
  refine tm_c rfl (Nat.le_of_ble_eq_true rfl) (c_Ac_tie (d := d + 0) w a0 b0 c0 e0 f0  b1) (fun v w_1 hq => ?_)
  obtain ⟨rfl, ew_1⟩ := hq
  try rw [← ew_1] at hs
  exact tm_rk rfl (by exact z_Ac_tie w a0 b0 c0 e0 f0) (⟨by unfold g_Bh_bind; subst ew_1; rfl, by unfold u_Bh_bind; subst ew_1; rfl⟩)
def s_Bh_sensed (w : MW) (a0 : Int32) (b0 : Int32) : Prop := (if a0.toInt = 0 then ((s_St_isTank w b0) ∧ (if (g_St_isTank w b0).toInt = 0 then True else ((0 ≤ b0.toInt ∧ b0.toInt < 44) ∧ True))) else (if a0.toInt = 1 then ((s_St_isHolder w b0) ∧ (if (g_St_isHolder w b0).toInt = 0 then True else ((0 ≤ b0.toInt ∧ b0.toInt < 44) ∧ True))) else (if a0.toInt = 2 then ((s_St_isValve w b0) ∧ (if (g_St_isValve w b0).toInt = 0 then True else ((0 ≤ b0.toInt ∧ b0.toInt < 20) ∧ True))) else (if a0.toInt = 3 then True else True))))
def g_Bh_sensed (w : MW) (a0 : Int32) (b0 : Int32) : Int64 := (if a0.toInt = 0 then (if (g_St_isTank w b0).toInt = 0 then (-1) else (Int32.toInt64 (w.1 18 b0.toInt.toNat))) else (if a0.toInt = 1 then (if (g_St_isHolder w b0).toInt = 0 then (-1) else (Int32.toInt64 (w.1 17 b0.toInt.toNat))) else (if a0.toInt = 2 then (if (g_St_isValve w b0).toInt = 0 then (-1) else (Int32.toInt64 (w.1 16 b0.toInt.toNat))) else (if a0.toInt = 3 then (Int32.toInt64 (w.1 26 1)) else (Int32.toInt64 (w.1 7 1))))))
set_option maxHeartbeats 4000000 in
set_option maxRecDepth 100000 in
theorem c_Bh_sensed {d : Nat} (w : MW) (a0 : Int32) (b0 : Int32)  (hs : s_Bh_sensed w a0 b0) : Tc (d + 2) 18 [.ref 0, .int a0, .int b0] w (fun v w1 => v = some (.long (g_Bh_sensed w a0 b0)) ∧ w1 = w) := by
  unfold s_Bh_sensed at hs
  refine tm_go 1 (pc' := 1) (L' := [some (.ref 0), some (.int a0), some (.int b0)]) (S' := [.int a0]) (w' := w) rfl ?_
  by_cases h1 : a0.toInt = 0
  · rw [if_pos h1] at hs
    refine tm_tab (dflt := 125) (lo := 0) (ts := [32, 60, 88, 116]) rfl (by rw [h1]; decide) (t := 32) (by rw [h1]; rfl) ?_
    refine tm_go 3 (pc' := 37) (L' := [some (.ref 0), some (.int a0), some (.int b0)]) (S' := [.int b0, .ref 7]) (w' := w) rfl ?_
    obtain ⟨b1, hs⟩ := hs
    refine tm_c rfl (Nat.le_of_ble_eq_true rfl) (c_St_isTank (d := d + 1) w b0  b1) (fun v w1 hq => ?_)
    obtain ⟨rfl, hw9⟩ := hq; rw [hw9]; clear hw9
    refine tm_i (p1 := 56) (p2 := 43) rfl (fun h2 => ?_) (fun h2 => ?_)
    · rw [if_pos h2] at hs
      refine tm_go 1 (pc' := 59) (L' := [some (.ref 0), some (.int a0), some (.int b0)]) (S' := [.long (-1)]) (w' := w) rfl ?_
      exact tm_r rfl (⟨by unfold g_Bh_sensed; rw [if_pos h1, if_pos h2], rfl⟩)
    · rw [if_neg h2] at hs
      refine tm_go 4 (pc' := 51) (L' := [some (.ref 0), some (.int a0), some (.int b0)]) (S' := [.int b0, .ref 18]) (w' := w) rfl ?_
      obtain ⟨b2, hs⟩ := hs
      refine tm_k (pc' := 52) (L' := [some (.ref 0), some (.int a0), some (.int b0)]) (S' := [.int (w.1 18 b0.toInt.toNat)]) (w' := w) rfl b2 ?_
      refine tm_go 2 (pc' := 59) (L' := [some (.ref 0), some (.int a0), some (.int b0)]) (S' := [.long (Int32.toInt64 (w.1 18 b0.toInt.toNat))]) (w' := w) rfl ?_
      exact tm_r rfl (⟨by unfold g_Bh_sensed; rw [if_pos h1, if_neg h2], rfl⟩)
  · rw [if_neg h1] at hs
    by_cases h3 : a0.toInt = 1
    · rw [if_pos h3] at hs
      refine tm_tab (dflt := 125) (lo := 0) (ts := [32, 60, 88, 116]) rfl (by rw [h3]; decide) (t := 60) (by rw [h3]; rfl) ?_
      refine tm_go 3 (pc' := 65) (L' := [some (.ref 0), some (.int a0), some (.int b0)]) (S' := [.int b0, .ref 7]) (w' := w) rfl ?_
      obtain ⟨b3, hs⟩ := hs
      refine tm_c rfl (Nat.le_of_ble_eq_true rfl) (c_St_isHolder (d := d + 0) w b0  b3) (fun v w1 hq => ?_)
      obtain ⟨rfl, hw9⟩ := hq; rw [hw9]; clear hw9
      refine tm_i (p1 := 84) (p2 := 71) rfl (fun h4 => ?_) (fun h4 => ?_)
      · rw [if_pos h4] at hs
        refine tm_go 1 (pc' := 87) (L' := [some (.ref 0), some (.int a0), some (.int b0)]) (S' := [.long (-1)]) (w' := w) rfl ?_
        exact tm_r rfl (⟨by unfold g_Bh_sensed; rw [if_neg h1, if_pos h3, if_pos h4], rfl⟩)
      · rw [if_neg h4] at hs
        refine tm_go 4 (pc' := 79) (L' := [some (.ref 0), some (.int a0), some (.int b0)]) (S' := [.int b0, .ref 17]) (w' := w) rfl ?_
        obtain ⟨b4, hs⟩ := hs
        refine tm_k (pc' := 80) (L' := [some (.ref 0), some (.int a0), some (.int b0)]) (S' := [.int (w.1 17 b0.toInt.toNat)]) (w' := w) rfl b4 ?_
        refine tm_go 2 (pc' := 87) (L' := [some (.ref 0), some (.int a0), some (.int b0)]) (S' := [.long (Int32.toInt64 (w.1 17 b0.toInt.toNat))]) (w' := w) rfl ?_
        exact tm_r rfl (⟨by unfold g_Bh_sensed; rw [if_neg h1, if_pos h3, if_neg h4], rfl⟩)
    · rw [if_neg h3] at hs
      by_cases h5 : a0.toInt = 2
      · rw [if_pos h5] at hs
        refine tm_tab (dflt := 125) (lo := 0) (ts := [32, 60, 88, 116]) rfl (by rw [h5]; decide) (t := 88) (by rw [h5]; rfl) ?_
        refine tm_go 3 (pc' := 93) (L' := [some (.ref 0), some (.int a0), some (.int b0)]) (S' := [.int b0, .ref 7]) (w' := w) rfl ?_
        obtain ⟨b5, hs⟩ := hs
        refine tm_c rfl (Nat.le_of_ble_eq_true rfl) (c_St_isValve (d := d + 1) w b0  b5) (fun v w1 hq => ?_)
        obtain ⟨rfl, hw9⟩ := hq; rw [hw9]; clear hw9
        refine tm_i (p1 := 112) (p2 := 99) rfl (fun h6 => ?_) (fun h6 => ?_)
        · rw [if_pos h6] at hs
          refine tm_go 1 (pc' := 115) (L' := [some (.ref 0), some (.int a0), some (.int b0)]) (S' := [.long (-1)]) (w' := w) rfl ?_
          exact tm_r rfl (⟨by unfold g_Bh_sensed; rw [if_neg h1, if_neg h3, if_pos h5, if_pos h6], rfl⟩)
        · rw [if_neg h6] at hs
          refine tm_go 4 (pc' := 107) (L' := [some (.ref 0), some (.int a0), some (.int b0)]) (S' := [.int b0, .ref 16]) (w' := w) rfl ?_
          obtain ⟨b6, hs⟩ := hs
          refine tm_k (pc' := 108) (L' := [some (.ref 0), some (.int a0), some (.int b0)]) (S' := [.int (w.1 16 b0.toInt.toNat)]) (w' := w) rfl b6 ?_
          refine tm_go 2 (pc' := 115) (L' := [some (.ref 0), some (.int a0), some (.int b0)]) (S' := [.long (Int32.toInt64 (w.1 16 b0.toInt.toNat))]) (w' := w) rfl ?_
          exact tm_r rfl (⟨by unfold g_Bh_sensed; rw [if_neg h1, if_neg h3, if_pos h5, if_neg h6], rfl⟩)
      · rw [if_neg h5] at hs
        by_cases h7 : a0.toInt = 3
        · rw [if_pos h7] at hs
          refine tm_tab (dflt := 125) (lo := 0) (ts := [32, 60, 88, 116]) rfl (by rw [h7]; decide) (t := 116) (by rw [h7]; rfl) ?_
          refine tm_go 4 (pc' := 124) (L' := [some (.ref 0), some (.int a0), some (.int b0)]) (S' := [.long (Int32.toInt64 (w.1 26 1))]) (w' := w) rfl ?_
          exact tm_r rfl (⟨by unfold g_Bh_sensed; rw [if_neg h1, if_neg h3, if_neg h5, if_pos h7], rfl⟩)
        · rw [if_neg h7] at hs
          refine tm_tad (dflt := 125) (lo := 0) (ts := [32, 60, 88, 116]) rfl (by simp only [List.length_cons, List.length_nil]; omega) ?_
          refine tm_go 4 (pc' := 133) (L' := [some (.ref 0), some (.int a0), some (.int b0)]) (S' := [.long (Int32.toInt64 (w.1 7 1))]) (w' := w) rfl ?_
          exact tm_r rfl (⟨by unfold g_Bh_sensed; rw [if_neg h1, if_neg h3, if_neg h5, if_neg h7], rfl⟩)
def s_Bh_pass (w : MW) (a0 : Int32) (b0 : Int32) (c0 : Int32) (e0 : Int32) : Prop := (((w.2.2 47 3) = some 48) ∧ (if ¬ (g_Ro_has w a0).toInt = 0 then (if (g_Bh_isPerson w b0).toInt = 0 then True else (if (g_Bh_isPerson w c0).toInt = 0 then True else (if ¬ b0.toInt = c0.toInt then (if e0.toInt < (1 : Int32).toInt then True else (if e0.toInt ≤ (3600 : Int32).toInt then (((w.2.2 47 3) = some 48) ∧ ((0 ≤ (a0 - (1 : Int32)).toInt ∧ (a0 - (1 : Int32)).toInt < 40) ∧ (if (w.1 51 ((a0 - (1 : Int32)).toInt.toNat)).toInt ≤ 0 then (((w.2.2 47 3) = some 48) ∧ ((0 ≤ (a0 - (1 : Int32)).toInt ∧ (a0 - (1 : Int32)).toInt < 40) ∧ True)) else True))) else True)) else True))) else True))
def g_Bh_pass (w : MW) (a0 : Int32) (b0 : Int32) (c0 : Int32) (e0 : Int32) : Int32 := (if ¬ (g_Ro_has w a0).toInt = 0 then (if (g_Bh_isPerson w b0).toInt = 0 then (-2) else (if (g_Bh_isPerson w c0).toInt = 0 then (-2) else (if ¬ b0.toInt = c0.toInt then (if e0.toInt < (1 : Int32).toInt then (-3) else (if e0.toInt ≤ (3600 : Int32).toInt then (if (w.1 51 ((a0 - (1 : Int32)).toInt.toNat)).toInt ≤ 0 then 0 else (-4)) else (-3))) else (-2)))) else (-1))
def u_Bh_pass (w : MW) (a0 : Int32) (b0 : Int32) (c0 : Int32) (e0 : Int32) : MW := (if ¬ (g_Ro_has w a0).toInt = 0 then (if (g_Bh_isPerson w b0).toInt = 0 then w else (if (g_Bh_isPerson w c0).toInt = 0 then w else (if ¬ b0.toInt = c0.toInt then (if e0.toInt < (1 : Int32).toInt then w else (if e0.toInt ≤ (3600 : Int32).toInt then (if (w.1 51 ((a0 - (1 : Int32)).toInt.toNat)).toInt ≤ 0 then (sI w 51 ((a0 - (1 : Int32)).toInt.toNat) e0) else w) else w)) else w))) else w)
theorem ur_Bh_pass (w : MW) (a0 : Int32) (b0 : Int32) (c0 : Int32) (e0 : Int32) : (u_Bh_pass w a0 b0 c0 e0).2.2 = w.2.2 := (ite_R (ite_R rfl (ite_R rfl (ite_R (ite_R rfl (ite_R (ite_R rfl rfl) rfl)) rfl))) rfl)
set_option maxHeartbeats 4000000 in
set_option maxRecDepth 100000 in
theorem c_Bh_pass {d : Nat} (w : MW) (a0 : Int32) (b0 : Int32) (c0 : Int32) (e0 : Int32)  (hs : s_Bh_pass w a0 b0 c0 e0) : Tc (d + 1) 22 [.ref 0, .int a0, .int b0, .int c0, .int e0] w (fun v w1 => v = some (.int (g_Bh_pass w a0 b0 c0 e0)) ∧ w1 = u_Bh_pass w a0 b0 c0 e0) := by
  unfold s_Bh_pass at hs
  refine tm_go 2 (pc' := 4) (L' := [some (.ref 0), some (.int a0), some (.int b0), some (.int c0), some (.int e0)]) (S' := [.ref 47]) (w' := w) rfl ?_
  obtain ⟨b1, hs⟩ := hs
  refine tm_g (pc' := 7) (k := 47) (j := 3) rfl b1 ?_
  refine tm_go 1 (pc' := 8) (L' := [some (.ref 0), some (.int a0), some (.int b0), some (.int c0), some (.int e0)]) (S' := [.int a0, .ref 48]) (w' := w) rfl ?_
  refine tm_c rfl (Nat.le_of_ble_eq_true rfl) (c_Ro_has (d := d + 0) w a0 ) (fun v w1 hq => ?_)
  obtain ⟨rfl, hw9⟩ := hq; rw [hw9]; clear hw9
  refine tm_i (p1 := 16) (p2 := 14) rfl (fun h1 => ?_) (fun h1 => ?_)
  · rw [if_pos h1] at hs
    refine tm_go 1 (pc' := 17) (L' := [some (.ref 0), some (.int a0), some (.int b0), some (.int c0), some (.int e0)]) (S' := [.int b0]) (w' := w) rfl ?_
    refine tm_c rfl (Nat.le_of_ble_eq_true rfl) (c_Bh_isPerson (d := d + 0) w b0 ) (fun v w1 hq => ?_)
    obtain ⟨rfl, hw9⟩ := hq; rw [hw9]; clear hw9
    refine tm_i (p1 := 35) (p2 := 23) rfl (fun h2 => ?_) (fun h2 => ?_)
    · rw [if_pos h2] at hs
      refine tm_go 1 (pc' := 37) (L' := [some (.ref 0), some (.int a0), some (.int b0), some (.int c0), some (.int e0)]) (S' := [.int (-2)]) (w' := w) rfl ?_
      exact tm_r rfl (⟨by unfold g_Bh_pass; rw [if_pos h1, if_pos h2], by unfold u_Bh_pass; rw [if_pos h1, if_pos h2]⟩)
    · rw [if_neg h2] at hs
      refine tm_go 1 (pc' := 24) (L' := [some (.ref 0), some (.int a0), some (.int b0), some (.int c0), some (.int e0)]) (S' := [.int c0]) (w' := w) rfl ?_
      refine tm_c rfl (Nat.le_of_ble_eq_true rfl) (c_Bh_isPerson (d := d + 0) w c0 ) (fun v w1 hq => ?_)
      obtain ⟨rfl, hw9⟩ := hq; rw [hw9]; clear hw9
      refine tm_i (p1 := 35) (p2 := 30) rfl (fun h3 => ?_) (fun h3 => ?_)
      · rw [if_pos h3] at hs
        refine tm_go 1 (pc' := 37) (L' := [some (.ref 0), some (.int a0), some (.int b0), some (.int c0), some (.int e0)]) (S' := [.int (-2)]) (w' := w) rfl ?_
        exact tm_r rfl (⟨by unfold g_Bh_pass; rw [if_pos h1, if_neg h2, if_pos h3], by unfold u_Bh_pass; rw [if_pos h1, if_neg h2, if_pos h3]⟩)
      · rw [if_neg h3] at hs
        refine tm_go 2 (pc' := 32) (L' := [some (.ref 0), some (.int a0), some (.int b0), some (.int c0), some (.int e0)]) (S' := [.int c0, .int b0]) (w' := w) rfl ?_
        refine tm_i (p1 := 38) (p2 := 35) rfl (fun h4 => ?_) (fun h4 => ?_)
        · rw [if_pos h4] at hs
          refine tm_go 2 (pc' := 41) (L' := [some (.ref 0), some (.int a0), some (.int b0), some (.int c0), some (.int e0)]) (S' := [.int 1, .int e0]) (w' := w) rfl ?_
          refine tm_i (p1 := 52) (p2 := 44) rfl (fun h5 => ?_) (fun h5 => ?_)
          · rw [if_pos h5] at hs
            refine tm_go 1 (pc' := 54) (L' := [some (.ref 0), some (.int a0), some (.int b0), some (.int c0), some (.int e0)]) (S' := [.int (-3)]) (w' := w) rfl ?_
            exact tm_r rfl (⟨by unfold g_Bh_pass; rw [if_pos h1, if_neg h2, if_neg h3, if_pos h4, if_pos h5], by unfold u_Bh_pass; rw [if_pos h1, if_neg h2, if_neg h3, if_pos h4, if_pos h5]⟩)
          · rw [if_neg h5] at hs
            refine tm_go 2 (pc' := 49) (L' := [some (.ref 0), some (.int a0), some (.int b0), some (.int c0), some (.int e0)]) (S' := [.int 3600, .int e0]) (w' := w) rfl ?_
            refine tm_i (p1 := 55) (p2 := 52) rfl (fun h6 => ?_) (fun h6 => ?_)
            · rw [if_pos h6] at hs
              refine tm_go 2 (pc' := 59) (L' := [some (.ref 0), some (.int a0), some (.int b0), some (.int c0), some (.int e0)]) (S' := [.ref 47]) (w' := w) rfl ?_
              obtain ⟨b2, hs⟩ := hs
              refine tm_g (pc' := 62) (k := 47) (j := 3) rfl b2 ?_
              refine tm_go 4 (pc' := 68) (L' := [some (.ref 0), some (.int a0), some (.int b0), some (.int c0), some (.int e0)]) (S' := [.int (a0 - (1 : Int32)), .ref 51]) (w' := w) rfl ?_
              obtain ⟨b3, hs⟩ := hs
              refine tm_k (pc' := 69) (L' := [some (.ref 0), some (.int a0), some (.int b0), some (.int c0), some (.int e0)]) (S' := [.int (w.1 51 ((a0 - (1 : Int32)).toInt.toNat))]) (w' := w) rfl b3 ?_
              refine tm_i (p1 := 75) (p2 := 72) rfl (fun h7 => ?_) (fun h7 => ?_)
              · rw [if_pos h7] at hs
                refine tm_go 2 (pc' := 79) (L' := [some (.ref 0), some (.int a0), some (.int b0), some (.int c0), some (.int e0)]) (S' := [.ref 47]) (w' := w) rfl ?_
                obtain ⟨b4, hs⟩ := hs
                refine tm_g (pc' := 82) (k := 47) (j := 3) rfl b4 ?_
                refine tm_go 5 (pc' := 90) (L' := [some (.ref 0), some (.int a0), some (.int b0), some (.int c0), some (.int e0)]) (S' := [.int e0, .int (a0 - (1 : Int32)), .ref 51]) (w' := w) rfl ?_
                obtain ⟨b5, hs⟩ := hs
                refine tm_k (pc' := 91) (L' := [some (.ref 0), some (.int a0), some (.int b0), some (.int c0), some (.int e0)]) (S' := []) (w' := (sI w 51 ((a0 - (1 : Int32)).toInt.toNat) e0)) rfl b5 ?_
                refine tm_go 1 (pc' := 92) (L' := [some (.ref 0), some (.int a0), some (.int b0), some (.int c0), some (.int e0)]) (S' := [.int 0]) (w' := (sI w 51 ((a0 - (1 : Int32)).toInt.toNat) e0)) rfl ?_
                exact tm_r rfl (⟨by unfold g_Bh_pass; rw [if_pos h1, if_neg h2, if_neg h3, if_pos h4, if_neg h5, if_pos h6, if_pos h7], by unfold u_Bh_pass; rw [if_pos h1, if_neg h2, if_neg h3, if_pos h4, if_neg h5, if_pos h6, if_pos h7]⟩)
              · rw [if_neg h7] at hs
                refine tm_go 1 (pc' := 74) (L' := [some (.ref 0), some (.int a0), some (.int b0), some (.int c0), some (.int e0)]) (S' := [.int (-4)]) (w' := w) rfl ?_
                exact tm_r rfl (⟨by unfold g_Bh_pass; rw [if_pos h1, if_neg h2, if_neg h3, if_pos h4, if_neg h5, if_pos h6, if_neg h7], by unfold u_Bh_pass; rw [if_pos h1, if_neg h2, if_neg h3, if_pos h4, if_neg h5, if_pos h6, if_neg h7]⟩)
            · rw [if_neg h6] at hs
              refine tm_go 1 (pc' := 54) (L' := [some (.ref 0), some (.int a0), some (.int b0), some (.int c0), some (.int e0)]) (S' := [.int (-3)]) (w' := w) rfl ?_
              exact tm_r rfl (⟨by unfold g_Bh_pass; rw [if_pos h1, if_neg h2, if_neg h3, if_pos h4, if_neg h5, if_neg h6], by unfold u_Bh_pass; rw [if_pos h1, if_neg h2, if_neg h3, if_pos h4, if_neg h5, if_neg h6]⟩)
        · rw [if_neg h4] at hs
          refine tm_go 1 (pc' := 37) (L' := [some (.ref 0), some (.int a0), some (.int b0), some (.int c0), some (.int e0)]) (S' := [.int (-2)]) (w' := w) rfl ?_
          exact tm_r rfl (⟨by unfold g_Bh_pass; rw [if_pos h1, if_neg h2, if_neg h3, if_neg h4], by unfold u_Bh_pass; rw [if_pos h1, if_neg h2, if_neg h3, if_neg h4]⟩)
  · rw [if_neg h1] at hs
    refine tm_go 1 (pc' := 15) (L' := [some (.ref 0), some (.int a0), some (.int b0), some (.int c0), some (.int e0)]) (S' := [.int (-1)]) (w' := w) rfl ?_
    exact tm_r rfl (⟨by unfold g_Bh_pass; rw [if_neg h1], by unfold u_Bh_pass; rw [if_neg h1]⟩)
def s_Bh_value (w : MW) (a0 : Int32) : Prop := (((w.2.2 61 3) = some 62) ∧ ((s_Pr_hasValue w a0) ∧ (if (g_Pr_hasValue w a0).toInt = 0 then True else (((w.2.2 61 3) = some 62) ∧ ((0 ≤ a0.toInt ∧ a0.toInt < 40) ∧ True)))))
def g_Bh_value (w : MW) (a0 : Int32) : Int64 := (if (g_Pr_hasValue w a0).toInt = 0 then 0 else (w.2.1 74 a0.toInt.toNat))
set_option maxHeartbeats 4000000 in
set_option maxRecDepth 100000 in
theorem c_Bh_value {d : Nat} (w : MW) (a0 : Int32)  (hs : s_Bh_value w a0) : Tc (d + 1) 28 [.ref 0, .int a0] w (fun v w1 => v = some (.long (g_Bh_value w a0)) ∧ w1 = w) := by
  unfold s_Bh_value at hs
  refine tm_go 2 (pc' := 4) (L' := [some (.ref 0), some (.int a0)]) (S' := [.ref 61]) (w' := w) rfl ?_
  obtain ⟨b1, hs⟩ := hs
  refine tm_g (pc' := 7) (k := 61) (j := 3) rfl b1 ?_
  refine tm_go 1 (pc' := 8) (L' := [some (.ref 0), some (.int a0)]) (S' := [.int a0, .ref 62]) (w' := w) rfl ?_
  obtain ⟨b2, hs⟩ := hs
  refine tm_c rfl (Nat.le_of_ble_eq_true rfl) (c_Pr_hasValue (d := d + 0) w a0  b2) (fun v w1 hq => ?_)
  obtain ⟨rfl, hw9⟩ := hq; rw [hw9]; clear hw9
  refine tm_i (p1 := 29) (p2 := 14) rfl (fun h1 => ?_) (fun h1 => ?_)
  · rw [if_pos h1] at hs
    refine tm_go 1 (pc' := 30) (L' := [some (.ref 0), some (.int a0)]) (S' := [.long 0]) (w' := w) rfl ?_
    exact tm_r rfl (⟨by unfold g_Bh_value; rw [if_pos h1], rfl⟩)
  · rw [if_neg h1] at hs
    refine tm_go 2 (pc' := 18) (L' := [some (.ref 0), some (.int a0)]) (S' := [.ref 61]) (w' := w) rfl ?_
    obtain ⟨b3, hs⟩ := hs
    refine tm_g (pc' := 21) (k := 61) (j := 3) rfl b3 ?_
    refine tm_go 2 (pc' := 25) (L' := [some (.ref 0), some (.int a0)]) (S' := [.int a0, .ref 74]) (w' := w) rfl ?_
    obtain ⟨b4, hs⟩ := hs
    refine tm_k (pc' := 26) (L' := [some (.ref 0), some (.int a0)]) (S' := [.long (w.2.1 74 a0.toInt.toNat)]) (w' := w) rfl b4 ?_
    refine tm_go 1 (pc' := 30) (L' := [some (.ref 0), some (.int a0)]) (S' := [.long (w.2.1 74 a0.toInt.toNat)]) (w' := w) rfl ?_
    exact tm_r rfl (⟨by unfold g_Bh_value; rw [if_neg h1], rfl⟩)
def s_Bh_alarm (w : MW) (a0 : Int32) (b0 : Int32) : Prop := ((s_Al_get w a0 b0) ∧ True)
def g_Bh_alarm (w : MW) (a0 : Int32) (b0 : Int32) : Int32 := (g_Al_get w a0 b0)
set_option maxHeartbeats 4000000 in
set_option maxRecDepth 100000 in
theorem c_Bh_alarm {d : Nat} (w : MW) (a0 : Int32) (b0 : Int32)  (hs : s_Bh_alarm w a0 b0) : Tc (d + 1) 30 [.ref 0, .int a0, .int b0] w (fun v w1 => v = some (.int (g_Bh_alarm w a0 b0)) ∧ w1 = w) := by
  unfold s_Bh_alarm at hs
  refine tm_go 4 (pc' := 6) (L' := [some (.ref 0), some (.int a0), some (.int b0)]) (S' := [.int b0, .int a0, .ref 3]) (w' := w) rfl ?_
  obtain ⟨b1, hs⟩ := hs
  refine tm_c rfl (Nat.le_of_ble_eq_true rfl) (c_Al_get (d := d + 0) w a0 b0  b1) (fun v w1 hq => ?_)
  obtain ⟨rfl, hw9⟩ := hq; rw [hw9]; clear hw9
  exact tm_r rfl (⟨by unfold g_Bh_alarm; rfl, rfl⟩)
def s_Mo_pass (w : MW) (a0 : Int32) (b0 : Int32) (c0 : Int32) (e0 : Int32) : Prop := ((s_Mr_pass w a0 b0 c0 e0) ∧ True)
def g_Mo_pass (w : MW) (a0 : Int32) (b0 : Int32) (c0 : Int32) (e0 : Int32) : Int32 := (g_Mr_pass w a0 b0 c0 e0)
def u_Mo_pass (w : MW) (a0 : Int32) (b0 : Int32) (c0 : Int32) (e0 : Int32) : MW := (u_Mr_pass w a0 b0 c0 e0)
theorem ur_Mo_pass (w : MW) (a0 : Int32) (b0 : Int32) (c0 : Int32) (e0 : Int32) : (u_Mo_pass w a0 b0 c0 e0).2.2 = w.2.2 := (by unfold u_Mo_pass; simp only [sI_R, sJ_R, ur_Mr_pass])
set_option maxHeartbeats 4000000 in
set_option maxRecDepth 100000 in
theorem c_Mo_pass {d : Nat} (w : MW) (a0 : Int32) (b0 : Int32) (c0 : Int32) (e0 : Int32)  (hs : s_Mo_pass w a0 b0 c0 e0) : Tc (d + 2) 99 [.ref 127, .int a0, .int b0, .int c0, .int e0] w (fun v w1 => v = some (.int (g_Mo_pass w a0 b0 c0 e0)) ∧ w1 = u_Mo_pass w a0 b0 c0 e0) := by
  unfold s_Mo_pass at hs
  refine tm_go 6 (pc' := 9) (L' := [some (.ref 127), some (.int a0), some (.int b0), some (.int c0), some (.int e0)]) (S' := [.int e0, .int c0, .int b0, .int a0, .ref 147]) (w' := w) rfl ?_
  obtain ⟨b1, hs⟩ := hs
  refine tm_c rfl (Nat.le_of_ble_eq_true rfl) (c_Mr_pass (d := d + 0) w a0 b0 c0 e0  b1) (fun v w_1 hq => ?_)
  obtain ⟨rfl, ew_1⟩ := hq
  try rw [← ew_1] at hs
  exact tm_r rfl (⟨by unfold g_Mo_pass; subst ew_1; rfl, by unfold u_Mo_pass; subst ew_1; rfl⟩)
def s_Mo_kind (w : MW) (a0 : Int32) : Prop := ((0 ≤ a0.toInt ∧ a0.toInt < 502) ∧ (if 0 ≤ (w.1 207 a0.toInt.toNat).toInt then ((0 ≤ a0.toInt ∧ a0.toInt < 502) ∧ ((0 ≤ (g_Tx_node1 w (w.1 207 a0.toInt.toNat)).toInt ∧ (g_Tx_node1 w (w.1 207 a0.toInt.toNat)).toInt < 600) ∧ True)) else True))
def g_Mo_kind (w : MW) (a0 : Int32) : Int32 := (if 0 ≤ (w.1 207 a0.toInt.toNat).toInt then (w.1 131 ((g_Tx_node1 w (w.1 207 a0.toInt.toNat)).toInt.toNat)) else 23)
set_option maxHeartbeats 4000000 in
set_option maxRecDepth 100000 in
theorem c_Mo_kind {d : Nat} (w : MW) (a0 : Int32)  (hs : s_Mo_kind w a0) : Tc (d + 1) 103 [.ref 127, .int a0] w (fun v w1 => v = some (.int (g_Mo_kind w a0)) ∧ w1 = w) := by
  unfold s_Mo_kind at hs
  refine tm_go 3 (pc' := 5) (L' := [some (.ref 127), some (.int a0)]) (S' := [.int a0, .ref 207]) (w' := w) rfl ?_
  obtain ⟨b1, hs⟩ := hs
  refine tm_k (pc' := 6) (L' := [some (.ref 127), some (.int a0)]) (S' := [.int (w.1 207 a0.toInt.toNat)]) (w' := w) rfl b1 ?_
  refine tm_i (p1 := 14) (p2 := 9) rfl (fun h1 => ?_) (fun h1 => ?_)
  · rw [if_pos h1] at hs
    refine tm_go 8 (pc' := 30) (L' := [some (.ref 127), some (.int a0)]) (S' := [.int a0, .ref 207, .ref 129, .ref 131]) (w' := w) rfl ?_
    obtain ⟨b2, hs⟩ := hs
    refine tm_k (pc' := 31) (L' := [some (.ref 127), some (.int a0)]) (S' := [.int (w.1 207 a0.toInt.toNat), .ref 129, .ref 131]) (w' := w) rfl b2 ?_
    refine tm_c rfl (Nat.le_of_ble_eq_true rfl) (c_Tx_node1 (d := d + 0) w (w.1 207 a0.toInt.toNat) ) (fun v w1 hq => ?_)
    obtain ⟨rfl, hw9⟩ := hq; rw [hw9]; clear hw9
    obtain ⟨b3, hs⟩ := hs
    refine tm_k (pc' := 35) (L' := [some (.ref 127), some (.int a0)]) (S' := [.int (w.1 131 ((g_Tx_node1 w (w.1 207 a0.toInt.toNat)).toInt.toNat))]) (w' := w) rfl b3 ?_
    exact tm_r rfl (⟨by unfold g_Mo_kind; rw [if_pos h1], rfl⟩)
  · rw [if_neg h1] at hs
    refine tm_go 2 (pc' := 35) (L' := [some (.ref 127), some (.int a0)]) (S' := [.int 23]) (w' := w) rfl ?_
    exact tm_r rfl (⟨by unfold g_Mo_kind; rw [if_neg h1], rfl⟩)
def s_Mo_kids (w : MW) (a0 : Int32) : Prop := ((0 ≤ (g_Tx_node1 w a0).toInt ∧ (g_Tx_node1 w a0).toInt < 600) ∧ True)
def g_Mo_kids (w : MW) (a0 : Int32) : Int32 := (w.1 136 ((g_Tx_node1 w a0).toInt.toNat))
set_option maxHeartbeats 4000000 in
set_option maxRecDepth 100000 in
theorem c_Mo_kids {d : Nat} (w : MW) (a0 : Int32)  (hs : s_Mo_kids w a0) : Tc (d + 1) 104 [.ref 127, .int a0] w (fun v w1 => v = some (.int (g_Mo_kids w a0)) ∧ w1 = w) := by
  unfold s_Mo_kids at hs
  refine tm_go 6 (pc' := 12) (L' := [some (.ref 127), some (.int a0)]) (S' := [.int a0, .ref 129, .ref 136]) (w' := w) rfl ?_
  refine tm_c rfl (Nat.le_of_ble_eq_true rfl) (c_Tx_node1 (d := d + 0) w a0 ) (fun v w1 hq => ?_)
  obtain ⟨rfl, hw9⟩ := hq; rw [hw9]; clear hw9
  obtain ⟨b1, hs⟩ := hs
  refine tm_k (pc' := 16) (L' := [some (.ref 127), some (.int a0)]) (S' := [.int (w.1 136 ((g_Tx_node1 w a0).toInt.toNat))]) (w' := w) rfl b1 ?_
  exact tm_r rfl (⟨by unfold g_Mo_kids; rfl, rfl⟩)
def s_Mo_goRamp (w : MW) (a0 : Int32) : Prop := ((0 ≤ a0.toInt ∧ a0.toInt < 502) ∧ ((0 ≤ a0.toInt ∧ a0.toInt < 502) ∧ ((0 ≤ (g_Tx_node1 w (w.1 207 a0.toInt.toNat)).toInt ∧ (g_Tx_node1 w (w.1 207 a0.toInt.toNat)).toInt < 600) ∧ ((0 ≤ a0.toInt ∧ a0.toInt < 502) ∧ (if ¬ (w.1 211 a0.toInt.toNat).toInt = 0 then ((0 ≤ a0.toInt ∧ a0.toInt < 502) ∧ ((0 ≤ (Int64.toInt32 (w.2.1 132 ((g_Tx_node1 w (w.1 207 a0.toInt.toNat)).toInt.toNat))).toInt ∧ (Int64.toInt32 (w.2.1 132 ((g_Tx_node1 w (w.1 207 a0.toInt.toNat)).toInt.toNat))).toInt < 40) ∧ True)) else ((0 ≤ a0.toInt ∧ a0.toInt < 502) ∧ (if (lg_cmp (Int32.toInt64 ((w.1 127 74) - (w.1 214 a0.toInt.toNat))) (w.2.1 215 a0.toInt.toNat)).toInt < 0 then (if (lg_cmp (Int32.toInt64 ((w.1 127 74) - (w.1 214 a0.toInt.toNat))) 0).toInt ≤ 0 then True else ((0 ≤ a0.toInt ∧ a0.toInt < 502) ∧ ((0 ≤ a0.toInt ∧ a0.toInt < 502) ∧ ((0 ≤ a0.toInt ∧ a0.toInt < 502) ∧ ((¬ (w.2.1 215 a0.toInt.toNat).toInt = 0) ∧ ((0 ≤ a0.toInt ∧ a0.toInt < 502) ∧ ((¬ (w.2.1 215 a0.toInt.toNat).toInt = 0) ∧ (if 0 ≤ (lg_cmp ((((w.2.1 216 a0.toInt.toNat) - (w.2.1 217 a0.toInt.toNat)) * (Int32.toInt64 ((w.1 127 74) - (w.1 214 a0.toInt.toNat)))) - (((w.2.1 216 a0.toInt.toNat) - (w.2.1 217 a0.toInt.toNat)) * (Int32.toInt64 ((w.1 127 74) - (w.1 214 a0.toInt.toNat)))) / (w.2.1 215 a0.toInt.toNat) * (w.2.1 215 a0.toInt.toNat)) 0).toInt then ((0 ≤ a0.toInt ∧ a0.toInt < 502) ∧ ((0 ≤ (Int64.toInt32 (w.2.1 132 ((g_Tx_node1 w (w.1 207 a0.toInt.toNat)).toInt.toNat))).toInt ∧ (Int64.toInt32 (w.2.1 132 ((g_Tx_node1 w (w.1 207 a0.toInt.toNat)).toInt.toNat))).toInt < 40) ∧ True)) else ((0 ≤ a0.toInt ∧ a0.toInt < 502) ∧ ((0 ≤ (Int64.toInt32 (w.2.1 132 ((g_Tx_node1 w (w.1 207 a0.toInt.toNat)).toInt.toNat))).toInt ∧ (Int64.toInt32 (w.2.1 132 ((g_Tx_node1 w (w.1 207 a0.toInt.toNat)).toInt.toNat))).toInt < 40) ∧ True)))))))))) else ((0 ≤ a0.toInt ∧ a0.toInt < 502) ∧ ((0 ≤ (Int64.toInt32 (w.2.1 132 ((g_Tx_node1 w (w.1 207 a0.toInt.toNat)).toInt.toNat))).toInt ∧ (Int64.toInt32 (w.2.1 132 ((g_Tx_node1 w (w.1 207 a0.toInt.toNat)).toInt.toNat))).toInt < 40) ∧ True)))))))))
def g_Mo_goRamp (w : MW) (a0 : Int32) : Int32 := (if ¬ (w.1 211 a0.toInt.toNat).toInt = 0 then 1 else (if (lg_cmp (Int32.toInt64 ((w.1 127 74) - (w.1 214 a0.toInt.toNat))) (w.2.1 215 a0.toInt.toNat)).toInt < 0 then (if (lg_cmp (Int32.toInt64 ((w.1 127 74) - (w.1 214 a0.toInt.toNat))) 0).toInt ≤ 0 then 0 else (if 0 ≤ (lg_cmp ((((w.2.1 216 a0.toInt.toNat) - (w.2.1 217 a0.toInt.toNat)) * (Int32.toInt64 ((w.1 127 74) - (w.1 214 a0.toInt.toNat)))) - (((w.2.1 216 a0.toInt.toNat) - (w.2.1 217 a0.toInt.toNat)) * (Int32.toInt64 ((w.1 127 74) - (w.1 214 a0.toInt.toNat)))) / (w.2.1 215 a0.toInt.toNat) * (w.2.1 215 a0.toInt.toNat)) 0).toInt then 0 else 0)) else 1))
def u_Mo_goRamp (w : MW) (a0 : Int32) : MW := (if ¬ (w.1 211 a0.toInt.toNat).toInt = 0 then (sJ w 206 ((Int64.toInt32 (w.2.1 132 ((g_Tx_node1 w (w.1 207 a0.toInt.toNat)).toInt.toNat))).toInt.toNat) (w.2.1 216 a0.toInt.toNat)) else (if (lg_cmp (Int32.toInt64 ((w.1 127 74) - (w.1 214 a0.toInt.toNat))) (w.2.1 215 a0.toInt.toNat)).toInt < 0 then (if (lg_cmp (Int32.toInt64 ((w.1 127 74) - (w.1 214 a0.toInt.toNat))) 0).toInt ≤ 0 then w else (if 0 ≤ (lg_cmp ((((w.2.1 216 a0.toInt.toNat) - (w.2.1 217 a0.toInt.toNat)) * (Int32.toInt64 ((w.1 127 74) - (w.1 214 a0.toInt.toNat)))) - (((w.2.1 216 a0.toInt.toNat) - (w.2.1 217 a0.toInt.toNat)) * (Int32.toInt64 ((w.1 127 74) - (w.1 214 a0.toInt.toNat)))) / (w.2.1 215 a0.toInt.toNat) * (w.2.1 215 a0.toInt.toNat)) 0).toInt then (sJ w 206 ((Int64.toInt32 (w.2.1 132 ((g_Tx_node1 w (w.1 207 a0.toInt.toNat)).toInt.toNat))).toInt.toNat) ((w.2.1 217 a0.toInt.toNat) + (((((w.2.1 216 a0.toInt.toNat) - (w.2.1 217 a0.toInt.toNat)) * (Int32.toInt64 ((w.1 127 74) - (w.1 214 a0.toInt.toNat)))) / (w.2.1 215 a0.toInt.toNat)) - (0 : Int64)))) else (sJ w 206 ((Int64.toInt32 (w.2.1 132 ((g_Tx_node1 w (w.1 207 a0.toInt.toNat)).toInt.toNat))).toInt.toNat) ((w.2.1 217 a0.toInt.toNat) + (((((w.2.1 216 a0.toInt.toNat) - (w.2.1 217 a0.toInt.toNat)) * (Int32.toInt64 ((w.1 127 74) - (w.1 214 a0.toInt.toNat)))) / (w.2.1 215 a0.toInt.toNat)) - (1 : Int64)))))) else (sJ w 206 ((Int64.toInt32 (w.2.1 132 ((g_Tx_node1 w (w.1 207 a0.toInt.toNat)).toInt.toNat))).toInt.toNat) (w.2.1 216 a0.toInt.toNat))))
theorem ur_Mo_goRamp (w : MW) (a0 : Int32) : (u_Mo_goRamp w a0).2.2 = w.2.2 := (ite_R rfl (ite_R (ite_R rfl (ite_R rfl rfl)) rfl))
set_option maxHeartbeats 4000000 in
set_option maxRecDepth 100000 in
theorem c_Mo_goRamp {d : Nat} (w : MW) (a0 : Int32)  (hs : s_Mo_goRamp w a0) : Tc (d + 1) 114 [.ref 127, .int a0] w (fun v w1 => v = some (.int (g_Mo_goRamp w a0)) ∧ w1 = u_Mo_goRamp w a0) := by
  unfold s_Mo_goRamp at hs
  refine tm_go 5 (pc' := 9) (L' := [some (.ref 127), some (.int a0), none, none, none, none, none, none, none]) (S' := [.int a0, .ref 214, .int (w.1 127 74)]) (w' := w) rfl ?_
  obtain ⟨b1, hs⟩ := hs
  refine tm_k (pc' := 10) (L' := [some (.ref 127), some (.int a0), none, none, none, none, none, none, none]) (S' := [.int (w.1 214 a0.toInt.toNat), .int (w.1 127 74)]) (w' := w) rfl b1 ?_
  refine tm_go 11 (pc' := 29) (L' := [some (.ref 127), some (.int a0), some (.long (Int32.toInt64 ((w.1 127 74) - (w.1 214 a0.toInt.toNat)))), none, none, none, none, none, none]) (S' := [.int a0, .ref 207, .ref 129, .ref 132]) (w' := w) rfl ?_
  obtain ⟨b2, hs⟩ := hs
  refine tm_k (pc' := 30) (L' := [some (.ref 127), some (.int a0), some (.long (Int32.toInt64 ((w.1 127 74) - (w.1 214 a0.toInt.toNat)))), none, none, none, none, none, none]) (S' := [.int (w.1 207 a0.toInt.toNat), .ref 129, .ref 132]) (w' := w) rfl b2 ?_
  refine tm_c rfl (Nat.le_of_ble_eq_true rfl) (c_Tx_node1 (d := d + 0) w (w.1 207 a0.toInt.toNat) ) (fun v w1 hq => ?_)
  obtain ⟨rfl, hw9⟩ := hq; rw [hw9]; clear hw9
  obtain ⟨b3, hs⟩ := hs
  refine tm_k (pc' := 34) (L' := [some (.ref 127), some (.int a0), some (.long (Int32.toInt64 ((w.1 127 74) - (w.1 214 a0.toInt.toNat)))), none, none, none, none, none, none]) (S' := [.long (w.2.1 132 ((g_Tx_node1 w (w.1 207 a0.toInt.toNat)).toInt.toNat))]) (w' := w) rfl b3 ?_
  refine tm_go 5 (pc' := 42) (L' := [some (.ref 127), some (.int a0), some (.long (Int32.toInt64 ((w.1 127 74) - (w.1 214 a0.toInt.toNat)))), none, some (.int (Int64.toInt32 (w.2.1 132 ((g_Tx_node1 w (w.1 207 a0.toInt.toNat)).toInt.toNat)))), none, none, none, none]) (S' := [.int a0, .ref 211]) (w' := w) rfl ?_
  obtain ⟨b4, hs⟩ := hs
  refine tm_k (pc' := 43) (L' := [some (.ref 127), some (.int a0), some (.long (Int32.toInt64 ((w.1 127 74) - (w.1 214 a0.toInt.toNat)))), none, some (.int (Int64.toInt32 (w.2.1 132 ((g_Tx_node1 w (w.1 207 a0.toInt.toNat)).toInt.toNat)))), none, none, none, none]) (S' := [.int (w.1 211 a0.toInt.toNat)]) (w' := w) rfl b4 ?_
  refine tm_i (p1 := 57) (p2 := 46) rfl (fun h1 => ?_) (fun h1 => ?_)
  · rw [if_pos h1] at hs
    refine tm_go 6 (pc' := 68) (L' := [some (.ref 127), some (.int a0), some (.long (Int32.toInt64 ((w.1 127 74) - (w.1 214 a0.toInt.toNat)))), none, some (.int (Int64.toInt32 (w.2.1 132 ((g_Tx_node1 w (w.1 207 a0.toInt.toNat)).toInt.toNat)))), none, none, none, none]) (S' := [.int a0, .ref 216, .int (Int64.toInt32 (w.2.1 132 ((g_Tx_node1 w (w.1 207 a0.toInt.toNat)).toInt.toNat))), .ref 206]) (w' := w) rfl ?_
    obtain ⟨b5, hs⟩ := hs
    refine tm_k (pc' := 69) (L' := [some (.ref 127), some (.int a0), some (.long (Int32.toInt64 ((w.1 127 74) - (w.1 214 a0.toInt.toNat)))), none, some (.int (Int64.toInt32 (w.2.1 132 ((g_Tx_node1 w (w.1 207 a0.toInt.toNat)).toInt.toNat)))), none, none, none, none]) (S' := [.long (w.2.1 216 a0.toInt.toNat), .int (Int64.toInt32 (w.2.1 132 ((g_Tx_node1 w (w.1 207 a0.toInt.toNat)).toInt.toNat))), .ref 206]) (w' := w) rfl b5 ?_
    obtain ⟨b6, hs⟩ := hs
    refine tm_k (pc' := 70) (L' := [some (.ref 127), some (.int a0), some (.long (Int32.toInt64 ((w.1 127 74) - (w.1 214 a0.toInt.toNat)))), none, some (.int (Int64.toInt32 (w.2.1 132 ((g_Tx_node1 w (w.1 207 a0.toInt.toNat)).toInt.toNat)))), none, none, none, none]) (S' := []) (w' := (sJ w 206 ((Int64.toInt32 (w.2.1 132 ((g_Tx_node1 w (w.1 207 a0.toInt.toNat)).toInt.toNat))).toInt.toNat) (w.2.1 216 a0.toInt.toNat))) rfl b6 ?_
    refine tm_go 1 (pc' := 71) (L' := [some (.ref 127), some (.int a0), some (.long (Int32.toInt64 ((w.1 127 74) - (w.1 214 a0.toInt.toNat)))), none, some (.int (Int64.toInt32 (w.2.1 132 ((g_Tx_node1 w (w.1 207 a0.toInt.toNat)).toInt.toNat)))), none, none, none, none]) (S' := [.int 1]) (w' := (sJ w 206 ((Int64.toInt32 (w.2.1 132 ((g_Tx_node1 w (w.1 207 a0.toInt.toNat)).toInt.toNat))).toInt.toNat) (w.2.1 216 a0.toInt.toNat))) rfl ?_
    exact tm_r rfl (⟨by unfold g_Mo_goRamp; rw [if_pos h1], by unfold u_Mo_goRamp; rw [if_pos h1]⟩)
  · rw [if_neg h1] at hs
    refine tm_go 4 (pc' := 52) (L' := [some (.ref 127), some (.int a0), some (.long (Int32.toInt64 ((w.1 127 74) - (w.1 214 a0.toInt.toNat)))), none, some (.int (Int64.toInt32 (w.2.1 132 ((g_Tx_node1 w (w.1 207 a0.toInt.toNat)).toInt.toNat)))), none, none, none, none]) (S' := [.int a0, .ref 215, .long (Int32.toInt64 ((w.1 127 74) - (w.1 214 a0.toInt.toNat)))]) (w' := w) rfl ?_
    obtain ⟨b7, hs⟩ := hs
    refine tm_k (pc' := 53) (L' := [some (.ref 127), some (.int a0), some (.long (Int32.toInt64 ((w.1 127 74) - (w.1 214 a0.toInt.toNat)))), none, some (.int (Int64.toInt32 (w.2.1 132 ((g_Tx_node1 w (w.1 207 a0.toInt.toNat)).toInt.toNat)))), none, none, none, none]) (S' := [.long (w.2.1 215 a0.toInt.toNat), .long (Int32.toInt64 ((w.1 127 74) - (w.1 214 a0.toInt.toNat)))]) (w' := w) rfl b7 ?_
    refine tm_go 1 (pc' := 54) (L' := [some (.ref 127), some (.int a0), some (.long (Int32.toInt64 ((w.1 127 74) - (w.1 214 a0.toInt.toNat)))), none, some (.int (Int64.toInt32 (w.2.1 132 ((g_Tx_node1 w (w.1 207 a0.toInt.toNat)).toInt.toNat)))), none, none, none, none]) (S' := [.int (lg_cmp (Int32.toInt64 ((w.1 127 74) - (w.1 214 a0.toInt.toNat))) (w.2.1 215 a0.toInt.toNat))]) (w' := w) rfl ?_
    refine tm_i (p1 := 72) (p2 := 57) rfl (fun h2 => ?_) (fun h2 => ?_)
    · rw [if_pos h2] at hs
      refine tm_go 3 (pc' := 75) (L' := [some (.ref 127), some (.int a0), some (.long (Int32.toInt64 ((w.1 127 74) - (w.1 214 a0.toInt.toNat)))), none, some (.int (Int64.toInt32 (w.2.1 132 ((g_Tx_node1 w (w.1 207 a0.toInt.toNat)).toInt.toNat)))), none, none, none, none]) (S' := [.int (lg_cmp (Int32.toInt64 ((w.1 127 74) - (w.1 214 a0.toInt.toNat))) 0)]) (w' := w) rfl ?_
      refine tm_i (p1 := 146) (p2 := 78) rfl (fun h3 => ?_) (fun h3 => ?_)
      · rw [if_pos h3] at hs
        refine tm_go 1 (pc' := 147) (L' := [some (.ref 127), some (.int a0), some (.long (Int32.toInt64 ((w.1 127 74) - (w.1 214 a0.toInt.toNat)))), none, some (.int (Int64.toInt32 (w.2.1 132 ((g_Tx_node1 w (w.1 207 a0.toInt.toNat)).toInt.toNat)))), none, none, none, none]) (S' := [.int 0]) (w' := w) rfl ?_
        exact tm_r rfl (⟨by unfold g_Mo_goRamp; rw [if_neg h1, if_pos h2, if_pos h3], by unfold u_Mo_goRamp; rw [if_neg h1, if_pos h2, if_pos h3]⟩)
      · rw [if_neg h3] at hs
        refine tm_go 3 (pc' := 83) (L' := [some (.ref 127), some (.int a0), some (.long (Int32.toInt64 ((w.1 127 74) - (w.1 214 a0.toInt.toNat)))), none, some (.int (Int64.toInt32 (w.2.1 132 ((g_Tx_node1 w (w.1 207 a0.toInt.toNat)).toInt.toNat)))), none, none, none, none]) (S' := [.int a0, .ref 216]) (w' := w) rfl ?_
        obtain ⟨b8, hs⟩ := hs
        refine tm_k (pc' := 84) (L' := [some (.ref 127), some (.int a0), some (.long (Int32.toInt64 ((w.1 127 74) - (w.1 214 a0.toInt.toNat)))), none, some (.int (Int64.toInt32 (w.2.1 132 ((g_Tx_node1 w (w.1 207 a0.toInt.toNat)).toInt.toNat)))), none, none, none, none]) (S' := [.long (w.2.1 216 a0.toInt.toNat)]) (w' := w) rfl b8 ?_
        refine tm_go 3 (pc' := 89) (L' := [some (.ref 127), some (.int a0), some (.long (Int32.toInt64 ((w.1 127 74) - (w.1 214 a0.toInt.toNat)))), none, some (.int (Int64.toInt32 (w.2.1 132 ((g_Tx_node1 w (w.1 207 a0.toInt.toNat)).toInt.toNat)))), none, none, none, none]) (S' := [.int a0, .ref 217, .long (w.2.1 216 a0.toInt.toNat)]) (w' := w) rfl ?_
        obtain ⟨b9, hs⟩ := hs
        refine tm_k (pc' := 90) (L' := [some (.ref 127), some (.int a0), some (.long (Int32.toInt64 ((w.1 127 74) - (w.1 214 a0.toInt.toNat)))), none, some (.int (Int64.toInt32 (w.2.1 132 ((g_Tx_node1 w (w.1 207 a0.toInt.toNat)).toInt.toNat)))), none, none, none, none]) (S' := [.long (w.2.1 217 a0.toInt.toNat), .long (w.2.1 216 a0.toInt.toNat)]) (w' := w) rfl b9 ?_
        refine tm_go 8 (pc' := 102) (L' := [some (.ref 127), some (.int a0), some (.long (Int32.toInt64 ((w.1 127 74) - (w.1 214 a0.toInt.toNat)))), none, some (.int (Int64.toInt32 (w.2.1 132 ((g_Tx_node1 w (w.1 207 a0.toInt.toNat)).toInt.toNat)))), some (.long (((w.2.1 216 a0.toInt.toNat) - (w.2.1 217 a0.toInt.toNat)) * (Int32.toInt64 ((w.1 127 74) - (w.1 214 a0.toInt.toNat))))), none, none, none]) (S' := [.int a0, .ref 215, .long (((w.2.1 216 a0.toInt.toNat) - (w.2.1 217 a0.toInt.toNat)) * (Int32.toInt64 ((w.1 127 74) - (w.1 214 a0.toInt.toNat))))]) (w' := w) rfl ?_
        obtain ⟨b10, hs⟩ := hs
        refine tm_k (pc' := 103) (L' := [some (.ref 127), some (.int a0), some (.long (Int32.toInt64 ((w.1 127 74) - (w.1 214 a0.toInt.toNat)))), none, some (.int (Int64.toInt32 (w.2.1 132 ((g_Tx_node1 w (w.1 207 a0.toInt.toNat)).toInt.toNat)))), some (.long (((w.2.1 216 a0.toInt.toNat) - (w.2.1 217 a0.toInt.toNat)) * (Int32.toInt64 ((w.1 127 74) - (w.1 214 a0.toInt.toNat))))), none, none, none]) (S' := [.long (w.2.1 215 a0.toInt.toNat), .long (((w.2.1 216 a0.toInt.toNat) - (w.2.1 217 a0.toInt.toNat)) * (Int32.toInt64 ((w.1 127 74) - (w.1 214 a0.toInt.toNat))))]) (w' := w) rfl b10 ?_
        obtain ⟨b11, hs⟩ := hs
        refine tm_k (pc' := 104) (L' := [some (.ref 127), some (.int a0), some (.long (Int32.toInt64 ((w.1 127 74) - (w.1 214 a0.toInt.toNat)))), none, some (.int (Int64.toInt32 (w.2.1 132 ((g_Tx_node1 w (w.1 207 a0.toInt.toNat)).toInt.toNat)))), some (.long (((w.2.1 216 a0.toInt.toNat) - (w.2.1 217 a0.toInt.toNat)) * (Int32.toInt64 ((w.1 127 74) - (w.1 214 a0.toInt.toNat))))), none, none, none]) (S' := [.long ((((w.2.1 216 a0.toInt.toNat) - (w.2.1 217 a0.toInt.toNat)) * (Int32.toInt64 ((w.1 127 74) - (w.1 214 a0.toInt.toNat)))) / (w.2.1 215 a0.toInt.toNat))]) (w' := w) rfl b11 ?_
        refine tm_go 6 (pc' := 115) (L' := [some (.ref 127), some (.int a0), some (.long (Int32.toInt64 ((w.1 127 74) - (w.1 214 a0.toInt.toNat)))), none, some (.int (Int64.toInt32 (w.2.1 132 ((g_Tx_node1 w (w.1 207 a0.toInt.toNat)).toInt.toNat)))), some (.long (((w.2.1 216 a0.toInt.toNat) - (w.2.1 217 a0.toInt.toNat)) * (Int32.toInt64 ((w.1 127 74) - (w.1 214 a0.toInt.toNat))))), none, some (.long ((((w.2.1 216 a0.toInt.toNat) - (w.2.1 217 a0.toInt.toNat)) * (Int32.toInt64 ((w.1 127 74) - (w.1 214 a0.toInt.toNat)))) / (w.2.1 215 a0.toInt.toNat))), none]) (S' := [.int a0, .ref 215, .long (((w.2.1 216 a0.toInt.toNat) - (w.2.1 217 a0.toInt.toNat)) * (Int32.toInt64 ((w.1 127 74) - (w.1 214 a0.toInt.toNat)))), .long ((((w.2.1 216 a0.toInt.toNat) - (w.2.1 217 a0.toInt.toNat)) * (Int32.toInt64 ((w.1 127 74) - (w.1 214 a0.toInt.toNat)))) / (w.2.1 215 a0.toInt.toNat))]) (w' := w) rfl ?_
        obtain ⟨b12, hs⟩ := hs
        refine tm_k (pc' := 116) (L' := [some (.ref 127), some (.int a0), some (.long (Int32.toInt64 ((w.1 127 74) - (w.1 214 a0.toInt.toNat)))), none, some (.int (Int64.toInt32 (w.2.1 132 ((g_Tx_node1 w (w.1 207 a0.toInt.toNat)).toInt.toNat)))), some (.long (((w.2.1 216 a0.toInt.toNat) - (w.2.1 217 a0.toInt.toNat)) * (Int32.toInt64 ((w.1 127 74) - (w.1 214 a0.toInt.toNat))))), none, some (.long ((((w.2.1 216 a0.toInt.toNat) - (w.2.1 217 a0.toInt.toNat)) * (Int32.toInt64 ((w.1 127 74) - (w.1 214 a0.toInt.toNat)))) / (w.2.1 215 a0.toInt.toNat))), none]) (S' := [.long (w.2.1 215 a0.toInt.toNat), .long (((w.2.1 216 a0.toInt.toNat) - (w.2.1 217 a0.toInt.toNat)) * (Int32.toInt64 ((w.1 127 74) - (w.1 214 a0.toInt.toNat)))), .long ((((w.2.1 216 a0.toInt.toNat) - (w.2.1 217 a0.toInt.toNat)) * (Int32.toInt64 ((w.1 127 74) - (w.1 214 a0.toInt.toNat)))) / (w.2.1 215 a0.toInt.toNat))]) (w' := w) rfl b12 ?_
        obtain ⟨b13, hs⟩ := hs
        refine tm_k (pc' := 117) (L' := [some (.ref 127), some (.int a0), some (.long (Int32.toInt64 ((w.1 127 74) - (w.1 214 a0.toInt.toNat)))), none, some (.int (Int64.toInt32 (w.2.1 132 ((g_Tx_node1 w (w.1 207 a0.toInt.toNat)).toInt.toNat)))), some (.long (((w.2.1 216 a0.toInt.toNat) - (w.2.1 217 a0.toInt.toNat)) * (Int32.toInt64 ((w.1 127 74) - (w.1 214 a0.toInt.toNat))))), none, some (.long ((((w.2.1 216 a0.toInt.toNat) - (w.2.1 217 a0.toInt.toNat)) * (Int32.toInt64 ((w.1 127 74) - (w.1 214 a0.toInt.toNat)))) / (w.2.1 215 a0.toInt.toNat))), none]) (S' := [.long ((((w.2.1 216 a0.toInt.toNat) - (w.2.1 217 a0.toInt.toNat)) * (Int32.toInt64 ((w.1 127 74) - (w.1 214 a0.toInt.toNat)))) - (((w.2.1 216 a0.toInt.toNat) - (w.2.1 217 a0.toInt.toNat)) * (Int32.toInt64 ((w.1 127 74) - (w.1 214 a0.toInt.toNat)))) / (w.2.1 215 a0.toInt.toNat) * (w.2.1 215 a0.toInt.toNat)), .long ((((w.2.1 216 a0.toInt.toNat) - (w.2.1 217 a0.toInt.toNat)) * (Int32.toInt64 ((w.1 127 74) - (w.1 214 a0.toInt.toNat)))) / (w.2.1 215 a0.toInt.toNat))]) (w' := w) rfl b13 ?_
        refine tm_go 2 (pc' := 119) (L' := [some (.ref 127), some (.int a0), some (.long (Int32.toInt64 ((w.1 127 74) - (w.1 214 a0.toInt.toNat)))), none, some (.int (Int64.toInt32 (w.2.1 132 ((g_Tx_node1 w (w.1 207 a0.toInt.toNat)).toInt.toNat)))), some (.long (((w.2.1 216 a0.toInt.toNat) - (w.2.1 217 a0.toInt.toNat)) * (Int32.toInt64 ((w.1 127 74) - (w.1 214 a0.toInt.toNat))))), none, some (.long ((((w.2.1 216 a0.toInt.toNat) - (w.2.1 217 a0.toInt.toNat)) * (Int32.toInt64 ((w.1 127 74) - (w.1 214 a0.toInt.toNat)))) / (w.2.1 215 a0.toInt.toNat))), none]) (S' := [.int (lg_cmp ((((w.2.1 216 a0.toInt.toNat) - (w.2.1 217 a0.toInt.toNat)) * (Int32.toInt64 ((w.1 127 74) - (w.1 214 a0.toInt.toNat)))) - (((w.2.1 216 a0.toInt.toNat) - (w.2.1 217 a0.toInt.toNat)) * (Int32.toInt64 ((w.1 127 74) - (w.1 214 a0.toInt.toNat)))) / (w.2.1 215 a0.toInt.toNat) * (w.2.1 215 a0.toInt.toNat)) 0), .long ((((w.2.1 216 a0.toInt.toNat) - (w.2.1 217 a0.toInt.toNat)) * (Int32.toInt64 ((w.1 127 74) - (w.1 214 a0.toInt.toNat)))) / (w.2.1 215 a0.toInt.toNat))]) (w' := w) rfl ?_
        refine tm_i (p1 := 126) (p2 := 122) rfl (fun h4 => ?_) (fun h4 => ?_)
        · rw [if_pos h4] at hs
          refine tm_go 9 (pc' := 141) (L' := [some (.ref 127), some (.int a0), some (.long (Int32.toInt64 ((w.1 127 74) - (w.1 214 a0.toInt.toNat)))), none, some (.int (Int64.toInt32 (w.2.1 132 ((g_Tx_node1 w (w.1 207 a0.toInt.toNat)).toInt.toNat)))), some (.long (((w.2.1 216 a0.toInt.toNat) - (w.2.1 217 a0.toInt.toNat)) * (Int32.toInt64 ((w.1 127 74) - (w.1 214 a0.toInt.toNat))))), none, some (.long (((((w.2.1 216 a0.toInt.toNat) - (w.2.1 217 a0.toInt.toNat)) * (Int32.toInt64 ((w.1 127 74) - (w.1 214 a0.toInt.toNat)))) / (w.2.1 215 a0.toInt.toNat)) - (0 : Int64))), none]) (S' := [.int a0, .ref 217, .int (Int64.toInt32 (w.2.1 132 ((g_Tx_node1 w (w.1 207 a0.toInt.toNat)).toInt.toNat))), .ref 206]) (w' := w) rfl ?_
          obtain ⟨b14, hs⟩ := hs
          refine tm_k (pc' := 142) (L' := [some (.ref 127), some (.int a0), some (.long (Int32.toInt64 ((w.1 127 74) - (w.1 214 a0.toInt.toNat)))), none, some (.int (Int64.toInt32 (w.2.1 132 ((g_Tx_node1 w (w.1 207 a0.toInt.toNat)).toInt.toNat)))), some (.long (((w.2.1 216 a0.toInt.toNat) - (w.2.1 217 a0.toInt.toNat)) * (Int32.toInt64 ((w.1 127 74) - (w.1 214 a0.toInt.toNat))))), none, some (.long (((((w.2.1 216 a0.toInt.toNat) - (w.2.1 217 a0.toInt.toNat)) * (Int32.toInt64 ((w.1 127 74) - (w.1 214 a0.toInt.toNat)))) / (w.2.1 215 a0.toInt.toNat)) - (0 : Int64))), none]) (S' := [.long (w.2.1 217 a0.toInt.toNat), .int (Int64.toInt32 (w.2.1 132 ((g_Tx_node1 w (w.1 207 a0.toInt.toNat)).toInt.toNat))), .ref 206]) (w' := w) rfl b14 ?_
          refine tm_go 2 (pc' := 145) (L' := [some (.ref 127), some (.int a0), some (.long (Int32.toInt64 ((w.1 127 74) - (w.1 214 a0.toInt.toNat)))), none, some (.int (Int64.toInt32 (w.2.1 132 ((g_Tx_node1 w (w.1 207 a0.toInt.toNat)).toInt.toNat)))), some (.long (((w.2.1 216 a0.toInt.toNat) - (w.2.1 217 a0.toInt.toNat)) * (Int32.toInt64 ((w.1 127 74) - (w.1 214 a0.toInt.toNat))))), none, some (.long (((((w.2.1 216 a0.toInt.toNat) - (w.2.1 217 a0.toInt.toNat)) * (Int32.toInt64 ((w.1 127 74) - (w.1 214 a0.toInt.toNat)))) / (w.2.1 215 a0.toInt.toNat)) - (0 : Int64))), none]) (S' := [.long ((w.2.1 217 a0.toInt.toNat) + (((((w.2.1 216 a0.toInt.toNat) - (w.2.1 217 a0.toInt.toNat)) * (Int32.toInt64 ((w.1 127 74) - (w.1 214 a0.toInt.toNat)))) / (w.2.1 215 a0.toInt.toNat)) - (0 : Int64))), .int (Int64.toInt32 (w.2.1 132 ((g_Tx_node1 w (w.1 207 a0.toInt.toNat)).toInt.toNat))), .ref 206]) (w' := w) rfl ?_
          obtain ⟨b15, hs⟩ := hs
          refine tm_k (pc' := 146) (L' := [some (.ref 127), some (.int a0), some (.long (Int32.toInt64 ((w.1 127 74) - (w.1 214 a0.toInt.toNat)))), none, some (.int (Int64.toInt32 (w.2.1 132 ((g_Tx_node1 w (w.1 207 a0.toInt.toNat)).toInt.toNat)))), some (.long (((w.2.1 216 a0.toInt.toNat) - (w.2.1 217 a0.toInt.toNat)) * (Int32.toInt64 ((w.1 127 74) - (w.1 214 a0.toInt.toNat))))), none, some (.long (((((w.2.1 216 a0.toInt.toNat) - (w.2.1 217 a0.toInt.toNat)) * (Int32.toInt64 ((w.1 127 74) - (w.1 214 a0.toInt.toNat)))) / (w.2.1 215 a0.toInt.toNat)) - (0 : Int64))), none]) (S' := []) (w' := (sJ w 206 ((Int64.toInt32 (w.2.1 132 ((g_Tx_node1 w (w.1 207 a0.toInt.toNat)).toInt.toNat))).toInt.toNat) ((w.2.1 217 a0.toInt.toNat) + (((((w.2.1 216 a0.toInt.toNat) - (w.2.1 217 a0.toInt.toNat)) * (Int32.toInt64 ((w.1 127 74) - (w.1 214 a0.toInt.toNat)))) / (w.2.1 215 a0.toInt.toNat)) - (0 : Int64))))) rfl b15 ?_
          refine tm_go 1 (pc' := 147) (L' := [some (.ref 127), some (.int a0), some (.long (Int32.toInt64 ((w.1 127 74) - (w.1 214 a0.toInt.toNat)))), none, some (.int (Int64.toInt32 (w.2.1 132 ((g_Tx_node1 w (w.1 207 a0.toInt.toNat)).toInt.toNat)))), some (.long (((w.2.1 216 a0.toInt.toNat) - (w.2.1 217 a0.toInt.toNat)) * (Int32.toInt64 ((w.1 127 74) - (w.1 214 a0.toInt.toNat))))), none, some (.long (((((w.2.1 216 a0.toInt.toNat) - (w.2.1 217 a0.toInt.toNat)) * (Int32.toInt64 ((w.1 127 74) - (w.1 214 a0.toInt.toNat)))) / (w.2.1 215 a0.toInt.toNat)) - (0 : Int64))), none]) (S' := [.int 0]) (w' := (sJ w 206 ((Int64.toInt32 (w.2.1 132 ((g_Tx_node1 w (w.1 207 a0.toInt.toNat)).toInt.toNat))).toInt.toNat) ((w.2.1 217 a0.toInt.toNat) + (((((w.2.1 216 a0.toInt.toNat) - (w.2.1 217 a0.toInt.toNat)) * (Int32.toInt64 ((w.1 127 74) - (w.1 214 a0.toInt.toNat)))) / (w.2.1 215 a0.toInt.toNat)) - (0 : Int64))))) rfl ?_
          exact tm_r rfl (⟨by unfold g_Mo_goRamp; rw [if_neg h1, if_pos h2, if_neg h3, if_pos h4], by unfold u_Mo_goRamp; rw [if_neg h1, if_pos h2, if_neg h3, if_pos h4]⟩)
        · rw [if_neg h4] at hs
          refine tm_go 10 (pc' := 141) (L' := [some (.ref 127), some (.int a0), some (.long (Int32.toInt64 ((w.1 127 74) - (w.1 214 a0.toInt.toNat)))), none, some (.int (Int64.toInt32 (w.2.1 132 ((g_Tx_node1 w (w.1 207 a0.toInt.toNat)).toInt.toNat)))), some (.long (((w.2.1 216 a0.toInt.toNat) - (w.2.1 217 a0.toInt.toNat)) * (Int32.toInt64 ((w.1 127 74) - (w.1 214 a0.toInt.toNat))))), none, some (.long (((((w.2.1 216 a0.toInt.toNat) - (w.2.1 217 a0.toInt.toNat)) * (Int32.toInt64 ((w.1 127 74) - (w.1 214 a0.toInt.toNat)))) / (w.2.1 215 a0.toInt.toNat)) - (1 : Int64))), none]) (S' := [.int a0, .ref 217, .int (Int64.toInt32 (w.2.1 132 ((g_Tx_node1 w (w.1 207 a0.toInt.toNat)).toInt.toNat))), .ref 206]) (w' := w) rfl ?_
          obtain ⟨b16, hs⟩ := hs
          refine tm_k (pc' := 142) (L' := [some (.ref 127), some (.int a0), some (.long (Int32.toInt64 ((w.1 127 74) - (w.1 214 a0.toInt.toNat)))), none, some (.int (Int64.toInt32 (w.2.1 132 ((g_Tx_node1 w (w.1 207 a0.toInt.toNat)).toInt.toNat)))), some (.long (((w.2.1 216 a0.toInt.toNat) - (w.2.1 217 a0.toInt.toNat)) * (Int32.toInt64 ((w.1 127 74) - (w.1 214 a0.toInt.toNat))))), none, some (.long (((((w.2.1 216 a0.toInt.toNat) - (w.2.1 217 a0.toInt.toNat)) * (Int32.toInt64 ((w.1 127 74) - (w.1 214 a0.toInt.toNat)))) / (w.2.1 215 a0.toInt.toNat)) - (1 : Int64))), none]) (S' := [.long (w.2.1 217 a0.toInt.toNat), .int (Int64.toInt32 (w.2.1 132 ((g_Tx_node1 w (w.1 207 a0.toInt.toNat)).toInt.toNat))), .ref 206]) (w' := w) rfl b16 ?_
          refine tm_go 2 (pc' := 145) (L' := [some (.ref 127), some (.int a0), some (.long (Int32.toInt64 ((w.1 127 74) - (w.1 214 a0.toInt.toNat)))), none, some (.int (Int64.toInt32 (w.2.1 132 ((g_Tx_node1 w (w.1 207 a0.toInt.toNat)).toInt.toNat)))), some (.long (((w.2.1 216 a0.toInt.toNat) - (w.2.1 217 a0.toInt.toNat)) * (Int32.toInt64 ((w.1 127 74) - (w.1 214 a0.toInt.toNat))))), none, some (.long (((((w.2.1 216 a0.toInt.toNat) - (w.2.1 217 a0.toInt.toNat)) * (Int32.toInt64 ((w.1 127 74) - (w.1 214 a0.toInt.toNat)))) / (w.2.1 215 a0.toInt.toNat)) - (1 : Int64))), none]) (S' := [.long ((w.2.1 217 a0.toInt.toNat) + (((((w.2.1 216 a0.toInt.toNat) - (w.2.1 217 a0.toInt.toNat)) * (Int32.toInt64 ((w.1 127 74) - (w.1 214 a0.toInt.toNat)))) / (w.2.1 215 a0.toInt.toNat)) - (1 : Int64))), .int (Int64.toInt32 (w.2.1 132 ((g_Tx_node1 w (w.1 207 a0.toInt.toNat)).toInt.toNat))), .ref 206]) (w' := w) rfl ?_
          obtain ⟨b17, hs⟩ := hs
          refine tm_k (pc' := 146) (L' := [some (.ref 127), some (.int a0), some (.long (Int32.toInt64 ((w.1 127 74) - (w.1 214 a0.toInt.toNat)))), none, some (.int (Int64.toInt32 (w.2.1 132 ((g_Tx_node1 w (w.1 207 a0.toInt.toNat)).toInt.toNat)))), some (.long (((w.2.1 216 a0.toInt.toNat) - (w.2.1 217 a0.toInt.toNat)) * (Int32.toInt64 ((w.1 127 74) - (w.1 214 a0.toInt.toNat))))), none, some (.long (((((w.2.1 216 a0.toInt.toNat) - (w.2.1 217 a0.toInt.toNat)) * (Int32.toInt64 ((w.1 127 74) - (w.1 214 a0.toInt.toNat)))) / (w.2.1 215 a0.toInt.toNat)) - (1 : Int64))), none]) (S' := []) (w' := (sJ w 206 ((Int64.toInt32 (w.2.1 132 ((g_Tx_node1 w (w.1 207 a0.toInt.toNat)).toInt.toNat))).toInt.toNat) ((w.2.1 217 a0.toInt.toNat) + (((((w.2.1 216 a0.toInt.toNat) - (w.2.1 217 a0.toInt.toNat)) * (Int32.toInt64 ((w.1 127 74) - (w.1 214 a0.toInt.toNat)))) / (w.2.1 215 a0.toInt.toNat)) - (1 : Int64))))) rfl b17 ?_
          refine tm_go 1 (pc' := 147) (L' := [some (.ref 127), some (.int a0), some (.long (Int32.toInt64 ((w.1 127 74) - (w.1 214 a0.toInt.toNat)))), none, some (.int (Int64.toInt32 (w.2.1 132 ((g_Tx_node1 w (w.1 207 a0.toInt.toNat)).toInt.toNat)))), some (.long (((w.2.1 216 a0.toInt.toNat) - (w.2.1 217 a0.toInt.toNat)) * (Int32.toInt64 ((w.1 127 74) - (w.1 214 a0.toInt.toNat))))), none, some (.long (((((w.2.1 216 a0.toInt.toNat) - (w.2.1 217 a0.toInt.toNat)) * (Int32.toInt64 ((w.1 127 74) - (w.1 214 a0.toInt.toNat)))) / (w.2.1 215 a0.toInt.toNat)) - (1 : Int64))), none]) (S' := [.int 0]) (w' := (sJ w 206 ((Int64.toInt32 (w.2.1 132 ((g_Tx_node1 w (w.1 207 a0.toInt.toNat)).toInt.toNat))).toInt.toNat) ((w.2.1 217 a0.toInt.toNat) + (((((w.2.1 216 a0.toInt.toNat) - (w.2.1 217 a0.toInt.toNat)) * (Int32.toInt64 ((w.1 127 74) - (w.1 214 a0.toInt.toNat)))) / (w.2.1 215 a0.toInt.toNat)) - (1 : Int64))))) rfl ?_
          exact tm_r rfl (⟨by unfold g_Mo_goRamp; rw [if_neg h1, if_pos h2, if_neg h3, if_neg h4], by unfold u_Mo_goRamp; rw [if_neg h1, if_pos h2, if_neg h3, if_neg h4]⟩)
    · rw [if_neg h2] at hs
      refine tm_go 6 (pc' := 68) (L' := [some (.ref 127), some (.int a0), some (.long (Int32.toInt64 ((w.1 127 74) - (w.1 214 a0.toInt.toNat)))), none, some (.int (Int64.toInt32 (w.2.1 132 ((g_Tx_node1 w (w.1 207 a0.toInt.toNat)).toInt.toNat)))), none, none, none, none]) (S' := [.int a0, .ref 216, .int (Int64.toInt32 (w.2.1 132 ((g_Tx_node1 w (w.1 207 a0.toInt.toNat)).toInt.toNat))), .ref 206]) (w' := w) rfl ?_
      obtain ⟨b18, hs⟩ := hs
      refine tm_k (pc' := 69) (L' := [some (.ref 127), some (.int a0), some (.long (Int32.toInt64 ((w.1 127 74) - (w.1 214 a0.toInt.toNat)))), none, some (.int (Int64.toInt32 (w.2.1 132 ((g_Tx_node1 w (w.1 207 a0.toInt.toNat)).toInt.toNat)))), none, none, none, none]) (S' := [.long (w.2.1 216 a0.toInt.toNat), .int (Int64.toInt32 (w.2.1 132 ((g_Tx_node1 w (w.1 207 a0.toInt.toNat)).toInt.toNat))), .ref 206]) (w' := w) rfl b18 ?_
      obtain ⟨b19, hs⟩ := hs
      refine tm_k (pc' := 70) (L' := [some (.ref 127), some (.int a0), some (.long (Int32.toInt64 ((w.1 127 74) - (w.1 214 a0.toInt.toNat)))), none, some (.int (Int64.toInt32 (w.2.1 132 ((g_Tx_node1 w (w.1 207 a0.toInt.toNat)).toInt.toNat)))), none, none, none, none]) (S' := []) (w' := (sJ w 206 ((Int64.toInt32 (w.2.1 132 ((g_Tx_node1 w (w.1 207 a0.toInt.toNat)).toInt.toNat))).toInt.toNat) (w.2.1 216 a0.toInt.toNat))) rfl b19 ?_
      refine tm_go 1 (pc' := 71) (L' := [some (.ref 127), some (.int a0), some (.long (Int32.toInt64 ((w.1 127 74) - (w.1 214 a0.toInt.toNat)))), none, some (.int (Int64.toInt32 (w.2.1 132 ((g_Tx_node1 w (w.1 207 a0.toInt.toNat)).toInt.toNat)))), none, none, none, none]) (S' := [.int 1]) (w' := (sJ w 206 ((Int64.toInt32 (w.2.1 132 ((g_Tx_node1 w (w.1 207 a0.toInt.toNat)).toInt.toNat))).toInt.toNat) (w.2.1 216 a0.toInt.toNat))) rfl ?_
      exact tm_r rfl (⟨by unfold g_Mo_goRamp; rw [if_neg h1, if_neg h2], by unfold u_Mo_goRamp; rw [if_neg h1, if_neg h2]⟩)
