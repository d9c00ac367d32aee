def s_Mo_raise (w : MW) (a0 : Int32) (b0 : Int32) : Prop := (if (200 : Int32).toInt ≤ (w.1 127 79).toInt then True else ((0 ≤ (w.1 127 79).toInt ∧ (w.1 127 79).toInt < 200) ∧ ((0 ≤ (w.1 127 79).toInt ∧ (w.1 127 79).toInt < 200) ∧ ((0 ≤ (w.1 127 79).toInt ∧ (w.1 127 79).toInt < 200) ∧ True))))
def u_Mo_raise (w : MW) (a0 : Int32) (b0 : Int32) : MW := (if (200 : Int32).toInt ≤ (w.1 127 79).toInt then w else (sI (sI (sI (sI w 218 ((w.1 127 79).toInt.toNat) (w.1 127 78)) 219 ((w.1 127 79).toInt.toNat) a0) 220 ((w.1 127 79).toInt.toNat) b0) 127 79 ((w.1 127 79) + (1 : Int32))))
theorem ur_Mo_raise (w : MW) (a0 : Int32) (b0 : Int32) : (u_Mo_raise w a0 b0).2.2 = w.2.2 := (ite_R rfl rfl)
set_option maxHeartbeats 4000000 in
set_option maxRecDepth 100000 in
theorem c_Mo_raise {d : Nat} (w : MW) (a0 : Int32) (b0 : Int32)  (hs : s_Mo_raise w a0 b0) : Tc (d + 0) 90 [.ref 127, .int a0, .int b0] w (fun v w1 => v = none ∧ w1 = u_Mo_raise w a0 b0) := by
  unfold s_Mo_raise at hs
  refine tm_go 3 (pc' := 7) (L' := [some (.ref 127), some (.int a0), some (.int b0)]) (S' := [.int 200, .int (w.1 127 79)]) (w' := w) rfl ?_
  refine tm_i (p1 := 53) (p2 := 10) rfl (fun h1 => ?_) (fun h1 => ?_)
  · rw [if_pos h1] at hs
    exact tm_r rfl (⟨rfl, by unfold u_Mo_raise; rw [if_pos h1]⟩)
  · rw [if_neg h1] at hs
    refine tm_go 6 (pc' := 22) (L' := [some (.ref 127), some (.int a0), some (.int b0)]) (S' := [.int (w.1 127 78), .int (w.1 127 79), .ref 218]) (w' := w) rfl ?_
    obtain ⟨b1, hs⟩ := hs
    refine tm_k (pc' := 23) (L' := [some (.ref 127), some (.int a0), some (.int b0)]) (S' := []) (w' := (sI w 218 ((w.1 127 79).toInt.toNat) (w.1 127 78))) rfl b1 ?_
    refine tm_go 5 (pc' := 32) (L' := [some (.ref 127), some (.int a0), some (.int b0)]) (S' := [.int a0, .int (w.1 127 79), .ref 219]) (w' := (sI w 218 ((w.1 127 79).toInt.toNat) (w.1 127 78))) rfl ?_
    obtain ⟨b2, hs⟩ := hs
    refine tm_k (pc' := 33) (L' := [some (.ref 127), some (.int a0), some (.int b0)]) (S' := []) (w' := (sI (sI w 218 ((w.1 127 79).toInt.toNat) (w.1 127 78)) 219 ((w.1 127 79).toInt.toNat) a0)) rfl b2 ?_
    refine tm_go 5 (pc' := 42) (L' := [some (.ref 127), some (.int a0), some (.int b0)]) (S' := [.int b0, .int (w.1 127 79), .ref 220]) (w' := (sI (sI w 218 ((w.1 127 79).toInt.toNat) (w.1 127 78)) 219 ((w.1 127 79).toInt.toNat) a0)) rfl ?_
    obtain ⟨b3, hs⟩ := hs
    refine tm_k (pc' := 43) (L' := [some (.ref 127), some (.int a0), some (.int b0)]) (S' := []) (w' := (sI (sI (sI w 218 ((w.1 127 79).toInt.toNat) (w.1 127 78)) 219 ((w.1 127 79).toInt.toNat) a0) 220 ((w.1 127 79).toInt.toNat) b0)) rfl b3 ?_
    refine tm_go 6 (pc' := 53) (L' := [some (.ref 127), some (.int a0), some (.int b0)]) (S' := []) (w' := (sI (sI (sI (sI w 218 ((w.1 127 79).toInt.toNat) (w.1 127 78)) 219 ((w.1 127 79).toInt.toNat) a0) 220 ((w.1 127 79).toInt.toNat) b0) 127 79 ((w.1 127 79) + (1 : Int32)))) rfl ?_
    exact tm_r rfl (⟨rfl, by unfold u_Mo_raise; rw [if_neg h1]⟩)
def s_Mo_isRole (w : MW) (a0 : Int32) (b0 : Int32) : Prop := (if a0.toInt < 0 then True else (if (w.1 129 32).toInt ≤ a0.toInt then True else ((0 ≤ (((40 : Int32) * (w.1 129 12)) + a0).toInt ∧ (((40 : Int32) * (w.1 129 12)) + a0).toInt < 80) ∧ (if ¬ (w.1 141 ((((40 : Int32) * (w.1 129 12)) + a0).toInt.toNat)).toInt = b0.toInt then True else True))))
def g_Mo_isRole (w : MW) (a0 : Int32) (b0 : Int32) : Int32 := (if a0.toInt < 0 then 0 else (if (w.1 129 32).toInt ≤ a0.toInt then 0 else (if ¬ (w.1 141 ((((40 : Int32) * (w.1 129 12)) + a0).toInt.toNat)).toInt = b0.toInt then 0 else 1)))
theorem z_Mo_isRole (w : MW) (a0 : Int32) (b0 : Int32) : (g_Mo_isRole w a0 b0).toInt = 0 ∨ (g_Mo_isRole w a0 b0).toInt = 1 := (ite_Z (by decide) (ite_Z (by decide) (ite_Z (by decide) (by decide))))
set_option maxHeartbeats 4000000 in
set_option maxRecDepth 100000 in
theorem c_Mo_isRole {d : Nat} (w : MW) (a0 : Int32) (b0 : Int32)  (hs : s_Mo_isRole w a0 b0) : Tc (d + 0) 92 [.ref 127, .int a0, .int b0] w (fun v w1 => v = some (.int (g_Mo_isRole w a0 b0)) ∧ w1 = w) := by
  unfold s_Mo_isRole at hs
  refine tm_go 1 (pc' := 1) (L' := [some (.ref 127), some (.int a0), some (.int b0)]) (S' := [.int a0]) (w' := w) rfl ?_
  refine tm_i (p1 := 43) (p2 := 4) rfl (fun h1 => ?_) (fun h1 => ?_)
  · rw [if_pos h1] at hs
    refine tm_go 1 (pc' := 44) (L' := [some (.ref 127), some (.int a0), some (.int b0)]) (S' := [.int 0]) (w' := w) rfl ?_
    exact tm_r rfl (⟨by unfold g_Mo_isRole; rw [if_pos h1], rfl⟩)
  · rw [if_neg h1] at hs
    refine tm_go 4 (pc' := 12) (L' := [some (.ref 127), some (.int a0), some (.int b0)]) (S' := [.int (w.1 129 32), .int a0]) (w' := w) rfl ?_
    refine tm_i (p1 := 43) (p2 := 15) rfl (fun h2 => ?_) (fun h2 => ?_)
    · rw [if_pos h2] at hs
      refine tm_go 1 (pc' := 44) (L' := [some (.ref 127), some (.int a0), some (.int b0)]) (S' := [.int 0]) (w' := w) rfl ?_
      exact tm_r rfl (⟨by unfold g_Mo_isRole; rw [if_neg h1, if_pos h2], rfl⟩)
    · rw [if_neg h2] at hs
      refine tm_go 10 (pc' := 34) (L' := [some (.ref 127), some (.int a0), some (.int b0)]) (S' := [.int (((40 : Int32) * (w.1 129 12)) + a0), .ref 141]) (w' := w) rfl ?_
      obtain ⟨b1, hs⟩ := hs
      refine tm_k (pc' := 35) (L' := [some (.ref 127), some (.int a0), some (.int b0)]) (S' := [.int (w.1 141 ((((40 : Int32) * (w.1 129 12)) + a0).toInt.toNat))]) (w' := w) rfl b1 ?_
      refine tm_go 1 (pc' := 36) (L' := [some (.ref 127), some (.int a0), some (.int b0)]) (S' := [.int b0, .int (w.1 141 ((((40 : Int32) * (w.1 129 12)) + a0).toInt.toNat))]) (w' := w) rfl ?_
      refine tm_i (p1 := 43) (p2 := 39) rfl (fun h3 => ?_) (fun h3 => ?_)
      · rw [if_pos h3] at hs
        refine tm_go 1 (pc' := 44) (L' := [some (.ref 127), some (.int a0), some (.int b0)]) (S' := [.int 0]) (w' := w) rfl ?_
        exact tm_r rfl (⟨by unfold g_Mo_isRole; rw [if_neg h1, if_neg h2, if_pos h3], rfl⟩)
      · rw [if_neg h3] at hs
        refine tm_go 2 (pc' := 44) (L' := [some (.ref 127), some (.int a0), some (.int b0)]) (S' := [.int 1]) (w' := w) rfl ?_
        exact tm_r rfl (⟨by unfold g_Mo_isRole; rw [if_neg h1, if_neg h2, if_neg h3], rfl⟩)
def s_Mo_sense (w : MW) (a0 : Int32) (b0 : Int32) (c0 : Int32) : Prop := ((s_Mo_isRole w a0 30) ∧ (if (g_Mo_isRole w a0 30).toInt = 0 then True else (if b0.toInt < 0 then True else (if b0.toInt ≤ (5 : Int32).toInt then ((0 ≤ a0.toInt ∧ a0.toInt < 40) ∧ ((0 ≤ a0.toInt ∧ a0.toInt < 40) ∧ True)) else True))))
def g_Mo_sense (w : MW) (a0 : Int32) (b0 : Int32) (c0 : Int32) : Int32 := (if (g_Mo_isRole w a0 30).toInt = 0 then 0 else (if b0.toInt < 0 then 0 else (if b0.toInt ≤ (5 : Int32).toInt then 1 else 0)))
def u_Mo_sense (w : MW) (a0 : Int32) (b0 : Int32) (c0 : Int32) : MW := (if (g_Mo_isRole w a0 30).toInt = 0 then w else (if b0.toInt < 0 then w else (if b0.toInt ≤ (5 : Int32).toInt then (sI (sI w 201 a0.toInt.toNat b0) 202 a0.toInt.toNat c0) else w)))
theorem ur_Mo_sense (w : MW) (a0 : Int32) (b0 : Int32) (c0 : Int32) : (u_Mo_sense w a0 b0 c0).2.2 = w.2.2 := (ite_R rfl (ite_R rfl (ite_R rfl rfl)))
theorem z_Mo_sense (w : MW) (a0 : Int32) (b0 : Int32) (c0 : Int32) : (g_Mo_sense w a0 b0 c0).toInt = 0 ∨ (g_Mo_sense w a0 b0 c0).toInt = 1 := (ite_Z (by decide) (ite_Z (by decide) (ite_Z (by decide) (by decide))))
set_option maxHeartbeats 4000000 in
set_option maxRecDepth 100000 in
theorem c_Mo_sense {d : Nat} (w : MW) (a0 : Int32) (b0 : Int32) (c0 : Int32)  (hs : s_Mo_sense w a0 b0 c0) : Tc (d + 1) 93 [.ref 127, .int a0, .int b0, .int c0] w (fun v w1 => v = some (.int (g_Mo_sense w a0 b0 c0)) ∧ w1 = u_Mo_sense w a0 b0 c0) := by
  unfold s_Mo_sense at hs
  refine tm_go 3 (pc' := 4) (L' := [some (.ref 127), some (.int a0), some (.int b0), some (.int c0)]) (S' := [.int 30, .int a0, .ref 127]) (w' := w) rfl ?_
  obtain ⟨b1, hs⟩ := hs
  refine tm_c rfl (Nat.le_of_ble_eq_true rfl) (c_Mo_isRole (d := d + 0) w a0 30  b1) (fun v w1 hq => ?_)
  obtain ⟨rfl, hw9⟩ := hq; rw [hw9]; clear hw9
  refine tm_i (p1 := 19) (p2 := 10) rfl (fun h1 => ?_) (fun h1 => ?_)
  · rw [if_pos h1] at hs
    refine tm_go 1 (pc' := 20) (L' := [some (.ref 127), some (.int a0), some (.int b0), some (.int c0)]) (S' := [.int 0]) (w' := w) rfl ?_
    exact tm_r rfl (⟨by unfold g_Mo_sense; rw [if_pos h1], by unfold u_Mo_sense; rw [if_pos h1]⟩)
  · rw [if_neg h1] at hs
    refine tm_go 1 (pc' := 11) (L' := [some (.ref 127), some (.int a0), some (.int b0), some (.int c0)]) (S' := [.int b0]) (w' := w) rfl ?_
    refine tm_i (p1 := 19) (p2 := 14) rfl (fun h2 => ?_) (fun h2 => ?_)
    · rw [if_pos h2] at hs
      refine tm_go 1 (pc' := 20) (L' := [some (.ref 127), some (.int a0), some (.int b0), some (.int c0)]) (S' := [.int 0]) (w' := w) rfl ?_
      exact tm_r rfl (⟨by unfold g_Mo_sense; rw [if_neg h1, if_pos h2], by unfold u_Mo_sense; rw [if_neg h1, if_pos h2]⟩)
    · rw [if_neg h2] at hs
      refine tm_go 2 (pc' := 16) (L' := [some (.ref 127), some (.int a0), some (.int b0), some (.int c0)]) (S' := [.int 5, .int b0]) (w' := w) rfl ?_
      refine tm_i (p1 := 21) (p2 := 19) rfl (fun h3 => ?_) (fun h3 => ?_)
      · rw [if_pos h3] at hs
        refine tm_go 4 (pc' := 27) (L' := [some (.ref 127), some (.int a0), some (.int b0), some (.int c0)]) (S' := [.int b0, .int a0, .ref 201]) (w' := w) rfl ?_
        obtain ⟨b2, hs⟩ := hs
        refine tm_k (pc' := 28) (L' := [some (.ref 127), some (.int a0), some (.int b0), some (.int c0)]) (S' := []) (w' := (sI w 201 a0.toInt.toNat b0)) rfl b2 ?_
        refine tm_go 4 (pc' := 34) (L' := [some (.ref 127), some (.int a0), some (.int b0), some (.int c0)]) (S' := [.int c0, .int a0, .ref 202]) (w' := (sI w 201 a0.toInt.toNat b0)) rfl ?_
        obtain ⟨b3, hs⟩ := hs
        refine tm_k (pc' := 35) (L' := [some (.ref 127), some (.int a0), some (.int b0), some (.int c0)]) (S' := []) (w' := (sI (sI w 201 a0.toInt.toNat b0) 202 a0.toInt.toNat c0)) rfl b3 ?_
        refine tm_go 1 (pc' := 36) (L' := [some (.ref 127), some (.int a0), some (.int b0), some (.int c0)]) (S' := [.int 1]) (w' := (sI (sI w 201 a0.toInt.toNat b0) 202 a0.toInt.toNat c0)) rfl ?_
        exact tm_r rfl (⟨by unfold g_Mo_sense; rw [if_neg h1, if_neg h2, if_pos h3], by unfold u_Mo_sense; rw [if_neg h1, if_neg h2, if_pos h3]⟩)
      · rw [if_neg h3] at hs
        refine tm_go 1 (pc' := 20) (L' := [some (.ref 127), some (.int a0), some (.int b0), some (.int c0)]) (S' := [.int 0]) (w' := w) rfl ?_
        exact tm_r rfl (⟨by unfold g_Mo_sense; rw [if_neg h1, if_neg h2, if_neg h3], by unfold u_Mo_sense; rw [if_neg h1, if_neg h2, if_neg h3]⟩)
def s_Mo_watch (w : MW) (a0 : Int32) (b0 : Int32) (c0 : Int32) (e0 : Int64) : Prop := (if a0.toInt < 0 then True else (if (15 : Int32).toInt < a0.toInt then True else (if b0.toInt < 0 then True else (if b0.toInt ≤ (5 : Int32).toInt then ((0 ≤ a0.toInt ∧ a0.toInt < 16) ∧ ((0 ≤ a0.toInt ∧ a0.toInt < 16) ∧ ((0 ≤ a0.toInt ∧ a0.toInt < 16) ∧ True))) else True))))
def g_Mo_watch (w : MW) (a0 : Int32) (b0 : Int32) (c0 : Int32) (e0 : Int64) : Int32 := (if a0.toInt < 0 then 0 else (if (15 : Int32).toInt < a0.toInt then 0 else (if b0.toInt < 0 then 0 else (if b0.toInt ≤ (5 : Int32).toInt then 1 else 0))))
def u_Mo_watch (w : MW) (a0 : Int32) (b0 : Int32) (c0 : Int32) (e0 : Int64) : MW := (if a0.toInt < 0 then w else (if (15 : Int32).toInt < a0.toInt then w else (if b0.toInt < 0 then w else (if b0.toInt ≤ (5 : Int32).toInt then (sJ (sI (sI w 203 a0.toInt.toNat b0) 204 a0.toInt.toNat c0) 205 a0.toInt.toNat e0) else w))))
theorem ur_Mo_watch (w : MW) (a0 : Int32) (b0 : Int32) (c0 : Int32) (e0 : Int64) : (u_Mo_watch w a0 b0 c0 e0).2.2 = w.2.2 := (ite_R rfl (ite_R rfl (ite_R rfl (ite_R rfl rfl))))
theorem z_Mo_watch (w : MW) (a0 : Int32) (b0 : Int32) (c0 : Int32) (e0 : Int64) : (g_Mo_watch w a0 b0 c0 e0).toInt = 0 ∨ (g_Mo_watch w a0 b0 c0 e0).toInt = 1 := (ite_Z (by decide) (ite_Z (by decide) (ite_Z (by decide) (ite_Z (by decide) (by decide)))))
set_option maxHeartbeats 4000000 in
set_option maxRecDepth 100000 in
theorem c_Mo_watch {d : Nat} (w : MW) (a0 : Int32) (b0 : Int32) (c0 : Int32) (e0 : Int64)  (hs : s_Mo_watch w a0 b0 c0 e0) : Tc (d + 0) 94 [.ref 127, .int a0, .int b0, .int c0, .long e0] w (fun v w1 => v = some (.int (g_Mo_watch w a0 b0 c0 e0)) ∧ w1 = u_Mo_watch w a0 b0 c0 e0) := by
  unfold s_Mo_watch at hs
  refine tm_go 1 (pc' := 1) (L' := [some (.ref 127), some (.int a0), some (.int b0), some (.int c0), some (.long e0), none]) (S' := [.int a0]) (w' := w) rfl ?_
  refine tm_i (p1 := 19) (p2 := 4) rfl (fun h1 => ?_) (fun h1 => ?_)
  · rw [if_pos h1] at hs
    refine tm_go 1 (pc' := 20) (L' := [some (.ref 127), some (.int a0), some (.int b0), some (.int c0), some (.long e0), none]) (S' := [.int 0]) (w' := w) rfl ?_
    exact tm_r rfl (⟨by unfold g_Mo_watch; rw [if_pos h1], by unfold u_Mo_watch; rw [if_pos h1]⟩)
  · rw [if_neg h1] at hs
    refine tm_go 2 (pc' := 7) (L' := [some (.ref 127), some (.int a0), some (.int b0), some (.int c0), some (.long e0), none]) (S' := [.int 15, .int a0]) (w' := w) rfl ?_
    refine tm_i (p1 := 19) (p2 := 10) rfl (fun h2 => ?_) (fun h2 => ?_)
    · rw [if_pos h2] at hs
      refine tm_go 1 (pc' := 20) (L' := [some (.ref 127), some (.int a0), some (.int b0), some (.int c0), some (.long e0), none]) (S' := [.int 0]) (w' := w) rfl ?_
      exact tm_r rfl (⟨by unfold g_Mo_watch; rw [if_neg h1, if_pos h2], by unfold u_Mo_watch; rw [if_neg h1, if_pos h2]⟩)
    · rw [if_neg h2] at hs
      refine tm_go 1 (pc' := 11) (L' := [some (.ref 127), some (.int a0), some (.int b0), some (.int c0), some (.long e0), none]) (S' := [.int b0]) (w' := w) rfl ?_
      refine tm_i (p1 := 19) (p2 := 14) rfl (fun h3 => ?_) (fun h3 => ?_)
      · rw [if_pos h3] at hs
        refine tm_go 1 (pc' := 20) (L' := [some (.ref 127), some (.int a0), some (.int b0), some (.int c0), some (.long e0), none]) (S' := [.int 0]) (w' := w) rfl ?_
        exact tm_r rfl (⟨by unfold g_Mo_watch; rw [if_neg h1, if_neg h2, if_pos h3], by unfold u_Mo_watch; rw [if_neg h1, if_neg h2, if_pos h3]⟩)
      · rw [if_neg h3] at hs
        refine tm_go 2 (pc' := 16) (L' := [some (.ref 127), some (.int a0), some (.int b0), some (.int c0), some (.long e0), none]) (S' := [.int 5, .int b0]) (w' := w) rfl ?_
        refine tm_i (p1 := 21) (p2 := 19) rfl (fun h4 => ?_) (fun h4 => ?_)
        · rw [if_pos h4] at hs
          refine tm_go 4 (pc' := 27) (L' := [some (.ref 127), some (.int a0), some (.int b0), some (.int c0), some (.long e0), none]) (S' := [.int b0, .int a0, .ref 203]) (w' := w) rfl ?_
          obtain ⟨b1, hs⟩ := hs
          refine tm_k (pc' := 28) (L' := [some (.ref 127), some (.int a0), some (.int b0), some (.int c0), some (.long e0), none]) (S' := []) (w' := (sI w 203 a0.toInt.toNat b0)) rfl b1 ?_
          refine tm_go 4 (pc' := 34) (L' := [some (.ref 127), some (.int a0), some (.int b0), some (.int c0), some (.long e0), none]) (S' := [.int c0, .int a0, .ref 204]) (w' := (sI w 203 a0.toInt.toNat b0)) rfl ?_
          obtain ⟨b2, hs⟩ := hs
          refine tm_k (pc' := 35) (L' := [some (.ref 127), some (.int a0), some (.int b0), some (.int c0), some (.long e0), none]) (S' := []) (w' := (sI (sI w 203 a0.toInt.toNat b0) 204 a0.toInt.toNat c0)) rfl b2 ?_
          refine tm_go 4 (pc' := 42) (L' := [some (.ref 127), some (.int a0), some (.int b0), some (.int c0), some (.long e0), none]) (S' := [.long e0, .int a0, .ref 205]) (w' := (sI (sI w 203 a0.toInt.toNat b0) 204 a0.toInt.toNat c0)) rfl ?_
          obtain ⟨b3, hs⟩ := hs
          refine tm_k (pc' := 43) (L' := [some (.ref 127), some (.int a0), some (.int b0), some (.int c0), some (.long e0), none]) (S' := []) (w' := (sJ (sI (sI w 203 a0.toInt.toNat b0) 204 a0.toInt.toNat c0) 205 a0.toInt.toNat e0)) rfl b3 ?_
          refine tm_go 1 (pc' := 44) (L' := [some (.ref 127), some (.int a0), some (.int b0), some (.int c0), some (.long e0), none]) (S' := [.int 1]) (w' := (sJ (sI (sI w 203 a0.toInt.toNat b0) 204 a0.toInt.toNat c0) 205 a0.toInt.toNat e0)) rfl ?_
          exact tm_r rfl (⟨by unfold g_Mo_watch; rw [if_neg h1, if_neg h2, if_neg h3, if_pos h4], by unfold u_Mo_watch; rw [if_neg h1, if_neg h2, if_neg h3, if_pos h4]⟩)
        · rw [if_neg h4] at hs
          refine tm_go 1 (pc' := 20) (L' := [some (.ref 127), some (.int a0), some (.int b0), some (.int c0), some (.long e0), none]) (S' := [.int 0]) (w' := w) rfl ?_
          exact tm_r rfl (⟨by unfold g_Mo_watch; rw [if_neg h1, if_neg h2, if_neg h3, if_neg h4], by unfold u_Mo_watch; rw [if_neg h1, if_neg h2, if_neg h3, if_neg h4]⟩)
def s_Mo_signal (w : MW) (a0 : Int32) (b0 : Int64) : Prop := ((s_Mo_isRole w a0 30) ∧ (if ¬ (g_Mo_isRole w a0 30).toInt = 0 then ((0 ≤ a0.toInt ∧ a0.toInt < 40) ∧ True) else True))
def g_Mo_signal (w : MW) (a0 : Int32) (b0 : Int64) : Int32 := (if ¬ (g_Mo_isRole w a0 30).toInt = 0 then 1 else 0)
def u_Mo_signal (w : MW) (a0 : Int32) (b0 : Int64) : MW := (if ¬ (g_Mo_isRole w a0 30).toInt = 0 then (sJ w 206 a0.toInt.toNat b0) else w)
theorem ur_Mo_signal (w : MW) (a0 : Int32) (b0 : Int64) : (u_Mo_signal w a0 b0).2.2 = w.2.2 := (ite_R rfl rfl)
theorem z_Mo_signal (w : MW) (a0 : Int32) (b0 : Int64) : (g_Mo_signal w a0 b0).toInt = 0 ∨ (g_Mo_signal w a0 b0).toInt = 1 := (ite_Z (by decide) (by decide))
set_option maxHeartbeats 4000000 in
set_option maxRecDepth 100000 in
theorem c_Mo_signal {d : Nat} (w : MW) (a0 : Int32) (b0 : Int64)  (hs : s_Mo_signal w a0 b0) : Tc (d + 1) 95 [.ref 127, .int a0, .long b0] w (fun v w1 => v = some (.int (g_Mo_signal w a0 b0)) ∧ w1 = u_Mo_signal w a0 b0) := by
  unfold s_Mo_signal at hs
  refine tm_go 3 (pc' := 4) (L' := [some (.ref 127), some (.int a0), some (.long b0), none]) (S' := [.int 30, .int a0, .ref 127]) (w' := w) rfl ?_
  obtain ⟨b1, hs⟩ := hs
  refine tm_c rfl (Nat.le_of_ble_eq_true rfl) (c_Mo_isRole (d := d + 0) w a0 30  b1) (fun v w1 hq => ?_)
  obtain ⟨rfl, hw9⟩ := hq; rw [hw9]; clear hw9
  refine tm_i (p1 := 12) (p2 := 10) rfl (fun h1 => ?_) (fun h1 => ?_)
  · rw [if_pos h1] at hs
    refine tm_go 4 (pc' := 18) (L' := [some (.ref 127), some (.int a0), some (.long b0), none]) (S' := [.long b0, .int a0, .ref 206]) (w' := w) rfl ?_
    obtain ⟨b2, hs⟩ := hs
    refine tm_k (pc' := 19) (L' := [some (.ref 127), some (.int a0), some (.long b0), none]) (S' := []) (w' := (sJ w 206 a0.toInt.toNat b0)) rfl b2 ?_
    refine tm_go 1 (pc' := 20) (L' := [some (.ref 127), some (.int a0), some (.long b0), none]) (S' := [.int 1]) (w' := (sJ w 206 a0.toInt.toNat b0)) rfl ?_
    exact tm_r rfl (⟨by unfold g_Mo_signal; rw [if_pos h1], by unfold u_Mo_signal; rw [if_pos h1]⟩)
  · rw [if_neg h1] at hs
    refine tm_go 1 (pc' := 11) (L' := [some (.ref 127), some (.int a0), some (.long b0), none]) (S' := [.int 0]) (w' := w) rfl ?_
    exact tm_r rfl (⟨by unfold g_Mo_signal; rw [if_neg h1], by unfold u_Mo_signal; rw [if_neg h1]⟩)
def s_Mo_value (w : MW) (a0 : Int32) : Prop := ((s_Mo_isRole w a0 30) ∧ (if ¬ (g_Mo_isRole w a0 30).toInt = 0 then ((0 ≤ a0.toInt ∧ a0.toInt < 40) ∧ True) else ((s_Mo_isRole w a0 31) ∧ (if (g_Mo_isRole w a0 31).toInt = 0 then True else ((0 ≤ a0.toInt ∧ a0.toInt < 40) ∧ True)))))
def g_Mo_value (w : MW) (a0 : Int32) : Int64 := (if ¬ (g_Mo_isRole w a0 30).toInt = 0 then (w.2.1 206 a0.toInt.toNat) else (if (g_Mo_isRole w a0 31).toInt = 0 then 0 else (w.2.1 206 a0.toInt.toNat)))
set_option maxHeartbeats 4000000 in
set_option maxRecDepth 100000 in
theorem c_Mo_value {d : Nat} (w : MW) (a0 : Int32)  (hs : s_Mo_value w a0) : Tc (d + 1) 96 [.ref 127, .int a0] w (fun v w1 => v = some (.long (g_Mo_value w a0)) ∧ w1 = w) := by
  unfold s_Mo_value at hs
  refine tm_go 3 (pc' := 4) (L' := [some (.ref 127), some (.int a0)]) (S' := [.int 30, .int a0, .ref 127]) (w' := w) rfl ?_
  obtain ⟨b1, hs⟩ := hs
  refine tm_c rfl (Nat.le_of_ble_eq_true rfl) (c_Mo_isRole (d := d + 0) w a0 30  b1) (fun v w1 hq => ?_)
  obtain ⟨rfl, hw9⟩ := hq; rw [hw9]; clear hw9
  refine tm_i (p1 := 20) (p2 := 10) rfl (fun h1 => ?_) (fun h1 => ?_)
  · rw [if_pos h1] at hs
    refine tm_go 3 (pc' := 25) (L' := [some (.ref 127), some (.int a0)]) (S' := [.int a0, .ref 206]) (w' := w) rfl ?_
    obtain ⟨b2, hs⟩ := hs
    refine tm_k (pc' := 26) (L' := [some (.ref 127), some (.int a0)]) (S' := [.long (w.2.1 206 a0.toInt.toNat)]) (w' := w) rfl b2 ?_
    refine tm_go 1 (pc' := 30) (L' := [some (.ref 127), some (.int a0)]) (S' := [.long (w.2.1 206 a0.toInt.toNat)]) (w' := w) rfl ?_
    exact tm_r rfl (⟨by unfold g_Mo_value; rw [if_pos h1], rfl⟩)
  · rw [if_neg h1] at hs
    refine tm_go 3 (pc' := 14) (L' := [some (.ref 127), some (.int a0)]) (S' := [.int 31, .int a0, .ref 127]) (w' := w) rfl ?_
    obtain ⟨b3, hs⟩ := hs
    refine tm_c rfl (Nat.le_of_ble_eq_true rfl) (c_Mo_isRole (d := d + 0) w a0 31  b3) (fun v w1 hq => ?_)
    obtain ⟨rfl, hw9⟩ := hq; rw [hw9]; clear hw9
    refine tm_i (p1 := 29) (p2 := 20) rfl (fun h2 => ?_) (fun h2 => ?_)
    · rw [if_pos h2] at hs
      refine tm_go 1 (pc' := 30) (L' := [some (.ref 127), some (.int a0)]) (S' := [.long 0]) (w' := w) rfl ?_
      exact tm_r rfl (⟨by unfold g_Mo_value; rw [if_neg h1, if_pos h2], rfl⟩)
    · rw [if_neg h2] at hs
      refine tm_go 3 (pc' := 25) (L' := [some (.ref 127), some (.int a0)]) (S' := [.int a0, .ref 206]) (w' := w) rfl ?_
      obtain ⟨b4, hs⟩ := hs
      refine tm_k (pc' := 26) (L' := [some (.ref 127), some (.int a0)]) (S' := [.long (w.2.1 206 a0.toInt.toNat)]) (w' := w) rfl b4 ?_
      refine tm_go 1 (pc' := 30) (L' := [some (.ref 127), some (.int a0)]) (S' := [.long (w.2.1 206 a0.toInt.toNat)]) (w' := w) rfl ?_
      exact tm_r rfl (⟨by unfold g_Mo_value; rw [if_neg h1, if_neg h2], rfl⟩)
def s_Mo_hang (w : MW) (a0 : Int32) (b0 : Int32) (c0 : Int32) : Prop := (if ¬ b0.toInt = ((-1) : Int32).toInt then ((0 ≤ b0.toInt ∧ b0.toInt < 502) ∧ True) else ((0 ≤ a0.toInt ∧ a0.toInt < 502) ∧ True))
def g_Mo_hang (w : MW) (a0 : Int32) (b0 : Int32) (c0 : Int32) : Int32 := (if ¬ b0.toInt = ((-1) : Int32).toInt then c0 else c0)
def u_Mo_hang (w : MW) (a0 : Int32) (b0 : Int32) (c0 : Int32) : MW := (if ¬ b0.toInt = ((-1) : Int32).toInt then (sI w 209 b0.toInt.toNat c0) else (sI w 208 a0.toInt.toNat c0))
theorem ur_Mo_hang (w : MW) (a0 : Int32) (b0 : Int32) (c0 : Int32) : (u_Mo_hang w a0 b0 c0).2.2 = w.2.2 := (ite_R rfl rfl)
set_option maxHeartbeats 4000000 in
set_option maxRecDepth 100000 in
theorem c_Mo_hang {d : Nat} (w : MW) (a0 : Int32) (b0 : Int32) (c0 : Int32)  (hs : s_Mo_hang w a0 b0 c0) : Tc (d + 0) 106 [.ref 127, .int a0, .int b0, .int c0] w (fun v w1 => v = some (.int (g_Mo_hang w a0 b0 c0)) ∧ w1 = u_Mo_hang w a0 b0 c0) := by
  unfold s_Mo_hang at hs
  refine tm_go 2 (pc' := 2) (L' := [some (.ref 127), some (.int a0), some (.int b0), some (.int c0)]) (S' := [.int (-1), .int b0]) (w' := w) rfl ?_
  refine tm_i (p1 := 15) (p2 := 5) rfl (fun h1 => ?_) (fun h1 => ?_)
  · rw [if_pos h1] at hs
    refine tm_go 4 (pc' := 21) (L' := [some (.ref 127), some (.int a0), some (.int b0), some (.int c0)]) (S' := [.int c0, .int b0, .ref 209]) (w' := w) rfl ?_
    obtain ⟨b1, hs⟩ := hs
    refine tm_k (pc' := 22) (L' := [some (.ref 127), some (.int a0), some (.int b0), some (.int c0)]) (S' := []) (w' := (sI w 209 b0.toInt.toNat c0)) rfl b1 ?_
    refine tm_go 1 (pc' := 23) (L' := [some (.ref 127), some (.int a0), some (.int b0), some (.int c0)]) (S' := [.int c0]) (w' := (sI w 209 b0.toInt.toNat c0)) rfl ?_
    exact tm_r rfl (⟨by unfold g_Mo_hang; rw [if_pos h1], by unfold u_Mo_hang; rw [if_pos h1]⟩)
  · rw [if_neg h1] at hs
    refine tm_go 4 (pc' := 11) (L' := [some (.ref 127), some (.int a0), some (.int b0), some (.int c0)]) (S' := [.int c0, .int a0, .ref 208]) (w' := w) rfl ?_
    obtain ⟨b2, hs⟩ := hs
    refine tm_k (pc' := 12) (L' := [some (.ref 127), some (.int a0), some (.int b0), some (.int c0)]) (S' := []) (w' := (sI w 208 a0.toInt.toNat c0)) rfl b2 ?_
    refine tm_go 2 (pc' := 23) (L' := [some (.ref 127), some (.int a0), some (.int b0), some (.int c0)]) (S' := [.int c0]) (w' := (sI w 208 a0.toInt.toNat c0)) rfl ?_
    exact tm_r rfl (⟨by unfold g_Mo_hang; rw [if_neg h1], by unfold u_Mo_hang; rw [if_neg h1]⟩)
def s_Mo_isBad (w : MW)  : Prop := (if ¬ (w.1 127 76).toInt = ((-1) : Int32).toInt then ((s_Mo_raise w (w.1 127 76) 1) ∧ True) else True)
def g_Mo_isBad (w : MW)  : Int32 := (if ¬ (w.1 127 76).toInt = ((-1) : Int32).toInt then 1 else 0)
def u_Mo_isBad (w : MW)  : MW := (if ¬ (w.1 127 76).toInt = ((-1) : Int32).toInt then (sI (u_Mo_raise w (w.1 127 76) 1) 127 76 (-1)) else w)
theorem ur_Mo_isBad (w : MW)  : (u_Mo_isBad w).2.2 = w.2.2 := (ite_R (by simp only [sI_R, sJ_R, ur_Mo_raise]) rfl)
theorem z_Mo_isBad (w : MW)  : (g_Mo_isBad w).toInt = 0 ∨ (g_Mo_isBad w).toInt = 1 := (ite_Z (by decide) (by decide))
set_option maxHeartbeats 4000000 in
set_option maxRecDepth 100000 in
theorem c_Mo_isBad {d : Nat} (w : MW)   (hs : s_Mo_isBad w) : Tc (d + 1) 109 [.ref 127] w (fun v w1 => v = some (.int (g_Mo_isBad w)) ∧ w1 = u_Mo_isBad w) := by
  unfold s_Mo_isBad at hs
  refine tm_go 3 (pc' := 5) (L' := [some (.ref 127)]) (S' := [.int (-1), .int (w.1 127 76)]) (w' := w) rfl ?_
  refine tm_i (p1 := 10) (p2 := 8) rfl (fun h1 => ?_) (fun h1 => ?_)
  · rw [if_pos h1] at hs
    refine tm_go 4 (pc' := 16) (L' := [some (.ref 127)]) (S' := [.int 1, .int (w.1 127 76), .ref 127]) (w' := w) rfl ?_
    obtain ⟨b1, hs⟩ := hs
    refine tm_c rfl (Nat.le_of_ble_eq_true rfl) (c_Mo_raise (d := d + 0) w (w.1 127 76) 1  b1) (fun v w_1 hq => ?_)
    obtain ⟨rfl, ew_1⟩ := hq
    try rw [← ew_1] at hs
    refine tm_go 4 (pc' := 25) (L' := [some (.ref 127)]) (S' := [.int 1]) (w' := (sI w_1 127 76 (-1))) rfl ?_
    exact tm_r rfl (⟨by unfold g_Mo_isBad; subst ew_1; rw [if_pos h1], by unfold u_Mo_isBad; subst ew_1; rw [if_pos h1]⟩)
  · rw [if_neg h1] at hs
    refine tm_go 1 (pc' := 9) (L' := [some (.ref 127)]) (S' := [.int 0]) (w' := w) rfl ?_
    exact tm_r rfl (⟨by unfold g_Mo_isBad; rw [if_neg h1], by unfold u_Mo_isBad; rw [if_neg h1]⟩)
def g_Mo_state (w : MW)  : Int32 := (w.1 127 59)
set_option maxHeartbeats 4000000 in
set_option maxRecDepth 100000 in
theorem c_Mo_state {d : Nat} (w : MW)   : Tc (d + 0) 122 [.ref 127] w (fun v w1 => v = some (.int (g_Mo_state w)) ∧ w1 = w) := by
  refine tm_go 2 (pc' := 4) (L' := [some (.ref 127)]) (S' := [.int (w.1 127 59)]) (w' := w) rfl ?_
  exact tm_r rfl (⟨by unfold g_Mo_state; rfl, rfl⟩)
def s_Mo_alarm (w : MW) (a0 : Int32) (b0 : Int32) : Prop := (if a0.toInt < 0 then True else (if a0.toInt < (w.1 127 79).toInt then (if ¬ b0.toInt = 0 then (if ¬ b0.toInt = (1 : Int32).toInt then (if ¬ b0.toInt = (2 : Int32).toInt then True else ((0 ≤ a0.toInt ∧ a0.toInt < 200) ∧ True)) else ((0 ≤ a0.toInt ∧ a0.toInt < 200) ∧ True)) else ((0 ≤ a0.toInt ∧ a0.toInt < 200) ∧ True)) else True))
def g_Mo_alarm (w : MW) (a0 : Int32) (b0 : Int32) : Int32 := (if a0.toInt < 0 then (-1) else (if a0.toInt < (w.1 127 79).toInt then (if ¬ b0.toInt = 0 then (if ¬ b0.toInt = (1 : Int32).toInt then (if ¬ b0.toInt = (2 : Int32).toInt then (-1) else (w.1 220 a0.toInt.toNat)) else (w.1 219 a0.toInt.toNat)) else (w.1 218 a0.toInt.toNat)) else (-1)))
set_option maxHeartbeats 4000000 in
set_option maxRecDepth 100000 in
theorem c_Mo_alarm {d : Nat} (w : MW) (a0 : Int32) (b0 : Int32)  (hs : s_Mo_alarm w a0 b0) : Tc (d + 0) 124 [.ref 127, .int a0, .int b0] w (fun v w1 => v = some (.int (g_Mo_alarm w a0 b0)) ∧ w1 = w) := by
  unfold s_Mo_alarm at hs
  refine tm_go 1 (pc' := 1) (L' := [some (.ref 127), some (.int a0), some (.int b0)]) (S' := [.int a0]) (w' := w) rfl ?_
  refine tm_i (p1 := 12) (p2 := 4) rfl (fun h1 => ?_) (fun h1 => ?_)
  · rw [if_pos h1] at hs
    refine tm_go 1 (pc' := 13) (L' := [some (.ref 127), some (.int a0), some (.int b0)]) (S' := [.int (-1)]) (w' := w) rfl ?_
    exact tm_r rfl (⟨by unfold g_Mo_alarm; rw [if_pos h1], rfl⟩)
  · rw [if_neg h1] at hs
    refine tm_go 3 (pc' := 9) (L' := [some (.ref 127), some (.int a0), some (.int b0)]) (S' := [.int (w.1 127 79), .int a0]) (w' := w) rfl ?_
    refine tm_i (p1 := 14) (p2 := 12) rfl (fun h2 => ?_) (fun h2 => ?_)
    · rw [if_pos h2] at hs
      refine tm_go 1 (pc' := 15) (L' := [some (.ref 127), some (.int a0), some (.int b0)]) (S' := [.int b0]) (w' := w) rfl ?_
      refine tm_i (p1 := 27) (p2 := 18) rfl (fun h3 => ?_) (fun h3 => ?_)
      · rw [if_pos h3] at hs
        refine tm_go 2 (pc' := 29) (L' := [some (.ref 127), some (.int a0), some (.int b0)]) (S' := [.int 1, .int b0]) (w' := w) rfl ?_
        refine tm_i (p1 := 41) (p2 := 32) rfl (fun h4 => ?_) (fun h4 => ?_)
        · rw [if_pos h4] at hs
          refine tm_go 2 (pc' := 43) (L' := [some (.ref 127), some (.int a0), some (.int b0)]) (S' := [.int 2, .int b0]) (w' := w) rfl ?_
          refine tm_i (p1 := 55) (p2 := 46) rfl (fun h5 => ?_) (fun h5 => ?_)
          · rw [if_pos h5] at hs
            refine tm_go 1 (pc' := 56) (L' := [some (.ref 127), some (.int a0), some (.int b0)]) (S' := [.int (-1)]) (w' := w) rfl ?_
            exact tm_r rfl (⟨by unfold g_Mo_alarm; rw [if_neg h1, if_pos h2, if_pos h3, if_pos h4, if_pos h5], rfl⟩)
          · rw [if_neg h5] at hs
            refine tm_go 3 (pc' := 51) (L' := [some (.ref 127), some (.int a0), some (.int b0)]) (S' := [.int a0, .ref 220]) (w' := w) rfl ?_
            obtain ⟨b1, hs⟩ := hs
            refine tm_k (pc' := 52) (L' := [some (.ref 127), some (.int a0), some (.int b0)]) (S' := [.int (w.1 220 a0.toInt.toNat)]) (w' := w) rfl b1 ?_
            refine tm_go 1 (pc' := 56) (L' := [some (.ref 127), some (.int a0), some (.int b0)]) (S' := [.int (w.1 220 a0.toInt.toNat)]) (w' := w) rfl ?_
            exact tm_r rfl (⟨by unfold g_Mo_alarm; rw [if_neg h1, if_pos h2, if_pos h3, if_pos h4, if_neg h5], rfl⟩)
        · rw [if_neg h4] at hs
          refine tm_go 3 (pc' := 37) (L' := [some (.ref 127), some (.int a0), some (.int b0)]) (S' := [.int a0, .ref 219]) (w' := w) rfl ?_
          obtain ⟨b2, hs⟩ := hs
          refine tm_k (pc' := 38) (L' := [some (.ref 127), some (.int a0), some (.int b0)]) (S' := [.int (w.1 219 a0.toInt.toNat)]) (w' := w) rfl b2 ?_
          refine tm_go 1 (pc' := 56) (L' := [some (.ref 127), some (.int a0), some (.int b0)]) (S' := [.int (w.1 219 a0.toInt.toNat)]) (w' := w) rfl ?_
          exact tm_r rfl (⟨by unfold g_Mo_alarm; rw [if_neg h1, if_pos h2, if_pos h3, if_neg h4], rfl⟩)
      · rw [if_neg h3] at hs
        refine tm_go 3 (pc' := 23) (L' := [some (.ref 127), some (.int a0), some (.int b0)]) (S' := [.int a0, .ref 218]) (w' := w) rfl ?_
        obtain ⟨b3, hs⟩ := hs
        refine tm_k (pc' := 24) (L' := [some (.ref 127), some (.int a0), some (.int b0)]) (S' := [.int (w.1 218 a0.toInt.toNat)]) (w' := w) rfl b3 ?_
        refine tm_go 1 (pc' := 56) (L' := [some (.ref 127), some (.int a0), some (.int b0)]) (S' := [.int (w.1 218 a0.toInt.toNat)]) (w' := w) rfl ?_
        exact tm_r rfl (⟨by unfold g_Mo_alarm; rw [if_neg h1, if_pos h2, if_neg h3], rfl⟩)
    · rw [if_neg h2] at hs
      refine tm_go 1 (pc' := 13) (L' := [some (.ref 127), some (.int a0), some (.int b0)]) (S' := [.int (-1)]) (w' := w) rfl ?_
      exact tm_r rfl (⟨by unfold g_Mo_alarm; rw [if_neg h1, if_neg h2], rfl⟩)
def g_Mo_second (w : MW)  : Int32 := (w.1 127 78)
set_option maxHeartbeats 4000000 in
set_option maxRecDepth 100000 in
theorem c_Mo_second {d : Nat} (w : MW)   : Tc (d + 0) 125 [.ref 127] w (fun v w1 => v = some (.int (g_Mo_second w)) ∧ w1 = w) := by
  refine tm_go 2 (pc' := 4) (L' := [some (.ref 127)]) (S' := [.int (w.1 127 78)]) (w' := w) rfl ?_
  exact tm_r rfl (⟨by unfold g_Mo_second; rfl, rfl⟩)
def g_Ac_isAct (w : MW) (a0 : Int32) : Int32 := (if a0.toInt < 0 then 0 else (if (32 : Int32).toInt ≤ a0.toInt then 0 else 1))
theorem z_Ac_isAct (w : MW) (a0 : Int32) : (g_Ac_isAct w a0).toInt = 0 ∨ (g_Ac_isAct w a0).toInt = 1 := (ite_Z (by decide) (ite_Z (by decide) (by decide)))
set_option maxHeartbeats 4000000 in
set_option maxRecDepth 100000 in
theorem c_Ac_isAct {d : Nat} (w : MW) (a0 : Int32)  : Tc (d + 0) 126 [.int a0] w (fun v w1 => v = some (.int (g_Ac_isAct w a0)) ∧ w1 = w) := by
  refine tm_go 1 (pc' := 1) (L' := [some (.int a0)]) (S' := [.int a0]) (w' := w) rfl ?_
  refine tm_i (p1 := 14) (p2 := 4) rfl (fun h1 => ?_) (fun h1 => ?_)
  · refine tm_go 1 (pc' := 15) (L' := [some (.int a0)]) (S' := [.int 0]) (w' := w) rfl ?_
    exact tm_r rfl (⟨by unfold g_Ac_isAct; rw [if_pos h1], rfl⟩)
  · refine tm_go 2 (pc' := 7) (L' := [some (.int a0)]) (S' := [.int 32, .int a0]) (w' := w) rfl ?_
    refine tm_i (p1 := 14) (p2 := 10) rfl (fun h2 => ?_) (fun h2 => ?_)
    · refine tm_go 1 (pc' := 15) (L' := [some (.int a0)]) (S' := [.int 0]) (w' := w) rfl ?_
      exact tm_r rfl (⟨by unfold g_Ac_isAct; rw [if_neg h1, if_pos h2], rfl⟩)
    · refine tm_go 2 (pc' := 15) (L' := [some (.int a0)]) (S' := [.int 1]) (w' := w) rfl ?_
      exact tm_r rfl (⟨by unfold g_Ac_isAct; rw [if_neg h1, if_neg h2], rfl⟩)
def s_Ac_tie (w : MW) (a0 : Int32) (b0 : Int32) (c0 : Int32) (e0 : Int32) (f0 : Int32) : Prop := (if (g_Ac_isAct w a0).toInt = 0 then True else (if b0.toInt < 0 then True else (if b0.toInt ≤ (4 : Int32).toInt then (if ¬ b0.toInt = 0 then (if ¬ b0.toInt = (2 : Int32).toInt then (if ¬ b0.toInt = (3 : Int32).toInt then ((0 ≤ a0.toInt ∧ a0.toInt < 32) ∧ ((0 ≤ a0.toInt ∧ a0.toInt < 32) ∧ ((0 ≤ a0.toInt ∧ a0.toInt < 32) ∧ ((0 ≤ a0.toInt ∧ a0.toInt < 32) ∧ True)))) else (if e0.toInt < (1 : Int32).toInt then True else (if e0.toInt ≤ (5 : Int32).toInt then ((0 ≤ a0.toInt ∧ a0.toInt < 32) ∧ ((0 ≤ a0.toInt ∧ a0.toInt < 32) ∧ ((0 ≤ a0.toInt ∧ a0.toInt < 32) ∧ ((0 ≤ a0.toInt ∧ a0.toInt < 32) ∧ True)))) else True))) else (if e0.toInt < 0 then True else (if (10 : Int32).toInt ≤ e0.toInt then True else (if ¬ b0.toInt = (3 : Int32).toInt then ((0 ≤ a0.toInt ∧ a0.toInt < 32) ∧ ((0 ≤ a0.toInt ∧ a0.toInt < 32) ∧ ((0 ≤ a0.toInt ∧ a0.toInt < 32) ∧ ((0 ≤ a0.toInt ∧ a0.toInt < 32) ∧ True)))) else (if e0.toInt < (1 : Int32).toInt then True else (if e0.toInt ≤ (5 : Int32).toInt then ((0 ≤ a0.toInt ∧ a0.toInt < 32) ∧ ((0 ≤ a0.toInt ∧ a0.toInt < 32) ∧ ((0 ≤ a0.toInt ∧ a0.toInt < 32) ∧ ((0 ≤ a0.toInt ∧ a0.toInt < 32) ∧ True)))) else True)))))) else (if f0.toInt < (1 : Int32).toInt then True else (if (100 : Int32).toInt < f0.toInt then True else (if ¬ b0.toInt = (2 : Int32).toInt then (if ¬ b0.toInt = (3 : Int32).toInt then ((0 ≤ a0.toInt ∧ a0.toInt < 32) ∧ ((0 ≤ a0.toInt ∧ a0.toInt < 32) ∧ ((0 ≤ a0.toInt ∧ a0.toInt < 32) ∧ ((0 ≤ a0.toInt ∧ a0.toInt < 32) ∧ True)))) else (if e0.toInt < (1 : Int32).toInt then True else (if e0.toInt ≤ (5 : Int32).toInt then ((0 ≤ a0.toInt ∧ a0.toInt < 32) ∧ ((0 ≤ a0.toInt ∧ a0.toInt < 32) ∧ ((0 ≤ a0.toInt ∧ a0.toInt < 32) ∧ ((0 ≤ a0.toInt ∧ a0.toInt < 32) ∧ True)))) else True))) else (if e0.toInt < 0 then True else (if (10 : Int32).toInt ≤ e0.toInt then True else (if ¬ b0.toInt = (3 : Int32).toInt then ((0 ≤ a0.toInt ∧ a0.toInt < 32) ∧ ((0 ≤ a0.toInt ∧ a0.toInt < 32) ∧ ((0 ≤ a0.toInt ∧ a0.toInt < 32) ∧ ((0 ≤ a0.toInt ∧ a0.toInt < 32) ∧ True)))) else (if e0.toInt < (1 : Int32).toInt then True else (if e0.toInt ≤ (5 : Int32).toInt then ((0 ≤ a0.toInt ∧ a0.toInt < 32) ∧ ((0 ≤ a0.toInt ∧ a0.toInt < 32) ∧ ((0 ≤ a0.toInt ∧ a0.toInt < 32) ∧ ((0 ≤ a0.toInt ∧ a0.toInt < 32) ∧ True)))) else True))))))))) else True)))
def g_Ac_tie (w : MW) (a0 : Int32) (b0 : Int32) (c0 : Int32) (e0 : Int32) (f0 : Int32) : Int32 := (if (g_Ac_isAct w a0).toInt = 0 then 0 else (if b0.toInt < 0 then 0 else (if b0.toInt ≤ (4 : Int32).toInt then (if ¬ b0.toInt = 0 then (if ¬ b0.toInt = (2 : Int32).toInt then (if ¬ b0.toInt = (3 : Int32).toInt then 1 else (if e0.toInt < (1 : Int32).toInt then 0 else (if e0.toInt ≤ (5 : Int32).toInt then 1 else 0))) else (if e0.toInt < 0 then 0 else (if (10 : Int32).toInt ≤ e0.toInt then 0 else (if ¬ b0.toInt = (3 : Int32).toInt then 1 else (if e0.toInt < (1 : Int32).toInt then 0 else (if e0.toInt ≤ (5 : Int32).toInt then 1 else 0)))))) else (if f0.toInt < (1 : Int32).toInt then 0 else (if (100 : Int32).toInt < f0.toInt then 0 else (if ¬ b0.toInt = (2 : Int32).toInt then (if ¬ b0.toInt = (3 : Int32).toInt then 1 else (if e0.toInt < (1 : Int32).toInt then 0 else (if e0.toInt ≤ (5 : Int32).toInt then 1 else 0))) else (if e0.toInt < 0 then 0 else (if (10 : Int32).toInt ≤ e0.toInt then 0 else (if ¬ b0.toInt = (3 : Int32).toInt then 1 else (if e0.toInt < (1 : Int32).toInt then 0 else (if e0.toInt ≤ (5 : Int32).toInt then 1 else 0))))))))) else 0)))
def u_Ac_tie (w : MW) (a0 : Int32) (b0 : Int32) (c0 : Int32) (e0 : Int32) (f0 : Int32) : MW := (if (g_Ac_isAct w a0).toInt = 0 then w else (if b0.toInt < 0 then w else (if b0.toInt ≤ (4 : Int32).toInt then (if ¬ b0.toInt = 0 then (if ¬ b0.toInt = (2 : Int32).toInt then (if ¬ b0.toInt = (3 : Int32).toInt then (sI (sI (sI (sI w 60 a0.toInt.toNat b0) 57 a0.toInt.toNat c0) 58 a0.toInt.toNat e0) 59 a0.toInt.toNat f0) else (if e0.toInt < (1 : Int32).toInt then w else (if e0.toInt ≤ (5 : Int32).toInt then (sI (sI (sI (sI w 60 a0.toInt.toNat b0) 57 a0.toInt.toNat c0) 58 a0.toInt.toNat e0) 59 a0.toInt.toNat f0) else w))) else (if e0.toInt < 0 then w else (if (10 : Int32).toInt ≤ e0.toInt then w else (if ¬ b0.toInt = (3 : Int32).toInt then (sI (sI (sI (sI w 60 a0.toInt.toNat b0) 57 a0.toInt.toNat c0) 58 a0.toInt.toNat e0) 59 a0.toInt.toNat f0) else (if e0.toInt < (1 : Int32).toInt then w else (if e0.toInt ≤ (5 : Int32).toInt then (sI (sI (sI (sI w 60 a0.toInt.toNat b0) 57 a0.toInt.toNat c0) 58 a0.toInt.toNat e0) 59 a0.toInt.toNat f0) else w)))))) else (if f0.toInt < (1 : Int32).toInt then w else (if (100 : Int32).toInt < f0.toInt then w else (if ¬ b0.toInt = (2 : Int32).toInt then (if ¬ b0.toInt = (3 : Int32).toInt then (sI (sI (sI (sI w 60 a0.toInt.toNat b0) 57 a0.toInt.toNat c0) 58 a0.toInt.toNat e0) 59 a0.toInt.toNat f0) else (if e0.toInt < (1 : Int32).toInt then w else (if e0.toInt ≤ (5 : Int32).toInt then (sI (sI (sI (sI w 60 a0.toInt.toNat b0) 57 a0.toInt.toNat c0) 58 a0.toInt.toNat e0) 59 a0.toInt.toNat f0) else w))) else (if e0.toInt < 0 then w else (if (10 : Int32).toInt ≤ e0.toInt then w else (if ¬ b0.toInt = (3 : Int32).toInt then (sI (sI (sI (sI w 60 a0.toInt.toNat b0) 57 a0.toInt.toNat c0) 58 a0.toInt.toNat e0) 59 a0.toInt.toNat f0) else (if e0.toInt < (1 : Int32).toInt then w else (if e0.toInt ≤ (5 : Int32).toInt then (sI (sI (sI (sI w 60 a0.toInt.toNat b0) 57 a0.toInt.toNat c0) 58 a0.toInt.toNat e0) 59 a0.toInt.toNat f0) else w))))))))) else w)))
theorem ur_Ac_tie (w : MW) (a0 : Int32) (b0 : Int32) (c0 : Int32) (e0 : Int32) (f0 : Int32) : (u_Ac_tie w a0 b0 c0 e0 f0).2.2 = w.2.2 := (ite_R rfl (ite_R rfl (ite_R (ite_R (ite_R (ite_R rfl (ite_R rfl (ite_R rfl rfl))) (ite_R rfl (ite_R rfl (ite_R rfl (ite_R rfl (ite_R rfl rfl)))))) (ite_R rfl (ite_R rfl (ite_R (ite_R rfl (ite_R rfl (ite_R rfl rfl))) (ite_R rfl (ite_R rfl (ite_R rfl (ite_R rfl (ite_R rfl rfl))))))))) rfl)))
theorem z_Ac_tie (w : MW) (a0 : Int32) (b0 : Int32) (c0 : Int32) (e0 : Int32) (f0 : Int32) : (g_Ac_tie w a0 b0 c0 e0 f0).toInt = 0 ∨ (g_Ac_tie w a0 b0 c0 e0 f0).toInt = 1 := (ite_Z (by decide) (ite_Z (by decide) (ite_Z (ite_Z (ite_Z (ite_Z (by decide) (ite_Z (by decide) (ite_Z (by decide) (by decide)))) (ite_Z (by decide) (ite_Z (by decide) (ite_Z (by decide) (ite_Z (by decide) (ite_Z (by decide) (by decide))))))) (ite_Z (by decide) (ite_Z (by decide) (ite_Z (ite_Z (by decide) (ite_Z (by decide) (ite_Z (by decide) (by decide)))) (ite_Z (by decide) (ite_Z (by decide) (ite_Z (by decide) (ite_Z (by decide) (ite_Z (by decide) (by decide)))))))))) (by decide))))
set_option maxHeartbeats 4000000 in
set_option maxRecDepth 100000 in
theorem c_Ac_tie {d : Nat} (w : MW) (a0 : Int32) (b0 : Int32) (c0 : Int32) (e0 : Int32) (f0 : Int32)  (hs : s_Ac_tie w a0 b0 c0 e0 f0) : Tc (d + 1) 127 [.ref 47, .int a0, .int b0, .int c0, .int e0, .int f0] w (fun v w1 => v = some (.int (g_Ac_tie w a0 b0 c0 e0 f0)) ∧ w1 = u_Ac_tie w a0 b0 c0 e0 f0) := by
  unfold s_Ac_tie at hs
  refine tm_go 1 (pc' := 1) (L' := [some (.ref 47), some (.int a0), some (.int b0), some (.int c0), some (.int e0), some (.int f0)]) (S' := [.int a0]) (w' := w) rfl ?_
  refine tm_c rfl (Nat.le_of_ble_eq_true rfl) (c_Ac_isAct (d := d + 0) w a0 ) (fun v w1 hq => ?_)
  obtain ⟨rfl, hw9⟩ := hq; rw [hw9]; clear hw9
  refine tm_i (p1 := 16) (p2 := 7) rfl (fun h1 => ?_) (fun h1 => ?_)
  · rw [if_pos h1] at hs
    refine tm_go 1 (pc' := 17) (L' := [some (.ref 47), some (.int a0), some (.int b0), some (.int c0), some (.int e0), some (.int f0)]) (S' := [.int 0]) (w' := w) rfl ?_
    exact tm_r rfl (⟨by unfold g_Ac_tie; rw [if_pos h1], by unfold u_Ac_tie; rw [if_pos h1]⟩)
  · rw [if_neg h1] at hs
    refine tm_go 1 (pc' := 8) (L' := [some (.ref 47), some (.int a0), some (.int b0), some (.int c0), some (.int e0), some (.int f0)]) (S' := [.int b0]) (w' := w) rfl ?_
    refine tm_i (p1 := 16) (p2 := 11) rfl (fun h2 => ?_) (fun h2 => ?_)
    · rw [if_pos h2] at hs
      refine tm_go 1 (pc' := 17) (L' := [some (.ref 47), some (.int a0), some (.int b0), some (.int c0), some (.int e0), some (.int f0)]) (S' := [.int 0]) (w' := w) rfl ?_
      exact tm_r rfl (⟨by unfold g_Ac_tie; rw [if_neg h1, if_pos h2], by unfold u_Ac_tie; rw [if_neg h1, if_pos h2]⟩)
    · rw [if_neg h2] at hs
      refine tm_go 2 (pc' := 13) (L' := [some (.ref 47), some (.int a0), some (.int b0), some (.int c0), some (.int e0), some (.int f0)]) (S' := [.int 4, .int b0]) (w' := w) rfl ?_
      refine tm_i (p1 := 18) (p2 := 16) rfl (fun h3 => ?_) (fun h3 => ?_)
      · rw [if_pos h3] at hs
        refine tm_go 1 (pc' := 19) (L' := [some (.ref 47), some (.int a0), some (.int b0), some (.int c0), some (.int e0), some (.int f0)]) (S' := [.int b0]) (w' := w) rfl ?_
        refine tm_i (p1 := 35) (p2 := 22) rfl (fun h4 => ?_) (fun h4 => ?_)
        · rw [if_pos h4] at hs
          refine tm_go 2 (pc' := 37) (L' := [some (.ref 47), some (.int a0), some (.int b0), some (.int c0), some (.int e0), some (.int f0)]) (S' := [.int 2, .int b0]) (w' := w) rfl ?_
          refine tm_i (p1 := 52) (p2 := 40) rfl (fun h5 => ?_) (fun h5 => ?_)
          · rw [if_pos h5] at hs
            refine tm_go 2 (pc' := 54) (L' := [some (.ref 47), some (.int a0), some (.int b0), some (.int c0), some (.int e0), some (.int f0)]) (S' := [.int 3, .int b0]) (w' := w) rfl ?_
            refine tm_i (p1 := 71) (p2 := 57) rfl (fun h6 => ?_) (fun h6 => ?_)
            · rw [if_pos h6] at hs
              refine tm_go 4 (pc' := 77) (L' := [some (.ref 47), some (.int a0), some (.int b0), some (.int c0), some (.int e0), some (.int f0)]) (S' := [.int b0, .int a0, .ref 60]) (w' := w) rfl ?_
              obtain ⟨b1, hs⟩ := hs
              refine tm_k (pc' := 78) (L' := [some (.ref 47), some (.int a0), some (.int b0), some (.int c0), some (.int e0), some (.int f0)]) (S' := []) (w' := (sI w 60 a0.toInt.toNat b0)) rfl b1 ?_
              refine tm_go 4 (pc' := 84) (L' := [some (.ref 47), some (.int a0), some (.int b0), some (.int c0), some (.int e0), some (.int f0)]) (S' := [.int c0, .int a0, .ref 57]) (w' := (sI w 60 a0.toInt.toNat b0)) rfl ?_
              obtain ⟨b2, hs⟩ := hs
              refine tm_k (pc' := 85) (L' := [some (.ref 47), some (.int a0), some (.int b0), some (.int c0), some (.int e0), some (.int f0)]) (S' := []) (w' := (sI (sI w 60 a0.toInt.toNat b0) 57 a0.toInt.toNat c0)) rfl b2 ?_
              refine tm_go 4 (pc' := 92) (L' := [some (.ref 47), some (.int a0), some (.int b0), some (.int c0), some (.int e0), some (.int f0)]) (S' := [.int e0, .int a0, .ref 58]) (w' := (sI (sI w 60 a0.toInt.toNat b0) 57 a0.toInt.toNat c0)) rfl ?_
              obtain ⟨b3, hs⟩ := hs
              refine tm_k (pc' := 93) (L' := [some (.ref 47), some (.int a0), some (.int b0), some (.int c0), some (.int e0), some (.int f0)]) (S' := []) (w' := (sI (sI (sI w 60 a0.toInt.toNat b0) 57 a0.toInt.toNat c0) 58 a0.toInt.toNat e0)) rfl b3 ?_
              refine tm_go 4 (pc' := 100) (L' := [some (.ref 47), some (.int a0), some (.int b0), some (.int c0), some (.int e0), some (.int f0)]) (S' := [.int f0, .int a0, .ref 59]) (w' := (sI (sI (sI w 60 a0.toInt.toNat b0) 57 a0.toInt.toNat c0) 58 a0.toInt.toNat e0)) rfl ?_
              obtain ⟨b4, hs⟩ := hs
              refine tm_k (pc' := 101) (L' := [some (.ref 47), some (.int a0), some (.int b0), some (.int c0), some (.int e0), some (.int f0)]) (S' := []) (w' := (sI (sI (sI (sI w 60 a0.toInt.toNat b0) 57 a0.toInt.toNat c0) 58 a0.toInt.toNat e0) 59 a0.toInt.toNat f0)) rfl b4 ?_
              refine tm_go 1 (pc' := 102) (L' := [some (.ref 47), some (.int a0), some (.int b0), some (.int c0), some (.int e0), some (.int f0)]) (S' := [.int 1]) (w' := (sI (sI (sI (sI w 60 a0.toInt.toNat b0) 57 a0.toInt.toNat c0) 58 a0.toInt.toNat e0) 59 a0.toInt.toNat f0)) rfl ?_
              exact tm_r rfl (⟨by unfold g_Ac_tie; rw [if_neg h1, if_neg h2, if_pos h3, if_pos h4, if_pos h5, if_pos h6], by unfold u_Ac_tie; rw [if_neg h1, if_neg h2, if_pos h3, if_pos h4, if_pos h5, if_pos h6]⟩)
            · rw [if_neg h6] at hs
              refine tm_go 2 (pc' := 60) (L' := [some (.ref 47), some (.int a0), some (.int b0), some (.int c0), some (.int e0), some (.int f0)]) (S' := [.int 1, .int e0]) (w' := w) rfl ?_
              refine tm_i (p1 := 69) (p2 := 63) rfl (fun h7 => ?_) (fun h7 => ?_)
              · rw [if_pos h7] at hs
                refine tm_go 1 (pc' := 70) (L' := [some (.ref 47), some (.int a0), some (.int b0), some (.int c0), some (.int e0), some (.int f0)]) (S' := [.int 0]) (w' := w) rfl ?_
                exact tm_r rfl (⟨by unfold g_Ac_tie; rw [if_neg h1, if_neg h2, if_pos h3, if_pos h4, if_pos h5, if_neg h6, if_pos h7], by unfold u_Ac_tie; rw [if_neg h1, if_neg h2, if_pos h3, if_pos h4, if_pos h5, if_neg h6, if_pos h7]⟩)
              · rw [if_neg h7] at hs
                refine tm_go 2 (pc' := 66) (L' := [some (.ref 47), some (.int a0), some (.int b0), some (.int c0), some (.int e0), some (.int f0)]) (S' := [.int 5, .int e0]) (w' := w) rfl ?_
                refine tm_i (p1 := 71) (p2 := 69) rfl (fun h8 => ?_) (fun h8 => ?_)
                · rw [if_pos h8] at hs
                  refine tm_go 4 (pc' := 77) (L' := [some (.ref 47), some (.int a0), some (.int b0), some (.int c0), some (.int e0), some (.int f0)]) (S' := [.int b0, .int a0, .ref 60]) (w' := w) rfl ?_
                  obtain ⟨b5, hs⟩ := hs
                  refine tm_k (pc' := 78) (L' := [some (.ref 47), some (.int a0), some (.int b0), some (.int c0), some (.int e0), some (.int f0)]) (S' := []) (w' := (sI w 60 a0.toInt.toNat b0)) rfl b5 ?_
                  refine tm_go 4 (pc' := 84) (L' := [some (.ref 47), some (.int a0), some (.int b0), some (.int c0), some (.int e0), some (.int f0)]) (S' := [.int c0, .int a0, .ref 57]) (w' := (sI w 60 a0.toInt.toNat b0)) rfl ?_
                  obtain ⟨b6, hs⟩ := hs
                  refine tm_k (pc' := 85) (L' := [some (.ref 47), some (.int a0), some (.int b0), some (.int c0), some (.int e0), some (.int f0)]) (S' := []) (w' := (sI (sI w 60 a0.toInt.toNat b0) 57 a0.toInt.toNat c0)) rfl b6 ?_
                  refine tm_go 4 (pc' := 92) (L' := [some (.ref 47), some (.int a0), some (.int b0), some (.int c0), some (.int e0), some (.int f0)]) (S' := [.int e0, .int a0, .ref 58]) (w' := (sI (sI w 60 a0.toInt.toNat b0) 57 a0.toInt.toNat c0)) rfl ?_
                  obtain ⟨b7, hs⟩ := hs
                  refine tm_k (pc' := 93) (L' := [some (.ref 47), some (.int a0), some (.int b0), some (.int c0), some (.int e0), some (.int f0)]) (S' := []) (w' := (sI (sI (sI w 60 a0.toInt.toNat b0) 57 a0.toInt.toNat c0) 58 a0.toInt.toNat e0)) rfl b7 ?_
                  refine tm_go 4 (pc' := 100) (L' := [some (.ref 47), some (.int a0), some (.int b0), some (.int c0), some (.int e0), some (.int f0)]) (S' := [.int f0, .int a0, .ref 59]) (w' := (sI (sI (sI w 60 a0.toInt.toNat b0) 57 a0.toInt.toNat c0) 58 a0.toInt.toNat e0)) rfl ?_
                  obtain ⟨b8, hs⟩ := hs
                  refine tm_k (pc' := 101) (L' := [some (.ref 47), some (.int a0), some (.int b0), some (.int c0), some (.int e0), some (.int f0)]) (S' := []) (w' := (sI (sI (sI (sI w 60 a0.toInt.toNat b0) 57 a0.toInt.toNat c0) 58 a0.toInt.toNat e0) 59 a0.toInt.toNat f0)) rfl b8 ?_
                  refine tm_go 1 (pc' := 102) (L' := [some (.ref 47), some (.int a0), some (.int b0), some (.int c0), some (.int e0), some (.int f0)]) (S' := [.int 1]) (w' := (sI (sI (sI (sI w 60 a0.toInt.toNat b0) 57 a0.toInt.toNat c0) 58 a0.toInt.toNat e0) 59 a0.toInt.toNat f0)) rfl ?_
                  exact tm_r rfl (⟨by unfold g_Ac_tie; rw [if_neg h1, if_neg h2, if_pos h3, if_pos h4, if_pos h5, if_neg h6, if_neg h7, if_pos h8], by unfold u_Ac_tie; rw [if_neg h1, if_neg h2, if_pos h3, if_pos h4, if_pos h5, if_neg h6, if_neg h7, if_pos h8]⟩)
                · rw [if_neg h8] at hs
                  refine tm_go 1 (pc' := 70) (L' := [some (.ref 47), some (.int a0), some (.int b0), some (.int c0), some (.int e0), some (.int f0)]) (S' := [.int 0]) (w' := w) rfl ?_
                  exact tm_r rfl (⟨by unfold g_Ac_tie; rw [if_neg h1, if_neg h2, if_pos h3, if_pos h4, if_pos h5, if_neg h6, if_neg h7, if_neg h8], by unfold u_Ac_tie; rw [if_neg h1, if_neg h2, if_pos h3, if_pos h4, if_pos h5, if_neg h6, if_neg h7, if_neg h8]⟩)
          · rw [if_neg h5] at hs
            refine tm_go 1 (pc' := 42) (L' := [some (.ref 47), some (.int a0), some (.int b0), some (.int c0), some (.int e0), some (.int f0)]) (S' := [.int e0]) (w' := w) rfl ?_
            refine tm_i (p1 := 69) (p2 := 45) rfl (fun h9 => ?_) (fun h9 => ?_)
            · rw [if_pos h9] at hs
              refine tm_go 1 (pc' := 70) (L' := [some (.ref 47), some (.int a0), some (.int b0), some (.int c0), some (.int e0), some (.int f0)]) (S' := [.int 0]) (w' := w) rfl ?_
              exact tm_r rfl (⟨by unfold g_Ac_tie; rw [if_neg h1, if_neg h2, if_pos h3, if_pos h4, if_neg h5, if_pos h9], by unfold u_Ac_tie; rw [if_neg h1, if_neg h2, if_pos h3, if_pos h4, if_neg h5, if_pos h9]⟩)
            · rw [if_neg h9] at hs
              refine tm_go 2 (pc' := 49) (L' := [some (.ref 47), some (.int a0), some (.int b0), some (.int c0), some (.int e0), some (.int f0)]) (S' := [.int 10, .int e0]) (w' := w) rfl ?_
              refine tm_i (p1 := 69) (p2 := 52) rfl (fun h10 => ?_) (fun h10 => ?_)
              · rw [if_pos h10] at hs
                refine tm_go 1 (pc' := 70) (L' := [some (.ref 47), some (.int a0), some (.int b0), some (.int c0), some (.int e0), some (.int f0)]) (S' := [.int 0]) (w' := w) rfl ?_
                exact tm_r rfl (⟨by unfold g_Ac_tie; rw [if_neg h1, if_neg h2, if_pos h3, if_pos h4, if_neg h5, if_neg h9, if_pos h10], by unfold u_Ac_tie; rw [if_neg h1, if_neg h2, if_pos h3, if_pos h4, if_neg h5, if_neg h9, if_pos h10]⟩)
              · rw [if_neg h10] at hs
                refine tm_go 2 (pc' := 54) (L' := [some (.ref 47), some (.int a0), some (.int b0), some (.int c0), some (.int e0), some (.int f0)]) (S' := [.int 3, .int b0]) (w' := w) rfl ?_
                refine tm_i (p1 := 71) (p2 := 57) rfl (fun h11 => ?_) (fun h11 => ?_)
                · rw [if_pos h11] at hs
                  refine tm_go 4 (pc' := 77) (L' := [some (.ref 47), some (.int a0), some (.int b0), some (.int c0), some (.int e0), some (.int f0)]) (S' := [.int b0, .int a0, .ref 60]) (w' := w) rfl ?_
                  obtain ⟨b9, hs⟩ := hs
                  refine tm_k (pc' := 78) (L' := [some (.ref 47), some (.int a0), some (.int b0), some (.int c0), some (.int e0), some (.int f0)]) (S' := []) (w' := (sI w 60 a0.toInt.toNat b0)) rfl b9 ?_
                  refine tm_go 4 (pc' := 84) (L' := [some (.ref 47), some (.int a0), some (.int b0), some (.int c0), some (.int e0), some (.int f0)]) (S' := [.int c0, .int a0, .ref 57]) (w' := (sI w 60 a0.toInt.toNat b0)) rfl ?_
                  obtain ⟨b10, hs⟩ := hs
                  refine tm_k (pc' := 85) (L' := [some (.ref 47), some (.int a0), some (.int b0), some (.int c0), some (.int e0), some (.int f0)]) (S' := []) (w' := (sI (sI w 60 a0.toInt.toNat b0) 57 a0.toInt.toNat c0)) rfl b10 ?_
                  refine tm_go 4 (pc' := 92) (L' := [some (.ref 47), some (.int a0), some (.int b0), some (.int c0), some (.int e0), some (.int f0)]) (S' := [.int e0, .int a0, .ref 58]) (w' := (sI (sI w 60 a0.toInt.toNat b0) 57 a0.toInt.toNat c0)) rfl ?_
                  obtain ⟨b11, hs⟩ := hs
                  refine tm_k (pc' := 93) (L' := [some (.ref 47), some (.int a0), some (.int b0), some (.int c0), some (.int e0), some (.int f0)]) (S' := []) (w' := (sI (sI (sI w 60 a0.toInt.toNat b0) 57 a0.toInt.toNat c0) 58 a0.toInt.toNat e0)) rfl b11 ?_
                  refine tm_go 4 (pc' := 100) (L' := [some (.ref 47), some (.int a0), some (.int b0), some (.int c0), some (.int e0), some (.int f0)]) (S' := [.int f0, .int a0, .ref 59]) (w' := (sI (sI (sI w 60 a0.toInt.toNat b0) 57 a0.toInt.toNat c0) 58 a0.toInt.toNat e0)) rfl ?_
                  obtain ⟨b12, hs⟩ := hs
                  refine tm_k (pc' := 101) (L' := [some (.ref 47), some (.int a0), some (.int b0), some (.int c0), some (.int e0), some (.int f0)]) (S' := []) (w' := (sI (sI (sI (sI w 60 a0.toInt.toNat b0) 57 a0.toInt.toNat c0) 58 a0.toInt.toNat e0) 59 a0.toInt.toNat f0)) rfl b12 ?_
                  refine tm_go 1 (pc' := 102) (L' := [some (.ref 47), some (.int a0), some (.int b0), some (.int c0), some (.int e0), some (.int f0)]) (S' := [.int 1]) (w' := (sI (sI (sI (sI w 60 a0.toInt.toNat b0) 57 a0.toInt.toNat c0) 58 a0.toInt.toNat e0) 59 a0.toInt.toNat f0)) rfl ?_
                  exact tm_r rfl (⟨by unfold g_Ac_tie; rw [if_neg h1, if_neg h2, if_pos h3, if_pos h4, if_neg h5, if_neg h9, if_neg h10, if_pos h11], by unfold u_Ac_tie; rw [if_neg h1, if_neg h2, if_pos h3, if_pos h4, if_neg h5, if_neg h9, if_neg h10, if_pos h11]⟩)
                · rw [if_neg h11] at hs
                  refine tm_go 2 (pc' := 60) (L' := [some (.ref 47), some (.int a0), some (.int b0), some (.int c0), some (.int e0), some (.int f0)]) (S' := [.int 1, .int e0]) (w' := w) rfl ?_
                  refine tm_i (p1 := 69) (p2 := 63) rfl (fun h12 => ?_) (fun h12 => ?_)
                  · rw [if_pos h12] at hs
                    refine tm_go 1 (pc' := 70) (L' := [some (.ref 47), some (.int a0), some (.int b0), some (.int c0), some (.int e0), some (.int f0)]) (S' := [.int 0]) (w' := w) rfl ?_
                    exact tm_r rfl (⟨by unfold g_Ac_tie; rw [if_neg h1, if_neg h2, if_pos h3, if_pos h4, if_neg h5, if_neg h9, if_neg h10, if_neg h11, if_pos h12], by unfold u_Ac_tie; rw [if_neg h1, if_neg h2, if_pos h3, if_pos h4, if_neg h5, if_neg h9, if_neg h10, if_neg h11, if_pos h12]⟩)
                  · rw [if_neg h12] at hs
                    refine tm_go 2 (pc' := 66) (L' := [some (.ref 47), some (.int a0), some (.int b0), some (.int c0), some (.int e0), some (.int f0)]) (S' := [.int 5, .int e0]) (w' := w) rfl ?_
                    refine tm_i (p1 := 71) (p2 := 69) rfl (fun h13 => ?_) (fun h13 => ?_)
                    · rw [if_pos h13] at hs
                      refine tm_go 4 (pc' := 77) (L' := [some (.ref 47), some (.int a0), some (.int b0), some (.int c0), some (.int e0), some (.int f0)]) (S' := [.int b0, .int a0, .ref 60]) (w' := w) rfl ?_
                      obtain ⟨b13, hs⟩ := hs
                      refine tm_k (pc' := 78) (L' := [some (.ref 47), some (.int a0), some (.int b0), some (.int c0), some (.int e0), some (.int f0)]) (S' := []) (w' := (sI w 60 a0.toInt.toNat b0)) rfl b13 ?_
                      refine tm_go 4 (pc' := 84) (L' := [some (.ref 47), some (.int a0), some (.int b0), some (.int c0), some (.int e0), some (.int f0)]) (S' := [.int c0, .int a0, .ref 57]) (w' := (sI w 60 a0.toInt.toNat b0)) rfl ?_
                      obtain ⟨b14, hs⟩ := hs
                      refine tm_k (pc' := 85) (L' := [some (.ref 47), some (.int a0), some (.int b0), some (.int c0), some (.int e0), some (.int f0)]) (S' := []) (w' := (sI (sI w 60 a0.toInt.toNat b0) 57 a0.toInt.toNat c0)) rfl b14 ?_
                      refine tm_go 4 (pc' := 92) (L' := [some (.ref 47), some (.int a0), some (.int b0), some (.int c0), some (.int e0), some (.int f0)]) (S' := [.int e0, .int a0, .ref 58]) (w' := (sI (sI w 60 a0.toInt.toNat b0) 57 a0.toInt.toNat c0)) rfl ?_
                      obtain ⟨b15, hs⟩ := hs
                      refine tm_k (pc' := 93) (L' := [some (.ref 47), some (.int a0), some (.int b0), some (.int c0), some (.int e0), some (.int f0)]) (S' := []) (w' := (sI (sI (sI w 60 a0.toInt.toNat b0) 57 a0.toInt.toNat c0) 58 a0.toInt.toNat e0)) rfl b15 ?_
                      refine tm_go 4 (pc' := 100) (L' := [some (.ref 47), some (.int a0), some (.int b0), some (.int c0), some (.int e0), some (.int f0)]) (S' := [.int f0, .int a0, .ref 59]) (w' := (sI (sI (sI w 60 a0.toInt.toNat b0) 57 a0.toInt.toNat c0) 58 a0.toInt.toNat e0)) rfl ?_
                      obtain ⟨b16, hs⟩ := hs
                      refine tm_k (pc' := 101) (L' := [some (.ref 47), some (.int a0), some (.int b0), some (.int c0), some (.int e0), some (.int f0)]) (S' := []) (w' := (sI (sI (sI (sI w 60 a0.toInt.toNat b0) 57 a0.toInt.toNat c0) 58 a0.toInt.toNat e0) 59 a0.toInt.toNat f0)) rfl b16 ?_
                      refine tm_go 1 (pc' := 102) (L' := [some (.ref 47), some (.int a0), some (.int b0), some (.int c0), some (.int e0), some (.int f0)]) (S' := [.int 1]) (w' := (sI (sI (sI (sI w 60 a0.toInt.toNat b0) 57 a0.toInt.toNat c0) 58 a0.toInt.toNat e0) 59 a0.toInt.toNat f0)) rfl ?_
                      exact tm_r rfl (⟨by unfold g_Ac_tie; rw [if_neg h1, if_neg h2, if_pos h3, if_pos h4, if_neg h5, if_neg h9, if_neg h10, if_neg h11, if_neg h12, if_pos h13], by unfold u_Ac_tie; rw [if_neg h1, if_neg h2, if_pos h3, if_pos h4, if_neg h5, if_neg h9, if_neg h10, if_neg h11, if_neg h12, if_pos h13]⟩)
                    · rw [if_neg h13] at hs
                      refine tm_go 1 (pc' := 70) (L' := [some (.ref 47), some (.int a0), some (.int b0), some (.int c0), some (.int e0), some (.int f0)]) (S' := [.int 0]) (w' := w) rfl ?_
                      exact tm_r rfl (⟨by unfold g_Ac_tie; rw [if_neg h1, if_neg h2, if_pos h3, if_pos h4, if_neg h5, if_neg h9, if_neg h10, if_neg h11, if_neg h12, if_neg h13], by unfold u_Ac_tie; rw [if_neg h1, if_neg h2, if_pos h3, if_pos h4, if_neg h5, if_neg h9, if_neg h10, if_neg h11, if_neg h12, if_neg h13]⟩)
        · rw [if_neg h4] at hs
          refine tm_go 2 (pc' := 25) (L' := [some (.ref 47), some (.int a0), some (.int b0), some (.int c0), some (.int e0), some (.int f0)]) (S' := [.int 1, .int f0]) (w' := w) rfl ?_
          refine tm_i (p1 := 69) (p2 := 28) rfl (fun h14 => ?_) (fun h14 => ?_)
          · rw [if_pos h14] at hs
            refine tm_go 1 (pc' := 70) (L' := [some (.ref 47), some (.int a0), some (.int b0), some (.int c0), some (.int e0), some (.int f0)]) (S' := [.int 0]) (w' := w) rfl ?_
            exact tm_r rfl (⟨by unfold g_Ac_tie; rw [if_neg h1, if_neg h2, if_pos h3, if_neg h4, if_pos h14], by unfold u_Ac_tie; rw [if_neg h1, if_neg h2, if_pos h3, if_neg h4, if_pos h14]⟩)
          · rw [if_neg h14] at hs
            refine tm_go 2 (pc' := 32) (L' := [some (.ref 47), some (.int a0), some (.int b0), some (.int c0), some (.int e0), some (.int f0)]) (S' := [.int 100, .int f0]) (w' := w) rfl ?_
            refine tm_i (p1 := 69) (p2 := 35) rfl (fun h15 => ?_) (fun h15 => ?_)
            · rw [if_pos h15] at hs
              refine tm_go 1 (pc' := 70) (L' := [some (.ref 47), some (.int a0), some (.int b0), some (.int c0), some (.int e0), some (.int f0)]) (S' := [.int 0]) (w' := w) rfl ?_
              exact tm_r rfl (⟨by unfold g_Ac_tie; rw [if_neg h1, if_neg h2, if_pos h3, if_neg h4, if_neg h14, if_pos h15], by unfold u_Ac_tie; rw [if_neg h1, if_neg h2, if_pos h3, if_neg h4, if_neg h14, if_pos h15]⟩)
            · rw [if_neg h15] at hs
              refine tm_go 2 (pc' := 37) (L' := [some (.ref 47), some (.int a0), some (.int b0), some (.int c0), some (.int e0), some (.int f0)]) (S' := [.int 2, .int b0]) (w' := w) rfl ?_
              refine tm_i (p1 := 52) (p2 := 40) rfl (fun h16 => ?_) (fun h16 => ?_)
              · rw [if_pos h16] at hs
                refine tm_go 2 (pc' := 54) (L' := [some (.ref 47), some (.int a0), some (.int b0), some (.int c0), some (.int e0), some (.int f0)]) (S' := [.int 3, .int b0]) (w' := w) rfl ?_
                refine tm_i (p1 := 71) (p2 := 57) rfl (fun h17 => ?_) (fun h17 => ?_)
                · rw [if_pos h17] at hs
                  refine tm_go 4 (pc' := 77) (L' := [some (.ref 47), some (.int a0), some (.int b0), some (.int c0), some (.int e0), some (.int f0)]) (S' := [.int b0, .int a0, .ref 60]) (w' := w) rfl ?_
                  obtain ⟨b17, hs⟩ := hs
                  refine tm_k (pc' := 78) (L' := [some (.ref 47), some (.int a0), some (.int b0), some (.int c0), some (.int e0), some (.int f0)]) (S' := []) (w' := (sI w 60 a0.toInt.toNat b0)) rfl b17 ?_
                  refine tm_go 4 (pc' := 84) (L' := [some (.ref 47), some (.int a0), some (.int b0), some (.int c0), some (.int e0), some (.int f0)]) (S' := [.int c0, .int a0, .ref 57]) (w' := (sI w 60 a0.toInt.toNat b0)) rfl ?_
                  obtain ⟨b18, hs⟩ := hs
                  refine tm_k (pc' := 85) (L' := [some (.ref 47), some (.int a0), some (.int b0), some (.int c0), some (.int e0), some (.int f0)]) (S' := []) (w' := (sI (sI w 60 a0.toInt.toNat b0) 57 a0.toInt.toNat c0)) rfl b18 ?_
                  refine tm_go 4 (pc' := 92) (L' := [some (.ref 47), some (.int a0), some (.int b0), some (.int c0), some (.int e0), some (.int f0)]) (S' := [.int e0, .int a0, .ref 58]) (w' := (sI (sI w 60 a0.toInt.toNat b0) 57 a0.toInt.toNat c0)) rfl ?_
                  obtain ⟨b19, hs⟩ := hs
                  refine tm_k (pc' := 93) (L' := [some (.ref 47), some (.int a0), some (.int b0), some (.int c0), some (.int e0), some (.int f0)]) (S' := []) (w' := (sI (sI (sI w 60 a0.toInt.toNat b0) 57 a0.toInt.toNat c0) 58 a0.toInt.toNat e0)) rfl b19 ?_
                  refine tm_go 4 (pc' := 100) (L' := [some (.ref 47), some (.int a0), some (.int b0), some (.int c0), some (.int e0), some (.int f0)]) (S' := [.int f0, .int a0, .ref 59]) (w' := (sI (sI (sI w 60 a0.toInt.toNat b0) 57 a0.toInt.toNat c0) 58 a0.toInt.toNat e0)) rfl ?_
                  obtain ⟨b20, hs⟩ := hs
                  refine tm_k (pc' := 101) (L' := [some (.ref 47), some (.int a0), some (.int b0), some (.int c0), some (.int e0), some (.int f0)]) (S' := []) (w' := (sI (sI (sI (sI w 60 a0.toInt.toNat b0) 57 a0.toInt.toNat c0) 58 a0.toInt.toNat e0) 59 a0.toInt.toNat f0)) rfl b20 ?_
                  refine tm_go 1 (pc' := 102) (L' := [some (.ref 47), some (.int a0), some (.int b0), some (.int c0), some (.int e0), some (.int f0)]) (S' := [.int 1]) (w' := (sI (sI (sI (sI w 60 a0.toInt.toNat b0) 57 a0.toInt.toNat c0) 58 a0.toInt.toNat e0) 59 a0.toInt.toNat f0)) rfl ?_
                  exact tm_r rfl (⟨by unfold g_Ac_tie; rw [if_neg h1, if_neg h2, if_pos h3, if_neg h4, if_neg h14, if_neg h15, if_pos h16, if_pos h17], by unfold u_Ac_tie; rw [if_neg h1, if_neg h2, if_pos h3, if_neg h4, if_neg h14, if_neg h15, if_pos h16, if_pos h17]⟩)
                · rw [if_neg h17] at hs
                  refine tm_go 2 (pc' := 60) (L' := [some (.ref 47), some (.int a0), some (.int b0), some (.int c0), some (.int e0), some (.int f0)]) (S' := [.int 1, .int e0]) (w' := w) rfl ?_
                  refine tm_i (p1 := 69) (p2 := 63) rfl (fun h18 => ?_) (fun h18 => ?_)
                  · rw [if_pos h18] at hs
                    refine tm_go 1 (pc' := 70) (L' := [some (.ref 47), some (.int a0), some (.int b0), some (.int c0), some (.int e0), some (.int f0)]) (S' := [.int 0]) (w' := w) rfl ?_
                    exact tm_r rfl (⟨by unfold g_Ac_tie; rw [if_neg h1, if_neg h2, if_pos h3, if_neg h4, if_neg h14, if_neg h15, if_pos h16, if_neg h17, if_pos h18], by unfold u_Ac_tie; rw [if_neg h1, if_neg h2, if_pos h3, if_neg h4, if_neg h14, if_neg h15, if_pos h16, if_neg h17, if_pos h18]⟩)
                  · rw [if_neg h18] at hs
                    refine tm_go 2 (pc' := 66) (L' := [some (.ref 47), some (.int a0), some (.int b0), some (.int c0), some (.int e0), some (.int f0)]) (S' := [.int 5, .int e0]) (w' := w) rfl ?_
                    refine tm_i (p1 := 71) (p2 := 69) rfl (fun h19 => ?_) (fun h19 => ?_)
                    · rw [if_pos h19] at hs
                      refine tm_go 4 (pc' := 77) (L' := [some (.ref 47), some (.int a0), some (.int b0), some (.int c0), some (.int e0), some (.int f0)]) (S' := [.int b0, .int a0, .ref 60]) (w' := w) rfl ?_
                      obtain ⟨b21, hs⟩ := hs
                      refine tm_k (pc' := 78) (L' := [some (.ref 47), some (.int a0), some (.int b0), some (.int c0), some (.int e0), some (.int f0)]) (S' := []) (w' := (sI w 60 a0.toInt.toNat b0)) rfl b21 ?_
                      refine tm_go 4 (pc' := 84) (L' := [some (.ref 47), some (.int a0), some (.int b0), some (.int c0), some (.int e0), some (.int f0)]) (S' := [.int c0, .int a0, .ref 57]) (w' := (sI w 60 a0.toInt.toNat b0)) rfl ?_
                      obtain ⟨b22, hs⟩ := hs
                      refine tm_k (pc' := 85) (L' := [some (.ref 47), some (.int a0), some (.int b0), some (.int c0), some (.int e0), some (.int f0)]) (S' := []) (w' := (sI (sI w 60 a0.toInt.toNat b0) 57 a0.toInt.toNat c0)) rfl b22 ?_
                      refine tm_go 4 (pc' := 92) (L' := [some (.ref 47), some (.int a0), some (.int b0), some (.int c0), some (.int e0), some (.int f0)]) (S' := [.int e0, .int a0, .ref 58]) (w' := (sI (sI w 60 a0.toInt.toNat b0) 57 a0.toInt.toNat c0)) rfl ?_
                      obtain ⟨b23, hs⟩ := hs
                      refine tm_k (pc' := 93) (L' := [some (.ref 47), some (.int a0), some (.int b0), some (.int c0), some (.int e0), some (.int f0)]) (S' := []) (w' := (sI (sI (sI w 60 a0.toInt.toNat b0) 57 a0.toInt.toNat c0) 58 a0.toInt.toNat e0)) rfl b23 ?_
                      refine tm_go 4 (pc' := 100) (L' := [some (.ref 47), some (.int a0), some (.int b0), some (.int c0), some (.int e0), some (.int f0)]) (S' := [.int f0, .int a0, .ref 59]) (w' := (sI (sI (sI w 60 a0.toInt.toNat b0) 57 a0.toInt.toNat c0) 58 a0.toInt.toNat e0)) rfl ?_
                      obtain ⟨b24, hs⟩ := hs
                      refine tm_k (pc' := 101) (L' := [some (.ref 47), some (.int a0), some (.int b0), some (.int c0), some (.int e0), some (.int f0)]) (S' := []) (w' := (sI (sI (sI (sI w 60 a0.toInt.toNat b0) 57 a0.toInt.toNat c0) 58 a0.toInt.toNat e0) 59 a0.toInt.toNat f0)) rfl b24 ?_
                      refine tm_go 1 (pc' := 102) (L' := [some (.ref 47), some (.int a0), some (.int b0), some (.int c0), some (.int e0), some (.int f0)]) (S' := [.int 1]) (w' := (sI (sI (sI (sI w 60 a0.toInt.toNat b0) 57 a0.toInt.toNat c0) 58 a0.toInt.toNat e0) 59 a0.toInt.toNat f0)) rfl ?_
                      exact tm_r rfl (⟨by unfold g_Ac_tie; rw [if_neg h1, if_neg h2, if_pos h3, if_neg h4, if_neg h14, if_neg h15, if_pos h16, if_neg h17, if_neg h18, if_pos h19], by unfold u_Ac_tie; rw [if_neg h1, if_neg h2, if_pos h3, if_neg h4, if_neg h14, if_neg h15, if_pos h16, if_neg h17, if_neg h18, if_pos h19]⟩)
                    · rw [if_neg h19] at hs
                      refine tm_go 1 (pc' := 70) (L' := [some (.ref 47), some (.int a0), some (.int b0), some (.int c0), some (.int e0), some (.int f0)]) (S' := [.int 0]) (w' := w) rfl ?_
                      exact tm_r rfl (⟨by unfold g_Ac_tie; rw [if_neg h1, if_neg h2, if_pos h3, if_neg h4, if_neg h14, if_neg h15, if_pos h16, if_neg h17, if_neg h18, if_neg h19], by unfold u_Ac_tie; rw [if_neg h1, if_neg h2, if_pos h3, if_neg h4, if_neg h14, if_neg h15, if_pos h16, if_neg h17, if_neg h18, if_neg h19]⟩)
              · rw [if_neg h16] at hs
                refine tm_go 1 (pc' := 42) (L' := [some (.ref 47), some (.int a0), some (.int b0), some (.int c0), some (.int e0), some (.int f0)]) (S' := [.int e0]) (w' := w) rfl ?_
                refine tm_i (p1 := 69) (p2 := 45) rfl (fun h20 => ?_) (fun h20 => ?_)
                · rw [if_pos h20] at hs
                  refine tm_go 1 (pc' := 70) (L' := [some (.ref 47), some (.int a0), some (.int b0), some (.int c0), some (.int e0), some (.int f0)]) (S' := [.int 0]) (w' := w) rfl ?_
                  exact tm_r rfl (⟨by unfold g_Ac_tie; rw [if_neg h1, if_neg h2, if_pos h3, if_neg h4, if_neg h14, if_neg h15, if_neg h16, if_pos h20], by unfold u_Ac_tie; rw [if_neg h1, if_neg h2, if_pos h3, if_neg h4, if_neg h14, if_neg h15, if_neg h16, if_pos h20]⟩)
                · rw [if_neg h20] at hs
                  refine tm_go 2 (pc' := 49) (L' := [some (.ref 47), some (.int a0), some (.int b0), some (.int c0), some (.int e0), some (.int f0)]) (S' := [.int 10, .int e0]) (w' := w) rfl ?_
                  refine tm_i (p1 := 69) (p2 := 52) rfl (fun h21 => ?_) (fun h21 => ?_)
                  · rw [if_pos h21] at hs
                    refine tm_go 1 (pc' := 70) (L' := [some (.ref 47), some (.int a0), some (.int b0), some (.int c0), some (.int e0), some (.int f0)]) (S' := [.int 0]) (w' := w) rfl ?_
                    exact tm_r rfl (⟨by unfold g_Ac_tie; rw [if_neg h1, if_neg h2, if_pos h3, if_neg h4, if_neg h14, if_neg h15, if_neg h16, if_neg h20, if_pos h21], by unfold u_Ac_tie; rw [if_neg h1, if_neg h2, if_pos h3, if_neg h4, if_neg h14, if_neg h15, if_neg h16, if_neg h20, if_pos h21]⟩)
                  · rw [if_neg h21] at hs
                    refine tm_go 2 (pc' := 54) (L' := [some (.ref 47), some (.int a0), some (.int b0), some (.int c0), some (.int e0), some (.int f0)]) (S' := [.int 3, .int b0]) (w' := w) rfl ?_
                    refine tm_i (p1 := 71) (p2 := 57) rfl (fun h22 => ?_) (fun h22 => ?_)
                    · rw [if_pos h22] at hs
                      refine tm_go 4 (pc' := 77) (L' := [some (.ref 47), some (.int a0), some (.int b0), some (.int c0), some (.int e0), some (.int f0)]) (S' := [.int b0, .int a0, .ref 60]) (w' := w) rfl ?_
                      obtain ⟨b25, hs⟩ := hs
                      refine tm_k (pc' := 78) (L' := [some (.ref 47), some (.int a0), some (.int b0), some (.int c0), some (.int e0), some (.int f0)]) (S' := []) (w' := (sI w 60 a0.toInt.toNat b0)) rfl b25 ?_
                      refine tm_go 4 (pc' := 84) (L' := [some (.ref 47), some (.int a0), some (.int b0), some (.int c0), some (.int e0), some (.int f0)]) (S' := [.int c0, .int a0, .ref 57]) (w' := (sI w 60 a0.toInt.toNat b0)) rfl ?_
                      obtain ⟨b26, hs⟩ := hs
                      refine tm_k (pc' := 85) (L' := [some (.ref 47), some (.int a0), some (.int b0), some (.int c0), some (.int e0), some (.int f0)]) (S' := []) (w' := (sI (sI w 60 a0.toInt.toNat b0) 57 a0.toInt.toNat c0)) rfl b26 ?_
                      refine tm_go 4 (pc' := 92) (L' := [some (.ref 47), some (.int a0), some (.int b0), some (.int c0), some (.int e0), some (.int f0)]) (S' := [.int e0, .int a0, .ref 58]) (w' := (sI (sI w 60 a0.toInt.toNat b0) 57 a0.toInt.toNat c0)) rfl ?_
                      obtain ⟨b27, hs⟩ := hs
                      refine tm_k (pc' := 93) (L' := [some (.ref 47), some (.int a0), some (.int b0), some (.int c0), some (.int e0), some (.int f0)]) (S' := []) (w' := (sI (sI (sI w 60 a0.toInt.toNat b0) 57 a0.toInt.toNat c0) 58 a0.toInt.toNat e0)) rfl b27 ?_
                      refine tm_go 4 (pc' := 100) (L' := [some (.ref 47), some (.int a0), some (.int b0), some (.int c0), some (.int e0), some (.int f0)]) (S' := [.int f0, .int a0, .ref 59]) (w' := (sI (sI (sI w 60 a0.toInt.toNat b0) 57 a0.toInt.toNat c0) 58 a0.toInt.toNat e0)) rfl ?_
                      obtain ⟨b28, hs⟩ := hs
                      refine tm_k (pc' := 101) (L' := [some (.ref 47), some (.int a0), some (.int b0), some (.int c0), some (.int e0), some (.int f0)]) (S' := []) (w' := (sI (sI (sI (sI w 60 a0.toInt.toNat b0) 57 a0.toInt.toNat c0) 58 a0.toInt.toNat e0) 59 a0.toInt.toNat f0)) rfl b28 ?_
                      refine tm_go 1 (pc' := 102) (L' := [some (.ref 47), some (.int a0), some (.int b0), some (.int c0), some (.int e0), some (.int f0)]) (S' := [.int 1]) (w' := (sI (sI (sI (sI w 60 a0.toInt.toNat b0) 57 a0.toInt.toNat c0) 58 a0.toInt.toNat e0) 59 a0.toInt.toNat f0)) rfl ?_
                      exact tm_r rfl (⟨by unfold g_Ac_tie; rw [if_neg h1, if_neg h2, if_pos h3, if_neg h4, if_neg h14, if_neg h15, if_neg h16, if_neg h20, if_neg h21, if_pos h22], by unfold u_Ac_tie; rw [if_neg h1, if_neg h2, if_pos h3, if_neg h4, if_neg h14, if_neg h15, if_neg h16, if_neg h20, if_neg h21, if_pos h22]⟩)
                    · rw [if_neg h22] at hs
                      refine tm_go 2 (pc' := 60) (L' := [some (.ref 47), some (.int a0), some (.int b0), some (.int c0), some (.int e0), some (.int f0)]) (S' := [.int 1, .int e0]) (w' := w) rfl ?_
                      refine tm_i (p1 := 69) (p2 := 63) rfl (fun h23 => ?_) (fun h23 => ?_)
                      · rw [if_pos h23] at hs
                        refine tm_go 1 (pc' := 70) (L' := [some (.ref 47), some (.int a0), some (.int b0), some (.int c0), some (.int e0), some (.int f0)]) (S' := [.int 0]) (w' := w) rfl ?_
                        exact tm_r rfl (⟨by unfold g_Ac_tie; rw [if_neg h1, if_neg h2, if_pos h3, if_neg h4, if_neg h14, if_neg h15, if_neg h16, if_neg h20, if_neg h21, if_neg h22, if_pos h23], by unfold u_Ac_tie; rw [if_neg h1, if_neg h2, if_pos h3, if_neg h4, if_neg h14, if_neg h15, if_neg h16, if_neg h20, if_neg h21, if_neg h22, if_pos h23]⟩)
                      · rw [if_neg h23] at hs
                        refine tm_go 2 (pc' := 66) (L' := [some (.ref 47), some (.int a0), some (.int b0), some (.int c0), some (.int e0), some (.int f0)]) (S' := [.int 5, .int e0]) (w' := w) rfl ?_
                        refine tm_i (p1 := 71) (p2 := 69) rfl (fun h24 => ?_) (fun h24 => ?_)
                        · rw [if_pos h24] at hs
                          refine tm_go 4 (pc' := 77) (L' := [some (.ref 47), some (.int a0), some (.int b0), some (.int c0), some (.int e0), some (.int f0)]) (S' := [.int b0, .int a0, .ref 60]) (w' := w) rfl ?_
                          obtain ⟨b29, hs⟩ := hs
                          refine tm_k (pc' := 78) (L' := [some (.ref 47), some (.int a0), some (.int b0), some (.int c0), some (.int e0), some (.int f0)]) (S' := []) (w' := (sI w 60 a0.toInt.toNat b0)) rfl b29 ?_
                          refine tm_go 4 (pc' := 84) (L' := [some (.ref 47), some (.int a0), some (.int b0), some (.int c0), some (.int e0), some (.int f0)]) (S' := [.int c0, .int a0, .ref 57]) (w' := (sI w 60 a0.toInt.toNat b0)) rfl ?_
                          obtain ⟨b30, hs⟩ := hs
                          refine tm_k (pc' := 85) (L' := [some (.ref 47), some (.int a0), some (.int b0), some (.int c0), some (.int e0), some (.int f0)]) (S' := []) (w' := (sI (sI w 60 a0.toInt.toNat b0) 57 a0.toInt.toNat c0)) rfl b30 ?_
                          refine tm_go 4 (pc' := 92) (L' := [some (.ref 47), some (.int a0), some (.int b0), some (.int c0), some (.int e0), some (.int f0)]) (S' := [.int e0, .int a0, .ref 58]) (w' := (sI (sI w 60 a0.toInt.toNat b0) 57 a0.toInt.toNat c0)) rfl ?_
                          obtain ⟨b31, hs⟩ := hs
                          refine tm_k (pc' := 93) (L' := [some (.ref 47), some (.int a0), some (.int b0), some (.int c0), some (.int e0), some (.int f0)]) (S' := []) (w' := (sI (sI (sI w 60 a0.toInt.toNat b0) 57 a0.toInt.toNat c0) 58 a0.toInt.toNat e0)) rfl b31 ?_
                          refine tm_go 4 (pc' := 100) (L' := [some (.ref 47), some (.int a0), some (.int b0), some (.int c0), some (.int e0), some (.int f0)]) (S' := [.int f0, .int a0, .ref 59]) (w' := (sI (sI (sI w 60 a0.toInt.toNat b0) 57 a0.toInt.toNat c0) 58 a0.toInt.toNat e0)) rfl ?_
                          obtain ⟨b32, hs⟩ := hs
                          refine tm_k (pc' := 101) (L' := [some (.ref 47), some (.int a0), some (.int b0), some (.int c0), some (.int e0), some (.int f0)]) (S' := []) (w' := (sI (sI (sI (sI w 60 a0.toInt.toNat b0) 57 a0.toInt.toNat c0) 58 a0.toInt.toNat e0) 59 a0.toInt.toNat f0)) rfl b32 ?_
                          refine tm_go 1 (pc' := 102) (L' := [some (.ref 47), some (.int a0), some (.int b0), some (.int c0), some (.int e0), some (.int f0)]) (S' := [.int 1]) (w' := (sI (sI (sI (sI w 60 a0.toInt.toNat b0) 57 a0.toInt.toNat c0) 58 a0.toInt.toNat e0) 59 a0.toInt.toNat f0)) rfl ?_
                          exact tm_r rfl (⟨by unfold g_Ac_tie; rw [if_neg h1, if_neg h2, if_pos h3, if_neg h4, if_neg h14, if_neg h15, if_neg h16, if_neg h20, if_neg h21, if_neg h22, if_neg h23, if_pos h24], by unfold u_Ac_tie; rw [if_neg h1, if_neg h2, if_pos h3, if_neg h4, if_neg h14, if_neg h15, if_neg h16, if_neg h20, if_neg h21, if_neg h22, if_neg h23, if_pos h24]⟩)
                        · rw [if_neg h24] at hs
                          refine tm_go 1 (pc' := 70) (L' := [some (.ref 47), some (.int a0), some (.int b0), some (.int c0), some (.int e0), some (.int f0)]) (S' := [.int 0]) (w' := w) rfl ?_
                          exact tm_r rfl (⟨by unfold g_Ac_tie; rw [if_neg h1, if_neg h2, if_pos h3, if_neg h4, if_neg h14, if_neg h15, if_neg h16, if_neg h20, if_neg h21, if_neg h22, if_neg h23, if_neg h24], by unfold u_Ac_tie; rw [if_neg h1, if_neg h2, if_pos h3, if_neg h4, if_neg h14, if_neg h15, if_neg h16, if_neg h20, if_neg h21, if_neg h22, if_neg h23, if_neg h24]⟩)
      · rw [if_neg h3] at hs
        refine tm_go 1 (pc' := 17) (L' := [some (.ref 47), some (.int a0), some (.int b0), some (.int c0), some (.int e0), some (.int f0)]) (S' := [.int 0]) (w' := w) rfl ?_
        exact tm_r rfl (⟨by unfold g_Ac_tie; rw [if_neg h1, if_neg h2, if_neg h3], by unfold u_Ac_tie; rw [if_neg h1, if_neg h2, if_neg h3]⟩)
def s_Al_add (w : MW) (a0 : Int32) (b0 : Int32) (c0 : Int32) : Prop := (if (200 : Int32).toInt ≤ (w.1 3 0).toInt then True else ((0 ≤ (w.1 3 0).toInt ∧ (w.1 3 0).toInt < 200) ∧ ((0 ≤ (w.1 3 0).toInt ∧ (w.1 3 0).toInt < 200) ∧ ((0 ≤ (w.1 3 0).toInt ∧ (w.1 3 0).toInt < 200) ∧ True))))
def u_Al_add (w : MW) (a0 : Int32) (b0 : Int32) (c0 : Int32) : MW := (if (200 : Int32).toInt ≤ (w.1 3 0).toInt then w else (sI (sI (sI (sI w 4 ((w.1 3 0).toInt.toNat) a0) 5 ((w.1 3 0).toInt.toNat) b0) 6 ((w.1 3 0).toInt.toNat) c0) 3 0 ((w.1 3 0) + (1 : Int32))))
theorem ur_Al_add (w : MW) (a0 : Int32) (b0 : Int32) (c0 : Int32) : (u_Al_add w a0 b0 c0).2.2 = w.2.2 := (ite_R rfl rfl)
set_option maxHeartbeats 4000000 in
set_option maxRecDepth 100000 in
theorem c_Al_add {d : Nat} (w : MW) (a0 : Int32) (b0 : Int32) (c0 : Int32)  (hs : s_Al_add w a0 b0 c0) : Tc (d + 0) 135 [.ref 3, .int a0, .int b0, .int c0] w (fun v w1 => v = none ∧ w1 = u_Al_add w a0 b0 c0) := by
  unfold s_Al_add at hs
  refine tm_go 5 (pc' := 9) (L' := [some (.ref 3), some (.int a0), some (.int b0), some (.int c0)]) (S' := [.int 200, .int (w.1 3 0)]) (w' := w) rfl ?_
  refine tm_i (p1 := 52) (p2 := 12) rfl (fun h1 => ?_) (fun h1 => ?_)
  · rw [if_pos h1] at hs
    exact tm_r rfl (⟨rfl, by unfold u_Al_add; rw [if_pos h1]⟩)
  · rw [if_neg h1] at hs
    refine tm_go 5 (pc' := 21) (L' := [some (.ref 3), some (.int a0), some (.int b0), some (.int c0)]) (S' := [.int a0, .int (w.1 3 0), .ref 4]) (w' := w) rfl ?_
    obtain ⟨b1, hs⟩ := hs
    refine tm_k (pc' := 22) (L' := [some (.ref 3), some (.int a0), some (.int b0), some (.int c0)]) (S' := []) (w' := (sI w 4 ((w.1 3 0).toInt.toNat) a0)) rfl b1 ?_
    refine tm_go 5 (pc' := 31) (L' := [some (.ref 3), some (.int a0), some (.int b0), some (.int c0)]) (S' := [.int b0, .int (w.1 3 0), .ref 5]) (w' := (sI w 4 ((w.1 3 0).toInt.toNat) a0)) rfl ?_
    obtain ⟨b2, hs⟩ := hs
    refine tm_k (pc' := 32) (L' := [some (.ref 3), some (.int a0), some (.int b0), some (.int c0)]) (S' := []) (w' := (sI (sI w 4 ((w.1 3 0).toInt.toNat) a0) 5 ((w.1 3 0).toInt.toNat) b0)) rfl b2 ?_
    refine tm_go 5 (pc' := 41) (L' := [some (.ref 3), some (.int a0), some (.int b0), some (.int c0)]) (S' := [.int c0, .int (w.1 3 0), .ref 6]) (w' := (sI (sI w 4 ((w.1 3 0).toInt.toNat) a0) 5 ((w.1 3 0).toInt.toNat) b0)) rfl ?_
    obtain ⟨b3, hs⟩ := hs
    refine tm_k (pc' := 42) (L' := [some (.ref 3), some (.int a0), some (.int b0), some (.int c0)]) (S' := []) (w' := (sI (sI (sI w 4 ((w.1 3 0).toInt.toNat) a0) 5 ((w.1 3 0).toInt.toNat) b0) 6 ((w.1 3 0).toInt.toNat) c0)) rfl b3 ?_
    refine tm_go 6 (pc' := 52) (L' := [some (.ref 3), some (.int a0), some (.int b0), some (.int c0)]) (S' := []) (w' := (sI (sI (sI (sI w 4 ((w.1 3 0).toInt.toNat) a0) 5 ((w.1 3 0).toInt.toNat) b0) 6 ((w.1 3 0).toInt.toNat) c0) 3 0 ((w.1 3 0) + (1 : Int32)))) rfl ?_
    exact tm_r rfl (⟨rfl, by unfold u_Al_add; rw [if_neg h1]⟩)
def s_Al_get (w : MW) (a0 : Int32) (b0 : Int32) : Prop := (if a0.toInt < 0 then True else (if (w.1 3 0).toInt ≤ a0.toInt then True else (if b0.toInt < 0 then True else (if b0.toInt ≤ (2 : Int32).toInt then (if ¬ b0.toInt = 0 then (if ¬ b0.toInt = (1 : Int32).toInt then ((0 ≤ a0.toInt ∧ a0.toInt < 200) ∧ True) else ((0 ≤ a0.toInt ∧ a0.toInt < 200) ∧ True)) else ((0 ≤ a0.toInt ∧ a0.toInt < 200) ∧ True)) else True))))
def g_Al_get (w : MW) (a0 : Int32) (b0 : Int32) : Int32 := (if a0.toInt < 0 then (-1) else (if (w.1 3 0).toInt ≤ a0.toInt then (-1) else (if b0.toInt < 0 then (-1) else (if b0.toInt ≤ (2 : Int32).toInt then (if ¬ b0.toInt = 0 then (if ¬ b0.toInt = (1 : Int32).toInt then (w.1 6 a0.toInt.toNat) else (w.1 5 a0.toInt.toNat)) else (w.1 4 a0.toInt.toNat)) else (-1)))))
set_option maxHeartbeats 4000000 in
set_option maxRecDepth 100000 in
theorem c_Al_get {d : Nat} (w : MW) (a0 : Int32) (b0 : Int32)  (hs : s_Al_get w a0 b0) : Tc (d + 0) 136 [.ref 3, .int a0, .int b0] w (fun v w1 => v = some (.int (g_Al_get w a0 b0)) ∧ w1 = w) := by
  unfold s_Al_get at hs
  refine tm_go 1 (pc' := 1) (L' := [some (.ref 3), some (.int a0), some (.int b0)]) (S' := [.int a0]) (w' := w) rfl ?_
  refine tm_i (p1 := 21) (p2 := 4) rfl (fun h1 => ?_) (fun h1 => ?_)
  · rw [if_pos h1] at hs
    refine tm_go 1 (pc' := 22) (L' := [some (.ref 3), some (.int a0), some (.int b0)]) (S' := [.int (-1)]) (w' := w) rfl ?_
    exact tm_r rfl (⟨by unfold g_Al_get; rw [if_pos h1], rfl⟩)
  · rw [if_neg h1] at hs
    refine tm_go 3 (pc' := 9) (L' := [some (.ref 3), some (.int a0), some (.int b0)]) (S' := [.int (w.1 3 0), .int a0]) (w' := w) rfl ?_
    refine tm_i (p1 := 21) (p2 := 12) rfl (fun h2 => ?_) (fun h2 => ?_)
    · rw [if_pos h2] at hs
      refine tm_go 1 (pc' := 22) (L' := [some (.ref 3), some (.int a0), some (.int b0)]) (S' := [.int (-1)]) (w' := w) rfl ?_
      exact tm_r rfl (⟨by unfold g_Al_get; rw [if_neg h1, if_pos h2], rfl⟩)
    · rw [if_neg h2] at hs
      refine tm_go 1 (pc' := 13) (L' := [some (.ref 3), some (.int a0), some (.int b0)]) (S' := [.int b0]) (w' := w) rfl ?_
      refine tm_i (p1 := 21) (p2 := 16) rfl (fun h3 => ?_) (fun h3 => ?_)
      · rw [if_pos h3] at hs
        refine tm_go 1 (pc' := 22) (L' := [some (.ref 3), some (.int a0), some (.int b0)]) (S' := [.int (-1)]) (w' := w) rfl ?_
        exact tm_r rfl (⟨by unfold g_Al_get; rw [if_neg h1, if_neg h2, if_pos h3], rfl⟩)
      · rw [if_neg h3] at hs
        refine tm_go 2 (pc' := 18) (L' := [some (.ref 3), some (.int a0), some (.int b0)]) (S' := [.int 2, .int b0]) (w' := w) rfl ?_
        refine tm_i (p1 := 23) (p2 := 21) rfl (fun h4 => ?_) (fun h4 => ?_)
        · rw [if_pos h4] at hs
          refine tm_go 1 (pc' := 24) (L' := [some (.ref 3), some (.int a0), some (.int b0)]) (S' := [.int b0]) (w' := w) rfl ?_
          refine tm_i (p1 := 36) (p2 := 27) rfl (fun h5 => ?_) (fun h5 => ?_)
          · rw [if_pos h5] at hs
            refine tm_go 2 (pc' := 38) (L' := [some (.ref 3), some (.int a0), some (.int b0)]) (S' := [.int 1, .int b0]) (w' := w) rfl ?_
            refine tm_i (p1 := 50) (p2 := 41) rfl (fun h6 => ?_) (fun h6 => ?_)
            · rw [if_pos h6] at hs
              refine tm_go 3 (pc' := 55) (L' := [some (.ref 3), some (.int a0), some (.int b0)]) (S' := [.int a0, .ref 6]) (w' := w) rfl ?_
              obtain ⟨b1, hs⟩ := hs
              refine tm_k (pc' := 56) (L' := [some (.ref 3), some (.int a0), some (.int b0)]) (S' := [.int (w.1 6 a0.toInt.toNat)]) (w' := w) rfl b1 ?_
              exact tm_r rfl (⟨by unfold g_Al_get; rw [if_neg h1, if_neg h2, if_neg h3, if_pos h4, if_pos h5, if_pos h6], rfl⟩)
            · rw [if_neg h6] at hs
              refine tm_go 3 (pc' := 46) (L' := [some (.ref 3), some (.int a0), some (.int b0)]) (S' := [.int a0, .ref 5]) (w' := w) rfl ?_
              obtain ⟨b2, hs⟩ := hs
              refine tm_k (pc' := 47) (L' := [some (.ref 3), some (.int a0), some (.int b0)]) (S' := [.int (w.1 5 a0.toInt.toNat)]) (w' := w) rfl b2 ?_
              refine tm_go 1 (pc' := 56) (L' := [some (.ref 3), some (.int a0), some (.int b0)]) (S' := [.int (w.1 5 a0.toInt.toNat)]) (w' := w) rfl ?_
              exact tm_r rfl (⟨by unfold g_Al_get; rw [if_neg h1, if_neg h2, if_neg h3, if_pos h4, if_pos h5, if_neg h6], rfl⟩)
          · rw [if_neg h5] at hs
            refine tm_go 3 (pc' := 32) (L' := [some (.ref 3), some (.int a0), some (.int b0)]) (S' := [.int a0, .ref 4]) (w' := w) rfl ?_
            obtain ⟨b3, hs⟩ := hs
            refine tm_k (pc' := 33) (L' := [some (.ref 3), some (.int a0), some (.int b0)]) (S' := [.int (w.1 4 a0.toInt.toNat)]) (w' := w) rfl b3 ?_
            refine tm_go 1 (pc' := 56) (L' := [some (.ref 3), some (.int a0), some (.int b0)]) (S' := [.int (w.1 4 a0.toInt.toNat)]) (w' := w) rfl ?_
            exact tm_r rfl (⟨by unfold g_Al_get; rw [if_neg h1, if_neg h2, if_neg h3, if_pos h4, if_neg h5], rfl⟩)
        · rw [if_neg h4] at hs
          refine tm_go 1 (pc' := 22) (L' := [some (.ref 3), some (.int a0), some (.int b0)]) (S' := [.int (-1)]) (w' := w) rfl ?_
          exact tm_r rfl (⟨by unfold g_Al_get; rw [if_neg h1, if_neg h2, if_neg h3, if_neg h4], rfl⟩)
def s_Pl_joins (w : MW) (a0 : Int32) (b0 : Int32) : Prop := ((0 ≤ a0.toInt ∧ a0.toInt < 48) ∧ ((0 ≤ a0.toInt ∧ a0.toInt < 48) ∧ (if ¬ b0.toInt = ((-1) : Int32).toInt then (if (w.1 8 0).toInt ≤ b0.toInt then True else ((0 ≤ b0.toInt ∧ b0.toInt < 20) ∧ ((0 ≤ b0.toInt ∧ b0.toInt < 20) ∧ ((0 ≤ (w.1 9 b0.toInt.toNat).toInt ∧ (w.1 9 b0.toInt.toNat).toInt < 10) ∧ (if (w.1 11 b0.toInt.toNat).toInt < ((stT 1000).getD (w.1 9 b0.toInt.toNat).toInt.toNat 0).toInt then ((0 ≤ b0.toInt ∧ b0.toInt < 20) ∧ (if (w.1 9 b0.toInt.toNat).toInt = (9 : Int32).toInt then ((0 ≤ b0.toInt ∧ b0.toInt < 20) ∧ ((0 ≤ b0.toInt ∧ b0.toInt < 20) ∧ True)) else ((0 ≤ b0.toInt ∧ b0.toInt < 20) ∧ ((0 ≤ a0.toInt ∧ a0.toInt < 48) ∧ ((0 ≤ b0.toInt ∧ b0.toInt < 20) ∧ ((0 ≤ ((b0 * (4 : Int32)) + (w.1 11 b0.toInt.toNat)).toInt ∧ ((b0 * (4 : Int32)) + (w.1 11 b0.toInt.toNat)).toInt < 80) ∧ ((0 ≤ b0.toInt ∧ b0.toInt < 20) ∧ ((0 ≤ b0.toInt ∧ b0.toInt < 20) ∧ True)))))))) else True))))) else True)))
def g_Pl_joins (w : MW) (a0 : Int32) (b0 : Int32) : Int32 := (if ¬ b0.toInt = ((-1) : Int32).toInt then (if (w.1 8 0).toInt ≤ b0.toInt then 0 else (if (w.1 11 b0.toInt.toNat).toInt < ((stT 1000).getD (w.1 9 b0.toInt.toNat).toInt.toNat 0).toInt then (if (w.1 9 b0.toInt.toNat).toInt = (9 : Int32).toInt then 1 else 1) else 0)) else 1)
def u_Pl_joins (w : MW) (a0 : Int32) (b0 : Int32) : MW := (if ¬ b0.toInt = ((-1) : Int32).toInt then (if (w.1 8 0).toInt ≤ b0.toInt then (sI (sI w 13 a0.toInt.toNat b0) 14 a0.toInt.toNat 0) else (if (w.1 11 b0.toInt.toNat).toInt < ((stT 1000).getD (w.1 9 b0.toInt.toNat).toInt.toNat 0).toInt then (if (w.1 9 b0.toInt.toNat).toInt = (9 : Int32).toInt then (sI (sI (sI w 13 a0.toInt.toNat b0) 14 a0.toInt.toNat 0) 11 b0.toInt.toNat ((w.1 11 b0.toInt.toNat) + (1 : Int32))) else (sI (sI (sI (sI (sI w 13 a0.toInt.toNat b0) 14 a0.toInt.toNat 0) 14 a0.toInt.toNat (w.1 11 b0.toInt.toNat)) 15 (((b0 * (4 : Int32)) + (w.1 11 b0.toInt.toNat)).toInt.toNat) a0) 11 b0.toInt.toNat ((w.1 11 b0.toInt.toNat) + (1 : Int32)))) else (sI (sI w 13 a0.toInt.toNat b0) 14 a0.toInt.toNat 0))) else (sI (sI w 13 a0.toInt.toNat b0) 14 a0.toInt.toNat 0))
theorem ur_Pl_joins (w : MW) (a0 : Int32) (b0 : Int32) : (u_Pl_joins w a0 b0).2.2 = w.2.2 := (ite_R (ite_R rfl (ite_R (ite_R rfl rfl) rfl)) rfl)
theorem z_Pl_joins (w : MW) (a0 : Int32) (b0 : Int32) : (g_Pl_joins w a0 b0).toInt = 0 ∨ (g_Pl_joins w a0 b0).toInt = 1 := (ite_Z (ite_Z (by decide) (ite_Z (ite_Z (by decide) (by decide)) (by decide))) (by decide))
set_option maxHeartbeats 4000000 in
set_option maxRecDepth 100000 in
theorem c_Pl_joins {d : Nat} (w : MW) (a0 : Int32) (b0 : Int32)  (hs : s_Pl_joins w a0 b0) : Tc (d + 0) 146 [.ref 8, .int a0, .int b0] w (fun v w1 => v = some (.int (g_Pl_joins w a0 b0)) ∧ w1 = u_Pl_joins w a0 b0) := by
  unfold s_Pl_joins at hs
  refine tm_go 4 (pc' := 6) (L' := [some (.ref 8), some (.int a0), some (.int b0)]) (S' := [.int b0, .int a0, .ref 13]) (w' := w) rfl ?_
  obtain ⟨b1, hs⟩ := hs
  refine tm_k (pc' := 7) (L' := [some (.ref 8), some (.int a0), some (.int b0)]) (S' := []) (w' := (sI w 13 a0.toInt.toNat b0)) rfl b1 ?_
  refine tm_go 4 (pc' := 13) (L' := [some (.ref 8), some (.int a0), some (.int b0)]) (S' := [.int 0, .int a0, .ref 14]) (w' := (sI w 13 a0.toInt.toNat b0)) rfl ?_
  obtain ⟨b2, hs⟩ := hs
  refine tm_k (pc' := 14) (L' := [some (.ref 8), some (.int a0), some (.int b0)]) (S' := []) (w' := (sI (sI w 13 a0.toInt.toNat b0) 14 a0.toInt.toNat 0)) rfl b2 ?_
  refine tm_go 2 (pc' := 16) (L' := [some (.ref 8), some (.int a0), some (.int b0)]) (S' := [.int (-1), .int b0]) (w' := (sI (sI w 13 a0.toInt.toNat b0) 14 a0.toInt.toNat 0)) rfl ?_
  refine tm_i (p1 := 21) (p2 := 19) rfl (fun h1 => ?_) (fun h1 => ?_)
  · rw [if_pos h1] at hs
    refine tm_go 3 (pc' := 26) (L' := [some (.ref 8), some (.int a0), some (.int b0)]) (S' := [.int (w.1 8 0), .int b0]) (w' := (sI (sI w 13 a0.toInt.toNat b0) 14 a0.toInt.toNat 0)) rfl ?_
    refine tm_i (p1 := 48) (p2 := 29) rfl (fun h2 => ?_) (fun h2 => ?_)
    · rw [if_pos h2] at hs
      refine tm_go 1 (pc' := 49) (L' := [some (.ref 8), some (.int a0), some (.int b0)]) (S' := [.int 0]) (w' := (sI (sI w 13 a0.toInt.toNat b0) 14 a0.toInt.toNat 0)) rfl ?_
      exact tm_r rfl (⟨by unfold g_Pl_joins; rw [if_pos h1, if_pos h2], by unfold u_Pl_joins; rw [if_pos h1, if_pos h2]⟩)
    · rw [if_neg h2] at hs
      refine tm_go 3 (pc' := 34) (L' := [some (.ref 8), some (.int a0), some (.int b0)]) (S' := [.int b0, .ref 11]) (w' := (sI (sI w 13 a0.toInt.toNat b0) 14 a0.toInt.toNat 0)) rfl ?_
      obtain ⟨b3, hs⟩ := hs
      refine tm_k (pc' := 35) (L' := [some (.ref 8), some (.int a0), some (.int b0)]) (S' := [.int (w.1 11 b0.toInt.toNat)]) (w' := (sI (sI w 13 a0.toInt.toNat b0) 14 a0.toInt.toNat 0)) rfl b3 ?_
      refine tm_go 4 (pc' := 43) (L' := [some (.ref 8), some (.int a0), some (.int b0)]) (S' := [.int b0, .ref 9, .ref 1000, .int (w.1 11 b0.toInt.toNat)]) (w' := (sI (sI w 13 a0.toInt.toNat b0) 14 a0.toInt.toNat 0)) rfl ?_
      obtain ⟨b4, hs⟩ := hs
      refine tm_k (pc' := 44) (L' := [some (.ref 8), some (.int a0), some (.int b0)]) (S' := [.int (w.1 9 b0.toInt.toNat), .ref 1000, .int (w.1 11 b0.toInt.toNat)]) (w' := (sI (sI w 13 a0.toInt.toNat b0) 14 a0.toInt.toNat 0)) rfl b4 ?_
      obtain ⟨b5, hs⟩ := hs
      refine tm_k (pc' := 45) (L' := [some (.ref 8), some (.int a0), some (.int b0)]) (S' := [.int ((stT 1000).getD (w.1 9 b0.toInt.toNat).toInt.toNat 0), .int (w.1 11 b0.toInt.toNat)]) (w' := (sI (sI w 13 a0.toInt.toNat b0) 14 a0.toInt.toNat 0)) rfl b5 ?_
      refine tm_i (p1 := 50) (p2 := 48) rfl (fun h3 => ?_) (fun h3 => ?_)
      · rw [if_pos h3] at hs
        refine tm_go 3 (pc' := 55) (L' := [some (.ref 8), some (.int a0), some (.int b0)]) (S' := [.int b0, .ref 9]) (w' := (sI (sI w 13 a0.toInt.toNat b0) 14 a0.toInt.toNat 0)) rfl ?_
        obtain ⟨b6, hs⟩ := hs
        refine tm_k (pc' := 56) (L' := [some (.ref 8), some (.int a0), some (.int b0)]) (S' := [.int (w.1 9 b0.toInt.toNat)]) (w' := (sI (sI w 13 a0.toInt.toNat b0) 14 a0.toInt.toNat 0)) rfl b6 ?_
        refine tm_go 1 (pc' := 58) (L' := [some (.ref 8), some (.int a0), some (.int b0)]) (S' := [.int 9, .int (w.1 9 b0.toInt.toNat)]) (w' := (sI (sI w 13 a0.toInt.toNat b0) 14 a0.toInt.toNat 0)) rfl ?_
        refine tm_i (p1 := 89) (p2 := 61) rfl (fun h4 => ?_) (fun h4 => ?_)
        · rw [if_pos h4] at hs
          refine tm_go 4 (pc' := 95) (L' := [some (.ref 8), some (.int a0), some (.int b0)]) (S' := [.int b0, .ref 11, .int b0, .ref 11]) (w' := (sI (sI w 13 a0.toInt.toNat b0) 14 a0.toInt.toNat 0)) rfl ?_
          obtain ⟨b7, hs⟩ := hs
          refine tm_k (pc' := 96) (L' := [some (.ref 8), some (.int a0), some (.int b0)]) (S' := [.int (w.1 11 b0.toInt.toNat), .int b0, .ref 11]) (w' := (sI (sI w 13 a0.toInt.toNat b0) 14 a0.toInt.toNat 0)) rfl b7 ?_
          refine tm_go 2 (pc' := 98) (L' := [some (.ref 8), some (.int a0), some (.int b0)]) (S' := [.int ((w.1 11 b0.toInt.toNat) + (1 : Int32)), .int b0, .ref 11]) (w' := (sI (sI w 13 a0.toInt.toNat b0) 14 a0.toInt.toNat 0)) rfl ?_
          obtain ⟨b8, hs⟩ := hs
          refine tm_k (pc' := 99) (L' := [some (.ref 8), some (.int a0), some (.int b0)]) (S' := []) (w' := (sI (sI (sI w 13 a0.toInt.toNat b0) 14 a0.toInt.toNat 0) 11 b0.toInt.toNat ((w.1 11 b0.toInt.toNat) + (1 : Int32)))) rfl b8 ?_
          refine tm_go 1 (pc' := 100) (L' := [some (.ref 8), some (.int a0), some (.int b0)]) (S' := [.int 1]) (w' := (sI (sI (sI w 13 a0.toInt.toNat b0) 14 a0.toInt.toNat 0) 11 b0.toInt.toNat ((w.1 11 b0.toInt.toNat) + (1 : Int32)))) rfl ?_
          exact tm_r rfl (⟨by unfold g_Pl_joins; rw [if_pos h1, if_neg h2, if_pos h3, if_pos h4], by unfold u_Pl_joins; rw [if_pos h1, if_neg h2, if_pos h3, if_pos h4]⟩)
        · rw [if_neg h4] at hs
          refine tm_go 6 (pc' := 71) (L' := [some (.ref 8), some (.int a0), some (.int b0)]) (S' := [.int b0, .ref 11, .int a0, .ref 14]) (w' := (sI (sI w 13 a0.toInt.toNat b0) 14 a0.toInt.toNat 0)) rfl ?_
          obtain ⟨b9, hs⟩ := hs
          refine tm_k (pc' := 72) (L' := [some (.ref 8), some (.int a0), some (.int b0)]) (S' := [.int (w.1 11 b0.toInt.toNat), .int a0, .ref 14]) (w' := (sI (sI w 13 a0.toInt.toNat b0) 14 a0.toInt.toNat 0)) rfl b9 ?_
          obtain ⟨b10, hs⟩ := hs
          refine tm_k (pc' := 73) (L' := [some (.ref 8), some (.int a0), some (.int b0)]) (S' := []) (w' := (sI (sI (sI w 13 a0.toInt.toNat b0) 14 a0.toInt.toNat 0) 14 a0.toInt.toNat (w.1 11 b0.toInt.toNat))) rfl b10 ?_
          refine tm_go 8 (pc' := 85) (L' := [some (.ref 8), some (.int a0), some (.int b0)]) (S' := [.int b0, .ref 11, .int (b0 * (4 : Int32)), .ref 15]) (w' := (sI (sI (sI w 13 a0.toInt.toNat b0) 14 a0.toInt.toNat 0) 14 a0.toInt.toNat (w.1 11 b0.toInt.toNat))) rfl ?_
          obtain ⟨b11, hs⟩ := hs
          refine tm_k (pc' := 86) (L' := [some (.ref 8), some (.int a0), some (.int b0)]) (S' := [.int (w.1 11 b0.toInt.toNat), .int (b0 * (4 : Int32)), .ref 15]) (w' := (sI (sI (sI w 13 a0.toInt.toNat b0) 14 a0.toInt.toNat 0) 14 a0.toInt.toNat (w.1 11 b0.toInt.toNat))) rfl b11 ?_
          refine tm_go 2 (pc' := 88) (L' := [some (.ref 8), some (.int a0), some (.int b0)]) (S' := [.int a0, .int ((b0 * (4 : Int32)) + (w.1 11 b0.toInt.toNat)), .ref 15]) (w' := (sI (sI (sI w 13 a0.toInt.toNat b0) 14 a0.toInt.toNat 0) 14 a0.toInt.toNat (w.1 11 b0.toInt.toNat))) rfl ?_
          obtain ⟨b12, hs⟩ := hs
          refine tm_k (pc' := 89) (L' := [some (.ref 8), some (.int a0), some (.int b0)]) (S' := []) (w' := (sI (sI (sI (sI w 13 a0.toInt.toNat b0) 14 a0.toInt.toNat 0) 14 a0.toInt.toNat (w.1 11 b0.toInt.toNat)) 15 (((b0 * (4 : Int32)) + (w.1 11 b0.toInt.toNat)).toInt.toNat) a0)) rfl b12 ?_
          refine tm_go 4 (pc' := 95) (L' := [some (.ref 8), some (.int a0), some (.int b0)]) (S' := [.int b0, .ref 11, .int b0, .ref 11]) (w' := (sI (sI (sI (sI w 13 a0.toInt.toNat b0) 14 a0.toInt.toNat 0) 14 a0.toInt.toNat (w.1 11 b0.toInt.toNat)) 15 (((b0 * (4 : Int32)) + (w.1 11 b0.toInt.toNat)).toInt.toNat) a0)) rfl ?_
          obtain ⟨b13, hs⟩ := hs
          refine tm_k (pc' := 96) (L' := [some (.ref 8), some (.int a0), some (.int b0)]) (S' := [.int (w.1 11 b0.toInt.toNat), .int b0, .ref 11]) (w' := (sI (sI (sI (sI w 13 a0.toInt.toNat b0) 14 a0.toInt.toNat 0) 14 a0.toInt.toNat (w.1 11 b0.toInt.toNat)) 15 (((b0 * (4 : Int32)) + (w.1 11 b0.toInt.toNat)).toInt.toNat) a0)) rfl b13 ?_
          refine tm_go 2 (pc' := 98) (L' := [some (.ref 8), some (.int a0), some (.int b0)]) (S' := [.int ((w.1 11 b0.toInt.toNat) + (1 : Int32)), .int b0, .ref 11]) (w' := (sI (sI (sI (sI w 13 a0.toInt.toNat b0) 14 a0.toInt.toNat 0) 14 a0.toInt.toNat (w.1 11 b0.toInt.toNat)) 15 (((b0 * (4 : Int32)) + (w.1 11 b0.toInt.toNat)).toInt.toNat) a0)) rfl ?_
          obtain ⟨b14, hs⟩ := hs
          refine tm_k (pc' := 99) (L' := [some (.ref 8), some (.int a0), some (.int b0)]) (S' := []) (w' := (sI (sI (sI (sI (sI w 13 a0.toInt.toNat b0) 14 a0.toInt.toNat 0) 14 a0.toInt.toNat (w.1 11 b0.toInt.toNat)) 15 (((b0 * (4 : Int32)) + (w.1 11 b0.toInt.toNat)).toInt.toNat) a0) 11 b0.toInt.toNat ((w.1 11 b0.toInt.toNat) + (1 : Int32)))) rfl b14 ?_
          refine tm_go 1 (pc' := 100) (L' := [some (.ref 8), some (.int a0), some (.int b0)]) (S' := [.int 1]) (w' := (sI (sI (sI (sI (sI w 13 a0.toInt.toNat b0) 14 a0.toInt.toNat 0) 14 a0.toInt.toNat (w.1 11 b0.toInt.toNat)) 15 (((b0 * (4 : Int32)) + (w.1 11 b0.toInt.toNat)).toInt.toNat) a0) 11 b0.toInt.toNat ((w.1 11 b0.toInt.toNat) + (1 : Int32)))) rfl ?_
          exact tm_r rfl (⟨by unfold g_Pl_joins; rw [if_pos h1, if_neg h2, if_pos h3, if_neg h4], by unfold u_Pl_joins; rw [if_pos h1, if_neg h2, if_pos h3, if_neg h4]⟩)
      · rw [if_neg h3] at hs
        refine tm_go 1 (pc' := 49) (L' := [some (.ref 8), some (.int a0), some (.int b0)]) (S' := [.int 0]) (w' := (sI (sI w 13 a0.toInt.toNat b0) 14 a0.toInt.toNat 0)) rfl ?_
        exact tm_r rfl (⟨by unfold g_Pl_joins; rw [if_pos h1, if_neg h2, if_neg h3], by unfold u_Pl_joins; rw [if_pos h1, if_neg h2, if_neg h3]⟩)
  · rw [if_neg h1] at hs
    refine tm_go 1 (pc' := 20) (L' := [some (.ref 8), some (.int a0), some (.int b0)]) (S' := [.int 1]) (w' := (sI (sI w 13 a0.toInt.toNat b0) 14 a0.toInt.toNat 0)) rfl ?_
    exact tm_r rfl (⟨by unfold g_Pl_joins; rw [if_neg h1], by unfold u_Pl_joins; rw [if_neg h1]⟩)
def u_Pr_clear (w : MW)  : MW := (sI (sI (sI (sI w 62 0 0) 62 1 0) 62 2 (-1)) 62 10 0)
theorem ur_Pr_clear (w : MW)  : (u_Pr_clear w).2.2 = w.2.2 := rfl
set_option maxHeartbeats 4000000 in
set_option maxRecDepth 100000 in
theorem c_Pr_clear {d : Nat} (w : MW)   : Tc (d + 0) 151 [.ref 62] w (fun v w1 => v = none ∧ w1 = u_Pr_clear w) := by
  refine tm_go 12 (pc' := 20) (L' := [some (.ref 62)]) (S' := []) (w' := (sI (sI (sI (sI w 62 0 0) 62 1 0) 62 2 (-1)) 62 10 0)) rfl ?_
  exact tm_r rfl (⟨rfl, by unfold u_Pr_clear; rfl⟩)
def s_Pr_addName (w : MW) (a0 : Int64) (b0 : Int32) (c0 : Int32) (e0 : Int32) : Prop := (if (40 : Int32).toInt ≤ (w.1 62 10).toInt then True else ((0 ≤ (w.1 62 10).toInt ∧ (w.1 62 10).toInt < 40) ∧ ((0 ≤ (w.1 62 10).toInt ∧ (w.1 62 10).toInt < 40) ∧ ((0 ≤ (w.1 62 10).toInt ∧ (w.1 62 10).toInt < 40) ∧ ((0 ≤ (w.1 62 10).toInt ∧ (w.1 62 10).toInt < 40) ∧ ((0 ≤ (w.1 62 10).toInt ∧ (w.1 62 10).toInt < 40) ∧ ((0 ≤ (w.1 62 10).toInt ∧ (w.1 62 10).toInt < 40) ∧ True)))))))
def u_Pr_addName (w : MW) (a0 : Int64) (b0 : Int32) (c0 : Int32) (e0 : Int32) : MW := (if (40 : Int32).toInt ≤ (w.1 62 10).toInt then w else (sI (sI (sJ (sI (sI (sI (sJ w 70 ((w.1 62 10).toInt.toNat) a0) 71 ((w.1 62 10).toInt.toNat) b0) 72 ((w.1 62 10).toInt.toNat) c0) 73 ((w.1 62 10).toInt.toNat) e0) 74 ((w.1 62 10).toInt.toNat) 0) 75 ((w.1 62 10).toInt.toNat) 5) 62 10 ((w.1 62 10) + (1 : Int32))))
theorem ur_Pr_addName (w : MW) (a0 : Int64) (b0 : Int32) (c0 : Int32) (e0 : Int32) : (u_Pr_addName w a0 b0 c0 e0).2.2 = w.2.2 := (ite_R rfl rfl)
set_option maxHeartbeats 4000000 in
set_option maxRecDepth 100000 in
theorem c_Pr_addName {d : Nat} (w : MW) (a0 : Int64) (b0 : Int32) (c0 : Int32) (e0 : Int32)  (hs : s_Pr_addName w a0 b0 c0 e0) : Tc (d + 0) 153 [.ref 62, .long a0, .int b0, .int c0, .int e0] w (fun v w1 => v = none ∧ w1 = u_Pr_addName w a0 b0 c0 e0) := by
  unfold s_Pr_addName at hs
  refine tm_go 3 (pc' := 6) (L' := [some (.ref 62), some (.long a0), none, some (.int b0), some (.int c0), some (.int e0)]) (S' := [.int 40, .int (w.1 62 10)]) (w' := w) rfl ?_
  refine tm_i (p1 := 81) (p2 := 9) rfl (fun h1 => ?_) (fun h1 => ?_)
  · rw [if_pos h1] at hs
    exact tm_r rfl (⟨rfl, by unfold u_Pr_addName; rw [if_pos h1]⟩)
  · rw [if_neg h1] at hs
    refine tm_go 5 (pc' := 18) (L' := [some (.ref 62), some (.long a0), none, some (.int b0), some (.int c0), some (.int e0)]) (S' := [.long a0, .int (w.1 62 10), .ref 70]) (w' := w) rfl ?_
    obtain ⟨b1, hs⟩ := hs
    refine tm_k (pc' := 19) (L' := [some (.ref 62), some (.long a0), none, some (.int b0), some (.int c0), some (.int e0)]) (S' := []) (w' := (sJ w 70 ((w.1 62 10).toInt.toNat) a0)) rfl b1 ?_
    refine tm_go 5 (pc' := 28) (L' := [some (.ref 62), some (.long a0), none, some (.int b0), some (.int c0), some (.int e0)]) (S' := [.int b0, .int (w.1 62 10), .ref 71]) (w' := (sJ w 70 ((w.1 62 10).toInt.toNat) a0)) rfl ?_
    obtain ⟨b2, hs⟩ := hs
    refine tm_k (pc' := 29) (L' := [some (.ref 62), some (.long a0), none, some (.int b0), some (.int c0), some (.int e0)]) (S' := []) (w' := (sI (sJ w 70 ((w.1 62 10).toInt.toNat) a0) 71 ((w.1 62 10).toInt.toNat) b0)) rfl b2 ?_
    refine tm_go 5 (pc' := 39) (L' := [some (.ref 62), some (.long a0), none, some (.int b0), some (.int c0), some (.int e0)]) (S' := [.int c0, .int (w.1 62 10), .ref 72]) (w' := (sI (sJ w 70 ((w.1 62 10).toInt.toNat) a0) 71 ((w.1 62 10).toInt.toNat) b0)) rfl ?_
    obtain ⟨b3, hs⟩ := hs
    refine tm_k (pc' := 40) (L' := [some (.ref 62), some (.long a0), none, some (.int b0), some (.int c0), some (.int e0)]) (S' := []) (w' := (sI (sI (sJ w 70 ((w.1 62 10).toInt.toNat) a0) 71 ((w.1 62 10).toInt.toNat) b0) 72 ((w.1 62 10).toInt.toNat) c0)) rfl b3 ?_
    refine tm_go 5 (pc' := 50) (L' := [some (.ref 62), some (.long a0), none, some (.int b0), some (.int c0), some (.int e0)]) (S' := [.int e0, .int (w.1 62 10), .ref 73]) (w' := (sI (sI (sJ w 70 ((w.1 62 10).toInt.toNat) a0) 71 ((w.1 62 10).toInt.toNat) b0) 72 ((w.1 62 10).toInt.toNat) c0)) rfl ?_
    obtain ⟨b4, hs⟩ := hs
    refine tm_k (pc' := 51) (L' := [some (.ref 62), some (.long a0), none, some (.int b0), some (.int c0), some (.int e0)]) (S' := []) (w' := (sI (sI (sI (sJ w 70 ((w.1 62 10).toInt.toNat) a0) 71 ((w.1 62 10).toInt.toNat) b0) 72 ((w.1 62 10).toInt.toNat) c0) 73 ((w.1 62 10).toInt.toNat) e0)) rfl b4 ?_
    refine tm_go 5 (pc' := 60) (L' := [some (.ref 62), some (.long a0), none, some (.int b0), some (.int c0), some (.int e0)]) (S' := [.long 0, .int (w.1 62 10), .ref 74]) (w' := (sI (sI (sI (sJ w 70 ((w.1 62 10).toInt.toNat) a0) 71 ((w.1 62 10).toInt.toNat) b0) 72 ((w.1 62 10).toInt.toNat) c0) 73 ((w.1 62 10).toInt.toNat) e0)) rfl ?_
    obtain ⟨b5, hs⟩ := hs
    refine tm_k (pc' := 61) (L' := [some (.ref 62), some (.long a0), none, some (.int b0), some (.int c0), some (.int e0)]) (S' := []) (w' := (sJ (sI (sI (sI (sJ w 70 ((w.1 62 10).toInt.toNat) a0) 71 ((w.1 62 10).toInt.toNat) b0) 72 ((w.1 62 10).toInt.toNat) c0) 73 ((w.1 62 10).toInt.toNat) e0) 74 ((w.1 62 10).toInt.toNat) 0)) rfl b5 ?_
    refine tm_go 5 (pc' := 70) (L' := [some (.ref 62), some (.long a0), none, some (.int b0), some (.int c0), some (.int e0)]) (S' := [.int 5, .int (w.1 62 10), .ref 75]) (w' := (sJ (sI (sI (sI (sJ w 70 ((w.1 62 10).toInt.toNat) a0) 71 ((w.1 62 10).toInt.toNat) b0) 72 ((w.1 62 10).toInt.toNat) c0) 73 ((w.1 62 10).toInt.toNat) e0) 74 ((w.1 62 10).toInt.toNat) 0)) rfl ?_
    obtain ⟨b6, hs⟩ := hs
    refine tm_k (pc' := 71) (L' := [some (.ref 62), some (.long a0), none, some (.int b0), some (.int c0), some (.int e0)]) (S' := []) (w' := (sI (sJ (sI (sI (sI (sJ w 70 ((w.1 62 10).toInt.toNat) a0) 71 ((w.1 62 10).toInt.toNat) b0) 72 ((w.1 62 10).toInt.toNat) c0) 73 ((w.1 62 10).toInt.toNat) e0) 74 ((w.1 62 10).toInt.toNat) 0) 75 ((w.1 62 10).toInt.toNat) 5)) rfl b6 ?_
    refine tm_go 6 (pc' := 81) (L' := [some (.ref 62), some (.long a0), none, some (.int b0), some (.int c0), some (.int e0)]) (S' := []) (w' := (sI (sI (sJ (sI (sI (sI (sJ w 70 ((w.1 62 10).toInt.toNat) a0) 71 ((w.1 62 10).toInt.toNat) b0) 72 ((w.1 62 10).toInt.toNat) c0) 73 ((w.1 62 10).toInt.toNat) e0) 74 ((w.1 62 10).toInt.toNat) 0) 75 ((w.1 62 10).toInt.toNat) 5) 62 10 ((w.1 62 10) + (1 : Int32)))) rfl ?_
    exact tm_r rfl (⟨rfl, by unfold u_Pr_addName; rw [if_neg h1]⟩)
def s_Pr_hasValue (w : MW) (a0 : Int32) : Prop := (if a0.toInt < 0 then True else (if (w.1 62 10).toInt ≤ a0.toInt then True else ((0 ≤ a0.toInt ∧ a0.toInt < 40) ∧ (if (w.1 71 a0.toInt.toNat).toInt = (10 : Int32).toInt then True else True))))
def g_Pr_hasValue (w : MW) (a0 : Int32) : Int32 := (if a0.toInt < 0 then 0 else (if (w.1 62 10).toInt ≤ a0.toInt then 0 else (if (w.1 71 a0.toInt.toNat).toInt = (10 : Int32).toInt then 0 else 1)))
theorem z_Pr_hasValue (w : MW) (a0 : Int32) : (g_Pr_hasValue w a0).toInt = 0 ∨ (g_Pr_hasValue w a0).toInt = 1 := (ite_Z (by decide) (ite_Z (by decide) (ite_Z (by decide) (by decide))))
set_option maxHeartbeats 4000000 in
set_option maxRecDepth 100000 in
theorem c_Pr_hasValue {d : Nat} (w : MW) (a0 : Int32)  (hs : s_Pr_hasValue w a0) : Tc (d + 0) 154 [.ref 62, .int a0] w (fun v w1 => v = some (.int (g_Pr_hasValue w a0)) ∧ w1 = w) := by
  unfold s_Pr_hasValue at hs
  refine tm_go 1 (pc' := 1) (L' := [some (.ref 62), some (.int a0)]) (S' := [.int a0]) (w' := w) rfl ?_
  refine tm_i (p1 := 27) (p2 := 4) rfl (fun h1 => ?_) (fun h1 => ?_)
  · rw [if_pos h1] at hs
    refine tm_go 1 (pc' := 28) (L' := [some (.ref 62), some (.int a0)]) (S' := [.int 0]) (w' := w) rfl ?_
    exact tm_r rfl (⟨by unfold g_Pr_hasValue; rw [if_pos h1], rfl⟩)
  · rw [if_neg h1] at hs
    refine tm_go 3 (pc' := 9) (L' := [some (.ref 62), some (.int a0)]) (S' := [.int (w.1 62 10), .int a0]) (w' := w) rfl ?_
    refine tm_i (p1 := 27) (p2 := 12) rfl (fun h2 => ?_) (fun h2 => ?_)
    · rw [if_pos h2] at hs
      refine tm_go 1 (pc' := 28) (L' := [some (.ref 62), some (.int a0)]) (S' := [.int 0]) (w' := w) rfl ?_
      exact tm_r rfl (⟨by unfold g_Pr_hasValue; rw [if_neg h1, if_pos h2], rfl⟩)
    · rw [if_neg h2] at hs
      refine tm_go 3 (pc' := 17) (L' := [some (.ref 62), some (.int a0)]) (S' := [.int a0, .ref 71]) (w' := w) rfl ?_
      obtain ⟨b1, hs⟩ := hs
      refine tm_k (pc' := 18) (L' := [some (.ref 62), some (.int a0)]) (S' := [.int (w.1 71 a0.toInt.toNat)]) (w' := w) rfl b1 ?_
      refine tm_go 1 (pc' := 20) (L' := [some (.ref 62), some (.int a0)]) (S' := [.int 10, .int (w.1 71 a0.toInt.toNat)]) (w' := w) rfl ?_
      refine tm_i (p1 := 27) (p2 := 23) rfl (fun h3 => ?_) (fun h3 => ?_)
      · rw [if_pos h3] at hs
        refine tm_go 1 (pc' := 28) (L' := [some (.ref 62), some (.int a0)]) (S' := [.int 0]) (w' := w) rfl ?_
        exact tm_r rfl (⟨by unfold g_Pr_hasValue; rw [if_neg h1, if_neg h2, if_pos h3], rfl⟩)
      · rw [if_neg h3] at hs
        refine tm_go 2 (pc' := 28) (L' := [some (.ref 62), some (.int a0)]) (S' := [.int 1]) (w' := w) rfl ?_
        exact tm_r rfl (⟨by unfold g_Pr_hasValue; rw [if_neg h1, if_neg h2, if_neg h3], rfl⟩)
def s_Pr_isSignal (w : MW) (a0 : Int32) : Prop := (if a0.toInt < 0 then True else (if (w.1 62 10).toInt ≤ a0.toInt then True else ((0 ≤ a0.toInt ∧ a0.toInt < 40) ∧ (if ¬ (w.1 71 a0.toInt.toNat).toInt = (8 : Int32).toInt then True else True))))
def g_Pr_isSignal (w : MW) (a0 : Int32) : Int32 := (if a0.toInt < 0 then 0 else (if (w.1 62 10).toInt ≤ a0.toInt then 0 else (if ¬ (w.1 71 a0.toInt.toNat).toInt = (8 : Int32).toInt then 0 else 1)))
theorem z_Pr_isSignal (w : MW) (a0 : Int32) : (g_Pr_isSignal w a0).toInt = 0 ∨ (g_Pr_isSignal w a0).toInt = 1 := (ite_Z (by decide) (ite_Z (by decide) (ite_Z (by decide) (by decide))))
set_option maxHeartbeats 4000000 in
set_option maxRecDepth 100000 in
theorem c_Pr_isSignal {d : Nat} (w : MW) (a0 : Int32)  (hs : s_Pr_isSignal w a0) : Tc (d + 0) 155 [.ref 62, .int a0] w (fun v w1 => v = some (.int (g_Pr_isSignal w a0)) ∧ w1 = w) := by
  unfold s_Pr_isSignal at hs
  refine tm_go 1 (pc' := 1) (L' := [some (.ref 62), some (.int a0)]) (S' := [.int a0]) (w' := w) rfl ?_
  refine tm_i (p1 := 27) (p2 := 4) rfl (fun h1 => ?_) (fun h1 => ?_)
  · rw [if_pos h1] at hs
    refine tm_go 1 (pc' := 28) (L' := [some (.ref 62), some (.int a0)]) (S' := [.int 0]) (w' := w) rfl ?_
    exact tm_r rfl (⟨by unfold g_Pr_isSignal; rw [if_pos h1], rfl⟩)
  · rw [if_neg h1] at hs
    refine tm_go 3 (pc' := 9) (L' := [some (.ref 62), some (.int a0)]) (S' := [.int (w.1 62 10), .int a0]) (w' := w) rfl ?_
    refine tm_i (p1 := 27) (p2 := 12) rfl (fun h2 => ?_) (fun h2 => ?_)
    · rw [if_pos h2] at hs
      refine tm_go 1 (pc' := 28) (L' := [some (.ref 62), some (.int a0)]) (S' := [.int 0]) (w' := w) rfl ?_
      exact tm_r rfl (⟨by unfold g_Pr_isSignal; rw [if_neg h1, if_pos h2], rfl⟩)
    · rw [if_neg h2] at hs
      refine tm_go 3 (pc' := 17) (L' := [some (.ref 62), some (.int a0)]) (S' := [.int a0, .ref 71]) (w' := w) rfl ?_
      obtain ⟨b1, hs⟩ := hs
      refine tm_k (pc' := 18) (L' := [some (.ref 62), some (.int a0)]) (S' := [.int (w.1 71 a0.toInt.toNat)]) (w' := w) rfl b1 ?_
      refine tm_go 1 (pc' := 20) (L' := [some (.ref 62), some (.int a0)]) (S' := [.int 8, .int (w.1 71 a0.toInt.toNat)]) (w' := w) rfl ?_
      refine tm_i (p1 := 27) (p2 := 23) rfl (fun h3 => ?_) (fun h3 => ?_)
      · rw [if_pos h3] at hs
        refine tm_go 1 (pc' := 28) (L' := [some (.ref 62), some (.int a0)]) (S' := [.int 0]) (w' := w) rfl ?_
        exact tm_r rfl (⟨by unfold g_Pr_isSignal; rw [if_neg h1, if_neg h2, if_pos h3], rfl⟩)
      · rw [if_neg h3] at hs
        refine tm_go 2 (pc' := 28) (L' := [some (.ref 62), some (.int a0)]) (S' := [.int 1]) (w' := w) rfl ?_
        exact tm_r rfl (⟨by unfold g_Pr_isSignal; rw [if_neg h1, if_neg h2, if_neg h3], rfl⟩)
def s_Pr_isSensed (w : MW) (a0 : Int32) : Prop := ((s_Pr_isSignal w a0) ∧ (if (g_Pr_isSignal w a0).toInt = 0 then True else ((0 ≤ a0.toInt ∧ a0.toInt < 40) ∧ (if (5 : Int32).toInt ≤ (w.1 75 a0.toInt.toNat).toInt then True else True))))
def g_Pr_isSensed (w : MW) (a0 : Int32) : Int32 := (if (g_Pr_isSignal w a0).toInt = 0 then 0 else (if (5 : Int32).toInt ≤ (w.1 75 a0.toInt.toNat).toInt then 0 else 1))
theorem z_Pr_isSensed (w : MW) (a0 : Int32) : (g_Pr_isSensed w a0).toInt = 0 ∨ (g_Pr_isSensed w a0).toInt = 1 := (ite_Z (by decide) (ite_Z (by decide) (by decide)))
set_option maxHeartbeats 4000000 in
set_option maxRecDepth 100000 in
theorem c_Pr_isSensed {d : Nat} (w : MW) (a0 : Int32)  (hs : s_Pr_isSensed w a0) : Tc (d + 1) 156 [.ref 62, .int a0] w (fun v w1 => v = some (.int (g_Pr_isSensed w a0)) ∧ w1 = w) := by
  unfold s_Pr_isSensed at hs
  refine tm_go 2 (pc' := 2) (L' := [some (.ref 62), some (.int a0)]) (S' := [.int a0, .ref 62]) (w' := w) rfl ?_
  obtain ⟨b1, hs⟩ := hs
  refine tm_c rfl (Nat.le_of_ble_eq_true rfl) (c_Pr_isSignal (d := d + 0) w a0  b1) (fun v w1 hq => ?_)
  obtain ⟨rfl, hw9⟩ := hq; rw [hw9]; clear hw9
  refine tm_i (p1 := 22) (p2 := 8) rfl (fun h1 => ?_) (fun h1 => ?_)
  · rw [if_pos h1] at hs
    refine tm_go 1 (pc' := 23) (L' := [some (.ref 62), some (.int a0)]) (S' := [.int 0]) (w' := w) rfl ?_
    exact tm_r rfl (⟨by unfold g_Pr_isSensed; rw [if_pos h1], rfl⟩)
  · rw [if_neg h1] at hs
    refine tm_go 3 (pc' := 13) (L' := [some (.ref 62), some (.int a0)]) (S' := [.int a0, .ref 75]) (w' := w) rfl ?_
    obtain ⟨b2, hs⟩ := hs
    refine tm_k (pc' := 14) (L' := [some (.ref 62), some (.int a0)]) (S' := [.int (w.1 75 a0.toInt.toNat)]) (w' := w) rfl b2 ?_
    refine tm_go 1 (pc' := 15) (L' := [some (.ref 62), some (.int a0)]) (S' := [.int 5, .int (w.1 75 a0.toInt.toNat)]) (w' := w) rfl ?_
    refine tm_i (p1 := 22) (p2 := 18) rfl (fun h2 => ?_) (fun h2 => ?_)
    · rw [if_pos h2] at hs
      refine tm_go 1 (pc' := 23) (L' := [some (.ref 62), some (.int a0)]) (S' := [.int 0]) (w' := w) rfl ?_
      exact tm_r rfl (⟨by unfold g_Pr_isSensed; rw [if_neg h1, if_pos h2], rfl⟩)
    · rw [if_neg h2] at hs
      refine tm_go 2 (pc' := 23) (L' := [some (.ref 62), some (.int a0)]) (S' := [.int 1]) (w' := w) rfl ?_
      exact tm_r rfl (⟨by unfold g_Pr_isSensed; rw [if_neg h1, if_neg h2], rfl⟩)
