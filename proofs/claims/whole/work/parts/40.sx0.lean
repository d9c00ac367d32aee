theorem ite_R {c : Prop} [Decidable c] {a b w : MW} (ha : a.2.2 = w.2.2) (hb : b.2.2 = w.2.2) : (if c then a else b).2.2 = w.2.2 := by split <;> assumption
theorem ite_Z {c : Prop} [Decidable c] {a b : Int32} (ha : a.toInt = 0 ∨ a.toInt = 1) (hb : b.toInt = 0 ∨ b.toInt = 1) : (if c then a else b).toInt = 0 ∨ (if c then a else b).toInt = 1 := by split <;> assumption
theorem sI_R (w : MW) (k j : Nat) (v : Int32) : (sI w k j v).2.2 = w.2.2 := rfl
def s_Bh_takeRows (w : MW)  : Prop := (((w.2.2 47 3) = some 48) ∧ (((w.2.2 0 9) = some 99) ∧ (((w.2.2 0 9) = some 99) ∧ True)))
def g_Bh_takeRows (w : MW)  : Int32 := (w.1 99 0)
def u_Bh_takeRows (w : MW)  : MW := (sR (sR (sI w 99 1 (w.1 48 1)) 47 3 (some 99)) 0 9 (some 48))
set_option maxHeartbeats 4000000 in
set_option maxRecDepth 100000 in
theorem c_Bh_takeRows {d : Nat} (w : MW)   (hs : s_Bh_takeRows w) : Tc (d + 0) 3 [.ref 0] w (fun v w1 => v = some (.int (g_Bh_takeRows w)) ∧ w1 = u_Bh_takeRows w) := by
  unfold s_Bh_takeRows at hs
  refine tm_go 2 (pc' := 4) (L' := [some (.ref 0), none]) (S' := [.ref 47]) (w' := w) rfl ?_
  obtain ⟨b1, hs⟩ := hs
  refine tm_g (pc' := 7) (k := 47) (j := 3) rfl b1 ?_
  refine tm_go 2 (pc' := 9) (L' := [some (.ref 0), some (.ref 48)]) (S' := [.ref 0]) (w' := w) rfl ?_
  obtain ⟨b2, hs⟩ := hs
  refine tm_g (pc' := 12) (k := 0) (j := 9) rfl b2 ?_
  refine tm_go 6 (pc' := 24) (L' := [some (.ref 0), some (.ref 48)]) (S' := [.ref 0, .ref 47]) (w' := (sI w 99 1 (w.1 48 1))) rfl ?_
  obtain ⟨b3, hs⟩ := hs
  refine tm_g (pc' := 27) (k := 0) (j := 9) rfl b3 ?_
  refine tm_go 8 (pc' := 45) (L' := [some (.ref 0), some (.ref 48)]) (S' := [.int (w.1 99 0)]) (w' := (sR (sR (sI w 99 1 (w.1 48 1)) 47 3 (some 99)) 0 9 (some 48))) rfl ?_
  exact tm_r rfl (⟨by unfold g_Bh_takeRows; rfl, by unfold u_Bh_takeRows; rfl⟩)
def g_Bh_isLiquid (w : MW) (a0 : Int32) : Int32 := (if a0.toInt < (1 : Int32).toInt then 0 else (if (14 : Int32).toInt < a0.toInt then 0 else 1))
theorem z_Bh_isLiquid (w : MW) (a0 : Int32) : (g_Bh_isLiquid w a0).toInt = 0 ∨ (g_Bh_isLiquid w a0).toInt = 1 := (ite_Z (by decide) (ite_Z (by decide) (by decide)))
set_option maxHeartbeats 4000000 in
set_option maxRecDepth 100000 in
theorem c_Bh_isLiquid {d : Nat} (w : MW) (a0 : Int32)  : Tc (d + 0) 6 [.int a0] w (fun v w1 => v = some (.int (g_Bh_isLiquid w a0)) ∧ w1 = w) := by
  refine tm_go 2 (pc' := 2) (L' := [some (.int a0)]) (S' := [.int 1, .int a0]) (w' := w) rfl ?_
  refine tm_i (p1 := 15) (p2 := 5) rfl (fun h1 => ?_) (fun h1 => ?_)
  · refine tm_go 1 (pc' := 16) (L' := [some (.int a0)]) (S' := [.int 0]) (w' := w) rfl ?_
    exact tm_r rfl (⟨by unfold g_Bh_isLiquid; rw [if_pos h1], rfl⟩)
  · refine tm_go 2 (pc' := 8) (L' := [some (.int a0)]) (S' := [.int 14, .int a0]) (w' := w) rfl ?_
    refine tm_i (p1 := 15) (p2 := 11) rfl (fun h2 => ?_) (fun h2 => ?_)
    · refine tm_go 1 (pc' := 16) (L' := [some (.int a0)]) (S' := [.int 0]) (w' := w) rfl ?_
      exact tm_r rfl (⟨by unfold g_Bh_isLiquid; rw [if_neg h1, if_pos h2], rfl⟩)
    · refine tm_go 2 (pc' := 16) (L' := [some (.int a0)]) (S' := [.int 1]) (w' := w) rfl ?_
      exact tm_r rfl (⟨by unfold g_Bh_isLiquid; rw [if_neg h1, if_neg h2], rfl⟩)
def s_Bh_need (w : MW) (a0 : Int32) (b0 : Int32) (c0 : Int32) : Prop := (if (g_Bh_isLiquid w a0).toInt = 0 then True else (if (g_Bh_isLiquid w b0).toInt = 0 then True else (if c0.toInt < 0 then True else (if c0.toInt ≤ (5 : Int32).toInt then ((0 ≤ ((a0 * (15 : Int32)) + b0).toInt ∧ ((a0 * (15 : Int32)) + b0).toInt < 225) ∧ True) else True))))
def g_Bh_need (w : MW) (a0 : Int32) (b0 : Int32) (c0 : Int32) : Int32 := (if (g_Bh_isLiquid w a0).toInt = 0 then 0 else (if (g_Bh_isLiquid w b0).toInt = 0 then 0 else (if c0.toInt < 0 then 0 else (if c0.toInt ≤ (5 : Int32).toInt then 1 else 0))))
def u_Bh_need (w : MW) (a0 : Int32) (b0 : Int32) (c0 : Int32) : MW := (if (g_Bh_isLiquid w a0).toInt = 0 then w else (if (g_Bh_isLiquid w b0).toInt = 0 then w else (if c0.toInt < 0 then w else (if c0.toInt ≤ (5 : Int32).toInt then (sI w 24 (((a0 * (15 : Int32)) + b0).toInt.toNat) c0) else w))))
theorem ur_Bh_need (w : MW) (a0 : Int32) (b0 : Int32) (c0 : Int32) : (u_Bh_need w a0 b0 c0).2.2 = w.2.2 := (ite_R rfl (ite_R rfl (ite_R rfl (ite_R rfl rfl))))
theorem z_Bh_need (w : MW) (a0 : Int32) (b0 : Int32) (c0 : Int32) : (g_Bh_need w a0 b0 c0).toInt = 0 ∨ (g_Bh_need w a0 b0 c0).toInt = 1 := (ite_Z (by decide) (ite_Z (by decide) (ite_Z (by decide) (ite_Z (by decide) (by decide)))))
set_option maxHeartbeats 4000000 in
set_option maxRecDepth 100000 in
theorem c_Bh_need {d : Nat} (w : MW) (a0 : Int32) (b0 : Int32) (c0 : Int32)  (hs : s_Bh_need w a0 b0 c0) : Tc (d + 1) 8 [.ref 0, .int a0, .int b0, .int c0] w (fun v w1 => v = some (.int (g_Bh_need w a0 b0 c0)) ∧ w1 = u_Bh_need w a0 b0 c0) := by
  unfold s_Bh_need at hs
  refine tm_go 1 (pc' := 1) (L' := [some (.ref 0), some (.int a0), some (.int b0), some (.int c0)]) (S' := [.int a0]) (w' := w) rfl ?_
  refine tm_c rfl (Nat.le_of_ble_eq_true rfl) (c_Bh_isLiquid (d := d + 0) w a0 ) (fun v w1 hq => ?_)
  obtain ⟨rfl, hw9⟩ := hq; rw [hw9]; clear hw9
  refine tm_i (p1 := 23) (p2 := 7) rfl (fun h1 => ?_) (fun h1 => ?_)
  · rw [if_pos h1] at hs
    refine tm_go 1 (pc' := 24) (L' := [some (.ref 0), some (.int a0), some (.int b0), some (.int c0)]) (S' := [.int 0]) (w' := w) rfl ?_
    exact tm_r rfl (⟨by unfold g_Bh_need; rw [if_pos h1], by unfold u_Bh_need; rw [if_pos h1]⟩)
  · rw [if_neg h1] at hs
    refine tm_go 1 (pc' := 8) (L' := [some (.ref 0), some (.int a0), some (.int b0), some (.int c0)]) (S' := [.int b0]) (w' := w) rfl ?_
    refine tm_c rfl (Nat.le_of_ble_eq_true rfl) (c_Bh_isLiquid (d := d + 0) w b0 ) (fun v w1 hq => ?_)
    obtain ⟨rfl, hw9⟩ := hq; rw [hw9]; clear hw9
    refine tm_i (p1 := 23) (p2 := 14) rfl (fun h2 => ?_) (fun h2 => ?_)
    · rw [if_pos h2] at hs
      refine tm_go 1 (pc' := 24) (L' := [some (.ref 0), some (.int a0), some (.int b0), some (.int c0)]) (S' := [.int 0]) (w' := w) rfl ?_
      exact tm_r rfl (⟨by unfold g_Bh_need; rw [if_neg h1, if_pos h2], by unfold u_Bh_need; rw [if_neg h1, if_pos h2]⟩)
    · rw [if_neg h2] at hs
      refine tm_go 1 (pc' := 15) (L' := [some (.ref 0), some (.int a0), some (.int b0), some (.int c0)]) (S' := [.int c0]) (w' := w) rfl ?_
      refine tm_i (p1 := 23) (p2 := 18) rfl (fun h3 => ?_) (fun h3 => ?_)
      · rw [if_pos h3] at hs
        refine tm_go 1 (pc' := 24) (L' := [some (.ref 0), some (.int a0), some (.int b0), some (.int c0)]) (S' := [.int 0]) (w' := w) rfl ?_
        exact tm_r rfl (⟨by unfold g_Bh_need; rw [if_neg h1, if_neg h2, if_pos h3], by unfold u_Bh_need; rw [if_neg h1, if_neg h2, if_pos h3]⟩)
      · rw [if_neg h3] at hs
        refine tm_go 2 (pc' := 20) (L' := [some (.ref 0), some (.int a0), some (.int b0), some (.int c0)]) (S' := [.int 5, .int c0]) (w' := w) rfl ?_
        refine tm_i (p1 := 25) (p2 := 23) rfl (fun h4 => ?_) (fun h4 => ?_)
        · rw [if_pos h4] at hs
          refine tm_go 9 (pc' := 39) (L' := [some (.ref 0), some (.int a0), some (.int b0), some (.int c0)]) (S' := [.int c0, .int ((a0 * (15 : Int32)) + b0), .ref 24]) (w' := w) rfl ?_
          obtain ⟨b1, hs⟩ := hs
          refine tm_k (pc' := 40) (L' := [some (.ref 0), some (.int a0), some (.int b0), some (.int c0)]) (S' := []) (w' := (sI w 24 (((a0 * (15 : Int32)) + b0).toInt.toNat) c0)) rfl b1 ?_
          refine tm_go 1 (pc' := 41) (L' := [some (.ref 0), some (.int a0), some (.int b0), some (.int c0)]) (S' := [.int 1]) (w' := (sI w 24 (((a0 * (15 : Int32)) + b0).toInt.toNat) c0)) rfl ?_
          exact tm_r rfl (⟨by unfold g_Bh_need; rw [if_neg h1, if_neg h2, if_neg h3, if_pos h4], by unfold u_Bh_need; rw [if_neg h1, if_neg h2, if_neg h3, if_pos h4]⟩)
        · rw [if_neg h4] at hs
          refine tm_go 1 (pc' := 24) (L' := [some (.ref 0), some (.int a0), some (.int b0), some (.int c0)]) (S' := [.int 0]) (w' := w) rfl ?_
          exact tm_r rfl (⟨by unfold g_Bh_need; rw [if_neg h1, if_neg h2, if_neg h3, if_neg h4], by unfold u_Bh_need; rw [if_neg h1, if_neg h2, if_neg h3, if_neg h4]⟩)
def s_Bh_lasts (w : MW) (a0 : Int32) (b0 : Int32) : Prop := (if a0.toInt < (1 : Int32).toInt then True else (if (5 : Int32).toInt < a0.toInt then True else (if b0.toInt < 0 then True else (if b0.toInt ≤ (1000000 : Int32).toInt then ((0 ≤ a0.toInt ∧ a0.toInt < 6) ∧ True) else True))))
def g_Bh_lasts (w : MW) (a0 : Int32) (b0 : Int32) : Int32 := (if a0.toInt < (1 : Int32).toInt then 0 else (if (5 : Int32).toInt < a0.toInt then 0 else (if b0.toInt < 0 then 0 else (if b0.toInt ≤ (1000000 : Int32).toInt then 1 else 0))))
def u_Bh_lasts (w : MW) (a0 : Int32) (b0 : Int32) : MW := (if a0.toInt < (1 : Int32).toInt then w else (if (5 : Int32).toInt < a0.toInt then w else (if b0.toInt < 0 then w else (if b0.toInt ≤ (1000000 : Int32).toInt then (sI w 25 a0.toInt.toNat b0) else w))))
theorem ur_Bh_lasts (w : MW) (a0 : Int32) (b0 : Int32) : (u_Bh_lasts w a0 b0).2.2 = w.2.2 := (ite_R rfl (ite_R rfl (ite_R rfl (ite_R rfl rfl))))
theorem z_Bh_lasts (w : MW) (a0 : Int32) (b0 : Int32) : (g_Bh_lasts w a0 b0).toInt = 0 ∨ (g_Bh_lasts w a0 b0).toInt = 1 := (ite_Z (by decide) (ite_Z (by decide) (ite_Z (by decide) (ite_Z (by decide) (by decide)))))
set_option maxHeartbeats 4000000 in
set_option maxRecDepth 100000 in
theorem c_Bh_lasts {d : Nat} (w : MW) (a0 : Int32) (b0 : Int32)  (hs : s_Bh_lasts w a0 b0) : Tc (d + 0) 9 [.ref 0, .int a0, .int b0] w (fun v w1 => v = some (.int (g_Bh_lasts w a0 b0)) ∧ w1 = u_Bh_lasts w a0 b0) := by
  unfold s_Bh_lasts at hs
  refine tm_go 2 (pc' := 2) (L' := [some (.ref 0), some (.int a0), some (.int b0)]) (S' := [.int 1, .int a0]) (w' := w) rfl ?_
  refine tm_i (p1 := 20) (p2 := 5) rfl (fun h1 => ?_) (fun h1 => ?_)
  · rw [if_pos h1] at hs
    refine tm_go 1 (pc' := 21) (L' := [some (.ref 0), some (.int a0), some (.int b0)]) (S' := [.int 0]) (w' := w) rfl ?_
    exact tm_r rfl (⟨by unfold g_Bh_lasts; rw [if_pos h1], by unfold u_Bh_lasts; rw [if_pos h1]⟩)
  · rw [if_neg h1] at hs
    refine tm_go 2 (pc' := 7) (L' := [some (.ref 0), some (.int a0), some (.int b0)]) (S' := [.int 5, .int a0]) (w' := w) rfl ?_
    refine tm_i (p1 := 20) (p2 := 10) rfl (fun h2 => ?_) (fun h2 => ?_)
    · rw [if_pos h2] at hs
      refine tm_go 1 (pc' := 21) (L' := [some (.ref 0), some (.int a0), some (.int b0)]) (S' := [.int 0]) (w' := w) rfl ?_
      exact tm_r rfl (⟨by unfold g_Bh_lasts; rw [if_neg h1, if_pos h2], by unfold u_Bh_lasts; rw [if_neg h1, if_pos h2]⟩)
    · rw [if_neg h2] at hs
      refine tm_go 1 (pc' := 11) (L' := [some (.ref 0), some (.int a0), some (.int b0)]) (S' := [.int b0]) (w' := w) rfl ?_
      refine tm_i (p1 := 20) (p2 := 14) rfl (fun h3 => ?_) (fun h3 => ?_)
      · rw [if_pos h3] at hs
        refine tm_go 1 (pc' := 21) (L' := [some (.ref 0), some (.int a0), some (.int b0)]) (S' := [.int 0]) (w' := w) rfl ?_
        exact tm_r rfl (⟨by unfold g_Bh_lasts; rw [if_neg h1, if_neg h2, if_pos h3], by unfold u_Bh_lasts; rw [if_neg h1, if_neg h2, if_pos h3]⟩)
      · rw [if_neg h3] at hs
        refine tm_go 2 (pc' := 17) (L' := [some (.ref 0), some (.int a0), some (.int b0)]) (S' := [.int 1000000, .int b0]) (w' := w) rfl ?_
        refine tm_i (p1 := 22) (p2 := 20) rfl (fun h4 => ?_) (fun h4 => ?_)
        · rw [if_pos h4] at hs
          refine tm_go 5 (pc' := 31) (L' := [some (.ref 0), some (.int a0), some (.int b0)]) (S' := [.int b0, .int a0, .ref 25]) (w' := w) rfl ?_
          obtain ⟨b1, hs⟩ := hs
          refine tm_k (pc' := 32) (L' := [some (.ref 0), some (.int a0), some (.int b0)]) (S' := []) (w' := (sI w 25 a0.toInt.toNat b0)) rfl b1 ?_
          refine tm_go 1 (pc' := 33) (L' := [some (.ref 0), some (.int a0), some (.int b0)]) (S' := [.int 1]) (w' := (sI w 25 a0.toInt.toNat b0)) rfl ?_
          exact tm_r rfl (⟨by unfold g_Bh_lasts; rw [if_neg h1, if_neg h2, if_neg h3, if_pos h4], by unfold u_Bh_lasts; rw [if_neg h1, if_neg h2, if_neg h3, if_pos h4]⟩)
        · rw [if_neg h4] at hs
          refine tm_go 1 (pc' := 21) (L' := [some (.ref 0), some (.int a0), some (.int b0)]) (S' := [.int 0]) (w' := w) rfl ?_
          exact tm_r rfl (⟨by unfold g_Bh_lasts; rw [if_neg h1, if_neg h2, if_neg h3, if_neg h4], by unfold u_Bh_lasts; rw [if_neg h1, if_neg h2, if_neg h3, if_neg h4]⟩)
def s_Bh_watch (w : MW) (a0 : Int32) (b0 : Int32) (c0 : Int32) (e0 : Int64) : Prop := (if a0.toInt < 0 then True else (if (15 : Int32).toInt < a0.toInt then True else (if b0.toInt < 0 then True else (if b0.toInt ≤ (5 : Int32).toInt then ((0 ≤ a0.toInt ∧ a0.toInt < 16) ∧ ((0 ≤ a0.toInt ∧ a0.toInt < 16) ∧ ((0 ≤ a0.toInt ∧ a0.toInt < 16) ∧ True))) else True))))
def g_Bh_watch (w : MW) (a0 : Int32) (b0 : Int32) (c0 : Int32) (e0 : Int64) : Int32 := (if a0.toInt < 0 then 0 else (if (15 : Int32).toInt < a0.toInt then 0 else (if b0.toInt < 0 then 0 else (if b0.toInt ≤ (5 : Int32).toInt then 1 else 0))))
def u_Bh_watch (w : MW) (a0 : Int32) (b0 : Int32) (c0 : Int32) (e0 : Int64) : MW := (if a0.toInt < 0 then w else (if (15 : Int32).toInt < a0.toInt then w else (if b0.toInt < 0 then w else (if b0.toInt ≤ (5 : Int32).toInt then (sJ (sI (sI w 126 a0.toInt.toNat b0) 124 a0.toInt.toNat c0) 125 a0.toInt.toNat e0) else w))))
theorem ur_Bh_watch (w : MW) (a0 : Int32) (b0 : Int32) (c0 : Int32) (e0 : Int64) : (u_Bh_watch w a0 b0 c0 e0).2.2 = w.2.2 := (ite_R rfl (ite_R rfl (ite_R rfl (ite_R rfl rfl))))
theorem z_Bh_watch (w : MW) (a0 : Int32) (b0 : Int32) (c0 : Int32) (e0 : Int64) : (g_Bh_watch w a0 b0 c0 e0).toInt = 0 ∨ (g_Bh_watch w a0 b0 c0 e0).toInt = 1 := (ite_Z (by decide) (ite_Z (by decide) (ite_Z (by decide) (ite_Z (by decide) (by decide)))))
set_option maxHeartbeats 4000000 in
set_option maxRecDepth 100000 in
theorem c_Bh_watch {d : Nat} (w : MW) (a0 : Int32) (b0 : Int32) (c0 : Int32) (e0 : Int64)  (hs : s_Bh_watch w a0 b0 c0 e0) : Tc (d + 0) 11 [.ref 0, .int a0, .int b0, .int c0, .long e0] w (fun v w1 => v = some (.int (g_Bh_watch w a0 b0 c0 e0)) ∧ w1 = u_Bh_watch w a0 b0 c0 e0) := by
  unfold s_Bh_watch at hs
  refine tm_go 1 (pc' := 1) (L' := [some (.ref 0), some (.int a0), some (.int b0), some (.int c0), some (.long e0), none]) (S' := [.int a0]) (w' := w) rfl ?_
  refine tm_i (p1 := 19) (p2 := 4) rfl (fun h1 => ?_) (fun h1 => ?_)
  · rw [if_pos h1] at hs
    refine tm_go 1 (pc' := 20) (L' := [some (.ref 0), some (.int a0), some (.int b0), some (.int c0), some (.long e0), none]) (S' := [.int 0]) (w' := w) rfl ?_
    exact tm_r rfl (⟨by unfold g_Bh_watch; rw [if_pos h1], by unfold u_Bh_watch; rw [if_pos h1]⟩)
  · rw [if_neg h1] at hs
    refine tm_go 2 (pc' := 7) (L' := [some (.ref 0), some (.int a0), some (.int b0), some (.int c0), some (.long e0), none]) (S' := [.int 15, .int a0]) (w' := w) rfl ?_
    refine tm_i (p1 := 19) (p2 := 10) rfl (fun h2 => ?_) (fun h2 => ?_)
    · rw [if_pos h2] at hs
      refine tm_go 1 (pc' := 20) (L' := [some (.ref 0), some (.int a0), some (.int b0), some (.int c0), some (.long e0), none]) (S' := [.int 0]) (w' := w) rfl ?_
      exact tm_r rfl (⟨by unfold g_Bh_watch; rw [if_neg h1, if_pos h2], by unfold u_Bh_watch; rw [if_neg h1, if_pos h2]⟩)
    · rw [if_neg h2] at hs
      refine tm_go 1 (pc' := 11) (L' := [some (.ref 0), some (.int a0), some (.int b0), some (.int c0), some (.long e0), none]) (S' := [.int b0]) (w' := w) rfl ?_
      refine tm_i (p1 := 19) (p2 := 14) rfl (fun h3 => ?_) (fun h3 => ?_)
      · rw [if_pos h3] at hs
        refine tm_go 1 (pc' := 20) (L' := [some (.ref 0), some (.int a0), some (.int b0), some (.int c0), some (.long e0), none]) (S' := [.int 0]) (w' := w) rfl ?_
        exact tm_r rfl (⟨by unfold g_Bh_watch; rw [if_neg h1, if_neg h2, if_pos h3], by unfold u_Bh_watch; rw [if_neg h1, if_neg h2, if_pos h3]⟩)
      · rw [if_neg h3] at hs
        refine tm_go 2 (pc' := 16) (L' := [some (.ref 0), some (.int a0), some (.int b0), some (.int c0), some (.long e0), none]) (S' := [.int 5, .int b0]) (w' := w) rfl ?_
        refine tm_i (p1 := 21) (p2 := 19) rfl (fun h4 => ?_) (fun h4 => ?_)
        · rw [if_pos h4] at hs
          refine tm_go 4 (pc' := 27) (L' := [some (.ref 0), some (.int a0), some (.int b0), some (.int c0), some (.long e0), none]) (S' := [.int b0, .int a0, .ref 126]) (w' := w) rfl ?_
          obtain ⟨b1, hs⟩ := hs
          refine tm_k (pc' := 28) (L' := [some (.ref 0), some (.int a0), some (.int b0), some (.int c0), some (.long e0), none]) (S' := []) (w' := (sI w 126 a0.toInt.toNat b0)) rfl b1 ?_
          refine tm_go 4 (pc' := 34) (L' := [some (.ref 0), some (.int a0), some (.int b0), some (.int c0), some (.long e0), none]) (S' := [.int c0, .int a0, .ref 124]) (w' := (sI w 126 a0.toInt.toNat b0)) rfl ?_
          obtain ⟨b2, hs⟩ := hs
          refine tm_k (pc' := 35) (L' := [some (.ref 0), some (.int a0), some (.int b0), some (.int c0), some (.long e0), none]) (S' := []) (w' := (sI (sI w 126 a0.toInt.toNat b0) 124 a0.toInt.toNat c0)) rfl b2 ?_
          refine tm_go 4 (pc' := 42) (L' := [some (.ref 0), some (.int a0), some (.int b0), some (.int c0), some (.long e0), none]) (S' := [.long e0, .int a0, .ref 125]) (w' := (sI (sI w 126 a0.toInt.toNat b0) 124 a0.toInt.toNat c0)) rfl ?_
          obtain ⟨b3, hs⟩ := hs
          refine tm_k (pc' := 43) (L' := [some (.ref 0), some (.int a0), some (.int b0), some (.int c0), some (.long e0), none]) (S' := []) (w' := (sJ (sI (sI w 126 a0.toInt.toNat b0) 124 a0.toInt.toNat c0) 125 a0.toInt.toNat e0)) rfl b3 ?_
          refine tm_go 1 (pc' := 44) (L' := [some (.ref 0), some (.int a0), some (.int b0), some (.int c0), some (.long e0), none]) (S' := [.int 1]) (w' := (sJ (sI (sI w 126 a0.toInt.toNat b0) 124 a0.toInt.toNat c0) 125 a0.toInt.toNat e0)) rfl ?_
          exact tm_r rfl (⟨by unfold g_Bh_watch; rw [if_neg h1, if_neg h2, if_neg h3, if_pos h4], by unfold u_Bh_watch; rw [if_neg h1, if_neg h2, if_neg h3, if_pos h4]⟩)
        · rw [if_neg h4] at hs
          refine tm_go 1 (pc' := 20) (L' := [some (.ref 0), some (.int a0), some (.int b0), some (.int c0), some (.long e0), none]) (S' := [.int 0]) (w' := w) rfl ?_
          exact tm_r rfl (⟨by unfold g_Bh_watch; rw [if_neg h1, if_neg h2, if_neg h3, if_neg h4], by unfold u_Bh_watch; rw [if_neg h1, if_neg h2, if_neg h3, if_neg h4]⟩)
def g_Bh_isPerson (w : MW) (a0 : Int32) : Int32 := (if a0.toInt < (1 : Int32).toInt then 0 else (if (999 : Int32).toInt < a0.toInt then 0 else 1))
theorem z_Bh_isPerson (w : MW) (a0 : Int32) : (g_Bh_isPerson w a0).toInt = 0 ∨ (g_Bh_isPerson w a0).toInt = 1 := (ite_Z (by decide) (ite_Z (by decide) (by decide)))
set_option maxHeartbeats 4000000 in
set_option maxRecDepth 100000 in
theorem c_Bh_isPerson {d : Nat} (w : MW) (a0 : Int32)  : Tc (d + 0) 23 [.int a0] w (fun v w1 => v = some (.int (g_Bh_isPerson w a0)) ∧ w1 = w) := by
  refine tm_go 2 (pc' := 2) (L' := [some (.int a0)]) (S' := [.int 1, .int a0]) (w' := w) rfl ?_
  refine tm_i (p1 := 16) (p2 := 5) rfl (fun h1 => ?_) (fun h1 => ?_)
  · refine tm_go 1 (pc' := 17) (L' := [some (.int a0)]) (S' := [.int 0]) (w' := w) rfl ?_
    exact tm_r rfl (⟨by unfold g_Bh_isPerson; rw [if_pos h1], rfl⟩)
  · refine tm_go 2 (pc' := 9) (L' := [some (.int a0)]) (S' := [.int 999, .int a0]) (w' := w) rfl ?_
    refine tm_i (p1 := 16) (p2 := 12) rfl (fun h2 => ?_) (fun h2 => ?_)
    · refine tm_go 1 (pc' := 17) (L' := [some (.int a0)]) (S' := [.int 0]) (w' := w) rfl ?_
      exact tm_r rfl (⟨by unfold g_Bh_isPerson; rw [if_neg h1, if_pos h2], rfl⟩)
    · refine tm_go 2 (pc' := 17) (L' := [some (.int a0)]) (S' := [.int 1]) (w' := w) rfl ?_
      exact tm_r rfl (⟨by unfold g_Bh_isPerson; rw [if_neg h1, if_neg h2], rfl⟩)
def g_Bh_state (w : MW)  : Int32 := (w.1 61 4)
set_option maxHeartbeats 4000000 in
set_option maxRecDepth 100000 in
theorem c_Bh_state {d : Nat} (w : MW)   : Tc (d + 0) 27 [.ref 0] w (fun v w1 => v = some (.int (g_Bh_state w)) ∧ w1 = w) := by
  refine tm_go 3 (pc' := 7) (L' := [some (.ref 0)]) (S' := [.int (w.1 61 4)]) (w' := w) rfl ?_
  exact tm_r rfl (⟨by unfold g_Bh_state; rfl, rfl⟩)
def s_Bh_write (w : MW) (a0 : Int32) : Prop := (if a0.toInt < 0 then True else (if (w.1 0 12).toInt ≤ a0.toInt then True else ((0 ≤ a0.toInt ∧ a0.toInt < 640) ∧ True)))
def g_Bh_write (w : MW) (a0 : Int32) : Int32 := (if a0.toInt < 0 then (-1) else (if (w.1 0 12).toInt ≤ a0.toInt then (-1) else (w.1 123 a0.toInt.toNat)))
set_option maxHeartbeats 4000000 in
set_option maxRecDepth 100000 in
theorem c_Bh_write {d : Nat} (w : MW) (a0 : Int32)  (hs : s_Bh_write w a0) : Tc (d + 0) 34 [.ref 0, .int a0] w (fun v w1 => v = some (.int (g_Bh_write w a0)) ∧ w1 = w) := by
  unfold s_Bh_write at hs
  refine tm_go 1 (pc' := 1) (L' := [some (.ref 0), some (.int a0)]) (S' := [.int a0]) (w' := w) rfl ?_
  refine tm_i (p1 := 21) (p2 := 4) rfl (fun h1 => ?_) (fun h1 => ?_)
  · rw [if_pos h1] at hs
    refine tm_go 1 (pc' := 22) (L' := [some (.ref 0), some (.int a0)]) (S' := [.int (-1)]) (w' := w) rfl ?_
    exact tm_r rfl (⟨by unfold g_Bh_write; rw [if_pos h1], rfl⟩)
  · rw [if_neg h1] at hs
    refine tm_go 3 (pc' := 9) (L' := [some (.ref 0), some (.int a0)]) (S' := [.int (w.1 0 12), .int a0]) (w' := w) rfl ?_
    refine tm_i (p1 := 21) (p2 := 12) rfl (fun h2 => ?_) (fun h2 => ?_)
    · rw [if_pos h2] at hs
      refine tm_go 1 (pc' := 22) (L' := [some (.ref 0), some (.int a0)]) (S' := [.int (-1)]) (w' := w) rfl ?_
      exact tm_r rfl (⟨by unfold g_Bh_write; rw [if_neg h1, if_pos h2], rfl⟩)
    · rw [if_neg h2] at hs
      refine tm_go 3 (pc' := 17) (L' := [some (.ref 0), some (.int a0)]) (S' := [.int a0, .ref 123]) (w' := w) rfl ?_
      obtain ⟨b1, hs⟩ := hs
      refine tm_k (pc' := 18) (L' := [some (.ref 0), some (.int a0)]) (S' := [.int (w.1 123 a0.toInt.toNat)]) (w' := w) rfl b1 ?_
      refine tm_go 1 (pc' := 22) (L' := [some (.ref 0), some (.int a0)]) (S' := [.int (w.1 123 a0.toInt.toNat)]) (w' := w) rfl ?_
      exact tm_r rfl (⟨by unfold g_Bh_write; rw [if_neg h1, if_neg h2], rfl⟩)
def g_Bh_second (w : MW)  : Int32 := (w.1 7 1)
set_option maxHeartbeats 4000000 in
set_option maxRecDepth 100000 in
theorem c_Bh_second {d : Nat} (w : MW)   : Tc (d + 0) 35 [.ref 0] w (fun v w1 => v = some (.int (g_Bh_second w)) ∧ w1 = w) := by
  refine tm_go 3 (pc' := 7) (L' := [some (.ref 0)]) (S' := [.int (w.1 7 1)]) (w' := w) rfl ?_
  exact tm_r rfl (⟨by unfold g_Bh_second; rfl, rfl⟩)
def s_Mo_here (w : MW)  : Prop := (if (w.1 127 22).toInt ≤ (w.1 127 21).toInt then True else ((0 ≤ (w.1 127 21).toInt ∧ (w.1 127 21).toInt < 4020) ∧ True))
def g_Mo_here (w : MW)  : Int32 := (if (w.1 127 22).toInt ≤ (w.1 127 21).toInt then 0 else (w.1 128 ((w.1 127 21).toInt.toNat)))
set_option maxHeartbeats 4000000 in
set_option maxRecDepth 100000 in
theorem c_Mo_here {d : Nat} (w : MW)   (hs : s_Mo_here w) : Tc (d + 0) 38 [.ref 127] w (fun v w1 => v = some (.int (g_Mo_here w)) ∧ w1 = w) := by
  unfold s_Mo_here at hs
  refine tm_go 4 (pc' := 8) (L' := [some (.ref 127)]) (S' := [.int (w.1 127 22), .int (w.1 127 21)]) (w' := w) rfl ?_
  refine tm_i (p1 := 23) (p2 := 11) rfl (fun h1 => ?_) (fun h1 => ?_)
  · rw [if_pos h1] at hs
    refine tm_go 1 (pc' := 24) (L' := [some (.ref 127)]) (S' := [.int 0]) (w' := w) rfl ?_
    exact tm_r rfl (⟨by unfold g_Mo_here; rw [if_pos h1], rfl⟩)
  · rw [if_neg h1] at hs
    refine tm_go 4 (pc' := 19) (L' := [some (.ref 127)]) (S' := [.int (w.1 127 21), .ref 128]) (w' := w) rfl ?_
    obtain ⟨b1, hs⟩ := hs
    refine tm_k (pc' := 20) (L' := [some (.ref 127)]) (S' := [.int (w.1 128 ((w.1 127 21).toInt.toNat))]) (w' := w) rfl b1 ?_
    refine tm_go 1 (pc' := 24) (L' := [some (.ref 127)]) (S' := [.int (w.1 128 ((w.1 127 21).toInt.toNat))]) (w' := w) rfl ?_
    exact tm_r rfl (⟨by unfold g_Mo_here; rw [if_neg h1], rfl⟩)
def g_Mo_room (w : MW) (a0 : Int32) : Int32 := (if ¬ a0.toInt = 0 then (if ¬ a0.toInt = (1 : Int32).toInt then (if a0.toInt = (3 : Int32).toInt then 3 else (if ¬ a0.toInt = (4 : Int32).toInt then (if ¬ a0.toInt = (6 : Int32).toInt then (if ¬ a0.toInt = (7 : Int32).toInt then 2 else 1) else 4) else 3)) else 2) else 1000)
set_option maxHeartbeats 4000000 in
set_option maxRecDepth 100000 in
theorem c_Mo_room {d : Nat} (w : MW) (a0 : Int32)  : Tc (d + 0) 42 [.int a0] w (fun v w1 => v = some (.int (g_Mo_room w a0)) ∧ w1 = w) := by
  refine tm_go 1 (pc' := 1) (L' := [some (.int a0)]) (S' := [.int a0]) (w' := w) rfl ?_
  refine tm_i (p1 := 10) (p2 := 4) rfl (fun h1 => ?_) (fun h1 => ?_)
  · refine tm_go 2 (pc' := 12) (L' := [some (.int a0)]) (S' := [.int 1, .int a0]) (w' := w) rfl ?_
    refine tm_i (p1 := 19) (p2 := 15) rfl (fun h2 => ?_) (fun h2 => ?_)
    · refine tm_go 2 (pc' := 21) (L' := [some (.int a0)]) (S' := [.int 3, .int a0]) (w' := w) rfl ?_
      refine tm_i (p1 := 29) (p2 := 24) rfl (fun h3 => ?_) (fun h3 => ?_)
      · refine tm_go 2 (pc' := 54) (L' := [some (.int a0)]) (S' := [.int 3]) (w' := w) rfl ?_
        exact tm_r rfl (⟨by unfold g_Mo_room; rw [if_pos h1, if_pos h2, if_pos h3], rfl⟩)
      · refine tm_go 2 (pc' := 26) (L' := [some (.int a0)]) (S' := [.int 4, .int a0]) (w' := w) rfl ?_
        refine tm_i (p1 := 33) (p2 := 29) rfl (fun h4 => ?_) (fun h4 => ?_)
        · refine tm_go 2 (pc' := 36) (L' := [some (.int a0)]) (S' := [.int 6, .int a0]) (w' := w) rfl ?_
          refine tm_i (p1 := 43) (p2 := 39) rfl (fun h5 => ?_) (fun h5 => ?_)
          · refine tm_go 2 (pc' := 46) (L' := [some (.int a0)]) (S' := [.int 7, .int a0]) (w' := w) rfl ?_
            refine tm_i (p1 := 53) (p2 := 49) rfl (fun h6 => ?_) (fun h6 => ?_)
            · refine tm_go 1 (pc' := 54) (L' := [some (.int a0)]) (S' := [.int 2]) (w' := w) rfl ?_
              exact tm_r rfl (⟨by unfold g_Mo_room; rw [if_pos h1, if_pos h2, if_neg h3, if_pos h4, if_pos h5, if_pos h6], rfl⟩)
            · refine tm_go 2 (pc' := 54) (L' := [some (.int a0)]) (S' := [.int 1]) (w' := w) rfl ?_
              exact tm_r rfl (⟨by unfold g_Mo_room; rw [if_pos h1, if_pos h2, if_neg h3, if_pos h4, if_pos h5, if_neg h6], rfl⟩)
          · refine tm_go 2 (pc' := 54) (L' := [some (.int a0)]) (S' := [.int 4]) (w' := w) rfl ?_
            exact tm_r rfl (⟨by unfold g_Mo_room; rw [if_pos h1, if_pos h2, if_neg h3, if_pos h4, if_neg h5], rfl⟩)
        · refine tm_go 2 (pc' := 54) (L' := [some (.int a0)]) (S' := [.int 3]) (w' := w) rfl ?_
          exact tm_r rfl (⟨by unfold g_Mo_room; rw [if_pos h1, if_pos h2, if_neg h3, if_neg h4], rfl⟩)
    · refine tm_go 2 (pc' := 54) (L' := [some (.int a0)]) (S' := [.int 2]) (w' := w) rfl ?_
      exact tm_r rfl (⟨by unfold g_Mo_room; rw [if_pos h1, if_neg h2], rfl⟩)
  · refine tm_go 2 (pc' := 54) (L' := [some (.int a0)]) (S' := [.int 1000]) (w' := w) rfl ?_
    exact tm_r rfl (⟨by unfold g_Mo_room; rw [if_neg h1], rfl⟩)
def u_Mo_letter (w : MW) (a0 : Int32) : MW := (if ¬ (w.1 127 83).toInt = 0 then (sI (sI w 127 84 (w.1 127 84)) 127 83 ((w.1 127 83) - (1 : Int32))) else (sI (sI w 127 84 a0) 127 83 ((w.1 127 83) - (1 : Int32))))
theorem ur_Mo_letter (w : MW) (a0 : Int32) : (u_Mo_letter w a0).2.2 = w.2.2 := (ite_R rfl rfl)
set_option maxHeartbeats 4000000 in
set_option maxRecDepth 100000 in
theorem c_Mo_letter {d : Nat} (w : MW) (a0 : Int32)  : Tc (d + 0) 46 [.ref 127, .int a0] w (fun v w1 => v = none ∧ w1 = u_Mo_letter w a0) := by
  refine tm_go 3 (pc' := 5) (L' := [some (.ref 127), some (.int a0)]) (S' := [.int (w.1 127 83), .ref 127]) (w' := w) rfl ?_
  refine tm_i (p1 := 12) (p2 := 8) rfl (fun h1 => ?_) (fun h1 => ?_)
  · refine tm_go 9 (pc' := 29) (L' := [some (.ref 127), some (.int a0)]) (S' := []) (w' := (sI (sI w 127 84 (w.1 127 84)) 127 83 ((w.1 127 83) - (1 : Int32)))) rfl ?_
    exact tm_r rfl (⟨rfl, by unfold u_Mo_letter; rw [if_pos h1]⟩)
  · refine tm_go 9 (pc' := 29) (L' := [some (.ref 127), some (.int a0)]) (S' := []) (w' := (sI (sI w 127 84 a0) 127 83 ((w.1 127 83) - (1 : Int32)))) rfl ?_
    exact tm_r rfl (⟨rfl, by unfold u_Mo_letter; rw [if_neg h1]⟩)
def g_Mo_isThing (w : MW) (a0 : Int32) : Int32 := (if a0.toInt < 0 then 0 else (if (w.1 127 4).toInt ≤ a0.toInt then 0 else 1))
theorem z_Mo_isThing (w : MW) (a0 : Int32) : (g_Mo_isThing w a0).toInt = 0 ∨ (g_Mo_isThing w a0).toInt = 1 := (ite_Z (by decide) (ite_Z (by decide) (by decide)))
set_option maxHeartbeats 4000000 in
set_option maxRecDepth 100000 in
theorem c_Mo_isThing {d : Nat} (w : MW) (a0 : Int32)  : Tc (d + 0) 50 [.ref 127, .int a0] w (fun v w1 => v = some (.int (g_Mo_isThing w a0)) ∧ w1 = w) := by
  refine tm_go 1 (pc' := 1) (L' := [some (.ref 127), some (.int a0)]) (S' := [.int a0]) (w' := w) rfl ?_
  refine tm_i (p1 := 16) (p2 := 4) rfl (fun h1 => ?_) (fun h1 => ?_)
  · refine tm_go 1 (pc' := 17) (L' := [some (.ref 127), some (.int a0)]) (S' := [.int 0]) (w' := w) rfl ?_
    exact tm_r rfl (⟨by unfold g_Mo_isThing; rw [if_pos h1], rfl⟩)
  · refine tm_go 3 (pc' := 9) (L' := [some (.ref 127), some (.int a0)]) (S' := [.int (w.1 127 4), .int a0]) (w' := w) rfl ?_
    refine tm_i (p1 := 16) (p2 := 12) rfl (fun h2 => ?_) (fun h2 => ?_)
    · refine tm_go 1 (pc' := 17) (L' := [some (.ref 127), some (.int a0)]) (S' := [.int 0]) (w' := w) rfl ?_
      exact tm_r rfl (⟨by unfold g_Mo_isThing; rw [if_neg h1, if_pos h2], rfl⟩)
    · refine tm_go 2 (pc' := 17) (L' := [some (.ref 127), some (.int a0)]) (S' := [.int 1]) (w' := w) rfl ?_
      exact tm_r rfl (⟨by unfold g_Mo_isThing; rw [if_neg h1, if_neg h2], rfl⟩)
def s_Mo_isTank (w : MW) (a0 : Int32) : Prop := (if (g_Mo_isThing w a0).toInt = 0 then True else ((0 ≤ a0.toInt ∧ a0.toInt < 20) ∧ (if ¬ (w.1 163 a0.toInt.toNat).toInt = 0 then True else True)))
def g_Mo_isTank (w : MW) (a0 : Int32) : Int32 := (if (g_Mo_isThing w a0).toInt = 0 then 0 else (if ¬ (w.1 163 a0.toInt.toNat).toInt = 0 then 0 else 1))
theorem z_Mo_isTank (w : MW) (a0 : Int32) : (g_Mo_isTank w a0).toInt = 0 ∨ (g_Mo_isTank w a0).toInt = 1 := (ite_Z (by decide) (ite_Z (by decide) (by decide)))
set_option maxHeartbeats 4000000 in
set_option maxRecDepth 100000 in
theorem c_Mo_isTank {d : Nat} (w : MW) (a0 : Int32)  (hs : s_Mo_isTank w a0) : Tc (d + 1) 51 [.ref 127, .int a0] w (fun v w1 => v = some (.int (g_Mo_isTank w a0)) ∧ w1 = w) := by
  unfold s_Mo_isTank at hs
  refine tm_go 2 (pc' := 2) (L' := [some (.ref 127), some (.int a0)]) (S' := [.int a0, .ref 127]) (w' := w) rfl ?_
  refine tm_c rfl (Nat.le_of_ble_eq_true rfl) (c_Mo_isThing (d := d + 0) w a0 ) (fun v w1 hq => ?_)
  obtain ⟨rfl, hw9⟩ := hq; rw [hw9]; clear hw9
  refine tm_i (p1 := 21) (p2 := 8) rfl (fun h1 => ?_) (fun h1 => ?_)
  · rw [if_pos h1] at hs
    refine tm_go 1 (pc' := 22) (L' := [some (.ref 127), some (.int a0)]) (S' := [.int 0]) (w' := w) rfl ?_
    exact tm_r rfl (⟨by unfold g_Mo_isTank; rw [if_pos h1], rfl⟩)
  · rw [if_neg h1] at hs
    refine tm_go 3 (pc' := 13) (L' := [some (.ref 127), some (.int a0)]) (S' := [.int a0, .ref 163]) (w' := w) rfl ?_
    obtain ⟨b1, hs⟩ := hs
    refine tm_k (pc' := 14) (L' := [some (.ref 127), some (.int a0)]) (S' := [.int (w.1 163 a0.toInt.toNat)]) (w' := w) rfl b1 ?_
    refine tm_i (p1 := 21) (p2 := 17) rfl (fun h2 => ?_) (fun h2 => ?_)
    · rw [if_pos h2] at hs
      refine tm_go 1 (pc' := 22) (L' := [some (.ref 127), some (.int a0)]) (S' := [.int 0]) (w' := w) rfl ?_
      exact tm_r rfl (⟨by unfold g_Mo_isTank; rw [if_neg h1, if_pos h2], rfl⟩)
    · rw [if_neg h2] at hs
      refine tm_go 2 (pc' := 22) (L' := [some (.ref 127), some (.int a0)]) (S' := [.int 1]) (w' := w) rfl ?_
      exact tm_r rfl (⟨by unfold g_Mo_isTank; rw [if_neg h1, if_neg h2], rfl⟩)
def s_Mo_isValve (w : MW) (a0 : Int32) : Prop := (if (g_Mo_isThing w a0).toInt = 0 then True else ((0 ≤ a0.toInt ∧ a0.toInt < 20) ∧ (if (w.1 163 a0.toInt.toNat).toInt < (2 : Int32).toInt then True else True)))
def g_Mo_isValve (w : MW) (a0 : Int32) : Int32 := (if (g_Mo_isThing w a0).toInt = 0 then 0 else (if (w.1 163 a0.toInt.toNat).toInt < (2 : Int32).toInt then 0 else 1))
theorem z_Mo_isValve (w : MW) (a0 : Int32) : (g_Mo_isValve w a0).toInt = 0 ∨ (g_Mo_isValve w a0).toInt = 1 := (ite_Z (by decide) (ite_Z (by decide) (by decide)))
set_option maxHeartbeats 4000000 in
set_option maxRecDepth 100000 in
theorem c_Mo_isValve {d : Nat} (w : MW) (a0 : Int32)  (hs : s_Mo_isValve w a0) : Tc (d + 1) 52 [.ref 127, .int a0] w (fun v w1 => v = some (.int (g_Mo_isValve w a0)) ∧ w1 = w) := by
  unfold s_Mo_isValve at hs
  refine tm_go 2 (pc' := 2) (L' := [some (.ref 127), some (.int a0)]) (S' := [.int a0, .ref 127]) (w' := w) rfl ?_
  refine tm_c rfl (Nat.le_of_ble_eq_true rfl) (c_Mo_isThing (d := d + 0) w a0 ) (fun v w1 hq => ?_)
  obtain ⟨rfl, hw9⟩ := hq; rw [hw9]; clear hw9
  refine tm_i (p1 := 22) (p2 := 8) rfl (fun h1 => ?_) (fun h1 => ?_)
  · rw [if_pos h1] at hs
    refine tm_go 1 (pc' := 23) (L' := [some (.ref 127), some (.int a0)]) (S' := [.int 0]) (w' := w) rfl ?_
    exact tm_r rfl (⟨by unfold g_Mo_isValve; rw [if_pos h1], rfl⟩)
  · rw [if_neg h1] at hs
    refine tm_go 3 (pc' := 13) (L' := [some (.ref 127), some (.int a0)]) (S' := [.int a0, .ref 163]) (w' := w) rfl ?_
    obtain ⟨b1, hs⟩ := hs
    refine tm_k (pc' := 14) (L' := [some (.ref 127), some (.int a0)]) (S' := [.int (w.1 163 a0.toInt.toNat)]) (w' := w) rfl b1 ?_
    refine tm_go 1 (pc' := 15) (L' := [some (.ref 127), some (.int a0)]) (S' := [.int 2, .int (w.1 163 a0.toInt.toNat)]) (w' := w) rfl ?_
    refine tm_i (p1 := 22) (p2 := 18) rfl (fun h2 => ?_) (fun h2 => ?_)
    · rw [if_pos h2] at hs
      refine tm_go 1 (pc' := 23) (L' := [some (.ref 127), some (.int a0)]) (S' := [.int 0]) (w' := w) rfl ?_
      exact tm_r rfl (⟨by unfold g_Mo_isValve; rw [if_neg h1, if_pos h2], rfl⟩)
    · rw [if_neg h2] at hs
      refine tm_go 2 (pc' := 23) (L' := [some (.ref 127), some (.int a0)]) (S' := [.int 1]) (w' := w) rfl ?_
      exact tm_r rfl (⟨by unfold g_Mo_isValve; rw [if_neg h1, if_neg h2], rfl⟩)
def g_Mo_isPipe (w : MW) (a0 : Int32) : Int32 := (if a0.toInt < (w.1 127 4).toInt then 0 else (if ((w.1 127 4) + (w.1 127 11)).toInt ≤ a0.toInt then 0 else 1))
theorem z_Mo_isPipe (w : MW) (a0 : Int32) : (g_Mo_isPipe w a0).toInt = 0 ∨ (g_Mo_isPipe w a0).toInt = 1 := (ite_Z (by decide) (ite_Z (by decide) (by decide)))
set_option maxHeartbeats 4000000 in
set_option maxRecDepth 100000 in
theorem c_Mo_isPipe {d : Nat} (w : MW) (a0 : Int32)  : Tc (d + 0) 53 [.ref 127, .int a0] w (fun v w1 => v = some (.int (g_Mo_isPipe w a0)) ∧ w1 = w) := by
  refine tm_go 3 (pc' := 5) (L' := [some (.ref 127), some (.int a0)]) (S' := [.int (w.1 127 4), .int a0]) (w' := w) rfl ?_
  refine tm_i (p1 := 25) (p2 := 8) rfl (fun h1 => ?_) (fun h1 => ?_)
  · refine tm_go 1 (pc' := 26) (L' := [some (.ref 127), some (.int a0)]) (S' := [.int 0]) (w' := w) rfl ?_
    exact tm_r rfl (⟨by unfold g_Mo_isPipe; rw [if_pos h1], rfl⟩)
  · refine tm_go 6 (pc' := 18) (L' := [some (.ref 127), some (.int a0)]) (S' := [.int ((w.1 127 4) + (w.1 127 11)), .int a0]) (w' := w) rfl ?_
    refine tm_i (p1 := 25) (p2 := 21) rfl (fun h2 => ?_) (fun h2 => ?_)
    · refine tm_go 1 (pc' := 26) (L' := [some (.ref 127), some (.int a0)]) (S' := [.int 0]) (w' := w) rfl ?_
      exact tm_r rfl (⟨by unfold g_Mo_isPipe; rw [if_neg h1, if_pos h2], rfl⟩)
    · refine tm_go 2 (pc' := 26) (L' := [some (.ref 127), some (.int a0)]) (S' := [.int 1]) (w' := w) rfl ?_
      exact tm_r rfl (⟨by unfold g_Mo_isPipe; rw [if_neg h1, if_neg h2], rfl⟩)
def s_Mo_holdsLiquid (w : MW) (a0 : Int32) : Prop := ((s_Mo_isTank w a0) ∧ (if ¬ (g_Mo_isTank w a0).toInt = 0 then True else (if (g_Mo_isPipe w a0).toInt = 0 then True else True)))
def g_Mo_holdsLiquid (w : MW) (a0 : Int32) : Int32 := (if ¬ (g_Mo_isTank w a0).toInt = 0 then 1 else (if (g_Mo_isPipe w a0).toInt = 0 then 0 else 1))
theorem z_Mo_holdsLiquid (w : MW) (a0 : Int32) : (g_Mo_holdsLiquid w a0).toInt = 0 ∨ (g_Mo_holdsLiquid w a0).toInt = 1 := (ite_Z (by decide) (ite_Z (by decide) (by decide)))
set_option maxHeartbeats 4000000 in
set_option maxRecDepth 100000 in
theorem c_Mo_holdsLiquid {d : Nat} (w : MW) (a0 : Int32)  (hs : s_Mo_holdsLiquid w a0) : Tc (d + 2) 54 [.ref 127, .int a0] w (fun v w1 => v = some (.int (g_Mo_holdsLiquid w a0)) ∧ w1 = w) := by
  unfold s_Mo_holdsLiquid at hs
  refine tm_go 2 (pc' := 2) (L' := [some (.ref 127), some (.int a0)]) (S' := [.int a0, .ref 127]) (w' := w) rfl ?_
  obtain ⟨b1, hs⟩ := hs
  refine tm_c rfl (Nat.le_of_ble_eq_true rfl) (c_Mo_isTank (d := d + 0) w a0  b1) (fun v w1 hq => ?_)
  obtain ⟨rfl, hw9⟩ := hq; rw [hw9]; clear hw9
  refine tm_i (p1 := 16) (p2 := 8) rfl (fun h1 => ?_) (fun h1 => ?_)
  · rw [if_pos h1] at hs
    refine tm_go 2 (pc' := 21) (L' := [some (.ref 127), some (.int a0)]) (S' := [.int 1]) (w' := w) rfl ?_
    exact tm_r rfl (⟨by unfold g_Mo_holdsLiquid; rw [if_pos h1], rfl⟩)
  · rw [if_neg h1] at hs
    refine tm_go 2 (pc' := 10) (L' := [some (.ref 127), some (.int a0)]) (S' := [.int a0, .ref 127]) (w' := w) rfl ?_
    refine tm_c rfl (Nat.le_of_ble_eq_true rfl) (c_Mo_isPipe (d := d + 1) w a0 ) (fun v w1 hq => ?_)
    obtain ⟨rfl, hw9⟩ := hq; rw [hw9]; clear hw9
    refine tm_i (p1 := 20) (p2 := 16) rfl (fun h2 => ?_) (fun h2 => ?_)
    · rw [if_pos h2] at hs
      refine tm_go 1 (pc' := 21) (L' := [some (.ref 127), some (.int a0)]) (S' := [.int 0]) (w' := w) rfl ?_
      exact tm_r rfl (⟨by unfold g_Mo_holdsLiquid; rw [if_neg h1, if_pos h2], rfl⟩)
    · rw [if_neg h2] at hs
      refine tm_go 2 (pc' := 21) (L' := [some (.ref 127), some (.int a0)]) (S' := [.int 1]) (w' := w) rfl ?_
      exact tm_r rfl (⟨by unfold g_Mo_holdsLiquid; rw [if_neg h1, if_neg h2], rfl⟩)
def s_Mo_mayMeet (w : MW) (a0 : Int32) (b0 : Int32) : Prop := (if a0.toInt = b0.toInt then True else (if a0.toInt = (15 : Int32).toInt then True else (if b0.toInt = (15 : Int32).toInt then True else ((0 ≤ (((16 : Int32) * a0) + b0).toInt ∧ (((16 : Int32) * a0) + b0).toInt < 256) ∧ (if (w.1 175 ((((16 : Int32) * a0) + b0).toInt.toNat)).toInt = 0 then True else True)))))
def g_Mo_mayMeet (w : MW) (a0 : Int32) (b0 : Int32) : Int32 := (if a0.toInt = b0.toInt then 1 else (if a0.toInt = (15 : Int32).toInt then 0 else (if b0.toInt = (15 : Int32).toInt then 0 else (if (w.1 175 ((((16 : Int32) * a0) + b0).toInt.toNat)).toInt = 0 then 0 else 1))))
theorem z_Mo_mayMeet (w : MW) (a0 : Int32) (b0 : Int32) : (g_Mo_mayMeet w a0 b0).toInt = 0 ∨ (g_Mo_mayMeet w a0 b0).toInt = 1 := (ite_Z (by decide) (ite_Z (by decide) (ite_Z (by decide) (ite_Z (by decide) (by decide)))))
set_option maxHeartbeats 4000000 in
set_option maxRecDepth 100000 in
theorem c_Mo_mayMeet {d : Nat} (w : MW) (a0 : Int32) (b0 : Int32)  (hs : s_Mo_mayMeet w a0 b0) : Tc (d + 0) 65 [.ref 127, .int a0, .int b0] w (fun v w1 => v = some (.int (g_Mo_mayMeet w a0 b0)) ∧ w1 = w) := by
  unfold s_Mo_mayMeet at hs
  refine tm_go 2 (pc' := 2) (L' := [some (.ref 127), some (.int a0), some (.int b0)]) (S' := [.int b0, .int a0]) (w' := w) rfl ?_
  refine tm_i (p1 := 31) (p2 := 5) rfl (fun h1 => ?_) (fun h1 => ?_)
  · rw [if_pos h1] at hs
    refine tm_go 2 (pc' := 36) (L' := [some (.ref 127), some (.int a0), some (.int b0)]) (S' := [.int 1]) (w' := w) rfl ?_
    exact tm_r rfl (⟨by unfold g_Mo_mayMeet; rw [if_pos h1], rfl⟩)
  · rw [if_neg h1] at hs
    refine tm_go 2 (pc' := 8) (L' := [some (.ref 127), some (.int a0), some (.int b0)]) (S' := [.int 15, .int a0]) (w' := w) rfl ?_
    refine tm_i (p1 := 35) (p2 := 11) rfl (fun h2 => ?_) (fun h2 => ?_)
    · rw [if_pos h2] at hs
      refine tm_go 1 (pc' := 36) (L' := [some (.ref 127), some (.int a0), some (.int b0)]) (S' := [.int 0]) (w' := w) rfl ?_
      exact tm_r rfl (⟨by unfold g_Mo_mayMeet; rw [if_neg h1, if_pos h2], rfl⟩)
    · rw [if_neg h2] at hs
      refine tm_go 2 (pc' := 14) (L' := [some (.ref 127), some (.int a0), some (.int b0)]) (S' := [.int 15, .int b0]) (w' := w) rfl ?_
      refine tm_i (p1 := 35) (p2 := 17) rfl (fun h3 => ?_) (fun h3 => ?_)
      · rw [if_pos h3] at hs
        refine tm_go 1 (pc' := 36) (L' := [some (.ref 127), some (.int a0), some (.int b0)]) (S' := [.int 0]) (w' := w) rfl ?_
        exact tm_r rfl (⟨by unfold g_Mo_mayMeet; rw [if_neg h1, if_neg h2, if_pos h3], rfl⟩)
      · rw [if_neg h3] at hs
        refine tm_go 7 (pc' := 27) (L' := [some (.ref 127), some (.int a0), some (.int b0)]) (S' := [.int (((16 : Int32) * a0) + b0), .ref 175]) (w' := w) rfl ?_
        obtain ⟨b1, hs⟩ := hs
        refine tm_k (pc' := 28) (L' := [some (.ref 127), some (.int a0), some (.int b0)]) (S' := [.int (w.1 175 ((((16 : Int32) * a0) + b0).toInt.toNat))]) (w' := w) rfl b1 ?_
        refine tm_i (p1 := 35) (p2 := 31) rfl (fun h4 => ?_) (fun h4 => ?_)
        · rw [if_pos h4] at hs
          refine tm_go 1 (pc' := 36) (L' := [some (.ref 127), some (.int a0), some (.int b0)]) (S' := [.int 0]) (w' := w) rfl ?_
          exact tm_r rfl (⟨by unfold g_Mo_mayMeet; rw [if_neg h1, if_neg h2, if_neg h3, if_pos h4], rfl⟩)
        · rw [if_neg h4] at hs
          refine tm_go 2 (pc' := 36) (L' := [some (.ref 127), some (.int a0), some (.int b0)]) (S' := [.int 1]) (w' := w) rfl ?_
          exact tm_r rfl (⟨by unfold g_Mo_mayMeet; rw [if_neg h1, if_neg h2, if_neg h3, if_neg h4], rfl⟩)
def s_Mo_carry (w : MW) (a0 : Int32) (b0 : Int32) : Prop := ((0 ≤ a0.toInt ∧ a0.toInt < 44) ∧ (if ¬ (w.1 194 a0.toInt.toNat).toInt = 0 then ((0 ≤ a0.toInt ∧ a0.toInt < 44) ∧ ((0 ≤ a0.toInt ∧ a0.toInt < 44) ∧ True)) else ((0 ≤ a0.toInt ∧ a0.toInt < 44) ∧ True)))
def u_Mo_carry (w : MW) (a0 : Int32) (b0 : Int32) : MW := (if ¬ (w.1 194 a0.toInt.toNat).toInt = 0 then (sI w 194 a0.toInt.toNat (w.1 194 a0.toInt.toNat)) else (sI w 194 a0.toInt.toNat b0))
theorem ur_Mo_carry (w : MW) (a0 : Int32) (b0 : Int32) : (u_Mo_carry w a0 b0).2.2 = w.2.2 := (ite_R rfl rfl)
set_option maxHeartbeats 4000000 in
set_option maxRecDepth 100000 in
theorem c_Mo_carry {d : Nat} (w : MW) (a0 : Int32) (b0 : Int32)  (hs : s_Mo_carry w a0 b0) : Tc (d + 0) 69 [.ref 127, .int a0, .int b0] w (fun v w1 => v = none ∧ w1 = u_Mo_carry w a0 b0) := by
  unfold s_Mo_carry at hs
  refine tm_go 6 (pc' := 10) (L' := [some (.ref 127), some (.int a0), some (.int b0)]) (S' := [.int a0, .ref 194, .int a0, .ref 194]) (w' := w) rfl ?_
  obtain ⟨b1, hs⟩ := hs
  refine tm_k (pc' := 11) (L' := [some (.ref 127), some (.int a0), some (.int b0)]) (S' := [.int (w.1 194 a0.toInt.toNat), .int a0, .ref 194]) (w' := w) rfl b1 ?_
  refine tm_i (p1 := 18) (p2 := 14) rfl (fun h1 => ?_) (fun h1 => ?_)
  · rw [if_pos h1] at hs
    refine tm_go 3 (pc' := 23) (L' := [some (.ref 127), some (.int a0), some (.int b0)]) (S' := [.int a0, .ref 194, .int a0, .ref 194]) (w' := w) rfl ?_
    obtain ⟨b2, hs⟩ := hs
    refine tm_k (pc' := 24) (L' := [some (.ref 127), some (.int a0), some (.int b0)]) (S' := [.int (w.1 194 a0.toInt.toNat), .int a0, .ref 194]) (w' := w) rfl b2 ?_
    obtain ⟨b3, hs⟩ := hs
    refine tm_k (pc' := 25) (L' := [some (.ref 127), some (.int a0), some (.int b0)]) (S' := []) (w' := (sI w 194 a0.toInt.toNat (w.1 194 a0.toInt.toNat))) rfl b3 ?_
    exact tm_r rfl (⟨rfl, by unfold u_Mo_carry; rw [if_pos h1]⟩)
  · rw [if_neg h1] at hs
    refine tm_go 2 (pc' := 24) (L' := [some (.ref 127), some (.int a0), some (.int b0)]) (S' := [.int b0, .int a0, .ref 194]) (w' := w) rfl ?_
    obtain ⟨b4, hs⟩ := hs
    refine tm_k (pc' := 25) (L' := [some (.ref 127), some (.int a0), some (.int b0)]) (S' := []) (w' := (sI w 194 a0.toInt.toNat b0)) rfl b4 ?_
    exact tm_r rfl (⟨rfl, by unfold u_Mo_carry; rw [if_neg h1]⟩)
def s_Mo_come (w : MW) (a0 : Int32) (b0 : Int32) : Prop := ((0 ≤ a0.toInt ∧ a0.toInt < 20) ∧ (if (w.1 165 a0.toInt.toNat).toInt = 0 then ((0 ≤ a0.toInt ∧ a0.toInt < 20) ∧ ((0 ≤ a0.toInt ∧ a0.toInt < 20) ∧ ((0 ≤ a0.toInt ∧ a0.toInt < 20) ∧ True))) else ((0 ≤ a0.toInt ∧ a0.toInt < 20) ∧ (if ¬ (w.1 166 a0.toInt.toNat).toInt = b0.toInt then ((0 ≤ a0.toInt ∧ a0.toInt < 20) ∧ ((0 ≤ a0.toInt ∧ a0.toInt < 20) ∧ ((0 ≤ a0.toInt ∧ a0.toInt < 20) ∧ True))) else ((0 ≤ a0.toInt ∧ a0.toInt < 20) ∧ ((0 ≤ a0.toInt ∧ a0.toInt < 20) ∧ ((0 ≤ a0.toInt ∧ a0.toInt < 20) ∧ True)))))))
def u_Mo_come (w : MW) (a0 : Int32) (b0 : Int32) : MW := (if (w.1 165 a0.toInt.toNat).toInt = 0 then (sI (sI w 166 a0.toInt.toNat b0) 165 a0.toInt.toNat ((w.1 165 a0.toInt.toNat) + (1 : Int32))) else (if ¬ (w.1 166 a0.toInt.toNat).toInt = b0.toInt then (sI (sI w 166 a0.toInt.toNat 15) 165 a0.toInt.toNat ((w.1 165 a0.toInt.toNat) + (1 : Int32))) else (sI (sI w 166 a0.toInt.toNat b0) 165 a0.toInt.toNat ((w.1 165 a0.toInt.toNat) + (1 : Int32)))))
theorem ur_Mo_come (w : MW) (a0 : Int32) (b0 : Int32) : (u_Mo_come w a0 b0).2.2 = w.2.2 := (ite_R rfl (ite_R rfl rfl))
set_option maxHeartbeats 4000000 in
set_option maxRecDepth 100000 in
theorem c_Mo_come {d : Nat} (w : MW) (a0 : Int32) (b0 : Int32)  (hs : s_Mo_come w a0 b0) : Tc (d + 0) 80 [.ref 127, .int a0, .int b0] w (fun v w1 => v = none ∧ w1 = u_Mo_come w a0 b0) := by
  unfold s_Mo_come at hs
  refine tm_go 6 (pc' := 10) (L' := [some (.ref 127), some (.int a0), some (.int b0)]) (S' := [.int a0, .ref 165, .int a0, .ref 166]) (w' := w) rfl ?_
  obtain ⟨b1, hs⟩ := hs
  refine tm_k (pc' := 11) (L' := [some (.ref 127), some (.int a0), some (.int b0)]) (S' := [.int (w.1 165 a0.toInt.toNat), .int a0, .ref 166]) (w' := w) rfl b1 ?_
  refine tm_i (p1 := 24) (p2 := 14) rfl (fun h1 => ?_) (fun h1 => ?_)
  · rw [if_pos h1] at hs
    refine tm_go 2 (pc' := 30) (L' := [some (.ref 127), some (.int a0), some (.int b0)]) (S' := [.int b0, .int a0, .ref 166]) (w' := w) rfl ?_
    obtain ⟨b2, hs⟩ := hs
    refine tm_k (pc' := 31) (L' := [some (.ref 127), some (.int a0), some (.int b0)]) (S' := []) (w' := (sI w 166 a0.toInt.toNat b0)) rfl b2 ?_
    refine tm_go 4 (pc' := 37) (L' := [some (.ref 127), some (.int a0), some (.int b0)]) (S' := [.int a0, .ref 165, .int a0, .ref 165]) (w' := (sI w 166 a0.toInt.toNat b0)) rfl ?_
    obtain ⟨b3, hs⟩ := hs
    refine tm_k (pc' := 38) (L' := [some (.ref 127), some (.int a0), some (.int b0)]) (S' := [.int (w.1 165 a0.toInt.toNat), .int a0, .ref 165]) (w' := (sI w 166 a0.toInt.toNat b0)) rfl b3 ?_
    refine tm_go 2 (pc' := 40) (L' := [some (.ref 127), some (.int a0), some (.int b0)]) (S' := [.int ((w.1 165 a0.toInt.toNat) + (1 : Int32)), .int a0, .ref 165]) (w' := (sI w 166 a0.toInt.toNat b0)) rfl ?_
    obtain ⟨b4, hs⟩ := hs
    refine tm_k (pc' := 41) (L' := [some (.ref 127), some (.int a0), some (.int b0)]) (S' := []) (w' := (sI (sI w 166 a0.toInt.toNat b0) 165 a0.toInt.toNat ((w.1 165 a0.toInt.toNat) + (1 : Int32)))) rfl b4 ?_
    exact tm_r rfl (⟨rfl, by unfold u_Mo_come; rw [if_pos h1]⟩)
  · rw [if_neg h1] at hs
    refine tm_go 3 (pc' := 19) (L' := [some (.ref 127), some (.int a0), some (.int b0)]) (S' := [.int a0, .ref 166, .int a0, .ref 166]) (w' := w) rfl ?_
    obtain ⟨b5, hs⟩ := hs
    refine tm_k (pc' := 20) (L' := [some (.ref 127), some (.int a0), some (.int b0)]) (S' := [.int (w.1 166 a0.toInt.toNat), .int a0, .ref 166]) (w' := w) rfl b5 ?_
    refine tm_go 1 (pc' := 21) (L' := [some (.ref 127), some (.int a0), some (.int b0)]) (S' := [.int b0, .int (w.1 166 a0.toInt.toNat), .int a0, .ref 166]) (w' := w) rfl ?_
    refine tm_i (p1 := 28) (p2 := 24) rfl (fun h2 => ?_) (fun h2 => ?_)
    · rw [if_pos h2] at hs
      refine tm_go 1 (pc' := 30) (L' := [some (.ref 127), some (.int a0), some (.int b0)]) (S' := [.int 15, .int a0, .ref 166]) (w' := w) rfl ?_
      obtain ⟨b6, hs⟩ := hs
      refine tm_k (pc' := 31) (L' := [some (.ref 127), some (.int a0), some (.int b0)]) (S' := []) (w' := (sI w 166 a0.toInt.toNat 15)) rfl b6 ?_
      refine tm_go 4 (pc' := 37) (L' := [some (.ref 127), some (.int a0), some (.int b0)]) (S' := [.int a0, .ref 165, .int a0, .ref 165]) (w' := (sI w 166 a0.toInt.toNat 15)) rfl ?_
      obtain ⟨b7, hs⟩ := hs
      refine tm_k (pc' := 38) (L' := [some (.ref 127), some (.int a0), some (.int b0)]) (S' := [.int (w.1 165 a0.toInt.toNat), .int a0, .ref 165]) (w' := (sI w 166 a0.toInt.toNat 15)) rfl b7 ?_
      refine tm_go 2 (pc' := 40) (L' := [some (.ref 127), some (.int a0), some (.int b0)]) (S' := [.int ((w.1 165 a0.toInt.toNat) + (1 : Int32)), .int a0, .ref 165]) (w' := (sI w 166 a0.toInt.toNat 15)) rfl ?_
      obtain ⟨b8, hs⟩ := hs
      refine tm_k (pc' := 41) (L' := [some (.ref 127), some (.int a0), some (.int b0)]) (S' := []) (w' := (sI (sI w 166 a0.toInt.toNat 15) 165 a0.toInt.toNat ((w.1 165 a0.toInt.toNat) + (1 : Int32)))) rfl b8 ?_
      exact tm_r rfl (⟨rfl, by unfold u_Mo_come; rw [if_neg h1, if_pos h2]⟩)
    · rw [if_neg h2] at hs
      refine tm_go 2 (pc' := 30) (L' := [some (.ref 127), some (.int a0), some (.int b0)]) (S' := [.int b0, .int a0, .ref 166]) (w' := w) rfl ?_
      obtain ⟨b9, hs⟩ := hs
      refine tm_k (pc' := 31) (L' := [some (.ref 127), some (.int a0), some (.int b0)]) (S' := []) (w' := (sI w 166 a0.toInt.toNat b0)) rfl b9 ?_
      refine tm_go 4 (pc' := 37) (L' := [some (.ref 127), some (.int a0), some (.int b0)]) (S' := [.int a0, .ref 165, .int a0, .ref 165]) (w' := (sI w 166 a0.toInt.toNat b0)) rfl ?_
      obtain ⟨b10, hs⟩ := hs
      refine tm_k (pc' := 38) (L' := [some (.ref 127), some (.int a0), some (.int b0)]) (S' := [.int (w.1 165 a0.toInt.toNat), .int a0, .ref 165]) (w' := (sI w 166 a0.toInt.toNat b0)) rfl b10 ?_
      refine tm_go 2 (pc' := 40) (L' := [some (.ref 127), some (.int a0), some (.int b0)]) (S' := [.int ((w.1 165 a0.toInt.toNat) + (1 : Int32)), .int a0, .ref 165]) (w' := (sI w 166 a0.toInt.toNat b0)) rfl ?_
      obtain ⟨b11, hs⟩ := hs
      refine tm_k (pc' := 41) (L' := [some (.ref 127), some (.int a0), some (.int b0)]) (S' := []) (w' := (sI (sI w 166 a0.toInt.toNat b0) 165 a0.toInt.toNat ((w.1 165 a0.toInt.toNat) + (1 : Int32)))) rfl b11 ?_
      exact tm_r rfl (⟨rfl, by unfold u_Mo_come; rw [if_neg h1, if_neg h2]⟩)
def s_Mo_way (w : MW) (a0 : Int32) (b0 : Int32) : Prop := (if a0.toInt < 0 then True else (if (w.1 127 26).toInt ≤ a0.toInt then True else (if b0.toInt < 0 then True else ((0 ≤ a0.toInt ∧ a0.toInt < 24) ∧ (if b0.toInt ≤ ((2 : Int32) + (w.1 185 a0.toInt.toNat)).toInt then (if ¬ b0.toInt = 0 then (if ¬ b0.toInt = (1 : Int32).toInt then (if ¬ b0.toInt = (2 : Int32).toInt then ((0 ≤ ((((24 : Int32) * a0) + b0) - (3 : Int32)).toInt ∧ ((((24 : Int32) * a0) + b0) - (3 : Int32)).toInt < 576) ∧ True) else ((0 ≤ a0.toInt ∧ a0.toInt < 24) ∧ True)) else ((0 ≤ a0.toInt ∧ a0.toInt < 24) ∧ True)) else ((0 ≤ a0.toInt ∧ a0.toInt < 24) ∧ True)) else True)))))
def g_Mo_way (w : MW) (a0 : Int32) (b0 : Int32) : Int32 := (if a0.toInt < 0 then (-1) else (if (w.1 127 26).toInt ≤ a0.toInt then (-1) else (if b0.toInt < 0 then (-1) else (if b0.toInt ≤ ((2 : Int32) + (w.1 185 a0.toInt.toNat)).toInt then (if ¬ b0.toInt = 0 then (if ¬ b0.toInt = (1 : Int32).toInt then (if ¬ b0.toInt = (2 : Int32).toInt then ((w.1 186 (((((24 : Int32) * a0) + b0) - (3 : Int32)).toInt.toNat)) / 2) else (w.1 185 a0.toInt.toNat)) else (w.1 182 a0.toInt.toNat)) else (w.1 181 a0.toInt.toNat)) else (-1)))))
set_option maxHeartbeats 4000000 in
set_option maxRecDepth 100000 in
theorem c_Mo_way {d : Nat} (w : MW) (a0 : Int32) (b0 : Int32)  (hs : s_Mo_way w a0 b0) : Tc (d + 0) 82 [.ref 127, .int a0, .int b0] w (fun v w1 => v = some (.int (g_Mo_way w a0 b0)) ∧ w1 = w) := by
  unfold s_Mo_way at hs
  refine tm_go 1 (pc' := 1) (L' := [some (.ref 127), some (.int a0), some (.int b0)]) (S' := [.int a0]) (w' := w) rfl ?_
  refine tm_i (p1 := 28) (p2 := 4) rfl (fun h1 => ?_) (fun h1 => ?_)
  · rw [if_pos h1] at hs
    refine tm_go 1 (pc' := 29) (L' := [some (.ref 127), some (.int a0), some (.int b0)]) (S' := [.int (-1)]) (w' := w) rfl ?_
    exact tm_r rfl (⟨by unfold g_Mo_way; rw [if_pos h1], rfl⟩)
  · rw [if_neg h1] at hs
    refine tm_go 3 (pc' := 9) (L' := [some (.ref 127), some (.int a0), some (.int b0)]) (S' := [.int (w.1 127 26), .int a0]) (w' := w) rfl ?_
    refine tm_i (p1 := 28) (p2 := 12) rfl (fun h2 => ?_) (fun h2 => ?_)
    · rw [if_pos h2] at hs
      refine tm_go 1 (pc' := 29) (L' := [some (.ref 127), some (.int a0), some (.int b0)]) (S' := [.int (-1)]) (w' := w) rfl ?_
      exact tm_r rfl (⟨by unfold g_Mo_way; rw [if_neg h1, if_pos h2], rfl⟩)
    · rw [if_neg h2] at hs
      refine tm_go 1 (pc' := 13) (L' := [some (.ref 127), some (.int a0), some (.int b0)]) (S' := [.int b0]) (w' := w) rfl ?_
      refine tm_i (p1 := 28) (p2 := 16) rfl (fun h3 => ?_) (fun h3 => ?_)
      · rw [if_pos h3] at hs
        refine tm_go 1 (pc' := 29) (L' := [some (.ref 127), some (.int a0), some (.int b0)]) (S' := [.int (-1)]) (w' := w) rfl ?_
        exact tm_r rfl (⟨by unfold g_Mo_way; rw [if_neg h1, if_neg h2, if_pos h3], rfl⟩)
      · rw [if_neg h3] at hs
        refine tm_go 5 (pc' := 23) (L' := [some (.ref 127), some (.int a0), some (.int b0)]) (S' := [.int a0, .ref 185, .int 2, .int b0]) (w' := w) rfl ?_
        obtain ⟨b1, hs⟩ := hs
        refine tm_k (pc' := 24) (L' := [some (.ref 127), some (.int a0), some (.int b0)]) (S' := [.int (w.1 185 a0.toInt.toNat), .int 2, .int b0]) (w' := w) rfl b1 ?_
        refine tm_go 1 (pc' := 25) (L' := [some (.ref 127), some (.int a0), some (.int b0)]) (S' := [.int ((2 : Int32) + (w.1 185 a0.toInt.toNat)), .int b0]) (w' := w) rfl ?_
        refine tm_i (p1 := 30) (p2 := 28) rfl (fun h4 => ?_) (fun h4 => ?_)
        · rw [if_pos h4] at hs
          refine tm_go 1 (pc' := 31) (L' := [some (.ref 127), some (.int a0), some (.int b0)]) (S' := [.int b0]) (w' := w) rfl ?_
          refine tm_i (p1 := 43) (p2 := 34) rfl (fun h5 => ?_) (fun h5 => ?_)
          · rw [if_pos h5] at hs
            refine tm_go 2 (pc' := 45) (L' := [some (.ref 127), some (.int a0), some (.int b0)]) (S' := [.int 1, .int b0]) (w' := w) rfl ?_
            refine tm_i (p1 := 57) (p2 := 48) rfl (fun h6 => ?_) (fun h6 => ?_)
            · rw [if_pos h6] at hs
              refine tm_go 2 (pc' := 59) (L' := [some (.ref 127), some (.int a0), some (.int b0)]) (S' := [.int 2, .int b0]) (w' := w) rfl ?_
              refine tm_i (p1 := 71) (p2 := 62) rfl (fun h7 => ?_) (fun h7 => ?_)
              · rw [if_pos h7] at hs
                refine tm_go 9 (pc' := 83) (L' := [some (.ref 127), some (.int a0), some (.int b0)]) (S' := [.int ((((24 : Int32) * a0) + b0) - (3 : Int32)), .ref 186]) (w' := w) rfl ?_
                obtain ⟨b2, hs⟩ := hs
                refine tm_k (pc' := 84) (L' := [some (.ref 127), some (.int a0), some (.int b0)]) (S' := [.int (w.1 186 (((((24 : Int32) * a0) + b0) - (3 : Int32)).toInt.toNat))]) (w' := w) rfl b2 ?_
                refine tm_go 2 (pc' := 86) (L' := [some (.ref 127), some (.int a0), some (.int b0)]) (S' := [.int ((w.1 186 (((((24 : Int32) * a0) + b0) - (3 : Int32)).toInt.toNat)) / 2)]) (w' := w) rfl ?_
                exact tm_r rfl (⟨by unfold g_Mo_way; rw [if_neg h1, if_neg h2, if_neg h3, if_pos h4, if_pos h5, if_pos h6, if_pos h7], rfl⟩)
              · rw [if_neg h7] at hs
                refine tm_go 3 (pc' := 67) (L' := [some (.ref 127), some (.int a0), some (.int b0)]) (S' := [.int a0, .ref 185]) (w' := w) rfl ?_
                obtain ⟨b3, hs⟩ := hs
                refine tm_k (pc' := 68) (L' := [some (.ref 127), some (.int a0), some (.int b0)]) (S' := [.int (w.1 185 a0.toInt.toNat)]) (w' := w) rfl b3 ?_
                refine tm_go 1 (pc' := 86) (L' := [some (.ref 127), some (.int a0), some (.int b0)]) (S' := [.int (w.1 185 a0.toInt.toNat)]) (w' := w) rfl ?_
                exact tm_r rfl (⟨by unfold g_Mo_way; rw [if_neg h1, if_neg h2, if_neg h3, if_pos h4, if_pos h5, if_pos h6, if_neg h7], rfl⟩)
            · rw [if_neg h6] at hs
              refine tm_go 3 (pc' := 53) (L' := [some (.ref 127), some (.int a0), some (.int b0)]) (S' := [.int a0, .ref 182]) (w' := w) rfl ?_
              obtain ⟨b4, hs⟩ := hs
              refine tm_k (pc' := 54) (L' := [some (.ref 127), some (.int a0), some (.int b0)]) (S' := [.int (w.1 182 a0.toInt.toNat)]) (w' := w) rfl b4 ?_
              refine tm_go 1 (pc' := 86) (L' := [some (.ref 127), some (.int a0), some (.int b0)]) (S' := [.int (w.1 182 a0.toInt.toNat)]) (w' := w) rfl ?_
              exact tm_r rfl (⟨by unfold g_Mo_way; rw [if_neg h1, if_neg h2, if_neg h3, if_pos h4, if_pos h5, if_neg h6], rfl⟩)
          · rw [if_neg h5] at hs
            refine tm_go 3 (pc' := 39) (L' := [some (.ref 127), some (.int a0), some (.int b0)]) (S' := [.int a0, .ref 181]) (w' := w) rfl ?_
            obtain ⟨b5, hs⟩ := hs
            refine tm_k (pc' := 40) (L' := [some (.ref 127), some (.int a0), some (.int b0)]) (S' := [.int (w.1 181 a0.toInt.toNat)]) (w' := w) rfl b5 ?_
            refine tm_go 1 (pc' := 86) (L' := [some (.ref 127), some (.int a0), some (.int b0)]) (S' := [.int (w.1 181 a0.toInt.toNat)]) (w' := w) rfl ?_
            exact tm_r rfl (⟨by unfold g_Mo_way; rw [if_neg h1, if_neg h2, if_neg h3, if_pos h4, if_neg h5], rfl⟩)
        · rw [if_neg h4] at hs
          refine tm_go 1 (pc' := 29) (L' := [some (.ref 127), some (.int a0), some (.int b0)]) (S' := [.int (-1)]) (w' := w) rfl ?_
          exact tm_r rfl (⟨by unfold g_Mo_way; rw [if_neg h1, if_neg h2, if_neg h3, if_neg h4], rfl⟩)
def s_Mo_may (w : MW) (a0 : Int32) (b0 : Int32) : Prop := (if a0.toInt < (1 : Int32).toInt then True else (if (14 : Int32).toInt < a0.toInt then True else (if b0.toInt < (1 : Int32).toInt then True else (if (14 : Int32).toInt < b0.toInt then True else (if a0.toInt = b0.toInt then True else ((0 ≤ (((16 : Int32) * a0) + b0).toInt ∧ (((16 : Int32) * a0) + b0).toInt < 256) ∧ (if ¬ (w.1 175 ((((16 : Int32) * a0) + b0).toInt.toNat)).toInt = 0 then True else ((0 ≤ (((16 : Int32) * a0) + b0).toInt ∧ (((16 : Int32) * a0) + b0).toInt < 256) ∧ ((0 ≤ (((16 : Int32) * b0) + a0).toInt ∧ (((16 : Int32) * b0) + a0).toInt < 256) ∧ True)))))))))
def g_Mo_may (w : MW) (a0 : Int32) (b0 : Int32) : Int32 := (if a0.toInt < (1 : Int32).toInt then 0 else (if (14 : Int32).toInt < a0.toInt then 0 else (if b0.toInt < (1 : Int32).toInt then 0 else (if (14 : Int32).toInt < b0.toInt then 0 else (if a0.toInt = b0.toInt then 0 else (if ¬ (w.1 175 ((((16 : Int32) * a0) + b0).toInt.toNat)).toInt = 0 then 0 else 1))))))
def u_Mo_may (w : MW) (a0 : Int32) (b0 : Int32) : MW := (if a0.toInt < (1 : Int32).toInt then w else (if (14 : Int32).toInt < a0.toInt then w else (if b0.toInt < (1 : Int32).toInt then w else (if (14 : Int32).toInt < b0.toInt then w else (if a0.toInt = b0.toInt then w else (if ¬ (w.1 175 ((((16 : Int32) * a0) + b0).toInt.toNat)).toInt = 0 then w else (sI (sI w 175 ((((16 : Int32) * a0) + b0).toInt.toNat) (vp_nar .boolean 1)) 175 ((((16 : Int32) * b0) + a0).toInt.toNat) (vp_nar .boolean 1))))))))
theorem ur_Mo_may (w : MW) (a0 : Int32) (b0 : Int32) : (u_Mo_may w a0 b0).2.2 = w.2.2 := (ite_R rfl (ite_R rfl (ite_R rfl (ite_R rfl (ite_R rfl (ite_R rfl rfl))))))
theorem z_Mo_may (w : MW) (a0 : Int32) (b0 : Int32) : (g_Mo_may w a0 b0).toInt = 0 ∨ (g_Mo_may w a0 b0).toInt = 1 := (ite_Z (by decide) (ite_Z (by decide) (ite_Z (by decide) (ite_Z (by decide) (ite_Z (by decide) (ite_Z (by decide) (by decide)))))))
set_option maxHeartbeats 4000000 in
set_option maxRecDepth 100000 in
theorem c_Mo_may {d : Nat} (w : MW) (a0 : Int32) (b0 : Int32)  (hs : s_Mo_may w a0 b0) : Tc (d + 0) 85 [.ref 127, .int a0, .int b0] w (fun v w1 => v = some (.int (g_Mo_may w a0 b0)) ∧ w1 = u_Mo_may w a0 b0) := by
  unfold s_Mo_may at hs
  refine tm_go 2 (pc' := 2) (L' := [some (.ref 127), some (.int a0), some (.int b0), none]) (S' := [.int 1, .int a0]) (w' := w) rfl ?_
  refine tm_i (p1 := 45) (p2 := 5) rfl (fun h1 => ?_) (fun h1 => ?_)
  · rw [if_pos h1] at hs
    refine tm_go 5 (pc' := 76) (L' := [some (.ref 127), some (.int a0), some (.int b0), some (.int 0)]) (S' := [.int 0]) (w' := w) rfl ?_
    exact tm_r rfl (⟨by unfold g_Mo_may; rw [if_pos h1], by unfold u_Mo_may; rw [if_pos h1]⟩)
  · rw [if_neg h1] at hs
    refine tm_go 2 (pc' := 8) (L' := [some (.ref 127), some (.int a0), some (.int b0), none]) (S' := [.int 14, .int a0]) (w' := w) rfl ?_
    refine tm_i (p1 := 45) (p2 := 11) rfl (fun h3 => ?_) (fun h3 => ?_)
    · rw [if_pos h3] at hs
      refine tm_go 5 (pc' := 76) (L' := [some (.ref 127), some (.int a0), some (.int b0), some (.int 0)]) (S' := [.int 0]) (w' := w) rfl ?_
      exact tm_r rfl (⟨by unfold g_Mo_may; rw [if_neg h1, if_pos h3], by unfold u_Mo_may; rw [if_neg h1, if_pos h3]⟩)
    · rw [if_neg h3] at hs
      refine tm_go 2 (pc' := 13) (L' := [some (.ref 127), some (.int a0), some (.int b0), none]) (S' := [.int 1, .int b0]) (w' := w) rfl ?_
      refine tm_i (p1 := 45) (p2 := 16) rfl (fun h5 => ?_) (fun h5 => ?_)
      · rw [if_pos h5] at hs
        refine tm_go 5 (pc' := 76) (L' := [some (.ref 127), some (.int a0), some (.int b0), some (.int 0)]) (S' := [.int 0]) (w' := w) rfl ?_
        exact tm_r rfl (⟨by unfold g_Mo_may; rw [if_neg h1, if_neg h3, if_pos h5], by unfold u_Mo_may; rw [if_neg h1, if_neg h3, if_pos h5]⟩)
      · rw [if_neg h5] at hs
        refine tm_go 2 (pc' := 19) (L' := [some (.ref 127), some (.int a0), some (.int b0), none]) (S' := [.int 14, .int b0]) (w' := w) rfl ?_
        refine tm_i (p1 := 45) (p2 := 22) rfl (fun h7 => ?_) (fun h7 => ?_)
        · rw [if_pos h7] at hs
          refine tm_go 5 (pc' := 76) (L' := [some (.ref 127), some (.int a0), some (.int b0), some (.int 0)]) (S' := [.int 0]) (w' := w) rfl ?_
          exact tm_r rfl (⟨by unfold g_Mo_may; rw [if_neg h1, if_neg h3, if_neg h5, if_pos h7], by unfold u_Mo_may; rw [if_neg h1, if_neg h3, if_neg h5, if_pos h7]⟩)
        · rw [if_neg h7] at hs
          refine tm_go 2 (pc' := 24) (L' := [some (.ref 127), some (.int a0), some (.int b0), none]) (S' := [.int b0, .int a0]) (w' := w) rfl ?_
          refine tm_i (p1 := 45) (p2 := 27) rfl (fun h9 => ?_) (fun h9 => ?_)
          · rw [if_pos h9] at hs
            refine tm_go 5 (pc' := 76) (L' := [some (.ref 127), some (.int a0), some (.int b0), some (.int 0)]) (S' := [.int 0]) (w' := w) rfl ?_
            exact tm_r rfl (⟨by unfold g_Mo_may; rw [if_neg h1, if_neg h3, if_neg h5, if_neg h7, if_pos h9], by unfold u_Mo_may; rw [if_neg h1, if_neg h3, if_neg h5, if_neg h7, if_pos h9]⟩)
          · rw [if_neg h9] at hs
            refine tm_go 7 (pc' := 37) (L' := [some (.ref 127), some (.int a0), some (.int b0), none]) (S' := [.int (((16 : Int32) * a0) + b0), .ref 175]) (w' := w) rfl ?_
            obtain ⟨b1, hs⟩ := hs
            refine tm_k (pc' := 38) (L' := [some (.ref 127), some (.int a0), some (.int b0), none]) (S' := [.int (w.1 175 ((((16 : Int32) * a0) + b0).toInt.toNat))]) (w' := w) rfl b1 ?_
            refine tm_i (p1 := 45) (p2 := 41) rfl (fun h11 => ?_) (fun h11 => ?_)
            · rw [if_pos h11] at hs
              refine tm_go 5 (pc' := 76) (L' := [some (.ref 127), some (.int a0), some (.int b0), some (.int 0)]) (S' := [.int 0]) (w' := w) rfl ?_
              exact tm_r rfl (⟨by unfold g_Mo_may; rw [if_neg h1, if_neg h3, if_neg h5, if_neg h7, if_neg h9, if_pos h11], by unfold u_Mo_may; rw [if_neg h1, if_neg h3, if_neg h5, if_neg h7, if_neg h9, if_pos h11]⟩)
            · rw [if_neg h11] at hs
              refine tm_go 13 (pc' := 62) (L' := [some (.ref 127), some (.int a0), some (.int b0), some (.int 1)]) (S' := [.int 1, .int (((16 : Int32) * a0) + b0), .ref 175]) (w' := w) rfl ?_
              obtain ⟨b2, hs⟩ := hs
              refine tm_k (pc' := 63) (L' := [some (.ref 127), some (.int a0), some (.int b0), some (.int 1)]) (S' := []) (w' := (sI w 175 ((((16 : Int32) * a0) + b0).toInt.toNat) (vp_nar .boolean 1))) rfl b2 ?_
              refine tm_go 8 (pc' := 74) (L' := [some (.ref 127), some (.int a0), some (.int b0), some (.int 1)]) (S' := [.int 1, .int (((16 : Int32) * b0) + a0), .ref 175]) (w' := (sI w 175 ((((16 : Int32) * a0) + b0).toInt.toNat) (vp_nar .boolean 1))) rfl ?_
              obtain ⟨b3, hs⟩ := hs
              refine tm_k (pc' := 75) (L' := [some (.ref 127), some (.int a0), some (.int b0), some (.int 1)]) (S' := []) (w' := (sI (sI w 175 ((((16 : Int32) * a0) + b0).toInt.toNat) (vp_nar .boolean 1)) 175 ((((16 : Int32) * b0) + a0).toInt.toNat) (vp_nar .boolean 1))) rfl b3 ?_
              refine tm_go 1 (pc' := 76) (L' := [some (.ref 127), some (.int a0), some (.int b0), some (.int 1)]) (S' := [.int 1]) (w' := (sI (sI w 175 ((((16 : Int32) * a0) + b0).toInt.toNat) (vp_nar .boolean 1)) 175 ((((16 : Int32) * b0) + a0).toInt.toNat) (vp_nar .boolean 1))) rfl ?_
              exact tm_r rfl (⟨by unfold g_Mo_may; rw [if_neg h1, if_neg h3, if_neg h5, if_neg h7, if_neg h9, if_neg h11], by unfold u_Mo_may; rw [if_neg h1, if_neg h3, if_neg h5, if_neg h7, if_neg h9, if_neg h11]⟩)
def s_Mo_need (w : MW) (a0 : Int32) (b0 : Int32) (c0 : Int32) : Prop := (if a0.toInt < (1 : Int32).toInt then True else (if (14 : Int32).toInt < a0.toInt then True else (if b0.toInt < (1 : Int32).toInt then True else (if (14 : Int32).toInt < b0.toInt then True else (if c0.toInt < 0 then True else (if c0.toInt ≤ (5 : Int32).toInt then ((0 ≤ (((16 : Int32) * a0) + b0).toInt ∧ (((16 : Int32) * a0) + b0).toInt < 256) ∧ True) else True))))))
def g_Mo_need (w : MW) (a0 : Int32) (b0 : Int32) (c0 : Int32) : Int32 := (if a0.toInt < (1 : Int32).toInt then 0 else (if (14 : Int32).toInt < a0.toInt then 0 else (if b0.toInt < (1 : Int32).toInt then 0 else (if (14 : Int32).toInt < b0.toInt then 0 else (if c0.toInt < 0 then 0 else (if c0.toInt ≤ (5 : Int32).toInt then 1 else 0))))))
def u_Mo_need (w : MW) (a0 : Int32) (b0 : Int32) (c0 : Int32) : MW := (if a0.toInt < (1 : Int32).toInt then w else (if (14 : Int32).toInt < a0.toInt then w else (if b0.toInt < (1 : Int32).toInt then w else (if (14 : Int32).toInt < b0.toInt then w else (if c0.toInt < 0 then w else (if c0.toInt ≤ (5 : Int32).toInt then (sI w 176 ((((16 : Int32) * a0) + b0).toInt.toNat) c0) else w))))))
theorem ur_Mo_need (w : MW) (a0 : Int32) (b0 : Int32) (c0 : Int32) : (u_Mo_need w a0 b0 c0).2.2 = w.2.2 := (ite_R rfl (ite_R rfl (ite_R rfl (ite_R rfl (ite_R rfl (ite_R rfl rfl))))))
theorem z_Mo_need (w : MW) (a0 : Int32) (b0 : Int32) (c0 : Int32) : (g_Mo_need w a0 b0 c0).toInt = 0 ∨ (g_Mo_need w a0 b0 c0).toInt = 1 := (ite_Z (by decide) (ite_Z (by decide) (ite_Z (by decide) (ite_Z (by decide) (ite_Z (by decide) (ite_Z (by decide) (by decide)))))))
set_option maxHeartbeats 4000000 in
set_option maxRecDepth 100000 in
theorem c_Mo_need {d : Nat} (w : MW) (a0 : Int32) (b0 : Int32) (c0 : Int32)  (hs : s_Mo_need w a0 b0 c0) : Tc (d + 0) 86 [.ref 127, .int a0, .int b0, .int c0] w (fun v w1 => v = some (.int (g_Mo_need w a0 b0 c0)) ∧ w1 = u_Mo_need w a0 b0 c0) := by
  unfold s_Mo_need at hs
  refine tm_go 2 (pc' := 2) (L' := [some (.ref 127), some (.int a0), some (.int b0), some (.int c0)]) (S' := [.int 1, .int a0]) (w' := w) rfl ?_
  refine tm_i (p1 := 31) (p2 := 5) rfl (fun h1 => ?_) (fun h1 => ?_)
  · rw [if_pos h1] at hs
    refine tm_go 1 (pc' := 32) (L' := [some (.ref 127), some (.int a0), some (.int b0), some (.int c0)]) (S' := [.int 0]) (w' := w) rfl ?_
    exact tm_r rfl (⟨by unfold g_Mo_need; rw [if_pos h1], by unfold u_Mo_need; rw [if_pos h1]⟩)
  · rw [if_neg h1] at hs
    refine tm_go 2 (pc' := 8) (L' := [some (.ref 127), some (.int a0), some (.int b0), some (.int c0)]) (S' := [.int 14, .int a0]) (w' := w) rfl ?_
    refine tm_i (p1 := 31) (p2 := 11) rfl (fun h2 => ?_) (fun h2 => ?_)
    · rw [if_pos h2] at hs
      refine tm_go 1 (pc' := 32) (L' := [some (.ref 127), some (.int a0), some (.int b0), some (.int c0)]) (S' := [.int 0]) (w' := w) rfl ?_
      exact tm_r rfl (⟨by unfold g_Mo_need; rw [if_neg h1, if_pos h2], by unfold u_Mo_need; rw [if_neg h1, if_pos h2]⟩)
    · rw [if_neg h2] at hs
      refine tm_go 2 (pc' := 13) (L' := [some (.ref 127), some (.int a0), some (.int b0), some (.int c0)]) (S' := [.int 1, .int b0]) (w' := w) rfl ?_
      refine tm_i (p1 := 31) (p2 := 16) rfl (fun h3 => ?_) (fun h3 => ?_)
      · rw [if_pos h3] at hs
        refine tm_go 1 (pc' := 32) (L' := [some (.ref 127), some (.int a0), some (.int b0), some (.int c0)]) (S' := [.int 0]) (w' := w) rfl ?_
        exact tm_r rfl (⟨by unfold g_Mo_need; rw [if_neg h1, if_neg h2, if_pos h3], by unfold u_Mo_need; rw [if_neg h1, if_neg h2, if_pos h3]⟩)
      · rw [if_neg h3] at hs
        refine tm_go 2 (pc' := 19) (L' := [some (.ref 127), some (.int a0), some (.int b0), some (.int c0)]) (S' := [.int 14, .int b0]) (w' := w) rfl ?_
        refine tm_i (p1 := 31) (p2 := 22) rfl (fun h4 => ?_) (fun h4 => ?_)
        · rw [if_pos h4] at hs
          refine tm_go 1 (pc' := 32) (L' := [some (.ref 127), some (.int a0), some (.int b0), some (.int c0)]) (S' := [.int 0]) (w' := w) rfl ?_
          exact tm_r rfl (⟨by unfold g_Mo_need; rw [if_neg h1, if_neg h2, if_neg h3, if_pos h4], by unfold u_Mo_need; rw [if_neg h1, if_neg h2, if_neg h3, if_pos h4]⟩)
        · rw [if_neg h4] at hs
          refine tm_go 1 (pc' := 23) (L' := [some (.ref 127), some (.int a0), some (.int b0), some (.int c0)]) (S' := [.int c0]) (w' := w) rfl ?_
          refine tm_i (p1 := 31) (p2 := 26) rfl (fun h5 => ?_) (fun h5 => ?_)
          · rw [if_pos h5] at hs
            refine tm_go 1 (pc' := 32) (L' := [some (.ref 127), some (.int a0), some (.int b0), some (.int c0)]) (S' := [.int 0]) (w' := w) rfl ?_
            exact tm_r rfl (⟨by unfold g_Mo_need; rw [if_neg h1, if_neg h2, if_neg h3, if_neg h4, if_pos h5], by unfold u_Mo_need; rw [if_neg h1, if_neg h2, if_neg h3, if_neg h4, if_pos h5]⟩)
          · rw [if_neg h5] at hs
            refine tm_go 2 (pc' := 28) (L' := [some (.ref 127), some (.int a0), some (.int b0), some (.int c0)]) (S' := [.int 5, .int c0]) (w' := w) rfl ?_
            refine tm_i (p1 := 33) (p2 := 31) rfl (fun h6 => ?_) (fun h6 => ?_)
            · rw [if_pos h6] at hs
              refine tm_go 8 (pc' := 44) (L' := [some (.ref 127), some (.int a0), some (.int b0), some (.int c0)]) (S' := [.int c0, .int (((16 : Int32) * a0) + b0), .ref 176]) (w' := w) rfl ?_
              obtain ⟨b1, hs⟩ := hs
              refine tm_k (pc' := 45) (L' := [some (.ref 127), some (.int a0), some (.int b0), some (.int c0)]) (S' := []) (w' := (sI w 176 ((((16 : Int32) * a0) + b0).toInt.toNat) c0)) rfl b1 ?_
              refine tm_go 1 (pc' := 46) (L' := [some (.ref 127), some (.int a0), some (.int b0), some (.int c0)]) (S' := [.int 1]) (w' := (sI w 176 ((((16 : Int32) * a0) + b0).toInt.toNat) c0)) rfl ?_
              exact tm_r rfl (⟨by unfold g_Mo_need; rw [if_neg h1, if_neg h2, if_neg h3, if_neg h4, if_neg h5, if_pos h6], by unfold u_Mo_need; rw [if_neg h1, if_neg h2, if_neg h3, if_neg h4, if_neg h5, if_pos h6]⟩)
            · rw [if_neg h6] at hs
              refine tm_go 1 (pc' := 32) (L' := [some (.ref 127), some (.int a0), some (.int b0), some (.int c0)]) (S' := [.int 0]) (w' := w) rfl ?_
              exact tm_r rfl (⟨by unfold g_Mo_need; rw [if_neg h1, if_neg h2, if_neg h3, if_neg h4, if_neg h5, if_neg h6], by unfold u_Mo_need; rw [if_neg h1, if_neg h2, if_neg h3, if_neg h4, if_neg h5, if_neg h6]⟩)
def s_Mo_lasts (w : MW) (a0 : Int32) (b0 : Int32) : Prop := (if a0.toInt < (1 : Int32).toInt then True else (if (5 : Int32).toInt < a0.toInt then True else (if b0.toInt < 0 then True else (if b0.toInt ≤ (1000000 : Int32).toInt then ((0 ≤ a0.toInt ∧ a0.toInt < 6) ∧ True) else True))))
def g_Mo_lasts (w : MW) (a0 : Int32) (b0 : Int32) : Int32 := (if a0.toInt < (1 : Int32).toInt then 0 else (if (5 : Int32).toInt < a0.toInt then 0 else (if b0.toInt < 0 then 0 else (if b0.toInt ≤ (1000000 : Int32).toInt then 1 else 0))))
def u_Mo_lasts (w : MW) (a0 : Int32) (b0 : Int32) : MW := (if a0.toInt < (1 : Int32).toInt then w else (if (5 : Int32).toInt < a0.toInt then w else (if b0.toInt < 0 then w else (if b0.toInt ≤ (1000000 : Int32).toInt then (sI w 177 a0.toInt.toNat b0) else w))))
theorem ur_Mo_lasts (w : MW) (a0 : Int32) (b0 : Int32) : (u_Mo_lasts w a0 b0).2.2 = w.2.2 := (ite_R rfl (ite_R rfl (ite_R rfl (ite_R rfl rfl))))
theorem z_Mo_lasts (w : MW) (a0 : Int32) (b0 : Int32) : (g_Mo_lasts w a0 b0).toInt = 0 ∨ (g_Mo_lasts w a0 b0).toInt = 1 := (ite_Z (by decide) (ite_Z (by decide) (ite_Z (by decide) (ite_Z (by decide) (by decide)))))
set_option maxHeartbeats 4000000 in
set_option maxRecDepth 100000 in
theorem c_Mo_lasts {d : Nat} (w : MW) (a0 : Int32) (b0 : Int32)  (hs : s_Mo_lasts w a0 b0) : Tc (d + 0) 87 [.ref 127, .int a0, .int b0] w (fun v w1 => v = some (.int (g_Mo_lasts w a0 b0)) ∧ w1 = u_Mo_lasts w a0 b0) := by
  unfold s_Mo_lasts at hs
  refine tm_go 2 (pc' := 2) (L' := [some (.ref 127), some (.int a0), some (.int b0)]) (S' := [.int 1, .int a0]) (w' := w) rfl ?_
  refine tm_i (p1 := 21) (p2 := 5) rfl (fun h1 => ?_) (fun h1 => ?_)
  · rw [if_pos h1] at hs
    refine tm_go 1 (pc' := 22) (L' := [some (.ref 127), some (.int a0), some (.int b0)]) (S' := [.int 0]) (w' := w) rfl ?_
    exact tm_r rfl (⟨by unfold g_Mo_lasts; rw [if_pos h1], by unfold u_Mo_lasts; rw [if_pos h1]⟩)
  · rw [if_neg h1] at hs
    refine tm_go 2 (pc' := 7) (L' := [some (.ref 127), some (.int a0), some (.int b0)]) (S' := [.int 5, .int a0]) (w' := w) rfl ?_
    refine tm_i (p1 := 21) (p2 := 10) rfl (fun h2 => ?_) (fun h2 => ?_)
    · rw [if_pos h2] at hs
      refine tm_go 1 (pc' := 22) (L' := [some (.ref 127), some (.int a0), some (.int b0)]) (S' := [.int 0]) (w' := w) rfl ?_
      exact tm_r rfl (⟨by unfold g_Mo_lasts; rw [if_neg h1, if_pos h2], by unfold u_Mo_lasts; rw [if_neg h1, if_pos h2]⟩)
    · rw [if_neg h2] at hs
      refine tm_go 1 (pc' := 11) (L' := [some (.ref 127), some (.int a0), some (.int b0)]) (S' := [.int b0]) (w' := w) rfl ?_
      refine tm_i (p1 := 21) (p2 := 14) rfl (fun h3 => ?_) (fun h3 => ?_)
      · rw [if_pos h3] at hs
        refine tm_go 1 (pc' := 22) (L' := [some (.ref 127), some (.int a0), some (.int b0)]) (S' := [.int 0]) (w' := w) rfl ?_
        exact tm_r rfl (⟨by unfold g_Mo_lasts; rw [if_neg h1, if_neg h2, if_pos h3], by unfold u_Mo_lasts; rw [if_neg h1, if_neg h2, if_pos h3]⟩)
      · rw [if_neg h3] at hs
        refine tm_go 2 (pc' := 18) (L' := [some (.ref 127), some (.int a0), some (.int b0)]) (S' := [.int 1000000, .int b0]) (w' := w) rfl ?_
        refine tm_i (p1 := 23) (p2 := 21) rfl (fun h4 => ?_) (fun h4 => ?_)
        · rw [if_pos h4] at hs
          refine tm_go 4 (pc' := 29) (L' := [some (.ref 127), some (.int a0), some (.int b0)]) (S' := [.int b0, .int a0, .ref 177]) (w' := w) rfl ?_
          obtain ⟨b1, hs⟩ := hs
          refine tm_k (pc' := 30) (L' := [some (.ref 127), some (.int a0), some (.int b0)]) (S' := []) (w' := (sI w 177 a0.toInt.toNat b0)) rfl b1 ?_
          refine tm_go 1 (pc' := 31) (L' := [some (.ref 127), some (.int a0), some (.int b0)]) (S' := [.int 1]) (w' := (sI w 177 a0.toInt.toNat b0)) rfl ?_
          exact tm_r rfl (⟨by unfold g_Mo_lasts; rw [if_neg h1, if_neg h2, if_neg h3, if_pos h4], by unfold u_Mo_lasts; rw [if_neg h1, if_neg h2, if_neg h3, if_pos h4]⟩)
        · rw [if_neg h4] at hs
          refine tm_go 1 (pc' := 22) (L' := [some (.ref 127), some (.int a0), some (.int b0)]) (S' := [.int 0]) (w' := w) rfl ?_
          exact tm_r rfl (⟨by unfold g_Mo_lasts; rw [if_neg h1, if_neg h2, if_neg h3, if_neg h4], by unfold u_Mo_lasts; rw [if_neg h1, if_neg h2, if_neg h3, if_neg h4]⟩)
def s_Mo_bind (w : MW) (a0 : Int32) (b0 : Int32) (c0 : Int32) (e0 : Int32) (f0 : Int32) : Prop := (if a0.toInt < 0 then True else (if (31 : Int32).toInt < a0.toInt then True else (if b0.toInt < 0 then True else (if (4 : Int32).toInt < b0.toInt then True else (if ¬ b0.toInt = 0 then (if ¬ b0.toInt = (2 : Int32).toInt then (if ¬ b0.toInt = (3 : Int32).toInt then ((0 ≤ a0.toInt ∧ a0.toInt < 32) ∧ ((0 ≤ a0.toInt ∧ a0.toInt < 32) ∧ ((0 ≤ a0.toInt ∧ a0.toInt < 32) ∧ ((0 ≤ a0.toInt ∧ a0.toInt < 32) ∧ True)))) else (if e0.toInt < (1 : Int32).toInt then True else (if e0.toInt ≤ (5 : Int32).toInt then ((0 ≤ a0.toInt ∧ a0.toInt < 32) ∧ ((0 ≤ a0.toInt ∧ a0.toInt < 32) ∧ ((0 ≤ a0.toInt ∧ a0.toInt < 32) ∧ ((0 ≤ a0.toInt ∧ a0.toInt < 32) ∧ True)))) else True))) else (if e0.toInt < 0 then True else (if (9 : Int32).toInt < e0.toInt then True else (if ¬ b0.toInt = (3 : Int32).toInt then ((0 ≤ a0.toInt ∧ a0.toInt < 32) ∧ ((0 ≤ a0.toInt ∧ a0.toInt < 32) ∧ ((0 ≤ a0.toInt ∧ a0.toInt < 32) ∧ ((0 ≤ a0.toInt ∧ a0.toInt < 32) ∧ True)))) else (if e0.toInt < (1 : Int32).toInt then True else (if e0.toInt ≤ (5 : Int32).toInt then ((0 ≤ a0.toInt ∧ a0.toInt < 32) ∧ ((0 ≤ a0.toInt ∧ a0.toInt < 32) ∧ ((0 ≤ a0.toInt ∧ a0.toInt < 32) ∧ ((0 ≤ a0.toInt ∧ a0.toInt < 32) ∧ True)))) else True)))))) else (if f0.toInt < (1 : Int32).toInt then True else (if (100 : Int32).toInt < f0.toInt then True else (if ¬ b0.toInt = (2 : Int32).toInt then (if ¬ b0.toInt = (3 : Int32).toInt then ((0 ≤ a0.toInt ∧ a0.toInt < 32) ∧ ((0 ≤ a0.toInt ∧ a0.toInt < 32) ∧ ((0 ≤ a0.toInt ∧ a0.toInt < 32) ∧ ((0 ≤ a0.toInt ∧ a0.toInt < 32) ∧ True)))) else (if e0.toInt < (1 : Int32).toInt then True else (if e0.toInt ≤ (5 : Int32).toInt then ((0 ≤ a0.toInt ∧ a0.toInt < 32) ∧ ((0 ≤ a0.toInt ∧ a0.toInt < 32) ∧ ((0 ≤ a0.toInt ∧ a0.toInt < 32) ∧ ((0 ≤ a0.toInt ∧ a0.toInt < 32) ∧ True)))) else True))) else (if e0.toInt < 0 then True else (if (9 : Int32).toInt < e0.toInt then True else (if ¬ b0.toInt = (3 : Int32).toInt then ((0 ≤ a0.toInt ∧ a0.toInt < 32) ∧ ((0 ≤ a0.toInt ∧ a0.toInt < 32) ∧ ((0 ≤ a0.toInt ∧ a0.toInt < 32) ∧ ((0 ≤ a0.toInt ∧ a0.toInt < 32) ∧ True)))) else (if e0.toInt < (1 : Int32).toInt then True else (if e0.toInt ≤ (5 : Int32).toInt then ((0 ≤ a0.toInt ∧ a0.toInt < 32) ∧ ((0 ≤ a0.toInt ∧ a0.toInt < 32) ∧ ((0 ≤ a0.toInt ∧ a0.toInt < 32) ∧ ((0 ≤ a0.toInt ∧ a0.toInt < 32) ∧ True)))) else True)))))))))))))
def g_Mo_bind (w : MW) (a0 : Int32) (b0 : Int32) (c0 : Int32) (e0 : Int32) (f0 : Int32) : Int32 := (if a0.toInt < 0 then 0 else (if (31 : Int32).toInt < a0.toInt then 0 else (if b0.toInt < 0 then 0 else (if (4 : Int32).toInt < b0.toInt then 0 else (if ¬ b0.toInt = 0 then (if ¬ b0.toInt = (2 : Int32).toInt then (if ¬ b0.toInt = (3 : Int32).toInt then 1 else (if e0.toInt < (1 : Int32).toInt then 0 else (if e0.toInt ≤ (5 : Int32).toInt then 1 else 0))) else (if e0.toInt < 0 then 0 else (if (9 : Int32).toInt < e0.toInt then 0 else (if ¬ b0.toInt = (3 : Int32).toInt then 1 else (if e0.toInt < (1 : Int32).toInt then 0 else (if e0.toInt ≤ (5 : Int32).toInt then 1 else 0)))))) else (if f0.toInt < (1 : Int32).toInt then 0 else (if (100 : Int32).toInt < f0.toInt then 0 else (if ¬ b0.toInt = (2 : Int32).toInt then (if ¬ b0.toInt = (3 : Int32).toInt then 1 else (if e0.toInt < (1 : Int32).toInt then 0 else (if e0.toInt ≤ (5 : Int32).toInt then 1 else 0))) else (if e0.toInt < 0 then 0 else (if (9 : Int32).toInt < e0.toInt then 0 else (if ¬ b0.toInt = (3 : Int32).toInt then 1 else (if e0.toInt < (1 : Int32).toInt then 0 else (if e0.toInt ≤ (5 : Int32).toInt then 1 else 0)))))))))))))
def u_Mo_bind (w : MW) (a0 : Int32) (b0 : Int32) (c0 : Int32) (e0 : Int32) (f0 : Int32) : MW := (if a0.toInt < 0 then w else (if (31 : Int32).toInt < a0.toInt then w else (if b0.toInt < 0 then w else (if (4 : Int32).toInt < b0.toInt then w else (if ¬ b0.toInt = 0 then (if ¬ b0.toInt = (2 : Int32).toInt then (if ¬ b0.toInt = (3 : Int32).toInt then (sI (sI (sI (sI w 197 a0.toInt.toNat b0) 198 a0.toInt.toNat c0) 199 a0.toInt.toNat e0) 200 a0.toInt.toNat f0) else (if e0.toInt < (1 : Int32).toInt then w else (if e0.toInt ≤ (5 : Int32).toInt then (sI (sI (sI (sI w 197 a0.toInt.toNat b0) 198 a0.toInt.toNat c0) 199 a0.toInt.toNat e0) 200 a0.toInt.toNat f0) else w))) else (if e0.toInt < 0 then w else (if (9 : Int32).toInt < e0.toInt then w else (if ¬ b0.toInt = (3 : Int32).toInt then (sI (sI (sI (sI w 197 a0.toInt.toNat b0) 198 a0.toInt.toNat c0) 199 a0.toInt.toNat e0) 200 a0.toInt.toNat f0) else (if e0.toInt < (1 : Int32).toInt then w else (if e0.toInt ≤ (5 : Int32).toInt then (sI (sI (sI (sI w 197 a0.toInt.toNat b0) 198 a0.toInt.toNat c0) 199 a0.toInt.toNat e0) 200 a0.toInt.toNat f0) else w)))))) else (if f0.toInt < (1 : Int32).toInt then w else (if (100 : Int32).toInt < f0.toInt then w else (if ¬ b0.toInt = (2 : Int32).toInt then (if ¬ b0.toInt = (3 : Int32).toInt then (sI (sI (sI (sI w 197 a0.toInt.toNat b0) 198 a0.toInt.toNat c0) 199 a0.toInt.toNat e0) 200 a0.toInt.toNat f0) else (if e0.toInt < (1 : Int32).toInt then w else (if e0.toInt ≤ (5 : Int32).toInt then (sI (sI (sI (sI w 197 a0.toInt.toNat b0) 198 a0.toInt.toNat c0) 199 a0.toInt.toNat e0) 200 a0.toInt.toNat f0) else w))) else (if e0.toInt < 0 then w else (if (9 : Int32).toInt < e0.toInt then w else (if ¬ b0.toInt = (3 : Int32).toInt then (sI (sI (sI (sI w 197 a0.toInt.toNat b0) 198 a0.toInt.toNat c0) 199 a0.toInt.toNat e0) 200 a0.toInt.toNat f0) else (if e0.toInt < (1 : Int32).toInt then w else (if e0.toInt ≤ (5 : Int32).toInt then (sI (sI (sI (sI w 197 a0.toInt.toNat b0) 198 a0.toInt.toNat c0) 199 a0.toInt.toNat e0) 200 a0.toInt.toNat f0) else w)))))))))))))
theorem ur_Mo_bind (w : MW) (a0 : Int32) (b0 : Int32) (c0 : Int32) (e0 : Int32) (f0 : Int32) : (u_Mo_bind w a0 b0 c0 e0 f0).2.2 = w.2.2 := (ite_R rfl (ite_R rfl (ite_R rfl (ite_R rfl (ite_R (ite_R (ite_R rfl (ite_R rfl (ite_R rfl rfl))) (ite_R rfl (ite_R rfl (ite_R rfl (ite_R rfl (ite_R rfl rfl)))))) (ite_R rfl (ite_R rfl (ite_R (ite_R rfl (ite_R rfl (ite_R rfl rfl))) (ite_R rfl (ite_R rfl (ite_R rfl (ite_R rfl (ite_R rfl rfl)))))))))))))
theorem z_Mo_bind (w : MW) (a0 : Int32) (b0 : Int32) (c0 : Int32) (e0 : Int32) (f0 : Int32) : (g_Mo_bind w a0 b0 c0 e0 f0).toInt = 0 ∨ (g_Mo_bind w a0 b0 c0 e0 f0).toInt = 1 := (ite_Z (by decide) (ite_Z (by decide) (ite_Z (by decide) (ite_Z (by decide) (ite_Z (ite_Z (ite_Z (by decide) (ite_Z (by decide) (ite_Z (by decide) (by decide)))) (ite_Z (by decide) (ite_Z (by decide) (ite_Z (by decide) (ite_Z (by decide) (ite_Z (by decide) (by decide))))))) (ite_Z (by decide) (ite_Z (by decide) (ite_Z (ite_Z (by decide) (ite_Z (by decide) (ite_Z (by decide) (by decide)))) (ite_Z (by decide) (ite_Z (by decide) (ite_Z (by decide) (ite_Z (by decide) (ite_Z (by decide) (by decide))))))))))))))
set_option maxHeartbeats 4000000 in
set_option maxRecDepth 100000 in
theorem c_Mo_bind {d : Nat} (w : MW) (a0 : Int32) (b0 : Int32) (c0 : Int32) (e0 : Int32) (f0 : Int32)  (hs : s_Mo_bind w a0 b0 c0 e0 f0) : Tc (d + 0) 88 [.ref 127, .int a0, .int b0, .int c0, .int e0, .int f0] w (fun v w1 => v = some (.int (g_Mo_bind w a0 b0 c0 e0 f0)) ∧ w1 = u_Mo_bind w a0 b0 c0 e0 f0) := by
  unfold s_Mo_bind at hs
  refine tm_go 1 (pc' := 1) (L' := [some (.ref 127), some (.int a0), some (.int b0), some (.int c0), some (.int e0), some (.int f0)]) (S' := [.int a0]) (w' := w) rfl ?_
  refine tm_i (p1 := 70) (p2 := 4) rfl (fun h1 => ?_) (fun h1 => ?_)
  · rw [if_pos h1] at hs
    refine tm_go 1 (pc' := 71) (L' := [some (.ref 127), some (.int a0), some (.int b0), some (.int c0), some (.int e0), some (.int f0)]) (S' := [.int 0]) (w' := w) rfl ?_
    exact tm_r rfl (⟨by unfold g_Mo_bind; rw [if_pos h1], by unfold u_Mo_bind; rw [if_pos h1]⟩)
  · rw [if_neg h1] at hs
    refine tm_go 2 (pc' := 7) (L' := [some (.ref 127), some (.int a0), some (.int b0), some (.int c0), some (.int e0), some (.int f0)]) (S' := [.int 31, .int a0]) (w' := w) rfl ?_
    refine tm_i (p1 := 70) (p2 := 10) rfl (fun h2 => ?_) (fun h2 => ?_)
    · rw [if_pos h2] at hs
      refine tm_go 1 (pc' := 71) (L' := [some (.ref 127), some (.int a0), some (.int b0), some (.int c0), some (.int e0), some (.int f0)]) (S' := [.int 0]) (w' := w) rfl ?_
      exact tm_r rfl (⟨by unfold g_Mo_bind; rw [if_neg h1, if_pos h2], by unfold u_Mo_bind; rw [if_neg h1, if_pos h2]⟩)
    · rw [if_neg h2] at hs
      refine tm_go 1 (pc' := 11) (L' := [some (.ref 127), some (.int a0), some (.int b0), some (.int c0), some (.int e0), some (.int f0)]) (S' := [.int b0]) (w' := w) rfl ?_
      refine tm_i (p1 := 70) (p2 := 14) rfl (fun h3 => ?_) (fun h3 => ?_)
      · rw [if_pos h3] at hs
        refine tm_go 1 (pc' := 71) (L' := [some (.ref 127), some (.int a0), some (.int b0), some (.int c0), some (.int e0), some (.int f0)]) (S' := [.int 0]) (w' := w) rfl ?_
        exact tm_r rfl (⟨by unfold g_Mo_bind; rw [if_neg h1, if_neg h2, if_pos h3], by unfold u_Mo_bind; rw [if_neg h1, if_neg h2, if_pos h3]⟩)
      · rw [if_neg h3] at hs
        refine tm_go 2 (pc' := 16) (L' := [some (.ref 127), some (.int a0), some (.int b0), some (.int c0), some (.int e0), some (.int f0)]) (S' := [.int 4, .int b0]) (w' := w) rfl ?_
        refine tm_i (p1 := 70) (p2 := 19) rfl (fun h4 => ?_) (fun h4 => ?_)
        · rw [if_pos h4] at hs
          refine tm_go 1 (pc' := 71) (L' := [some (.ref 127), some (.int a0), some (.int b0), some (.int c0), some (.int e0), some (.int f0)]) (S' := [.int 0]) (w' := w) rfl ?_
          exact tm_r rfl (⟨by unfold g_Mo_bind; rw [if_neg h1, if_neg h2, if_neg h3, if_pos h4], by unfold u_Mo_bind; rw [if_neg h1, if_neg h2, if_neg h3, if_pos h4]⟩)
        · rw [if_neg h4] at hs
          refine tm_go 1 (pc' := 20) (L' := [some (.ref 127), some (.int a0), some (.int b0), some (.int c0), some (.int e0), some (.int f0)]) (S' := [.int b0]) (w' := w) rfl ?_
          refine tm_i (p1 := 36) (p2 := 23) rfl (fun h5 => ?_) (fun h5 => ?_)
          · rw [if_pos h5] at hs
            refine tm_go 2 (pc' := 38) (L' := [some (.ref 127), some (.int a0), some (.int b0), some (.int c0), some (.int e0), some (.int f0)]) (S' := [.int 2, .int b0]) (w' := w) rfl ?_
            refine tm_i (p1 := 53) (p2 := 41) rfl (fun h6 => ?_) (fun h6 => ?_)
            · rw [if_pos h6] at hs
              refine tm_go 2 (pc' := 55) (L' := [some (.ref 127), some (.int a0), some (.int b0), some (.int c0), some (.int e0), some (.int f0)]) (S' := [.int 3, .int b0]) (w' := w) rfl ?_
              refine tm_i (p1 := 72) (p2 := 58) rfl (fun h7 => ?_) (fun h7 => ?_)
              · rw [if_pos h7] at hs
                refine tm_go 4 (pc' := 78) (L' := [some (.ref 127), some (.int a0), some (.int b0), some (.int c0), some (.int e0), some (.int f0)]) (S' := [.int b0, .int a0, .ref 197]) (w' := w) rfl ?_
                obtain ⟨b1, hs⟩ := hs
                refine tm_k (pc' := 79) (L' := [some (.ref 127), some (.int a0), some (.int b0), some (.int c0), some (.int e0), some (.int f0)]) (S' := []) (w' := (sI w 197 a0.toInt.toNat b0)) rfl b1 ?_
                refine tm_go 4 (pc' := 85) (L' := [some (.ref 127), some (.int a0), some (.int b0), some (.int c0), some (.int e0), some (.int f0)]) (S' := [.int c0, .int a0, .ref 198]) (w' := (sI w 197 a0.toInt.toNat b0)) rfl ?_
                obtain ⟨b2, hs⟩ := hs
                refine tm_k (pc' := 86) (L' := [some (.ref 127), some (.int a0), some (.int b0), some (.int c0), some (.int e0), some (.int f0)]) (S' := []) (w' := (sI (sI w 197 a0.toInt.toNat b0) 198 a0.toInt.toNat c0)) rfl b2 ?_
                refine tm_go 4 (pc' := 93) (L' := [some (.ref 127), some (.int a0), some (.int b0), some (.int c0), some (.int e0), some (.int f0)]) (S' := [.int e0, .int a0, .ref 199]) (w' := (sI (sI w 197 a0.toInt.toNat b0) 198 a0.toInt.toNat c0)) rfl ?_
                obtain ⟨b3, hs⟩ := hs
                refine tm_k (pc' := 94) (L' := [some (.ref 127), some (.int a0), some (.int b0), some (.int c0), some (.int e0), some (.int f0)]) (S' := []) (w' := (sI (sI (sI w 197 a0.toInt.toNat b0) 198 a0.toInt.toNat c0) 199 a0.toInt.toNat e0)) rfl b3 ?_
                refine tm_go 4 (pc' := 101) (L' := [some (.ref 127), some (.int a0), some (.int b0), some (.int c0), some (.int e0), some (.int f0)]) (S' := [.int f0, .int a0, .ref 200]) (w' := (sI (sI (sI w 197 a0.toInt.toNat b0) 198 a0.toInt.toNat c0) 199 a0.toInt.toNat e0)) rfl ?_
                obtain ⟨b4, hs⟩ := hs
                refine tm_k (pc' := 102) (L' := [some (.ref 127), some (.int a0), some (.int b0), some (.int c0), some (.int e0), some (.int f0)]) (S' := []) (w' := (sI (sI (sI (sI w 197 a0.toInt.toNat b0) 198 a0.toInt.toNat c0) 199 a0.toInt.toNat e0) 200 a0.toInt.toNat f0)) rfl b4 ?_
                refine tm_go 1 (pc' := 103) (L' := [some (.ref 127), some (.int a0), some (.int b0), some (.int c0), some (.int e0), some (.int f0)]) (S' := [.int 1]) (w' := (sI (sI (sI (sI w 197 a0.toInt.toNat b0) 198 a0.toInt.toNat c0) 199 a0.toInt.toNat e0) 200 a0.toInt.toNat f0)) rfl ?_
                exact tm_r rfl (⟨by unfold g_Mo_bind; rw [if_neg h1, if_neg h2, if_neg h3, if_neg h4, if_pos h5, if_pos h6, if_pos h7], by unfold u_Mo_bind; rw [if_neg h1, if_neg h2, if_neg h3, if_neg h4, if_pos h5, if_pos h6, if_pos h7]⟩)
              · rw [if_neg h7] at hs
                refine tm_go 2 (pc' := 61) (L' := [some (.ref 127), some (.int a0), some (.int b0), some (.int c0), some (.int e0), some (.int f0)]) (S' := [.int 1, .int e0]) (w' := w) rfl ?_
                refine tm_i (p1 := 70) (p2 := 64) rfl (fun h8 => ?_) (fun h8 => ?_)
                · rw [if_pos h8] at hs
                  refine tm_go 1 (pc' := 71) (L' := [some (.ref 127), some (.int a0), some (.int b0), some (.int c0), some (.int e0), some (.int f0)]) (S' := [.int 0]) (w' := w) rfl ?_
                  exact tm_r rfl (⟨by unfold g_Mo_bind; rw [if_neg h1, if_neg h2, if_neg h3, if_neg h4, if_pos h5, if_pos h6, if_neg h7, if_pos h8], by unfold u_Mo_bind; rw [if_neg h1, if_neg h2, if_neg h3, if_neg h4, if_pos h5, if_pos h6, if_neg h7, if_pos h8]⟩)
                · rw [if_neg h8] at hs
                  refine tm_go 2 (pc' := 67) (L' := [some (.ref 127), some (.int a0), some (.int b0), some (.int c0), some (.int e0), some (.int f0)]) (S' := [.int 5, .int e0]) (w' := w) rfl ?_
                  refine tm_i (p1 := 72) (p2 := 70) rfl (fun h9 => ?_) (fun h9 => ?_)
                  · rw [if_pos h9] at hs
                    refine tm_go 4 (pc' := 78) (L' := [some (.ref 127), some (.int a0), some (.int b0), some (.int c0), some (.int e0), some (.int f0)]) (S' := [.int b0, .int a0, .ref 197]) (w' := w) rfl ?_
                    obtain ⟨b5, hs⟩ := hs
                    refine tm_k (pc' := 79) (L' := [some (.ref 127), some (.int a0), some (.int b0), some (.int c0), some (.int e0), some (.int f0)]) (S' := []) (w' := (sI w 197 a0.toInt.toNat b0)) rfl b5 ?_
                    refine tm_go 4 (pc' := 85) (L' := [some (.ref 127), some (.int a0), some (.int b0), some (.int c0), some (.int e0), some (.int f0)]) (S' := [.int c0, .int a0, .ref 198]) (w' := (sI w 197 a0.toInt.toNat b0)) rfl ?_
                    obtain ⟨b6, hs⟩ := hs
                    refine tm_k (pc' := 86) (L' := [some (.ref 127), some (.int a0), some (.int b0), some (.int c0), some (.int e0), some (.int f0)]) (S' := []) (w' := (sI (sI w 197 a0.toInt.toNat b0) 198 a0.toInt.toNat c0)) rfl b6 ?_
                    refine tm_go 4 (pc' := 93) (L' := [some (.ref 127), some (.int a0), some (.int b0), some (.int c0), some (.int e0), some (.int f0)]) (S' := [.int e0, .int a0, .ref 199]) (w' := (sI (sI w 197 a0.toInt.toNat b0) 198 a0.toInt.toNat c0)) rfl ?_
                    obtain ⟨b7, hs⟩ := hs
                    refine tm_k (pc' := 94) (L' := [some (.ref 127), some (.int a0), some (.int b0), some (.int c0), some (.int e0), some (.int f0)]) (S' := []) (w' := (sI (sI (sI w 197 a0.toInt.toNat b0) 198 a0.toInt.toNat c0) 199 a0.toInt.toNat e0)) rfl b7 ?_
                    refine tm_go 4 (pc' := 101) (L' := [some (.ref 127), some (.int a0), some (.int b0), some (.int c0), some (.int e0), some (.int f0)]) (S' := [.int f0, .int a0, .ref 200]) (w' := (sI (sI (sI w 197 a0.toInt.toNat b0) 198 a0.toInt.toNat c0) 199 a0.toInt.toNat e0)) rfl ?_
                    obtain ⟨b8, hs⟩ := hs
                    refine tm_k (pc' := 102) (L' := [some (.ref 127), some (.int a0), some (.int b0), some (.int c0), some (.int e0), some (.int f0)]) (S' := []) (w' := (sI (sI (sI (sI w 197 a0.toInt.toNat b0) 198 a0.toInt.toNat c0) 199 a0.toInt.toNat e0) 200 a0.toInt.toNat f0)) rfl b8 ?_
                    refine tm_go 1 (pc' := 103) (L' := [some (.ref 127), some (.int a0), some (.int b0), some (.int c0), some (.int e0), some (.int f0)]) (S' := [.int 1]) (w' := (sI (sI (sI (sI w 197 a0.toInt.toNat b0) 198 a0.toInt.toNat c0) 199 a0.toInt.toNat e0) 200 a0.toInt.toNat f0)) rfl ?_
                    exact tm_r rfl (⟨by unfold g_Mo_bind; rw [if_neg h1, if_neg h2, if_neg h3, if_neg h4, if_pos h5, if_pos h6, if_neg h7, if_neg h8, if_pos h9], by unfold u_Mo_bind; rw [if_neg h1, if_neg h2, if_neg h3, if_neg h4, if_pos h5, if_pos h6, if_neg h7, if_neg h8, if_pos h9]⟩)
                  · rw [if_neg h9] at hs
                    refine tm_go 1 (pc' := 71) (L' := [some (.ref 127), some (.int a0), some (.int b0), some (.int c0), some (.int e0), some (.int f0)]) (S' := [.int 0]) (w' := w) rfl ?_
                    exact tm_r rfl (⟨by unfold g_Mo_bind; rw [if_neg h1, if_neg h2, if_neg h3, if_neg h4, if_pos h5, if_pos h6, if_neg h7, if_neg h8, if_neg h9], by unfold u_Mo_bind; rw [if_neg h1, if_neg h2, if_neg h3, if_neg h4, if_pos h5, if_pos h6, if_neg h7, if_neg h8, if_neg h9]⟩)
            · rw [if_neg h6] at hs
              refine tm_go 1 (pc' := 43) (L' := [some (.ref 127), some (.int a0), some (.int b0), some (.int c0), some (.int e0), some (.int f0)]) (S' := [.int e0]) (w' := w) rfl ?_
              refine tm_i (p1 := 70) (p2 := 46) rfl (fun h10 => ?_) (fun h10 => ?_)
              · rw [if_pos h10] at hs
                refine tm_go 1 (pc' := 71) (L' := [some (.ref 127), some (.int a0), some (.int b0), some (.int c0), some (.int e0), some (.int f0)]) (S' := [.int 0]) (w' := w) rfl ?_
                exact tm_r rfl (⟨by unfold g_Mo_bind; rw [if_neg h1, if_neg h2, if_neg h3, if_neg h4, if_pos h5, if_neg h6, if_pos h10], by unfold u_Mo_bind; rw [if_neg h1, if_neg h2, if_neg h3, if_neg h4, if_pos h5, if_neg h6, if_pos h10]⟩)
              · rw [if_neg h10] at hs
                refine tm_go 2 (pc' := 50) (L' := [some (.ref 127), some (.int a0), some (.int b0), some (.int c0), some (.int e0), some (.int f0)]) (S' := [.int 9, .int e0]) (w' := w) rfl ?_
                refine tm_i (p1 := 70) (p2 := 53) rfl (fun h11 => ?_) (fun h11 => ?_)
                · rw [if_pos h11] at hs
                  refine tm_go 1 (pc' := 71) (L' := [some (.ref 127), some (.int a0), some (.int b0), some (.int c0), some (.int e0), some (.int f0)]) (S' := [.int 0]) (w' := w) rfl ?_
                  exact tm_r rfl (⟨by unfold g_Mo_bind; rw [if_neg h1, if_neg h2, if_neg h3, if_neg h4, if_pos h5, if_neg h6, if_neg h10, if_pos h11], by unfold u_Mo_bind; rw [if_neg h1, if_neg h2, if_neg h3, if_neg h4, if_pos h5, if_neg h6, if_neg h10, if_pos h11]⟩)
                · rw [if_neg h11] at hs
                  refine tm_go 2 (pc' := 55) (L' := [some (.ref 127), some (.int a0), some (.int b0), some (.int c0), some (.int e0), some (.int f0)]) (S' := [.int 3, .int b0]) (w' := w) rfl ?_
                  refine tm_i (p1 := 72) (p2 := 58) rfl (fun h12 => ?_) (fun h12 => ?_)
                  · rw [if_pos h12] at hs
                    refine tm_go 4 (pc' := 78) (L' := [some (.ref 127), some (.int a0), some (.int b0), some (.int c0), some (.int e0), some (.int f0)]) (S' := [.int b0, .int a0, .ref 197]) (w' := w) rfl ?_
                    obtain ⟨b9, hs⟩ := hs
                    refine tm_k (pc' := 79) (L' := [some (.ref 127), some (.int a0), some (.int b0), some (.int c0), some (.int e0), some (.int f0)]) (S' := []) (w' := (sI w 197 a0.toInt.toNat b0)) rfl b9 ?_
                    refine tm_go 4 (pc' := 85) (L' := [some (.ref 127), some (.int a0), some (.int b0), some (.int c0), some (.int e0), some (.int f0)]) (S' := [.int c0, .int a0, .ref 198]) (w' := (sI w 197 a0.toInt.toNat b0)) rfl ?_
                    obtain ⟨b10, hs⟩ := hs
                    refine tm_k (pc' := 86) (L' := [some (.ref 127), some (.int a0), some (.int b0), some (.int c0), some (.int e0), some (.int f0)]) (S' := []) (w' := (sI (sI w 197 a0.toInt.toNat b0) 198 a0.toInt.toNat c0)) rfl b10 ?_
                    refine tm_go 4 (pc' := 93) (L' := [some (.ref 127), some (.int a0), some (.int b0), some (.int c0), some (.int e0), some (.int f0)]) (S' := [.int e0, .int a0, .ref 199]) (w' := (sI (sI w 197 a0.toInt.toNat b0) 198 a0.toInt.toNat c0)) rfl ?_
                    obtain ⟨b11, hs⟩ := hs
                    refine tm_k (pc' := 94) (L' := [some (.ref 127), some (.int a0), some (.int b0), some (.int c0), some (.int e0), some (.int f0)]) (S' := []) (w' := (sI (sI (sI w 197 a0.toInt.toNat b0) 198 a0.toInt.toNat c0) 199 a0.toInt.toNat e0)) rfl b11 ?_
                    refine tm_go 4 (pc' := 101) (L' := [some (.ref 127), some (.int a0), some (.int b0), some (.int c0), some (.int e0), some (.int f0)]) (S' := [.int f0, .int a0, .ref 200]) (w' := (sI (sI (sI w 197 a0.toInt.toNat b0) 198 a0.toInt.toNat c0) 199 a0.toInt.toNat e0)) rfl ?_
                    obtain ⟨b12, hs⟩ := hs
                    refine tm_k (pc' := 102) (L' := [some (.ref 127), some (.int a0), some (.int b0), some (.int c0), some (.int e0), some (.int f0)]) (S' := []) (w' := (sI (sI (sI (sI w 197 a0.toInt.toNat b0) 198 a0.toInt.toNat c0) 199 a0.toInt.toNat e0) 200 a0.toInt.toNat f0)) rfl b12 ?_
                    refine tm_go 1 (pc' := 103) (L' := [some (.ref 127), some (.int a0), some (.int b0), some (.int c0), some (.int e0), some (.int f0)]) (S' := [.int 1]) (w' := (sI (sI (sI (sI w 197 a0.toInt.toNat b0) 198 a0.toInt.toNat c0) 199 a0.toInt.toNat e0) 200 a0.toInt.toNat f0)) rfl ?_
                    exact tm_r rfl (⟨by unfold g_Mo_bind; rw [if_neg h1, if_neg h2, if_neg h3, if_neg h4, if_pos h5, if_neg h6, if_neg h10, if_neg h11, if_pos h12], by unfold u_Mo_bind; rw [if_neg h1, if_neg h2, if_neg h3, if_neg h4, if_pos h5, if_neg h6, if_neg h10, if_neg h11, if_pos h12]⟩)
                  · rw [if_neg h12] at hs
                    refine tm_go 2 (pc' := 61) (L' := [some (.ref 127), some (.int a0), some (.int b0), some (.int c0), some (.int e0), some (.int f0)]) (S' := [.int 1, .int e0]) (w' := w) rfl ?_
                    refine tm_i (p1 := 70) (p2 := 64) rfl (fun h13 => ?_) (fun h13 => ?_)
                    · rw [if_pos h13] at hs
                      refine tm_go 1 (pc' := 71) (L' := [some (.ref 127), some (.int a0), some (.int b0), some (.int c0), some (.int e0), some (.int f0)]) (S' := [.int 0]) (w' := w) rfl ?_
                      exact tm_r rfl (⟨by unfold g_Mo_bind; rw [if_neg h1, if_neg h2, if_neg h3, if_neg h4, if_pos h5, if_neg h6, if_neg h10, if_neg h11, if_neg h12, if_pos h13], by unfold u_Mo_bind; rw [if_neg h1, if_neg h2, if_neg h3, if_neg h4, if_pos h5, if_neg h6, if_neg h10, if_neg h11, if_neg h12, if_pos h13]⟩)
                    · rw [if_neg h13] at hs
                      refine tm_go 2 (pc' := 67) (L' := [some (.ref 127), some (.int a0), some (.int b0), some (.int c0), some (.int e0), some (.int f0)]) (S' := [.int 5, .int e0]) (w' := w) rfl ?_
                      refine tm_i (p1 := 72) (p2 := 70) rfl (fun h14 => ?_) (fun h14 => ?_)
                      · rw [if_pos h14] at hs
                        refine tm_go 4 (pc' := 78) (L' := [some (.ref 127), some (.int a0), some (.int b0), some (.int c0), some (.int e0), some (.int f0)]) (S' := [.int b0, .int a0, .ref 197]) (w' := w) rfl ?_
                        obtain ⟨b13, hs⟩ := hs
                        refine tm_k (pc' := 79) (L' := [some (.ref 127), some (.int a0), some (.int b0), some (.int c0), some (.int e0), some (.int f0)]) (S' := []) (w' := (sI w 197 a0.toInt.toNat b0)) rfl b13 ?_
                        refine tm_go 4 (pc' := 85) (L' := [some (.ref 127), some (.int a0), some (.int b0), some (.int c0), some (.int e0), some (.int f0)]) (S' := [.int c0, .int a0, .ref 198]) (w' := (sI w 197 a0.toInt.toNat b0)) rfl ?_
                        obtain ⟨b14, hs⟩ := hs
                        refine tm_k (pc' := 86) (L' := [some (.ref 127), some (.int a0), some (.int b0), some (.int c0), some (.int e0), some (.int f0)]) (S' := []) (w' := (sI (sI w 197 a0.toInt.toNat b0) 198 a0.toInt.toNat c0)) rfl b14 ?_
                        refine tm_go 4 (pc' := 93) (L' := [some (.ref 127), some (.int a0), some (.int b0), some (.int c0), some (.int e0), some (.int f0)]) (S' := [.int e0, .int a0, .ref 199]) (w' := (sI (sI w 197 a0.toInt.toNat b0) 198 a0.toInt.toNat c0)) rfl ?_
                        obtain ⟨b15, hs⟩ := hs
                        refine tm_k (pc' := 94) (L' := [some (.ref 127), some (.int a0), some (.int b0), some (.int c0), some (.int e0), some (.int f0)]) (S' := []) (w' := (sI (sI (sI w 197 a0.toInt.toNat b0) 198 a0.toInt.toNat c0) 199 a0.toInt.toNat e0)) rfl b15 ?_
                        refine tm_go 4 (pc' := 101) (L' := [some (.ref 127), some (.int a0), some (.int b0), some (.int c0), some (.int e0), some (.int f0)]) (S' := [.int f0, .int a0, .ref 200]) (w' := (sI (sI (sI w 197 a0.toInt.toNat b0) 198 a0.toInt.toNat c0) 199 a0.toInt.toNat e0)) rfl ?_
                        obtain ⟨b16, hs⟩ := hs
                        refine tm_k (pc' := 102) (L' := [some (.ref 127), some (.int a0), some (.int b0), some (.int c0), some (.int e0), some (.int f0)]) (S' := []) (w' := (sI (sI (sI (sI w 197 a0.toInt.toNat b0) 198 a0.toInt.toNat c0) 199 a0.toInt.toNat e0) 200 a0.toInt.toNat f0)) rfl b16 ?_
                        refine tm_go 1 (pc' := 103) (L' := [some (.ref 127), some (.int a0), some (.int b0), some (.int c0), some (.int e0), some (.int f0)]) (S' := [.int 1]) (w' := (sI (sI (sI (sI w 197 a0.toInt.toNat b0) 198 a0.toInt.toNat c0) 199 a0.toInt.toNat e0) 200 a0.toInt.toNat f0)) rfl ?_
                        exact tm_r rfl (⟨by unfold g_Mo_bind; rw [if_neg h1, if_neg h2, if_neg h3, if_neg h4, if_pos h5, if_neg h6, if_neg h10, if_neg h11, if_neg h12, if_neg h13, if_pos h14], by unfold u_Mo_bind; rw [if_neg h1, if_neg h2, if_neg h3, if_neg h4, if_pos h5, if_neg h6, if_neg h10, if_neg h11, if_neg h12, if_neg h13, if_pos h14]⟩)
                      · rw [if_neg h14] at hs
                        refine tm_go 1 (pc' := 71) (L' := [some (.ref 127), some (.int a0), some (.int b0), some (.int c0), some (.int e0), some (.int f0)]) (S' := [.int 0]) (w' := w) rfl ?_
                        exact tm_r rfl (⟨by unfold g_Mo_bind; rw [if_neg h1, if_neg h2, if_neg h3, if_neg h4, if_pos h5, if_neg h6, if_neg h10, if_neg h11, if_neg h12, if_neg h13, if_neg h14], by unfold u_Mo_bind; rw [if_neg h1, if_neg h2, if_neg h3, if_neg h4, if_pos h5, if_neg h6, if_neg h10, if_neg h11, if_neg h12, if_neg h13, if_neg h14]⟩)
          · rw [if_neg h5] at hs
            refine tm_go 2 (pc' := 26) (L' := [some (.ref 127), some (.int a0), some (.int b0), some (.int c0), some (.int e0), some (.int f0)]) (S' := [.int 1, .int f0]) (w' := w) rfl ?_
            refine tm_i (p1 := 70) (p2 := 29) rfl (fun h15 => ?_) (fun h15 => ?_)
            · rw [if_pos h15] at hs
              refine tm_go 1 (pc' := 71) (L' := [some (.ref 127), some (.int a0), some (.int b0), some (.int c0), some (.int e0), some (.int f0)]) (S' := [.int 0]) (w' := w) rfl ?_
              exact tm_r rfl (⟨by unfold g_Mo_bind; rw [if_neg h1, if_neg h2, if_neg h3, if_neg h4, if_neg h5, if_pos h15], by unfold u_Mo_bind; rw [if_neg h1, if_neg h2, if_neg h3, if_neg h4, if_neg h5, if_pos h15]⟩)
            · rw [if_neg h15] at hs
              refine tm_go 2 (pc' := 33) (L' := [some (.ref 127), some (.int a0), some (.int b0), some (.int c0), some (.int e0), some (.int f0)]) (S' := [.int 100, .int f0]) (w' := w) rfl ?_
              refine tm_i (p1 := 70) (p2 := 36) rfl (fun h16 => ?_) (fun h16 => ?_)
              · rw [if_pos h16] at hs
                refine tm_go 1 (pc' := 71) (L' := [some (.ref 127), some (.int a0), some (.int b0), some (.int c0), some (.int e0), some (.int f0)]) (S' := [.int 0]) (w' := w) rfl ?_
                exact tm_r rfl (⟨by unfold g_Mo_bind; rw [if_neg h1, if_neg h2, if_neg h3, if_neg h4, if_neg h5, if_neg h15, if_pos h16], by unfold u_Mo_bind; rw [if_neg h1, if_neg h2, if_neg h3, if_neg h4, if_neg h5, if_neg h15, if_pos h16]⟩)
              · rw [if_neg h16] at hs
                refine tm_go 2 (pc' := 38) (L' := [some (.ref 127), some (.int a0), some (.int b0), some (.int c0), some (.int e0), some (.int f0)]) (S' := [.int 2, .int b0]) (w' := w) rfl ?_
                refine tm_i (p1 := 53) (p2 := 41) rfl (fun h17 => ?_) (fun h17 => ?_)
                · rw [if_pos h17] at hs
                  refine tm_go 2 (pc' := 55) (L' := [some (.ref 127), some (.int a0), some (.int b0), some (.int c0), some (.int e0), some (.int f0)]) (S' := [.int 3, .int b0]) (w' := w) rfl ?_
                  refine tm_i (p1 := 72) (p2 := 58) rfl (fun h18 => ?_) (fun h18 => ?_)
                  · rw [if_pos h18] at hs
                    refine tm_go 4 (pc' := 78) (L' := [some (.ref 127), some (.int a0), some (.int b0), some (.int c0), some (.int e0), some (.int f0)]) (S' := [.int b0, .int a0, .ref 197]) (w' := w) rfl ?_
                    obtain ⟨b17, hs⟩ := hs
                    refine tm_k (pc' := 79) (L' := [some (.ref 127), some (.int a0), some (.int b0), some (.int c0), some (.int e0), some (.int f0)]) (S' := []) (w' := (sI w 197 a0.toInt.toNat b0)) rfl b17 ?_
                    refine tm_go 4 (pc' := 85) (L' := [some (.ref 127), some (.int a0), some (.int b0), some (.int c0), some (.int e0), some (.int f0)]) (S' := [.int c0, .int a0, .ref 198]) (w' := (sI w 197 a0.toInt.toNat b0)) rfl ?_
                    obtain ⟨b18, hs⟩ := hs
                    refine tm_k (pc' := 86) (L' := [some (.ref 127), some (.int a0), some (.int b0), some (.int c0), some (.int e0), some (.int f0)]) (S' := []) (w' := (sI (sI w 197 a0.toInt.toNat b0) 198 a0.toInt.toNat c0)) rfl b18 ?_
                    refine tm_go 4 (pc' := 93) (L' := [some (.ref 127), some (.int a0), some (.int b0), some (.int c0), some (.int e0), some (.int f0)]) (S' := [.int e0, .int a0, .ref 199]) (w' := (sI (sI w 197 a0.toInt.toNat b0) 198 a0.toInt.toNat c0)) rfl ?_
                    obtain ⟨b19, hs⟩ := hs
                    refine tm_k (pc' := 94) (L' := [some (.ref 127), some (.int a0), some (.int b0), some (.int c0), some (.int e0), some (.int f0)]) (S' := []) (w' := (sI (sI (sI w 197 a0.toInt.toNat b0) 198 a0.toInt.toNat c0) 199 a0.toInt.toNat e0)) rfl b19 ?_
                    refine tm_go 4 (pc' := 101) (L' := [some (.ref 127), some (.int a0), some (.int b0), some (.int c0), some (.int e0), some (.int f0)]) (S' := [.int f0, .int a0, .ref 200]) (w' := (sI (sI (sI w 197 a0.toInt.toNat b0) 198 a0.toInt.toNat c0) 199 a0.toInt.toNat e0)) rfl ?_
                    obtain ⟨b20, hs⟩ := hs
                    refine tm_k (pc' := 102) (L' := [some (.ref 127), some (.int a0), some (.int b0), some (.int c0), some (.int e0), some (.int f0)]) (S' := []) (w' := (sI (sI (sI (sI w 197 a0.toInt.toNat b0) 198 a0.toInt.toNat c0) 199 a0.toInt.toNat e0) 200 a0.toInt.toNat f0)) rfl b20 ?_
                    refine tm_go 1 (pc' := 103) (L' := [some (.ref 127), some (.int a0), some (.int b0), some (.int c0), some (.int e0), some (.int f0)]) (S' := [.int 1]) (w' := (sI (sI (sI (sI w 197 a0.toInt.toNat b0) 198 a0.toInt.toNat c0) 199 a0.toInt.toNat e0) 200 a0.toInt.toNat f0)) rfl ?_
                    exact tm_r rfl (⟨by unfold g_Mo_bind; rw [if_neg h1, if_neg h2, if_neg h3, if_neg h4, if_neg h5, if_neg h15, if_neg h16, if_pos h17, if_pos h18], by unfold u_Mo_bind; rw [if_neg h1, if_neg h2, if_neg h3, if_neg h4, if_neg h5, if_neg h15, if_neg h16, if_pos h17, if_pos h18]⟩)
                  · rw [if_neg h18] at hs
                    refine tm_go 2 (pc' := 61) (L' := [some (.ref 127), some (.int a0), some (.int b0), some (.int c0), some (.int e0), some (.int f0)]) (S' := [.int 1, .int e0]) (w' := w) rfl ?_
                    refine tm_i (p1 := 70) (p2 := 64) rfl (fun h19 => ?_) (fun h19 => ?_)
                    · rw [if_pos h19] at hs
                      refine tm_go 1 (pc' := 71) (L' := [some (.ref 127), some (.int a0), some (.int b0), some (.int c0), some (.int e0), some (.int f0)]) (S' := [.int 0]) (w' := w) rfl ?_
                      exact tm_r rfl (⟨by unfold g_Mo_bind; rw [if_neg h1, if_neg h2, if_neg h3, if_neg h4, if_neg h5, if_neg h15, if_neg h16, if_pos h17, if_neg h18, if_pos h19], by unfold u_Mo_bind; rw [if_neg h1, if_neg h2, if_neg h3, if_neg h4, if_neg h5, if_neg h15, if_neg h16, if_pos h17, if_neg h18, if_pos h19]⟩)
                    · rw [if_neg h19] at hs
                      refine tm_go 2 (pc' := 67) (L' := [some (.ref 127), some (.int a0), some (.int b0), some (.int c0), some (.int e0), some (.int f0)]) (S' := [.int 5, .int e0]) (w' := w) rfl ?_
                      refine tm_i (p1 := 72) (p2 := 70) rfl (fun h20 => ?_) (fun h20 => ?_)
                      · rw [if_pos h20] at hs
                        refine tm_go 4 (pc' := 78) (L' := [some (.ref 127), some (.int a0), some (.int b0), some (.int c0), some (.int e0), some (.int f0)]) (S' := [.int b0, .int a0, .ref 197]) (w' := w) rfl ?_
                        obtain ⟨b21, hs⟩ := hs
                        refine tm_k (pc' := 79) (L' := [some (.ref 127), some (.int a0), some (.int b0), some (.int c0), some (.int e0), some (.int f0)]) (S' := []) (w' := (sI w 197 a0.toInt.toNat b0)) rfl b21 ?_
                        refine tm_go 4 (pc' := 85) (L' := [some (.ref 127), some (.int a0), some (.int b0), some (.int c0), some (.int e0), some (.int f0)]) (S' := [.int c0, .int a0, .ref 198]) (w' := (sI w 197 a0.toInt.toNat b0)) rfl ?_
                        obtain ⟨b22, hs⟩ := hs
                        refine tm_k (pc' := 86) (L' := [some (.ref 127), some (.int a0), some (.int b0), some (.int c0), some (.int e0), some (.int f0)]) (S' := []) (w' := (sI (sI w 197 a0.toInt.toNat b0) 198 a0.toInt.toNat c0)) rfl b22 ?_
                        refine tm_go 4 (pc' := 93) (L' := [some (.ref 127), some (.int a0), some (.int b0), some (.int c0), some (.int e0), some (.int f0)]) (S' := [.int e0, .int a0, .ref 199]) (w' := (sI (sI w 197 a0.toInt.toNat b0) 198 a0.toInt.toNat c0)) rfl ?_
                        obtain ⟨b23, hs⟩ := hs
                        refine tm_k (pc' := 94) (L' := [some (.ref 127), some (.int a0), some (.int b0), some (.int c0), some (.int e0), some (.int f0)]) (S' := []) (w' := (sI (sI (sI w 197 a0.toInt.toNat b0) 198 a0.toInt.toNat c0) 199 a0.toInt.toNat e0)) rfl b23 ?_
                        refine tm_go 4 (pc' := 101) (L' := [some (.ref 127), some (.int a0), some (.int b0), some (.int c0), some (.int e0), some (.int f0)]) (S' := [.int f0, .int a0, .ref 200]) (w' := (sI (sI (sI w 197 a0.toInt.toNat b0) 198 a0.toInt.toNat c0) 199 a0.toInt.toNat e0)) rfl ?_
                        obtain ⟨b24, hs⟩ := hs
                        refine tm_k (pc' := 102) (L' := [some (.ref 127), some (.int a0), some (.int b0), some (.int c0), some (.int e0), some (.int f0)]) (S' := []) (w' := (sI (sI (sI (sI w 197 a0.toInt.toNat b0) 198 a0.toInt.toNat c0) 199 a0.toInt.toNat e0) 200 a0.toInt.toNat f0)) rfl b24 ?_
                        refine tm_go 1 (pc' := 103) (L' := [some (.ref 127), some (.int a0), some (.int b0), some (.int c0), some (.int e0), some (.int f0)]) (S' := [.int 1]) (w' := (sI (sI (sI (sI w 197 a0.toInt.toNat b0) 198 a0.toInt.toNat c0) 199 a0.toInt.toNat e0) 200 a0.toInt.toNat f0)) rfl ?_
                        exact tm_r rfl (⟨by unfold g_Mo_bind; rw [if_neg h1, if_neg h2, if_neg h3, if_neg h4, if_neg h5, if_neg h15, if_neg h16, if_pos h17, if_neg h18, if_neg h19, if_pos h20], by unfold u_Mo_bind; rw [if_neg h1, if_neg h2, if_neg h3, if_neg h4, if_neg h5, if_neg h15, if_neg h16, if_pos h17, if_neg h18, if_neg h19, if_pos h20]⟩)
                      · rw [if_neg h20] at hs
                        refine tm_go 1 (pc' := 71) (L' := [some (.ref 127), some (.int a0), some (.int b0), some (.int c0), some (.int e0), some (.int f0)]) (S' := [.int 0]) (w' := w) rfl ?_
                        exact tm_r rfl (⟨by unfold g_Mo_bind; rw [if_neg h1, if_neg h2, if_neg h3, if_neg h4, if_neg h5, if_neg h15, if_neg h16, if_pos h17, if_neg h18, if_neg h19, if_neg h20], by unfold u_Mo_bind; rw [if_neg h1, if_neg h2, if_neg h3, if_neg h4, if_neg h5, if_neg h15, if_neg h16, if_pos h17, if_neg h18, if_neg h19, if_neg h20]⟩)
                · rw [if_neg h17] at hs
                  refine tm_go 1 (pc' := 43) (L' := [some (.ref 127), some (.int a0), some (.int b0), some (.int c0), some (.int e0), some (.int f0)]) (S' := [.int e0]) (w' := w) rfl ?_
                  refine tm_i (p1 := 70) (p2 := 46) rfl (fun h21 => ?_) (fun h21 => ?_)
                  · rw [if_pos h21] at hs
                    refine tm_go 1 (pc' := 71) (L' := [some (.ref 127), some (.int a0), some (.int b0), some (.int c0), some (.int e0), some (.int f0)]) (S' := [.int 0]) (w' := w) rfl ?_
                    exact tm_r rfl (⟨by unfold g_Mo_bind; rw [if_neg h1, if_neg h2, if_neg h3, if_neg h4, if_neg h5, if_neg h15, if_neg h16, if_neg h17, if_pos h21], by unfold u_Mo_bind; rw [if_neg h1, if_neg h2, if_neg h3, if_neg h4, if_neg h5, if_neg h15, if_neg h16, if_neg h17, if_pos h21]⟩)
                  · rw [if_neg h21] at hs
                    refine tm_go 2 (pc' := 50) (L' := [some (.ref 127), some (.int a0), some (.int b0), some (.int c0), some (.int e0), some (.int f0)]) (S' := [.int 9, .int e0]) (w' := w) rfl ?_
                    refine tm_i (p1 := 70) (p2 := 53) rfl (fun h22 => ?_) (fun h22 => ?_)
                    · rw [if_pos h22] at hs
                      refine tm_go 1 (pc' := 71) (L' := [some (.ref 127), some (.int a0), some (.int b0), some (.int c0), some (.int e0), some (.int f0)]) (S' := [.int 0]) (w' := w) rfl ?_
                      exact tm_r rfl (⟨by unfold g_Mo_bind; rw [if_neg h1, if_neg h2, if_neg h3, if_neg h4, if_neg h5, if_neg h15, if_neg h16, if_neg h17, if_neg h21, if_pos h22], by unfold u_Mo_bind; rw [if_neg h1, if_neg h2, if_neg h3, if_neg h4, if_neg h5, if_neg h15, if_neg h16, if_neg h17, if_neg h21, if_pos h22]⟩)
                    · rw [if_neg h22] at hs
                      refine tm_go 2 (pc' := 55) (L' := [some (.ref 127), some (.int a0), some (.int b0), some (.int c0), some (.int e0), some (.int f0)]) (S' := [.int 3, .int b0]) (w' := w) rfl ?_
                      refine tm_i (p1 := 72) (p2 := 58) rfl (fun h23 => ?_) (fun h23 => ?_)
                      · rw [if_pos h23] at hs
                        refine tm_go 4 (pc' := 78) (L' := [some (.ref 127), some (.int a0), some (.int b0), some (.int c0), some (.int e0), some (.int f0)]) (S' := [.int b0, .int a0, .ref 197]) (w' := w) rfl ?_
                        obtain ⟨b25, hs⟩ := hs
                        refine tm_k (pc' := 79) (L' := [some (.ref 127), some (.int a0), some (.int b0), some (.int c0), some (.int e0), some (.int f0)]) (S' := []) (w' := (sI w 197 a0.toInt.toNat b0)) rfl b25 ?_
                        refine tm_go 4 (pc' := 85) (L' := [some (.ref 127), some (.int a0), some (.int b0), some (.int c0), some (.int e0), some (.int f0)]) (S' := [.int c0, .int a0, .ref 198]) (w' := (sI w 197 a0.toInt.toNat b0)) rfl ?_
                        obtain ⟨b26, hs⟩ := hs
                        refine tm_k (pc' := 86) (L' := [some (.ref 127), some (.int a0), some (.int b0), some (.int c0), some (.int e0), some (.int f0)]) (S' := []) (w' := (sI (sI w 197 a0.toInt.toNat b0) 198 a0.toInt.toNat c0)) rfl b26 ?_
                        refine tm_go 4 (pc' := 93) (L' := [some (.ref 127), some (.int a0), some (.int b0), some (.int c0), some (.int e0), some (.int f0)]) (S' := [.int e0, .int a0, .ref 199]) (w' := (sI (sI w 197 a0.toInt.toNat b0) 198 a0.toInt.toNat c0)) rfl ?_
                        obtain ⟨b27, hs⟩ := hs
                        refine tm_k (pc' := 94) (L' := [some (.ref 127), some (.int a0), some (.int b0), some (.int c0), some (.int e0), some (.int f0)]) (S' := []) (w' := (sI (sI (sI w 197 a0.toInt.toNat b0) 198 a0.toInt.toNat c0) 199 a0.toInt.toNat e0)) rfl b27 ?_
                        refine tm_go 4 (pc' := 101) (L' := [some (.ref 127), some (.int a0), some (.int b0), some (.int c0), some (.int e0), some (.int f0)]) (S' := [.int f0, .int a0, .ref 200]) (w' := (sI (sI (sI w 197 a0.toInt.toNat b0) 198 a0.toInt.toNat c0) 199 a0.toInt.toNat e0)) rfl ?_
                        obtain ⟨b28, hs⟩ := hs
                        refine tm_k (pc' := 102) (L' := [some (.ref 127), some (.int a0), some (.int b0), some (.int c0), some (.int e0), some (.int f0)]) (S' := []) (w' := (sI (sI (sI (sI w 197 a0.toInt.toNat b0) 198 a0.toInt.toNat c0) 199 a0.toInt.toNat e0) 200 a0.toInt.toNat f0)) rfl b28 ?_
                        refine tm_go 1 (pc' := 103) (L' := [some (.ref 127), some (.int a0), some (.int b0), some (.int c0), some (.int e0), some (.int f0)]) (S' := [.int 1]) (w' := (sI (sI (sI (sI w 197 a0.toInt.toNat b0) 198 a0.toInt.toNat c0) 199 a0.toInt.toNat e0) 200 a0.toInt.toNat f0)) rfl ?_
                        exact tm_r rfl (⟨by unfold g_Mo_bind; rw [if_neg h1, if_neg h2, if_neg h3, if_neg h4, if_neg h5, if_neg h15, if_neg h16, if_neg h17, if_neg h21, if_neg h22, if_pos h23], by unfold u_Mo_bind; rw [if_neg h1, if_neg h2, if_neg h3, if_neg h4, if_neg h5, if_neg h15, if_neg h16, if_neg h17, if_neg h21, if_neg h22, if_pos h23]⟩)
                      · rw [if_neg h23] at hs
                        refine tm_go 2 (pc' := 61) (L' := [some (.ref 127), some (.int a0), some (.int b0), some (.int c0), some (.int e0), some (.int f0)]) (S' := [.int 1, .int e0]) (w' := w) rfl ?_
                        refine tm_i (p1 := 70) (p2 := 64) rfl (fun h24 => ?_) (fun h24 => ?_)
                        · rw [if_pos h24] at hs
                          refine tm_go 1 (pc' := 71) (L' := [some (.ref 127), some (.int a0), some (.int b0), some (.int c0), some (.int e0), some (.int f0)]) (S' := [.int 0]) (w' := w) rfl ?_
                          exact tm_r rfl (⟨by unfold g_Mo_bind; rw [if_neg h1, if_neg h2, if_neg h3, if_neg h4, if_neg h5, if_neg h15, if_neg h16, if_neg h17, if_neg h21, if_neg h22, if_neg h23, if_pos h24], by unfold u_Mo_bind; rw [if_neg h1, if_neg h2, if_neg h3, if_neg h4, if_neg h5, if_neg h15, if_neg h16, if_neg h17, if_neg h21, if_neg h22, if_neg h23, if_pos h24]⟩)
                        · rw [if_neg h24] at hs
                          refine tm_go 2 (pc' := 67) (L' := [some (.ref 127), some (.int a0), some (.int b0), some (.int c0), some (.int e0), some (.int f0)]) (S' := [.int 5, .int e0]) (w' := w) rfl ?_
                          refine tm_i (p1 := 72) (p2 := 70) rfl (fun h25 => ?_) (fun h25 => ?_)
                          · rw [if_pos h25] at hs
                            refine tm_go 4 (pc' := 78) (L' := [some (.ref 127), some (.int a0), some (.int b0), some (.int c0), some (.int e0), some (.int f0)]) (S' := [.int b0, .int a0, .ref 197]) (w' := w) rfl ?_
                            obtain ⟨b29, hs⟩ := hs
                            refine tm_k (pc' := 79) (L' := [some (.ref 127), some (.int a0), some (.int b0), some (.int c0), some (.int e0), some (.int f0)]) (S' := []) (w' := (sI w 197 a0.toInt.toNat b0)) rfl b29 ?_
                            refine tm_go 4 (pc' := 85) (L' := [some (.ref 127), some (.int a0), some (.int b0), some (.int c0), some (.int e0), some (.int f0)]) (S' := [.int c0, .int a0, .ref 198]) (w' := (sI w 197 a0.toInt.toNat b0)) rfl ?_
                            obtain ⟨b30, hs⟩ := hs
                            refine tm_k (pc' := 86) (L' := [some (.ref 127), some (.int a0), some (.int b0), some (.int c0), some (.int e0), some (.int f0)]) (S' := []) (w' := (sI (sI w 197 a0.toInt.toNat b0) 198 a0.toInt.toNat c0)) rfl b30 ?_
                            refine tm_go 4 (pc' := 93) (L' := [some (.ref 127), some (.int a0), some (.int b0), some (.int c0), some (.int e0), some (.int f0)]) (S' := [.int e0, .int a0, .ref 199]) (w' := (sI (sI w 197 a0.toInt.toNat b0) 198 a0.toInt.toNat c0)) rfl ?_
                            obtain ⟨b31, hs⟩ := hs
                            refine tm_k (pc' := 94) (L' := [some (.ref 127), some (.int a0), some (.int b0), some (.int c0), some (.int e0), some (.int f0)]) (S' := []) (w' := (sI (sI (sI w 197 a0.toInt.toNat b0) 198 a0.toInt.toNat c0) 199 a0.toInt.toNat e0)) rfl b31 ?_
                            refine tm_go 4 (pc' := 101) (L' := [some (.ref 127), some (.int a0), some (.int b0), some (.int c0), some (.int e0), some (.int f0)]) (S' := [.int f0, .int a0, .ref 200]) (w' := (sI (sI (sI w 197 a0.toInt.toNat b0) 198 a0.toInt.toNat c0) 199 a0.toInt.toNat e0)) rfl ?_
                            obtain ⟨b32, hs⟩ := hs
                            refine tm_k (pc' := 102) (L' := [some (.ref 127), some (.int a0), some (.int b0), some (.int c0), some (.int e0), some (.int f0)]) (S' := []) (w' := (sI (sI (sI (sI w 197 a0.toInt.toNat b0) 198 a0.toInt.toNat c0) 199 a0.toInt.toNat e0) 200 a0.toInt.toNat f0)) rfl b32 ?_
                            refine tm_go 1 (pc' := 103) (L' := [some (.ref 127), some (.int a0), some (.int b0), some (.int c0), some (.int e0), some (.int f0)]) (S' := [.int 1]) (w' := (sI (sI (sI (sI w 197 a0.toInt.toNat b0) 198 a0.toInt.toNat c0) 199 a0.toInt.toNat e0) 200 a0.toInt.toNat f0)) rfl ?_
                            exact tm_r rfl (⟨by unfold g_Mo_bind; rw [if_neg h1, if_neg h2, if_neg h3, if_neg h4, if_neg h5, if_neg h15, if_neg h16, if_neg h17, if_neg h21, if_neg h22, if_neg h23, if_neg h24, if_pos h25], by unfold u_Mo_bind; rw [if_neg h1, if_neg h2, if_neg h3, if_neg h4, if_neg h5, if_neg h15, if_neg h16, if_neg h17, if_neg h21, if_neg h22, if_neg h23, if_neg h24, if_pos h25]⟩)
                          · rw [if_neg h25] at hs
                            refine tm_go 1 (pc' := 71) (L' := [some (.ref 127), some (.int a0), some (.int b0), some (.int c0), some (.int e0), some (.int f0)]) (S' := [.int 0]) (w' := w) rfl ?_
                            exact tm_r rfl (⟨by unfold g_Mo_bind; rw [if_neg h1, if_neg h2, if_neg h3, if_neg h4, if_neg h5, if_neg h15, if_neg h16, if_neg h17, if_neg h21, if_neg h22, if_neg h23, if_neg h24, if_neg h25], by unfold u_Mo_bind; rw [if_neg h1, if_neg h2, if_neg h3, if_neg h4, if_neg h5, if_neg h15, if_neg h16, if_neg h17, if_neg h21, if_neg h22, if_neg h23, if_neg h24, if_neg h25]⟩)
