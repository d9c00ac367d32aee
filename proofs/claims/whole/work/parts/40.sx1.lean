def g_Tp_isDigit (w : MW) (c : Int32) : Int32 := (if c.toInt < (48 : Int32).toInt then 0 else (if (57 : Int32).toInt < c.toInt then 0 else 1))
def f_Tp_isDigit (w : MW) (c : Int32) : Option Value × MW := (some (.int (g_Tp_isDigit w c)), w)
set_option maxRecDepth 100000 in
theorem c_Tp_isDigit {d : Nat} (w : MW) (c : Int32)  : Tc (d + 0) 258 [.int c] w (fun v w1 => (v, w1) = f_Tp_isDigit w c) := by
  refine tm_go 2 (pc' := 3) (L' := [some (.int c)]) (S' := [.int 48, .int c]) (w' := w) rfl ?_
  refine tm_i (p1 := 16) (p2 := 6) rfl (fun h1 => ?_) (fun h1 => ?_)
  · refine tm_go 1 (pc' := 17) (L' := [some (.int c)]) (S' := [.int 0]) (w' := w) rfl ?_
    exact tm_r rfl (by unfold f_Tp_isDigit g_Tp_isDigit; rw [if_pos h1])
  · refine tm_go 2 (pc' := 9) (L' := [some (.int c)]) (S' := [.int 57, .int c]) (w' := w) rfl ?_
    refine tm_i (p1 := 16) (p2 := 12) rfl (fun h2 => ?_) (fun h2 => ?_)
    · refine tm_go 1 (pc' := 17) (L' := [some (.int c)]) (S' := [.int 0]) (w' := w) rfl ?_
      exact tm_r rfl (by unfold f_Tp_isDigit g_Tp_isDigit; rw [if_neg h1, if_pos h2])
    · refine tm_go 2 (pc' := 17) (L' := [some (.int c)]) (S' := [.int 1]) (w' := w) rfl ?_
      exact tm_r rfl (by unfold f_Tp_isDigit g_Tp_isDigit; rw [if_neg h1, if_neg h2])
def g_Tp_isLetter (w : MW) (c : Int32) : Int32 := (if c.toInt < (97 : Int32).toInt then 0 else (if (122 : Int32).toInt < c.toInt then 0 else 1))
def f_Tp_isLetter (w : MW) (c : Int32) : Option Value × MW := (some (.int (g_Tp_isLetter w c)), w)
set_option maxRecDepth 100000 in
theorem c_Tp_isLetter {d : Nat} (w : MW) (c : Int32)  : Tc (d + 0) 259 [.int c] w (fun v w1 => (v, w1) = f_Tp_isLetter w c) := by
  refine tm_go 2 (pc' := 3) (L' := [some (.int c)]) (S' := [.int 97, .int c]) (w' := w) rfl ?_
  refine tm_i (p1 := 16) (p2 := 6) rfl (fun h1 => ?_) (fun h1 => ?_)
  · refine tm_go 1 (pc' := 17) (L' := [some (.int c)]) (S' := [.int 0]) (w' := w) rfl ?_
    exact tm_r rfl (by unfold f_Tp_isLetter g_Tp_isLetter; rw [if_pos h1])
  · refine tm_go 2 (pc' := 9) (L' := [some (.int c)]) (S' := [.int 122, .int c]) (w' := w) rfl ?_
    refine tm_i (p1 := 16) (p2 := 12) rfl (fun h2 => ?_) (fun h2 => ?_)
    · refine tm_go 1 (pc' := 17) (L' := [some (.int c)]) (S' := [.int 0]) (w' := w) rfl ?_
      exact tm_r rfl (by unfold f_Tp_isLetter g_Tp_isLetter; rw [if_neg h1, if_pos h2])
    · refine tm_go 2 (pc' := 17) (L' := [some (.int c)]) (S' := [.int 1]) (w' := w) rfl ?_
      exact tm_r rfl (by unfold f_Tp_isLetter g_Tp_isLetter; rw [if_neg h1, if_neg h2])
def g_Tp_isBlank (w : MW) (c : Int32) : Int32 := (if c.toInt = (32 : Int32).toInt then 1 else (if ¬ c.toInt = (10 : Int32).toInt then 0 else 1))
def f_Tp_isBlank (w : MW) (c : Int32) : Option Value × MW := (some (.int (g_Tp_isBlank w c)), w)
set_option maxRecDepth 100000 in
theorem c_Tp_isBlank {d : Nat} (w : MW) (c : Int32)  : Tc (d + 0) 260 [.int c] w (fun v w1 => (v, w1) = f_Tp_isBlank w c) := by
  refine tm_go 2 (pc' := 3) (L' := [some (.int c)]) (S' := [.int 32, .int c]) (w' := w) rfl ?_
  refine tm_i (p1 := 12) (p2 := 6) rfl (fun h1 => ?_) (fun h1 => ?_)
  · refine tm_go 2 (pc' := 17) (L' := [some (.int c)]) (S' := [.int 1]) (w' := w) rfl ?_
    exact tm_r rfl (by unfold f_Tp_isBlank g_Tp_isBlank; rw [if_pos h1])
  · refine tm_go 2 (pc' := 9) (L' := [some (.int c)]) (S' := [.int 10, .int c]) (w' := w) rfl ?_
    refine tm_i (p1 := 16) (p2 := 12) rfl (fun h2 => ?_) (fun h2 => ?_)
    · refine tm_go 1 (pc' := 17) (L' := [some (.int c)]) (S' := [.int 0]) (w' := w) rfl ?_
      exact tm_r rfl (by unfold f_Tp_isBlank g_Tp_isBlank; rw [if_neg h1, if_pos h2])
    · refine tm_go 2 (pc' := 17) (L' := [some (.int c)]) (S' := [.int 1]) (w' := w) rfl ?_
      exact tm_r rfl (by unfold f_Tp_isBlank g_Tp_isBlank; rw [if_neg h1, if_neg h2])
def g_Tp_hasRoom (w : MW)  : Int32 := (if ((4 : Int32) * (1005 : Int32)).toInt < ((w.1 1 1) + (20 : Int32)).toInt then 0 else 1)
def f_Tp_hasRoom (w : MW)  : Option Value × MW := (some (.int (g_Tp_hasRoom w )), w)
set_option maxRecDepth 100000 in
theorem c_Tp_hasRoom {d : Nat} (w : MW)   : Tc (d + 0) 255 [.ref 1] w (fun v w1 => (v, w1) = f_Tp_hasRoom w ) := by
  refine tm_go 9 (pc' := 14) (L' := [some (.ref 1)]) (S' := [.int ((4 : Int32) * (1005 : Int32)), .int ((w.1 1 1) + (20 : Int32))]) (w' := w) rfl ?_
  refine tm_i (p1 := 21) (p2 := 17) rfl (fun h1 => ?_) (fun h1 => ?_)
  · refine tm_go 1 (pc' := 22) (L' := [some (.ref 1)]) (S' := [.int 0]) (w' := w) rfl ?_
    exact tm_r rfl (by unfold f_Tp_hasRoom g_Tp_hasRoom; rw [if_pos h1])
  · refine tm_go 2 (pc' := 22) (L' := [some (.ref 1)]) (S' := [.int 1]) (w' := w) rfl ?_
    exact tm_r rfl (by unfold f_Tp_hasRoom g_Tp_hasRoom; rw [if_neg h1])
def g_Bh_second (w : MW)  : Int32 := (w.1 7 1)
def f_Bh_second (w : MW)  : Option Value × MW := (some (.int (g_Bh_second w )), w)
set_option maxRecDepth 100000 in
theorem c_Bh_second {d : Nat} (w : MW)   : Tc (d + 0) 35 [.ref 0] w (fun v w1 => (v, w1) = f_Bh_second w ) := by
  refine tm_go 3 (pc' := 7) (L' := [some (.ref 0)]) (S' := [.int (w.1 7 1)]) (w' := w) rfl ?_
  exact tm_r rfl (by unfold f_Bh_second g_Bh_second; rfl)
def g_Mo_second (w : MW)  : Int32 := (w.1 127 78)
def f_Mo_second (w : MW)  : Option Value × MW := (some (.int (g_Mo_second w )), w)
set_option maxRecDepth 100000 in
theorem c_Mo_second {d : Nat} (w : MW)   : Tc (d + 0) 125 [.ref 127] w (fun v w1 => (v, w1) = f_Mo_second w ) := by
  refine tm_go 2 (pc' := 4) (L' := [some (.ref 127)]) (S' := [.int (w.1 127 78)]) (w' := w) rfl ?_
  exact tm_r rfl (by unfold f_Mo_second g_Mo_second; rfl)
def g_Mo_state (w : MW)  : Int32 := (w.1 127 59)
def f_Mo_state (w : MW)  : Option Value × MW := (some (.int (g_Mo_state w )), w)
set_option maxRecDepth 100000 in
theorem c_Mo_state {d : Nat} (w : MW)   : Tc (d + 0) 122 [.ref 127] w (fun v w1 => (v, w1) = f_Mo_state w ) := by
  refine tm_go 2 (pc' := 4) (L' := [some (.ref 127)]) (S' := [.int (w.1 127 59)]) (w' := w) rfl ?_
  exact tm_r rfl (by unfold f_Mo_state g_Mo_state; rfl)
def g_Bh_state (w : MW)  : Int32 := (w.1 61 4)
def f_Bh_state (w : MW)  : Option Value × MW := (some (.int (g_Bh_state w )), w)
set_option maxRecDepth 100000 in
theorem c_Bh_state {d : Nat} (w : MW)   : Tc (d + 0) 27 [.ref 0] w (fun v w1 => (v, w1) = f_Bh_state w ) := by
  refine tm_go 3 (pc' := 7) (L' := [some (.ref 0)]) (S' := [.int (w.1 61 4)]) (w' := w) rfl ?_
  exact tm_r rfl (by unfold f_Bh_state g_Bh_state; rfl)
def g_Mo_isThing (w : MW) (t : Int32) : Int32 := (if t.toInt < 0 then 0 else (if (w.1 127 4).toInt ≤ t.toInt then 0 else 1))
def f_Mo_isThing (w : MW) (t : Int32) : Option Value × MW := (some (.int (g_Mo_isThing w t)), w)
set_option maxRecDepth 100000 in
theorem c_Mo_isThing {d : Nat} (w : MW) (t : Int32)  : Tc (d + 0) 50 [.ref 127, .int t] w (fun v w1 => (v, w1) = f_Mo_isThing w t) := by
  refine tm_go 1 (pc' := 1) (L' := [some (.ref 127), some (.int t)]) (S' := [.int t]) (w' := w) rfl ?_
  refine tm_i (p1 := 16) (p2 := 4) rfl (fun h1 => ?_) (fun h1 => ?_)
  · refine tm_go 1 (pc' := 17) (L' := [some (.ref 127), some (.int t)]) (S' := [.int 0]) (w' := w) rfl ?_
    exact tm_r rfl (by unfold f_Mo_isThing g_Mo_isThing; rw [if_pos h1])
  · refine tm_go 3 (pc' := 9) (L' := [some (.ref 127), some (.int t)]) (S' := [.int (w.1 127 4), .int t]) (w' := w) rfl ?_
    refine tm_i (p1 := 16) (p2 := 12) rfl (fun h2 => ?_) (fun h2 => ?_)
    · refine tm_go 1 (pc' := 17) (L' := [some (.ref 127), some (.int t)]) (S' := [.int 0]) (w' := w) rfl ?_
      exact tm_r rfl (by unfold f_Mo_isThing g_Mo_isThing; rw [if_neg h1, if_pos h2])
    · refine tm_go 2 (pc' := 17) (L' := [some (.ref 127), some (.int t)]) (S' := [.int 1]) (w' := w) rfl ?_
      exact tm_r rfl (by unfold f_Mo_isThing g_Mo_isThing; rw [if_neg h1, if_neg h2])
def f_Tx_bad (w : MW)  : Option Value × MW := (some (.int (-1)), (sI w 129 10 (w.1 129 5)))
set_option maxRecDepth 100000 in
theorem c_Tx_bad {d : Nat} (w : MW)   : Tc (d + 0) 311 [.ref 129] w (fun v w1 => (v, w1) = f_Tx_bad w ) := by
  refine tm_go 5 (pc' := 9) (L' := [some (.ref 129)]) (S' := [.int (-1)]) (w' := (sI w 129 10 (w.1 129 5))) rfl ?_
  exact tm_r rfl (by unfold f_Tx_bad; rfl)
set_option maxRecDepth 100000 in
theorem l_Mo_forget_2 {d : Nat} (w0 : MW) (x : Int32) (hx0 : 0 ≤ x.toInt) (hx1 : x.toInt < 44) : ∀ (n : Nat) (k : Int32)  (w : MW) (hk0 : 0 ≤ k.toInt) (hk1 : k.toInt ≤ 6) (hw2 : w.2 = w0.2) (hwo : ∀ a, a ≠ 174 → w.1 a = w0.1 a), (6 - k.toInt).toNat = n → Tm (d + 0) 57 2 [some (.ref 127), some (.int x), some (.int k)] [] w (fun v w1 => v = none ∧ w1.2 = w0.2 ∧ ∀ a, a ≠ 174 → w1.1 a = w0.1 a) := by
  intro n
  induction n using Nat.strongRecOn with
  | _ n ih =>
    intro k  w hk0 hk1 hw2 hwo hm
    subst hm
    refine tm_go 2 (pc' := 5) (L' := [some (.ref 127), some (.int x), some (.int k)]) (S' := [.int 6, .int k]) (w' := w) rfl ?_
    refine tm_i (p1 := 26) (p2 := 8) rfl (fun h1 => ?_) (fun h1 => ?_)
    · exact tm_r rfl (by exact ⟨rfl, hw2, hwo⟩)
    · refine tm_go 8 (pc' := 19) (L' := [some (.ref 127), some (.int x), some (.int k)]) (S' := [.int (-1), .int (((6 : Int32) * x) + k), .ref 174]) (w' := w) rfl ?_
      refine tm_k (pc' := 20) (L' := [some (.ref 127), some (.int x), some (.int k)]) (S' := []) (w' := (sI w 174 ((((6 : Int32) * x) + k).toInt.toNat) (-1))) rfl ⟨by (try simp only [Int32.reduceToInt] at *); have e9 := (ti_add2 (ti_mul2 (by decide : (6 : Int32).toInt = 6) (Eq.refl x.toInt) (by omega) (by omega)) (Eq.refl k.toInt) (by omega) (by omega)); omega, by (try simp only [Int32.reduceToInt] at *); have e9 := (ti_add2 (ti_mul2 (by decide : (6 : Int32).toInt = 6) (Eq.refl x.toInt) (by omega) (by omega)) (Eq.refl k.toInt) (by omega) (by omega)); omega⟩ ?_
      refine tm_go 2 (pc' := 2) (L' := [some (.ref 127), some (.int x), some (.int (k + 1))]) (S' := []) (w' := (sI w 174 ((((6 : Int32) * x) + k).toInt.toNat) (-1))) rfl ?_
      exact ih _ (by (try simp only [Int32.reduceToInt] at *); have e9 := (ti_add2 (Eq.refl k.toInt) (by decide : (1 : Int32).toInt = 1) (by omega) (by omega)); omega) (k + 1) (sI w 174 ((((6 : Int32) * x) + k).toInt.toNat) (-1)) (by (try simp only [Int32.reduceToInt] at *); have e9 := (ti_add2 (Eq.refl k.toInt) (by decide : (1 : Int32).toInt = 1) (by omega) (by omega)); omega) (by (try simp only [Int32.reduceToInt] at *); have e9 := (ti_add2 (Eq.refl k.toInt) (by decide : (1 : Int32).toInt = 1) (by omega) (by omega)); omega) (by exact hw2) (by exact fun a ha => by rw [show (sI w 174 _ _).1 a = w.1 a from if_neg ha]; exact hwo a ha) rfl
set_option maxRecDepth 100000 in
theorem c_Mo_forget {d : Nat} (w : MW) (x : Int32) (hx0 : 0 ≤ x.toInt) (hx1 : x.toInt < 44) : Tc (d + 0) 57 [.ref 127, .int x] w (fun v w1 => v = none ∧ w1.2 = w.2 ∧ ∀ a, a ≠ 174 → w1.1 a = w.1 a) := by
  refine tm_go 2 (pc' := 2) (L' := [some (.ref 127), some (.int x), some (.int 0)]) (S' := []) (w' := w) rfl ?_
  exact l_Mo_forget_2 w x hx0 hx1 _ 0 w (by decide) (by decide) (by rfl) (by exact fun a _ => rfl) rfl
