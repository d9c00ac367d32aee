/-- from here the method comes to an end that is as Q says -/
def Tm (d μ pc : Nat) (L : Lo) (S : List Value) (w : MW) (Q : Option Value → MW → Prop) : Prop := ∃ v w', Ev d μ pc L S w (v, w') ∧ Q v w'
/-- a method's contract -/
abbrev Tc (d μ : Nat) (as : List Value) (w : MW) (Q : Option Value → MW → Prop) : Prop := Tm d μ 0 (mkL (mt μ).2.2.1 as) [] w Q
section TMS
variable {d μ pc : Nat} {L : Lo} {S : List Value} {w : MW} {Q : Option Value → MW → Prop}
theorem Tm.mono {Q' : Option Value → MW → Prop} (h : Tm d μ pc L S w Q) (hQ : ∀ v w', Q v w' → Q' v w') : Tm d μ pc L S w Q' := by
  obtain ⟨v, w', h1, h2⟩ := h
  exact ⟨v, w', h1, hQ v w' h2⟩
theorem Tm.le {e : Nat} (h : Tm d μ pc L S w Q) (hde : d ≤ e) : Tm e μ pc L S w Q := by
  obtain ⟨v, w', h1, h2⟩ := h
  exact ⟨v, w', h1.le hde, h2⟩
theorem tm_go (n : Nat) {pc' : Nat} {L' : Lo} {S' : List Value} {w' : MW} (h : go (cd μ) n pc L S w = some (pc', L', S', w')) (k : Tm d μ pc' L' S' w' Q) : Tm d μ pc L S w Q := by
  obtain ⟨v, w2, h1, h2⟩ := k
  exact ⟨v, w2, ev_go n h h1, h2⟩
theorem tm_i {q : Prop} [Decidable q] {p1 p2 : Nat} {L' : Lo} {S' : List Value} {w' : MW} (h : cd μ pc L S w = if q then some (.inl (p1, L', S', w')) else some (.inl (p2, L', S', w'))) (k1 : q → Tm d μ p1 L' S' w' Q) (k2 : ¬ q → Tm d μ p2 L' S' w' Q) : Tm d μ pc L S w Q := by
  by_cases hq : q
  · obtain ⟨v, w2, h1, h2⟩ := k1 hq
    exact ⟨v, w2, ev_s (by rw [h, if_pos hq]) h1, h2⟩
  · obtain ⟨v, w2, h1, h2⟩ := k2 hq
    exact ⟨v, w2, ev_s (by rw [h, if_neg hq]) h1, h2⟩
theorem tm_k {q : Prop} [Decidable q] {pc' : Nat} {L' : Lo} {S' : List Value} {w' : MW} (h : cd μ pc L S w = if q then some (.inl (pc', L', S', w')) else none) (hq : q) (k : Tm d μ pc' L' S' w' Q) : Tm d μ pc L S w Q := by
  obtain ⟨v, w2, h1, h2⟩ := k
  exact ⟨v, w2, ev_k h hq h1, h2⟩
theorem tm_r {v : Option Value} (h : cd μ pc L S w = some (.inr (.inr v))) (k : Q v w) : Tm d μ pc L S w Q := ⟨v, w, ev_r h, k⟩
theorem tm_rk {q : Prop} [Decidable q] {v : Option Value} (h : cd μ pc L S w = if q then some (.inr (.inr v)) else none) (hq : q) (k : Q v w) : Tm d μ pc L S w Q := ⟨v, w, ev_r (by rw [h, if_pos hq]), k⟩
theorem tm_c {ν : Nat} {as S' : List Value} {Qc : Option Value → MW → Prop} (h : cd μ pc L S w = some (.inr (.inl (ν, as, S')))) (hlen : (lg_sl as).length ≤ (mt ν).2.2.1) (hc : Tc d ν as w Qc) (k : ∀ v w1, Qc v w1 → Tm (d + 1) μ (pc + 3) L (v.toList ++ S') w1 Q) : Tm (d + 1) μ pc L S w Q := by
  obtain ⟨v, w1, h1, h2⟩ := hc
  obtain ⟨v2, w2, h3, h4⟩ := k v w1 h2
  exact ⟨v2, w2, ev_c h hlen h1 h3, h4⟩
end TMS
theorem sI_same (w : MW) (k j : Nat) (v : Int32) : (sI w k j v).1 k j = v := by rw [sI_at, if_pos ⟨rfl, rfl⟩]
theorem sJ_same (w : MW) (k j : Nat) (v : Int64) : (sJ w k j v).2.1 k j = v := by rw [sJ_at, if_pos ⟨rfl, rfl⟩]
theorem sI_J (w : MW) (k j : Nat) (v : Int32) : (sI w k j v).2 = w.2 := rfl
theorem sJ_I (w : MW) (k j : Nat) (v : Int64) : (sJ w k j v).1 = w.1 := rfl
theorem sJ_R (w : MW) (k j : Nat) (v : Int64) : (sJ w k j v).2.2 = w.2.2 := rfl
theorem sR_I (w : MW) (k j : Nat) (v : Option Nat) : (sR w k j v).1 = w.1 := rfl
theorem sR_J (w : MW) (k j : Nat) (v : Option Nat) : (sR w k j v).2.1 = w.2.1 := rfl
theorem sR_at (w : MW) (k j : Nat) (v : Option Nat) (a b : Nat) : (sR w k j v).2.2 a b = if a = k ∧ b = j then v else w.2.2 a b := rfl
/-! numbers: what an int's operations give as whole numbers, where they don't go round -/
theorem ti_add {x y : Int32} (h1 : -2147483648 ≤ x.toInt + y.toInt) (h2 : x.toInt + y.toInt ≤ 2147483647) : (x + y).toInt = x.toInt + y.toInt := by
  rw [Int32.toInt_add, Int.bmod_eq_of_le (by omega) (by omega)]
theorem ti_sub {x y : Int32} (h1 : -2147483648 ≤ x.toInt - y.toInt) (h2 : x.toInt - y.toInt ≤ 2147483647) : (x - y).toInt = x.toInt - y.toInt := by
  rw [Int32.toInt_sub, Int.bmod_eq_of_le (by omega) (by omega)]
theorem ti_mul {x y : Int32} (h1 : -2147483648 ≤ x.toInt * y.toInt) (h2 : x.toInt * y.toInt ≤ 2147483647) : (x * y).toInt = x.toInt * y.toInt := by
  rw [Int32.toInt_mul, Int.bmod_eq_of_le (by omega) (by omega)]
theorem ti_lo (x : Int32) : -2147483648 ≤ x.toInt := Int32.le_toInt x
theorem ti_hi (x : Int32) : x.toInt ≤ 2147483647 := by have := Int32.toInt_lt x; omega
