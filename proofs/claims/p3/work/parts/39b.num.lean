theorem ti_add2 {x y : Int32} {a b : Int} (hx : x.toInt = a) (hy : y.toInt = b) (h1 : -2147483648 ≤ a + b) (h2 : a + b ≤ 2147483647) : (x + y).toInt = a + b := by
  subst hx; subst hy; exact ti_add h1 h2
theorem ti_sub2 {x y : Int32} {a b : Int} (hx : x.toInt = a) (hy : y.toInt = b) (h1 : -2147483648 ≤ a - b) (h2 : a - b ≤ 2147483647) : (x - y).toInt = a - b := by
  subst hx; subst hy; exact ti_sub h1 h2
theorem ti_mul2 {x y : Int32} {a b : Int} (hx : x.toInt = a) (hy : y.toInt = b) (h1 : -2147483648 ≤ a * b) (h2 : a * b ≤ 2147483647) : (x * y).toInt = a * b := by
  subst hx; subst hy; exact ti_mul h1 h2
section TT
variable {d μ pc : Nat} {L : Lo} {S : List Value} {w : MW} {Q : Option Value → MW → Prop}
theorem tm_s {pc' : Nat} {L' : Lo} {S' : List Value} {w' : MW} (h : cd μ pc L S w = some (.inl (pc', L', S', w'))) (k : Tm d μ pc' L' S' w' Q) : Tm d μ pc L S w Q := by
  obtain ⟨v, w2, h1, h2⟩ := k
  exact ⟨v, w2, ev_s h h1, h2⟩
/-- a reference that changes is read -/
theorem tm_g {pc' k j c : Nat} {L' : Lo} {S' : List Value} {w' : MW} (h : cd μ pc L S w = some (.inl (pc', L', fvm w' k j 2 :: S', w'))) (hr : w'.2.2 k j = some c) (k2 : Tm d μ pc' L' (.ref c :: S') w' Q) : Tm d μ pc L S w Q := by
  have e : fvm w' k j 2 = .ref c := by
    show (match w'.2.2 k j with | none => Value.null | some c => .ref c) = _
    rw [hr]
  exact tm_s h (e ▸ k2)
theorem tm_tab {dflt : Nat} {lo : Int} {ts : List Nat} {x : Int32} {t : Nat} (h : cd μ pc L (.int x :: S) w = oTb dflt lo ts L (.int x :: S) w) (hr : ¬ (x.toInt < lo ∨ lo + ts.length ≤ x.toInt)) (ht : ts[(x.toInt - lo).toNat]? = some t) (k : Tm d μ t L S w Q) : Tm d μ pc L (.int x :: S) w Q := tm_s (by rw [h]; simp only [oTb, if_neg hr, ht]) k
theorem tm_tad {dflt : Nat} {lo : Int} {ts : List Nat} {x : Int32} (h : cd μ pc L (.int x :: S) w = oTb dflt lo ts L (.int x :: S) w) (hr : x.toInt < lo ∨ lo + ts.length ≤ x.toInt) (k : Tm d μ dflt L S w Q) : Tm d μ pc L (.int x :: S) w Q := tm_s (by rw [h]; simp only [oTb, if_pos hr]) k
end TT
