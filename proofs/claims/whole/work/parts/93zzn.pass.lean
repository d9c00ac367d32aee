/-! pass on both sides -/
def psv (n v r a b s : Int) : Int32 := if r < 1 ∨ n < r then -1 else if a < 1 ∨ 999 < a ∨ b < 1 ∨ 999 < b ∨ a = b then -2 else if s < 1 ∨ 3600 < s then -3 else if v ≤ 0 then 0 else -4
theorem psv_1 {n v r a b s : Int} (h1 : r < 1 ∨ n < r) : psv n v r a b s = -1 := by
  unfold psv
  rw [if_pos h1]
theorem psv_2 {n v r a b s : Int} (h1 : ¬ (r < 1 ∨ n < r)) (h2 : a < 1 ∨ 999 < a ∨ b < 1 ∨ 999 < b ∨ a = b) : psv n v r a b s = -2 := by
  unfold psv
  rw [if_neg h1, if_pos h2]
theorem psv_3 {n v r a b s : Int} (h1 : ¬ (r < 1 ∨ n < r)) (h2 : ¬ (a < 1 ∨ 999 < a ∨ b < 1 ∨ 999 < b ∨ a = b)) (h3 : s < 1 ∨ 3600 < s) : psv n v r a b s = -3 := by
  unfold psv
  rw [if_neg h1, if_neg h2, if_pos h3]
theorem psv_0 {n v r a b s : Int} (h1 : ¬ (r < 1 ∨ n < r)) (h2 : ¬ (a < 1 ∨ 999 < a ∨ b < 1 ∨ 999 < b ∨ a = b)) (h3 : ¬ (s < 1 ∨ 3600 < s)) (h4 : v ≤ 0) : psv n v r a b s = 0 := by
  unfold psv
  rw [if_neg h1, if_neg h2, if_neg h3, if_pos h4]
theorem psv_4 {n v r a b s : Int} (h1 : ¬ (r < 1 ∨ n < r)) (h2 : ¬ (a < 1 ∨ 999 < a ∨ b < 1 ∨ 999 < b ∨ a = b)) (h3 : ¬ (s < 1 ∨ 3600 < s)) (h4 : ¬ v ≤ 0) : psv n v r a b s = -4 := by
  unfold psv
  rw [if_neg h1, if_neg h2, if_neg h3, if_neg h4]
theorem isp_x {w : MW} {x : Int32} {Q : Int32 → MW → Prop} (h1 : ¬ (x.toInt < 1 ∨ 999 < x.toInt) → Q 1 w) (h0 : (x.toInt < 1 ∨ 999 < x.toInt) → Q 0 w) : p_Bh_isPerson w x Q :=
  Eq.mpr (p_Bh_isPerson.eq_1 _ _ _) ⟨fun d => h0 (Or.inl d), fun d => ⟨fun d2 => h0 (Or.inr d2), fun d2 => h1 (by omega)⟩⟩
/-- what pass does; k the cell of the passes -/
def PsE (k : Nat) (n : Int) (w : MW) (r a b s : Int32) (x : Int32) (w' : MW) : Prop := x = psv n (w.1 k (r - (1 : Int32)).toInt.toNat).toInt r.toInt a.toInt b.toInt s.toInt ∧ ((x = 0 ∧ (1 ≤ r.toInt ∧ r.toInt ≤ n) ∧ (1 ≤ s.toInt ∧ s.toInt ≤ 3600) ∧ w' = sI w k (r - (1 : Int32)).toInt.toNat s) ∨ (¬ x = 0 ∧ w' = w))
theorem cs_pass {w : MW} {r a b s : Int32} {Q : Int32 → MW → Prop} (h4 : w.2.2 47 3 = some 48) (n4 : (w.1 48 0).toInt ≤ 40) (hQ : ∀ x w', PsE 51 (w.1 48 0).toInt w r a b s x w' → Q x w') : p_Bh_pass w r a b s Q := by
  have e1 : 1 ≤ r.toInt → (r - (1 : Int32)).toInt = r.toInt - 1 := fun c => by
    have := ti_hi r
    exact ti_sub2 (Eq.refl r.toInt) i_1 (by omega) (by omega)
  have z1 : (r.toInt < 1 ∨ (w.1 48 0).toInt < r.toInt) → Q (-1) w := fun c => hQ _ _ ⟨(psv_1 c).symm, Or.inr ⟨by decide, rfl⟩⟩
  refine Eq.mpr (p_Bh_pass.eq_1 _ _ _ _ _ _) ⟨h4, Eq.mpr (p_Ro_has.eq_1 _ _ _) ⟨fun c => ⟨fun z => absurd i_0 z, fun _ => z1 (Or.inl c)⟩, fun c => ⟨fun c2 => ⟨fun z => absurd i_0 z, fun _ => z1 (Or.inr c2)⟩, fun c2 => ⟨fun _ => ?_, fun z => absurd i1n z⟩⟩⟩⟩
  have h1 : ¬ (r.toInt < 1 ∨ (w.1 48 0).toInt < r.toInt) := by omega
  have z2 : (a.toInt < 1 ∨ 999 < a.toInt ∨ b.toInt < 1 ∨ 999 < b.toInt ∨ a.toInt = b.toInt) → Q (-2) w := fun c => hQ _ _ ⟨(psv_2 h1 c).symm, Or.inr ⟨by decide, rfl⟩⟩
  refine isp_x (fun d => ⟨fun z => absurd z i1n, fun _ => isp_x (fun d2 => ⟨fun z => absurd z i1n, fun _ => ⟨fun d3 => ?_, fun d3 => z2 (by omega)⟩⟩) (fun d2 => ⟨fun _ => z2 (by omega), fun z => absurd i_0 z⟩)⟩) (fun d => ⟨fun _ => z2 (by omega), fun z => absurd i_0 z⟩)
  have h2 : ¬ (a.toInt < 1 ∨ 999 < a.toInt ∨ b.toInt < 1 ∨ 999 < b.toInt ∨ a.toInt = b.toInt) := by omega
  have z3 : (s.toInt < 1 ∨ 3600 < s.toInt) → Q (-3) w := fun c => hQ _ _ ⟨(psv_3 h1 h2 c).symm, Or.inr ⟨by decide, rfl⟩⟩
  refine ⟨fun c3 => z3 (Or.inl c3), fun c3 => ⟨fun c4 => ?_, fun c4 => z3 (Or.inr (by omega))⟩⟩
  have ee := e1 (by omega)
  have bb : 0 ≤ (r - (1 : Int32)).toInt ∧ (r - (1 : Int32)).toInt < 40 := by omega
  exact ⟨h4, bb, fun c5 => ⟨h4, bb, hQ _ _ ⟨(psv_0 h1 h2 (by omega) c5).symm, Or.inl ⟨rfl, by omega, by omega, rfl⟩⟩⟩, fun c5 => hQ _ _ ⟨(psv_4 h1 h2 (by omega) c5).symm, Or.inr ⟨by decide, rfl⟩⟩⟩
theorem ms_pass {w : MW} {r a b s : Int32} {Q : Int32 → MW → Prop} (n4 : (w.1 147 20).toInt ≤ 40) (hQ : ∀ x w', PsE 162 (w.1 147 20).toInt w r a b s x w' → Q x w') : p_Mo_pass w r a b s Q := by
  have e1 : 1 ≤ r.toInt → (r - (1 : Int32)).toInt = r.toInt - 1 := fun c => by
    have := ti_hi r
    exact ti_sub2 (Eq.refl r.toInt) i_1 (by omega) (by omega)
  have z1 : (r.toInt < 1 ∨ (w.1 147 20).toInt < r.toInt) → Q (-1) w := fun c => hQ _ _ ⟨(psv_1 c).symm, Or.inr ⟨by decide, rfl⟩⟩
  refine Eq.mpr (p_Mo_pass.eq_1 _ _ _ _ _ _) (Eq.mpr (p_Mr_pass.eq_1 _ _ _ _ _ _) (Eq.mpr (p_Mr_isRow.eq_1 _ _ _) ⟨fun c => ⟨fun z => absurd i_0 z, fun _ => z1 (Or.inl c)⟩, fun c => ⟨fun c2 => ⟨fun z => absurd i_0 z, fun _ => z1 (Or.inr c2)⟩, fun c2 => ⟨fun _ => ?_, fun z => absurd i1n z⟩⟩⟩))
  have h1 : ¬ (r.toInt < 1 ∨ (w.1 147 20).toInt < r.toInt) := by omega
  have z2 : (a.toInt < 1 ∨ 999 < a.toInt ∨ b.toInt < 1 ∨ 999 < b.toInt ∨ a.toInt = b.toInt) → Q (-2) w := fun c => hQ _ _ ⟨(psv_2 h1 c).symm, Or.inr ⟨by decide, rfl⟩⟩
  refine ⟨fun d => z2 (by omega), fun d => ⟨fun d1 => z2 (by omega), fun d1 => ⟨fun d2 => z2 (by omega), fun d2 => ⟨fun d3 => z2 (by omega), fun d3 => ⟨fun d4 => ?_, fun d4 => z2 (by omega)⟩⟩⟩⟩⟩
  have h2 : ¬ (a.toInt < 1 ∨ 999 < a.toInt ∨ b.toInt < 1 ∨ 999 < b.toInt ∨ a.toInt = b.toInt) := by omega
  have z3 : (s.toInt < 1 ∨ 3600 < s.toInt) → Q (-3) w := fun c => hQ _ _ ⟨(psv_3 h1 h2 c).symm, Or.inr ⟨by decide, rfl⟩⟩
  refine ⟨fun c3 => z3 (Or.inl c3), fun c3 => ⟨fun c4 => ?_, fun c4 => z3 (Or.inr (by omega))⟩⟩
  have ee := e1 (by omega)
  have bb : 0 ≤ (r - (1 : Int32)).toInt ∧ (r - (1 : Int32)).toInt < 40 := by omega
  exact ⟨bb, fun c5 => ⟨bb, hQ _ _ ⟨(psv_0 h1 h2 (by omega) c5).symm, Or.inl ⟨rfl, by omega, by omega, rfl⟩⟩⟩, fun c5 => hQ _ _ ⟨(psv_4 h1 h2 (by omega) c5).symm, Or.inr ⟨by decide, rfl⟩⟩⟩
