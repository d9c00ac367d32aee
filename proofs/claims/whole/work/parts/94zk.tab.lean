/-! need, lasts, watch: what they write, on both sides -/
theorem tn_need {w : MW} {a b c : Int32} {Q : Int32 → MW → Prop} (hQ : ∀ (y : Int32) (w' : MW), (CN a b c ∧ y = 1 ∧ w' = sI w 24 (15 * a.toInt.toNat + b.toInt.toNat) c) ∨ (¬ CN a b c ∧ y = 0 ∧ w' = w) → Q y w') : p_Bh_need w a b c Q := by
  have no : ¬ CN a b c → Q 0 w := fun n => hQ 0 w (Or.inr ⟨n, rfl, rfl⟩)
  refine Eq.mpr (p_Bh_need.eq_1 _ _ _ _ _) (bh_liq (fun n => ⟨fun _ => no (fun q => n q.1), fun z => absurd i_0 z⟩) (fun a1 a2 => ⟨fun z => absurd z (by decide), fun _ => bh_liq (fun n => ⟨fun _ => no (fun q => n q.2.1), fun z => absurd i_0 z⟩) (fun b1 b2 => ⟨fun z => absurd z (by decide), fun _ => ⟨fun c0 => no (fun q => by have := q.2.2.1; omega), fun c0 => ⟨fun c5 => ?_, fun c5 => no (fun q => by have := q.2.2.2; omega)⟩⟩⟩)⟩))
  have m := ti_mul2 (Eq.refl a.toInt) (by decide : ((15 : Int32)).toInt = 15) (by omega) (by omega)
  have s := ti_add2 m (Eq.refl b.toInt) (by omega) (by omega)
  have e : ((a * (15 : Int32)) + b).toInt.toNat = 15 * a.toInt.toNat + b.toInt.toNat := by rw [s]; omega
  rw [e]
  exact ⟨⟨by omega, by omega⟩, hQ 1 _ (Or.inl ⟨⟨⟨a1, a2⟩, ⟨b1, b2⟩, by omega, c5⟩, rfl, rfl⟩)⟩
theorem tm_need {w : MW} {a b c : Int32} {Q : Int32 → MW → Prop} (hQ : ∀ (y : Int32) (w' : MW), (CN a b c ∧ y = 1 ∧ w' = sI w 176 (16 * a.toInt.toNat + b.toInt.toNat) c) ∨ (¬ CN a b c ∧ y = 0 ∧ w' = w) → Q y w') : p_Mo_need w a b c Q := by
  have N : ((a.toInt < 1 ∨ 14 < a.toInt) ∨ (b.toInt < 1 ∨ 14 < b.toInt) ∨ c.toInt < 0 ∨ 5 < c.toInt) → Q 0 w := fun o => hQ 0 w (Or.inr ⟨fun q => by
    have q1 := q.1
    have q2 := q.2.1
    have q3 := q.2.2
    omega, rfl, rfl⟩)
  refine Eq.mpr (p_Mo_need.eq_1 _ _ _ _ _) ⟨fun _ => N (by omega), fun a1 => ⟨fun _ => N (by omega), fun a2 => ⟨fun _ => N (by omega), fun b1 => ⟨fun _ => N (by omega), fun b2 => ⟨fun _ => N (by omega), fun c0 => ⟨fun c5 => ?_, fun _ => N (by omega)⟩⟩⟩⟩⟩⟩
  have m := ti_mul2 (by decide : ((16 : Int32)).toInt = 16) (Eq.refl a.toInt) (by omega) (by omega)
  have s := ti_add2 m (Eq.refl b.toInt) (by omega) (by omega)
  have e : (((16 : Int32) * a) + b).toInt.toNat = 16 * a.toInt.toNat + b.toInt.toNat := by rw [s]; omega
  rw [e]
  exact ⟨⟨by omega, by omega⟩, hQ 1 _ (Or.inl ⟨⟨⟨by omega, by omega⟩, ⟨by omega, by omega⟩, by omega, c5⟩, rfl, rfl⟩)⟩
theorem tn_lasts {w : MW} {a b : Int32} {Q : Int32 → MW → Prop} (hQ : ∀ (y : Int32) (w' : MW), (CLs a b ∧ y = 1 ∧ w' = sI w 25 a.toInt.toNat b) ∨ (¬ CLs a b ∧ y = 0 ∧ w' = w) → Q y w') : p_Bh_lasts w a b Q := by
  have N : ((a.toInt < 1 ∨ 5 < a.toInt) ∨ b.toInt < 0 ∨ 1000000 < b.toInt) → Q 0 w := fun o => hQ 0 w (Or.inr ⟨fun q => by
    have q1 := q.1
    have q2 := q.2
    omega, rfl, rfl⟩)
  exact Eq.mpr (p_Bh_lasts.eq_1 _ _ _ _) ⟨fun _ => N (by omega), fun a1 => ⟨fun _ => N (by omega), fun a2 => ⟨fun _ => N (by omega), fun b0 => ⟨fun b1 => ⟨⟨by omega, by omega⟩, hQ 1 _ (Or.inl ⟨⟨⟨by omega, by omega⟩, by omega, b1⟩, rfl, rfl⟩)⟩, fun _ => N (by omega)⟩⟩⟩⟩
theorem tm_lasts {w : MW} {a b : Int32} {Q : Int32 → MW → Prop} (hQ : ∀ (y : Int32) (w' : MW), (CLs a b ∧ y = 1 ∧ w' = sI w 177 a.toInt.toNat b) ∨ (¬ CLs a b ∧ y = 0 ∧ w' = w) → Q y w') : p_Mo_lasts w a b Q := by
  have N : ((a.toInt < 1 ∨ 5 < a.toInt) ∨ b.toInt < 0 ∨ 1000000 < b.toInt) → Q 0 w := fun o => hQ 0 w (Or.inr ⟨fun q => by
    have q1 := q.1
    have q2 := q.2
    omega, rfl, rfl⟩)
  exact Eq.mpr (p_Mo_lasts.eq_1 _ _ _ _) ⟨fun _ => N (by omega), fun a1 => ⟨fun _ => N (by omega), fun a2 => ⟨fun _ => N (by omega), fun b0 => ⟨fun b1 => ⟨⟨by omega, by omega⟩, hQ 1 _ (Or.inl ⟨⟨⟨by omega, by omega⟩, by omega, b1⟩, rfl, rfl⟩)⟩, fun _ => N (by omega)⟩⟩⟩⟩
/-- the tables of both sides are one: needs, what lasts, what is watched -/
def TB (w : MW) : Prop := (∀ i j : Nat, 1 ≤ i → i ≤ 14 → 1 ≤ j → j ≤ 14 → w.1 24 (15 * i + j) = w.1 176 (16 * i + j)) ∧ (∀ l : Nat, 1 ≤ l → l ≤ 5 → w.1 25 l = w.1 177 l) ∧ ∀ c : Nat, c < 16 → w.1 126 c = w.1 203 c ∧ w.1 124 c = w.1 204 c ∧ w.2.1 125 c = w.2.1 205 c
