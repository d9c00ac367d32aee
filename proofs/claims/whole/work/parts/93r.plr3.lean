/-! a line of a plant is the same to both sides -/
theorem dz {b : Bool} {r : Int32} {q : Int} {x : Bool × Int} (h : x = (decide (¬ r.toInt = 0), q)) : (r.toInt = 0 → x = (false, q)) ∧ (¬ r.toInt = 0 → x = (true, q)) := by
  refine ⟨fun c => ?_, fun c => ?_⟩
  · rw [h, decide_eq_false (fun y => y c)]
  · rw [h, decide_eq_true c]
theorem a30 : aN 3 0 = 1 := by decide
theorem a31 : aN 3 1 = 1 := by decide
theorem a32 : aN 3 2 = 0 := by decide
theorem a00 : aN 0 0 = 0 := by decide
theorem a20 : aN 2 0 = 0 := by decide
theorem cn_m : cnt_ (-1) = 0 := by decide
theorem cn_0 : cnt_ 0 = 1 := by decide
theorem cn_1 : cnt_ 1 = 0 := by decide
theorem cn_2 : cnt_ 2 = 1 := by decide
theorem cn_3 : cnt_ 3 = 3 := by decide
theorem ne01 : ¬ ((0 : Int32) = 1) := by decide
/-- a line with one word -/
theorem pl_one {t : MW} (hl : (t.1 127 22).toInt ≤ 4000) {p p1 r q k : Int32} {a : Nat → Int32} {ls : List Int} (hk : k = 0 ∨ k = 2) (p0 : 0 ≤ p.toInt) (q0 : 0 ≤ p1.toInt) (q1 : p1.toInt ≤ 4000) (h1 : tks (hf t) ls p.toInt = (true, p1.toInt)) (h : (∃ m, WRn m k (cnt_ k) 0 t p1 0 q a) ∧ r = -1 ∨ (∃ m, WRn m k (cnt_ k) 0 t p1 1 q a) ∧ ((k.toInt = -1 ∧ r = -1) ∨ (¬ k.toInt = -1 ∧ ¬ (hv t q).toInt = 10 ∧ r = -1) ∨ (¬ k.toInt = -1 ∧ (hv t q).toInt = 10 ∧ r = k))) : LnE r q a (lnN (hf t) k.toInt (ls ++ [32]) p.toInt) ∧ 0 ≤ q.toInt ∧ q.toInt ≤ 4000 := by
  have ec : cnt_ k = 1 := by rcases hk with e | e <;> rw [e] <;> decide
  have ea : aN k 0 = 0 := by rcases hk with e | e <;> rw [e] <;> decide
  have kt : k.toInt = 0 ∨ k.toInt = 2 := by rcases hk with e | e <;> rw [e] <;> decide
  have hp := tks_t _ _ _ _ h1
  rw [ec] at h
  have one : ∀ f, (∃ m, WRn m k 1 0 t p1 f q a) → (0 ≤ q.toInt ∧ q.toInt ≤ 4000) ∧ ((f = 0 ∧ lnN (hf t) k.toInt (ls ++ [32]) p.toInt = (-1, 0, 0, 0, q.toInt)) ∨ (f = 1 ∧ lnN (hf t) k.toInt (ls ++ [32]) p.toInt = if hf t q.toInt = 10 then (k.toInt, (a 0).toInt, 0, 0, q.toInt) else (-1, 0, 0, 0, q.toInt))) := fun f hm => by
    obtain ⟨m, hm⟩ := hm
    obtain ⟨p2, hn, hh⟩ := wr_1 hm (by decide)
    rw [ea] at hn
    have e0 : (0 : Int32).toInt.toNat = 0 := by decide
    rw [e0] at hn hh
    have g := nm_nmS hl q0 q1 hn
    have eb : decide (¬ ((0 : Int32)).toInt = 0) = false := by decide
    rw [eb] at g
    have L := ln_one (k := k.toInt) h1 hp g.1 g.2.2.2.1
    rcases hh with ⟨c, e1, e2⟩ | ⟨c, m2, hm2⟩
    · rw [e2]
      exact ⟨g.2.1 |> fun x => ⟨x, g.2.2.1⟩, Or.inl ⟨e1, L.1 c⟩⟩
    · have ee := wr_e hm2 (by decide)
      rw [ee.2]
      exact ⟨⟨g.2.1, g.2.2.1⟩, Or.inr ⟨ee.1, L.2 c⟩⟩
  rcases h with ⟨hm, er⟩ | ⟨hm, hh⟩
  · have o := one 0 hm
    refine ⟨?_, o.1⟩
    rcases o.2 with ⟨_, e⟩ | ⟨e, _⟩
    · rw [e, er]
      exact ⟨rfl, Or.inl ⟨i_m1, rfl⟩⟩
    · exact absurd e ne01
  · have o := one 1 hm
    refine ⟨?_, o.1⟩
    rcases o.2 with ⟨e, _⟩ | ⟨_, e⟩
    · exact absurd e.symm ne01
    · rw [e]
      rcases hh with ⟨c, _⟩ | ⟨_, c, er⟩ | ⟨_, c, er⟩
      · omega
      · rw [hv_hf t o.1.1] at c
        rw [if_neg c, er]
        exact ⟨rfl, Or.inl ⟨i_m1, rfl⟩⟩
      · rw [hv_hf t o.1.1] at c
        rw [if_pos c, er]
        rcases kt with kk | kk
        · exact ⟨rfl, Or.inr (Or.inl ⟨kk, kk, rfl⟩)⟩
        · exact ⟨rfl, Or.inr (Or.inr (Or.inr (Or.inl ⟨kk, kk, rfl⟩)))⟩
/-- a line that is wrong in its letters -/
theorem pl_bad {t : MW} {p1 r q : Int32} {a : Nat → Int32} (h : (∃ m, WRn m (-1) (cnt_ (-1)) 0 t p1 0 q a) ∧ r = -1 ∨ (∃ m, WRn m (-1) (cnt_ (-1)) 0 t p1 1 q a) ∧ ((((-1 : Int32)).toInt = -1 ∧ r = -1) ∨ (¬ ((-1 : Int32)).toInt = -1 ∧ ¬ (hv t q).toInt = 10 ∧ r = -1) ∨ (¬ ((-1 : Int32)).toInt = -1 ∧ (hv t q).toInt = 10 ∧ r = -1))) : r = -1 ∧ q = p1 := by
  rw [cn_m] at h
  rcases h with ⟨⟨m, hm⟩, e⟩ | ⟨⟨m, hm⟩, e⟩
  · exact ⟨e, (wr_0 hm).2⟩
  · refine ⟨?_, (wr_0 hm).2⟩
    rcases e with e | e | e
    · exact e.2
    · exact e.2.2
    · exact e.2.2
theorem ln_bad {t : MW} {r q p1 : Int32} {a : Nat → Int32} (h : r = -1 ∧ q = p1) : LnE r q a (-1, 0, 0, 0, p1.toInt) := by
  rw [h.1, h.2]
  exact ⟨rfl, Or.inl ⟨i_m1, rfl⟩⟩
