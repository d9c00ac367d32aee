/-! the class's isOn tells the value of a condition -/
theorem io_10 {w : MW} {RI : Int32} {r M e1 : Nat} {E : Int64 → MW → Prop} {Q : Int32 → MW → Prop} (hr : RI.toInt = (r : Int)) (r4 : r < 40) (M6 : M ≤ 43) (e4 : e1 ≤ 1400) (he : (w.1 55 (r + 1)).toInt = (e1 : Int)) (a1 : ∀ y : Int32, (y &&& (1 : Int32)).toInt = 0 ∨ (y &&& (1 : Int32)).toInt = 1) : ∀ (l : List Int) (p : Nat) (x : Int64) (st : List Bool) (h' m : Nat), Bst x st → hgo M l st.length h' → st.length ≤ M → p + l.length = e1 → (∀ (j : Nat) (y : Int), l[j]? = some y → (w.1 56 (p + j)).toInt = y) → (∀ y ∈ l, 0 ≤ y ∧ y ≤ 18) → l.length < m → (∀ x', Bst x' (rnS (sbt (w.1 48 1)) l st) → E x' w) → q_Ro_isOn_10 RI E Q m x (nI p) w := by
  have s1 := ti_add2 hr i_1 (by omega) (by omega)
  have en : (RI + (1 : Int32)).toInt.toNat = r + 1 := by rw [s1]; omega
  have bR : 0 ≤ (RI + (1 : Int32)).toInt ∧ (RI + (1 : Int32)).toInt < 41 := by rw [s1]; omega
  intro l
  induction l with
  | nil =>
    intro p x st h' m hB hg hM hp hc hy hm hE
    have hp' : p = e1 := hp
    cases m with
    | zero => exact absurd hm (Nat.not_lt_zero _)
    | succ m =>
      have tp : (nI p).toInt = (p : Int) := nI_toInt (by omega)
      rw [q_Ro_isOn_10.eq_2, en, he, tp]
      exact ⟨bR, fun _ => hE x hB, fun z => by omega⟩
  | cons c l ih =>
    intro p x st h' m hB hg hM hp hc hy hm hE
    have hp' : p + (l.length + 1) = e1 := hp
    cases m with
    | zero => exact absurd hm (Nat.not_lt_zero _)
    | succ m =>
      have hm' : l.length < m := Nat.lt_of_succ_lt_succ hm
      have tp : (nI p).toInt = (p : Int) := nI_toInt (by omega)
      have tn : (nI p).toInt.toNat = p := by omega
      have bp : 0 ≤ (nI p).toInt ∧ (nI p).toInt < 1400 := by omega
      have ec : (w.1 56 p).toInt = c := hc 0 c rfl
      have cy := hy c List.mem_cons_self
      obtain ⟨h1, k1, k2, k3⟩ := hg
      have next : ∀ (x' : Int64) (st' : List Bool), Bst x' st' → st'.length = h1 → stp (sbt (w.1 48 1)) c st = st' → q_Ro_isOn_10 RI E Q m x' (nI p + (1 : Int32)) w := fun x' st' b' e' es => by
        rw [nI_1]
        refine ih (p + 1) x' st' h' m b' (by rw [e']; exact k3) (by omega) (by omega) (fun j y hj => ?_) (fun y hy' => hy y (List.mem_cons_of_mem _ hy')) hm' (fun x2 b2 => hE x2 ?_)
        · rw [show p + 1 + j = p + (j + 1) by omega]
          exact hc (j + 1) y hj
        · show Bst x2 (rnS _ l (stp _ c st))
          rw [es]
          exact b2
      rw [q_Ro_isOn_10.eq_2, en, he, tn, ec]
      refine ⟨bR, fun z => by omega, fun _ => ⟨bp, fun c16 => ⟨bp, fun n16 => ⟨bp, fun n17 => ?_, fun n17 => ?_⟩, fun n16 => ?_⟩, fun c16 => ⟨bp, ?_⟩⟩⟩
      · rw [if_neg (by omega), if_neg n16] at k1
        match st, hB, k1, next with
        | y :: a :: st, hB, k1, next =>
          refine next _ ((a || y) :: st) (b_or hB) (by have := k1.2; simp only [List.length_cons] at this ⊢; omega) ?_
          unfold stp
          rw [if_neg n16, if_neg n17, if_pos (by omega)]
        | [y], hB, k1, next => exact absurd (show 2 ≤ 1 from k1.1) (by decide)
        | [], hB, k1, next => exact absurd k1.1 (by decide)
      · have e17 := Classical.not_not.mp n17
        rw [if_neg (by omega), if_neg n16] at k1
        match st, hB, k1, next with
        | y :: a :: st, hB, k1, next =>
          refine next _ ((a && y) :: st) (b_and hB) (by have := k1.2; simp only [List.length_cons] at this ⊢; omega) ?_
          unfold stp
          rw [if_neg n16, if_pos e17]
        | [y], hB, k1, next => exact absurd (show 2 ≤ 1 from k1.1) (by decide)
        | [], hB, k1, next => exact absurd k1.1 (by decide)
      · have e16 := Classical.not_not.mp n16
        rw [if_neg (by omega), if_pos e16] at k1
        match st, hB, k1, next with
        | a :: st, hB, k1, next =>
          refine next _ ((!a) :: st) (b_not hB) (by have := k1.2; simp only [List.length_cons] at this ⊢; omega) ?_
          unfold stp
          rw [if_pos e16]
        | [], hB, k1, next => exact absurd k1.1 (by decide)
      · rw [if_pos (by omega)] at k1
        refine next _ (sbt (w.1 48 1) c :: st) (b_push hB (by omega) ?_) (by rw [List.length_cons, k1]) ?_
        · have t := a1 ((w.1 48 1) >>> ((w.1 56 p) &&& 31))
          have en2 : nI c.toNat = w.1 56 p := by
            rw [← ec]
            exact nI_tn (by omega)
          unfold sbt
          rw [en2]
          rcases t with t | t
          · rw [t]
            rfl
          · rw [t]
            rfl
        · unfold stp
          rw [if_neg (by omega), if_neg (by omega), if_neg (by omega)]
theorem an_1 (y : Int32) : (y &&& (1 : Int32)).toInt = 0 ∨ (y &&& (1 : Int32)).toInt = 1 := by
  cases e : mb y 0 with
  | false => exact Or.inl ((mb_and1 y).mpr e)
  | true =>
    right
    have h : (y &&& (1 : Int32)).toBitVec = (1 : Int32).toBitVec := by
      apply BitVec.eq_of_getLsbD_eq
      intro i hi
      have o : (1 : Int32).toBitVec.getLsbD i = decide (i = 0) := by
        show (1#32).getLsbD i = _
        rw [BitVec.getLsbD_one]
        simp
      rw [Int32.toBitVec_and, BitVec.getLsbD_and, o]
      by_cases q : i = 0
      · rw [q]
        unfold mb at e
        rw [e]
        rfl
      · simp [q]
    have h2 : (y &&& (1 : Int32)) = 1 := Int32.toBitVec_inj.mp h
    rw [h2]
    rfl
