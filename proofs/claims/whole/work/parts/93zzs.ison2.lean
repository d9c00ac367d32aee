/-! the class's isOn -/
theorem rn_len {M : Nat} {s : Int → Bool} : ∀ (l : List Int) (st : List Bool) (h' : Nat), hgo M l st.length h' → (∀ y ∈ l, y ≤ 18) → (rnS s l st).length = h' := by
  intro l
  induction l with
  | nil => exact fun st h' h _ => h
  | cons c l ih =>
    intro st h' h hy
    obtain ⟨h1, k1, k2, k3⟩ := h
    have cy := hy c List.mem_cons_self
    refine ih (stp s c st) h' ?_ (fun y hy' => hy y (List.mem_cons_of_mem _ hy'))
    have e : (stp s c st).length = h1 := by
      unfold stp
      by_cases c15 : c ≤ 15
      · rw [if_pos c15] at k1
        rw [if_neg (by omega), if_neg (by omega), if_neg (by omega), List.length_cons, k1]
      · rw [if_neg c15] at k1
        by_cases c16 : c = 16
        · rw [if_pos c16] at k1 ⊢
          match st, k1 with
          | a :: st, k1 => rw [k1.2]; rfl
          | [], k1 => exact absurd (show 1 ≤ 0 from k1.1) (by decide)
        · rw [if_neg c16] at k1 ⊢
          by_cases c17 : c = 17
          · rw [if_pos c17]
            match st, k1 with
            | y :: a :: st, k1 => have := k1.2; simp only [List.length_cons] at this ⊢; omega
            | [y], k1 => exact absurd (show 2 ≤ 1 from k1.1) (by decide)
            | [], k1 => exact absurd (show 2 ≤ 0 from k1.1) (by decide)
          · rw [if_neg c17, if_pos (by omega)]
            match st, k1 with
            | y :: a :: st, k1 => have := k1.2; simp only [List.length_cons] at this ⊢; omega
            | [y], k1 => exact absurd (show 2 ≤ 1 from k1.1) (by decide)
            | [], k1 => exact absurd (show 2 ≤ 0 from k1.1) (by decide)
    rw [e]
    exact k3
theorem bst_1 {x : Int64} {v : Bool} (h : Bst x [v]) : (lg_cmp (x &&& (1 : Int64)) (0 : Int64)).toInt = 0 ↔ v = false := by
  rw [lg0]
  constructor
  · intro e
    have t : (x &&& (1 : Int64)).toBitVec.getLsbD 0 = (0 : Int64).toBitVec.getLsbD 0 := by rw [e]
    rw [l_an, BitVec.getLsbD_and, l_1, h 0] at t
    cases v with
    | false => rfl
    | true => exact absurd t (by decide)
  · intro e
    have t : (x &&& (1 : Int64)).toBitVec = (0 : Int64).toBitVec := by
      apply BitVec.eq_of_getLsbD_eq
      intro i hi
      show _ = (0#64).getLsbD i
      rw [l_an, BitVec.getLsbD_and, l_1, h i, BitVec.getLsbD_zero, e]
      cases i with
      | zero => rfl
      | succ i => simp
    exact Int64.toBitVec_inj.mp t
theorem co_isOn {w : MW} {RI : Int32} {r b : Nat} {l : List Int} {Q : Int32 → MW → Prop} (hr : RI.toInt = (r : Int)) (r4 : r < 40) (hb : (w.1 55 r).toInt = (b : Int)) (he : (w.1 55 (r + 1)).toInt = ((b + l.length : Nat) : Int)) (e4 : b + l.length ≤ 1400) (hc : ∀ (j : Nat) (y : Int), l[j]? = some y → (w.1 56 (b + j)).toInt = y) (hy : ∀ y ∈ l, 0 ≤ y ∧ y ≤ 18) (hg : hgo 43 l 0 1) (hQ : ∀ (v : Bool) (x : Int32), rnS (sbt (w.1 48 1)) l [] = [v] → x.toInt = (if v = true then 1 else 0) → Q x w) : p_Ro_isOn w RI Q := by
  have en : RI.toInt.toNat = r := by rw [hr]; omega
  have eb : w.1 55 r = nI b := by
    have t := nI_tn (a := w.1 55 r) (by omega)
    rw [show (w.1 55 r).toInt.toNat = b by omega] at t
    exact t.symm
  refine Eq.mpr (p_Ro_isOn.eq_1 _ _ _) ⟨by rw [hr]; omega, ?_⟩
  rw [en, eb]
  refine io_10 hr r4 (Nat.le_refl 43) e4 he an_1 l b 0 [] 1 FU (fun j => ?_) hg (Nat.zero_le _) rfl hc hy (Nat.lt_of_le_of_lt (show _ ≤ 1400 by omega) (fu_lt (by decide))) (fun x' hx => ?_)
  · show (0#64).getLsbD j = _
    rw [BitVec.getLsbD_zero]
    rfl
  · have ln := rn_len (s := sbt (w.1 48 1)) l [] 1 hg (fun y h => (hy y h).2)
    match hst : rnS (sbt (w.1 48 1)) l [], ln with
    | [v], _ =>
      rw [hst] at hx
      have t := bst_1 hx
      cases v with
      | false => exact ⟨fun _ => hQ false 0 hst i_0, fun z => absurd (t.mpr rfl) z⟩
      | true => exact ⟨fun z => absurd (t.mp z) (by decide), fun _ => hQ true 1 hst i_1⟩
