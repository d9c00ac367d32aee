/-! the class writes the text of its plant -/
/-- the lines of a good plant -/
def GL (ls : List Ln) : Prop := (∀ y ∈ thg ls, gdT y ∧ (y.1 = 0 → 1 ≤ y.2.1 ∧ y.2.1 ≤ 100000)) ∧ (∀ y ∈ pip ls, y.1 = 3 ∧ -1 ≤ y.2.1 ∧ y.2.1 < 20 ∧ -1 ≤ y.2.2.1 ∧ y.2.2.1 < 20 ∧ 1 ≤ y.2.2.2 ∧ y.2.2.2 ≤ 200) ∧ (thg ls).length ≤ 20 ∧ (pip ls).length ≤ 24
theorem gl_nil : GL [] := ⟨fun y h => (by cases h), fun y h => (by cases h), by decide, by decide⟩
theorem gl_s {ls : List Ln} {x : Ln} (h : GL ls) (ok : okL ls x) : GL (ls ++ [x]) := by
  by_cases x3 : x.1 = 3
  · have o := ok_p x3 ok
    have t20 := h.2.2.1
    refine ⟨?_, ?_, ?_, ?_⟩
    · rw [thg_p ls x x3]
      exact h.1
    · rw [pip_p ls x x3]
      intro y hy
      rcases List.mem_append.mp hy with q | q
      · exact h.2.1 y q
      · have e : y = x := List.mem_singleton.mp q
        rw [e]
        exact ⟨x3, o.2.2.2.1.1, by omega, o.2.2.2.2.1, by omega, o.2.1, o.2.2.1⟩
    · rw [thg_p ls x x3]
      exact t20
    · rw [pip_p ls x x3, List.length_append]
      show (pip ls).length + 1 ≤ 24
      omega
  · have lt := ok_t x3 ok
    refine ⟨?_, ?_, ?_, ?_⟩
    · rw [thg_t ls x x3]
      intro y hy
      rcases List.mem_append.mp hy with q | q
      · exact h.1 y q
      · have e : y = x := List.mem_singleton.mp q
        rw [e]
        refine ⟨gd_ok ok x3, fun x0 => ?_⟩
        rcases ok with o | o | o | o
        · exact ⟨o.2.1, o.2.2.1⟩
        · omega
        · omega
        · omega
    · rw [pip_t ls x x3]
      exact h.2.1
    · rw [thg_t ls x x3, List.length_append]
      show (thg ls).length + 1 ≤ 20
      omega
    · rw [pip_t ls x x3]
      exact h.2.2.2
theorem plr_gl {f : Int → Int} {n : Int} : ∀ (k : Nat) (p : Int) (ls : List Ln) (r : Int) (ls' : List Ln), PlR f n k p ls r ls' → GL ls → GL ls' := by
  intro k
  induction k with
  | zero => intro p ls r ls' h; exact absurd h (fun y => y)
  | succ k ih =>
    intro p ls r ls' h g
    rcases h with ⟨_, _, e⟩ | ⟨_, _, _, e⟩ | ⟨_, _, ok, q⟩
    · rw [e]
      exact g
    · rw [e]
      exact g
    · exact ih _ _ _ _ q (gl_s g ok)
theorem num_b {n : Int} (h : n < 10) : (num n).length = 1 := by
  have := npw_v n
  rw [num_l]
  omega
theorem lnT_t {y : Ln} (g : gdT y) : (lnT y).length ≤ 12 := by
  have k5 := npw_5 y.2.1
  unfold lnT
  rcases g with g | g | g
  · rw [if_pos g, List.length_append, List.length_append, num_l]
    show 5 + (npw y.2.1 + 1) + 1 ≤ 12
    omega
  · rw [if_neg (by omega), if_pos g]
    decide
  · rw [if_neg (by omega), if_neg (by omega), if_pos g.1, List.length_append, List.length_append, num_b (by omega)]
    decide
theorem endT_l {n : Int} (h : n < 100) : (endT n).length ≤ 2 := by
  unfold endT
  by_cases c : n = -1
  · rw [if_pos c]
    decide
  · have := npw_v n
    rw [if_neg c, num_l]
    omega
theorem lnT_p {y : Ln} (h3 : y.1 = 3) (ha : y.2.1 < 20) (hb : y.2.2.1 < 20) (hl : y.2.2.2 ≤ 200) : (lnT y).length ≤ 15 := by
  have a := endT_l (n := y.2.1) (by omega)
  have b := endT_l (n := y.2.2.1) (by omega)
  have v := npw_v y.2.2.2
  unfold lnT
  rw [if_neg (by omega), if_neg (by omega), if_neg (by omega), List.length_append, List.length_append, List.length_append, List.length_append, List.length_append, List.length_append, num_l]
  show 5 + (endT y.2.1).length + 1 + (endT y.2.2.1).length + 1 + (npw y.2.2.2 + 1) + 1 ≤ 15
  omega
theorem txl_len {b : Nat} : ∀ (l : List Ln), (∀ y ∈ l, (lnT y).length ≤ b) → (txl l).length ≤ b * l.length := by
  intro l
  induction l with
  | nil => intro _; exact Nat.zero_le _
  | cons x l ih =>
    intro h
    have e : txl (x :: l) = lnT x ++ txl l := by
      unfold txl
      rw [List.map_cons, List.flatten_cons]
    have h1 := h x (List.mem_cons_self ..)
    have h2 := ih (fun y hy => h y (List.mem_cons_of_mem _ hy))
    rw [e, List.length_append, List.length_cons, Nat.mul_add, Nat.mul_one]
    omega
theorem txl_t (l : List Ln) (i : Nat) (y : Ln) (h : l[i]? = some y) : txl (l.take (i + 1)) = txl (l.take i) ++ lnT y := by
  rw [List.take_succ, h]
  exact txl_s _ y
theorem thg_len {ls : List Ln} (h : GL ls) (i : Nat) : (txl ((thg ls).take i)).length ≤ 240 := by
  have a := txl_len (b := 12) ((thg ls).take i) (fun y hy => lnT_t (h.1 y (List.mem_of_mem_take hy)).1)
  have b := List.length_take_le' i (thg ls)
  have c := h.2.2.1
  omega
theorem pip_len {ls : List Ln} (h : GL ls) (i : Nat) : (txl ((pip ls).take i)).length ≤ 15 * i := by
  have a := txl_len (b := 15) ((pip ls).take i) (fun y hy => by
    have g := h.2.1 y (List.mem_of_mem_take hy)
    exact lnT_p g.1 g.2.2.1 g.2.2.2.2.1 g.2.2.2.2.2.2)
  have b := List.length_take_le i (pip ls)
  have c : 15 * ((pip ls).take i).length ≤ 15 * i := Nat.mul_le_mul_left 15 b
  omega
theorem thg_len2 {ls : List Ln} (h : GL ls) : (txl (thg ls)).length ≤ 240 := by
  have := thg_len h (thg ls).length
  rw [List.take_length] at this
  exact this
theorem wt_4 {w0 : MW} {ls : List Ln} {E Q : Int32 → MW → Prop} (hP : PWc w0 ls) (hG : GL ls) (hE : ∀ a w', BND w' → FR [(123, none)] w0 w' → WT w' a (txl (thg ls)) → E a w') (n : Nat) : ∀ (i : Nat) (a : Int32) (w : MW), BND w → FR [(123, none)] w0 w → i ≤ (thg ls).length → WT w a (txl ((thg ls).take i)) → 20 - i < n → q_Pl_writeTos91_123_4 E Q n a (nI i) w := by
  induction n with
  | zero => intros; omega
  | succ n ih =>
    intro i a w hB hF hi hw hm
    have g20 := hG.2.2.1
    have ti : (nI i).toInt = (i : Int) := nI_toInt (by omega)
    have tn : (nI i).toInt.toNat = i := by omega
    have P : PWc w ls := pwc_fr hP hF rfl
    have n0 := P.1
    rw [q_Pl_writeTos91_123_4.eq_2]
    refine ⟨fun c => ?_, fun c => ?_⟩
    · have e : i = (thg ls).length := by omega
      rw [e, List.take_length] at hw
      exact hE a w hB hF hw
    have lt : i < (thg ls).length := by omega
    obtain ⟨y, ey⟩ : ∃ y, (thg ls)[i]? = some y := ⟨_, List.getElem?_eq_getElem lt⟩
    have g := P.2.2.1 i y ey
    have gy := hG.1 y (List.mem_of_getElem? ey)
    have len := thg_len hG i
    have gi : 0 ≤ (nI i).toInt ∧ (nI i).toInt < 20 := ⟨by omega, by omega⟩
    have nx : ∀ (b : Int32) (v : MW), BND v → FR [(123, none)] w v → WT v b (txl ((thg ls).take i) ++ lnT y) → q_Pl_writeTos91_123_4 E Q n b (nI i + (1 : Int32)) v := fun b v Bv Fv Wv => by
      rw [nI_1]
      refine ih (i + 1) b v Bv (hF.tr Fv rfl) lt ?_ (by omega)
      rw [txl_t _ _ _ ey]
      exact Wv
    rw [tn]
    refine ⟨gi, fun c8 => ⟨gi, fun c9 => ?_, fun c9 => ?_⟩, fun c8 => ?_⟩
    · have k : y.1 = 2 ∧ 0 ≤ y.2.1 ∧ y.2.1 ≤ 7 := by
        rcases gy.1 with q | q | q
        · have e : ckd y = 9 := by unfold ckd; rw [if_pos q]
          omega
        · have e : ckd y = 8 := by unfold ckd; rw [if_neg (by omega), if_pos q]
          omega
        · exact q
      have ek : ckd y = y.2.1 := by unfold ckd; rw [if_neg (by omega), if_neg (by omega)]
      refine px_2 hB hw (by omega) (fun r6 w6 B6 F6 W6 => ⟨gi, ?_⟩)
      have v6 : (w6.1 92 i).toInt = y.2.1 := by rw [(F6 92 i rfl).1, g.1, ek]
      refine pn_x B6 (by omega) (by omega) W6 (by rw [List.length_append, ltr_l]; omega) (fun r8 w8 B8 F8 W8 => px_16 B8 W8 (by rw [List.length_append, List.length_append, ltr_l, v6, num_b (by omega)]; omega) (fun r9 w9 B9 F9 W9 => nx r9 w9 B9 ((F6.tr F8 rfl).tr F9 rfl) ?_))
      have e : lnT y = ltr 2 6 ++ num (w6.1 92 i).toInt ++ ltr 16 1 := by
        unfold lnT
        rw [if_neg (by omega), if_neg (by omega), if_pos k.1, v6, ltr_2, lt_16]
        rfl
      rw [e, ← List.append_assoc, ← List.append_assoc]
      exact W9
    · have k : y.1 = 0 := by
        rcases gy.1 with q | q | q
        · exact q
        · have e : ckd y = 8 := by unfold ckd; rw [if_neg (by omega), if_pos q]
          omega
        · have e : ckd y = y.2.1 := by unfold ckd; rw [if_neg (by omega), if_neg (by omega)]
          omega
      have r := gy.2 k
      have g2 := g.2.1
      rw [if_pos k] at g2
      refine px_1 hB hw (by omega) (fun r6 w6 B6 F6 W6 => ⟨gi, ?_⟩)
      have v6 : (w6.1 93 i).toInt = y.2.1 := by rw [(F6 93 i rfl).1, g2]
      have k5 := npw_5 y.2.1
      refine pn_x B6 (by omega) (by omega) W6 (by rw [List.length_append, ltr_l]; omega) (fun r8 w8 B8 F8 W8 => px_16 B8 W8 (by rw [List.length_append, List.length_append, ltr_l, v6, num_l]; omega) (fun r9 w9 B9 F9 W9 => nx r9 w9 B9 ((F6.tr F8 rfl).tr F9 rfl) ?_))
      have e : lnT y = ltr 1 5 ++ num (w6.1 93 i).toInt ++ ltr 16 1 := by
        unfold lnT
        rw [if_pos k, v6, ltr_1, lt_16]
        rfl
      rw [e, ← List.append_assoc, ← List.append_assoc]
      exact W9
    · have c8 := Classical.not_not.mp c8
      have k : y.1 = 1 := by
        rcases gy.1 with q | q | q
        · have e : ckd y = 9 := by unfold ckd; rw [if_pos q]
          omega
        · exact q
        · have e : ckd y = y.2.1 := by unfold ckd; rw [if_neg (by omega), if_neg (by omega)]
          omega
      refine px_3 hB hw (by omega) (fun r6 w6 B6 F6 W6 => px_16 B6 W6 (by rw [List.length_append, ltr_l]; omega) (fun r9 w9 B9 F9 W9 => nx r9 w9 B9 (F6.tr F9 rfl) ?_))
      have e : lnT y = ltr 3 4 ++ ltr 16 1 := by
        unfold lnT
        rw [if_neg (by omega), if_pos k, ltr_3, lt_16]
        rfl
      rw [e, ← List.append_assoc]
      exact W9
theorem wt_100 {w0 : MW} {ls : List Ln} {E Q : Int32 → MW → Prop} (hP : PWc w0 ls) (hG : GL ls) (hE : ∀ a w', BND w' → FR [(123, none)] w0 w' → WT w' a (txt ls) → E a w') (n : Nat) : ∀ (i : Nat) (a : Int32) (w : MW), BND w → FR [(123, none)] w0 w → i ≤ (pip ls).length → WT w a (txl (thg ls) ++ txl ((pip ls).take i)) → 24 - i < n → q_Pl_writeTos91_123_100 E Q n a (nI i) w := by
  induction n with
  | zero => intros; omega
  | succ n ih =>
    intro i a w hB hF hi hw hm
    have g24 := hG.2.2.2
    have ti : (nI i).toInt = (i : Int) := nI_toInt (by omega)
    have tn : (nI i).toInt.toNat = i := by omega
    have P : PWc w ls := pwc_fr hP hF rfl
    have n1 := P.2.1
    rw [q_Pl_writeTos91_123_100.eq_2]
    refine ⟨fun c => ?_, fun c => ?_⟩
    · have e : i = (pip ls).length := by omega
      rw [e, List.take_length] at hw
      exact hE a w hB hF hw
    have lt : i < (pip ls).length := by omega
    obtain ⟨y, ey⟩ : ∃ y, (pip ls)[i]? = some y := ⟨_, List.getElem?_eq_getElem lt⟩
    have g := P.2.2.2.1 i y ey
    have gy := hG.2.1 y (List.mem_of_getElem? ey)
    have l1 := thg_len2 hG
    have l2 := pip_len hG i
    have L0 : (txl (thg ls) ++ txl ((pip ls).take i)).length ≤ 585 := by
      rw [List.length_append]
      omega
    have m2 := ti_mul2 (by decide : ((2 : Int32)).toInt = 2) ti (by omega) (by omega)
    have m3 := ti_add2 m2 i_1 (by omega) (by omega)
    have x2 : ((2 : Int32) * nI i).toInt.toNat = 2 * i := by omega
    have x3 : (((2 : Int32) * nI i) + (1 : Int32)).toInt.toNat = 2 * i + 1 := by omega
    have ea := endT_l (n := y.2.1) (by omega)
    have eb := endT_l (n := y.2.2.1) (by omega)
    have v := npw_v y.2.2.2
    rw [tn, x2, x3]
    generalize eL : (txl (thg ls) ++ txl ((pip ls).take i)) = L at *
    refine px_4 hB hw (by omega) (fun r1 w1 B1 F1 W1 => ⟨⟨by omega, by omega⟩, ?_⟩)
    have v1 : (w1.1 96 (2 * i)).toInt = y.2.1 := by rw [(F1 96 _ rfl).1, g.2.1]
    refine pe_x B1 (by omega) (by omega) W1 (by rw [List.length_append, ltr_l]; omega) (fun r2 w2 B2 F2 W2 => ?_)
    rw [v1] at W2
    refine px_5 B2 W2 (by rw [List.length_append, List.length_append, ltr_l]; omega) (fun r3 w3 B3 F3 W3 => ⟨⟨by omega, by omega⟩, ?_⟩)
    have v3 : (w3.1 96 (2 * i + 1)).toInt = y.2.2.1 := by rw [(F3 96 _ rfl).1, (F2 96 _ rfl).1, (F1 96 _ rfl).1, g.2.2]
    refine pe_x B3 (by omega) (by omega) W3 (by rw [List.length_append, List.length_append, List.length_append, ltr_l, ltr_l]; omega) (fun r4 w4 B4 F4 W4 => ?_)
    rw [v3] at W4
    refine px_5 B4 W4 (by rw [List.length_append, List.length_append, List.length_append, List.length_append, ltr_l, ltr_l]; omega) (fun r5 w5 B5 F5 W5 => ⟨⟨by omega, by omega⟩, ?_⟩)
    have v5 : (w5.1 95 i).toInt = y.2.2.2 := by rw [(F5 95 _ rfl).1, (F4 95 _ rfl).1, (F3 95 _ rfl).1, (F2 95 _ rfl).1, (F1 95 _ rfl).1, g.1]
    refine pn_x B5 (by omega) (by omega) W5 (by rw [List.length_append, List.length_append, List.length_append, List.length_append, List.length_append, ltr_l, ltr_l]; omega) (fun r6 w6 B6 F6 W6 => ?_)
    rw [v5] at W6
    refine px_16 B6 W6 (by rw [List.length_append, List.length_append, List.length_append, List.length_append, List.length_append, List.length_append, ltr_l, ltr_l, num_l]; omega) (fun r7 w7 B7 F7 W7 => ?_)
    rw [nI_1]
    refine ih (i + 1) r7 w7 B7 (((((((hF.tr F1 rfl).tr F2 rfl).tr F3 rfl).tr F4 rfl).tr F5 rfl).tr F6 rfl).tr F7 rfl) lt ?_ (by omega)
    rw [txl_t _ _ _ ey, ← List.append_assoc, eL]
    have e : lnT y = ltr 4 5 ++ endT y.2.1 ++ ltr 5 1 ++ endT y.2.2.1 ++ ltr 5 1 ++ num y.2.2.2 ++ ltr 16 1 := by
      unfold lnT
      rw [if_neg (by omega), if_neg (by omega), if_neg (by omega), ltr_4, ltr_5, lt_16]
      rfl
    rw [e]
    simp only [← List.append_assoc]
    exact W7
theorem wr_91 {w : MW} {ls : List Ln} {Q : Int32 → MW → Prop} (hI : BND w) (hP : PWc w ls) (hG : GL ls) (hQ : ∀ r w', BND w' → FR [(123, none)] w w' → WT w' r (txt ls) → Q r w') : p_Pl_writeTos91_123 w Q :=
  Eq.mpr (p_Pl_writeTos91_123.eq_1 _ _) (wt_4 (i := 0) hP hG (fun a w1 B1 F1 W1 => wt_100 (i := 0) hP hG hQ FU a w1 B1 F1 (Nat.zero_le _) (by
    have e : txl (thg ls) ++ txl ((pip ls).take 0) = txl (thg ls) := List.append_nil _
    rw [e]
    exact W1) (fu_lt (by decide))) FU 0 w hI (FR.refl _ w) (Nat.zero_le _) ⟨i_0, fun j c q => (by cases q)⟩ (fu_lt (by decide)))
