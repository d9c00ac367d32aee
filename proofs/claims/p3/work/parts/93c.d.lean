/-! the class looks whether its word is a text -/
/-- word i is the text l -/
def wq (f : Int → Int) (n : Int) (i : Nat) (l : List Int) : Bool := decide (wnd f n i - wat f n i = (l.length : Int)) && (tks f l (wat f n i)).1
/-- the class stands at word i -/
def WSt (w : MW) (i : Nat) : Prop := (w.1 99 12).toInt = wat (cf w) (w.1 1 2).toInt i ∧ (w.1 99 13).toInt = wnd (cf w) (w.1 1 2).toInt i ∧ (w.1 99 14).toInt = (i : Int) ∧ w.2.2 99 11 = some 1
theorem wst_fr {l : Pl} {w w' : MW} {i : Nat} (h : WSt w i) (hF : FR l w w') (ho : off l [(99, some 11), (99, some 12), (99, some 13), (99, some 14), (1, some 2), (2, none)] = true) : WSt w' i := by
  have ec : cf w' = cf w := cf_fr hF (off_mono ho (by decide))
  unfold WSt
  rw [ec, (hF 99 12 (off_hit ho rfl)).1, (hF 99 13 (off_hit ho rfl)).1, (hF 99 14 (off_hit ho rfl)).1, (hF 1 2 (off_hit ho rfl)).1, (hF 99 11 (off_hit ho rfl)).2.2]
  exact h
theorem nws {w : MW} {i : Nat} {Q : MW → Prop} (hI : BND w) (h : WSt w i) (hi : i ≤ 100000) (hQ : ∀ w', BND w' → FR lnw w w' → WSt w' (i + 1) → Q w') : p_Ro_nextWords99 w Q := by
  have b2 := bd_1_2 hI
  have s := wat_s (f := cf w) b2.1 i
  refine nw_x hI h.2.2.2 h.2.1 s.2.2.1 (fun w' B' F' a b c => hQ w' B' F' ?_)
  have ec : cf w' = cf w := cf_fr F' rfl
  have en : w'.1 1 2 = w.1 1 2 := (F' 1 2 rfl).1
  refine ⟨?_, ?_, ?_, ((F' 99 11 rfl).2.2).trans h.2.2.2⟩
  · rw [ec, en]
    exact a
  · rw [ec, en]
    exact b
  · have h14 := h.2.2.1
    rw [c, ti_add2 h14 i_1 (by omega) (by omega)]
    rfl
theorem flr_x {w : MW} {Q : MW → Prop} (h : (w.1 99 17).toInt < 0) (hQ : Q (sI w 99 17 (w.1 99 14))) : p_Ro_fails99 w Q := Eq.mpr (p_Ro_fails99.eq_1 _ _) ⟨fun c => by omega, fun _ => hQ⟩
theorem flr_b {w : MW} {Q : MW → Prop} (h : 0 ≤ (w.1 99 17).toInt) (hQ : Q w) : p_Ro_fails99 w Q := Eq.mpr (p_Ro_fails99.eq_1 _ _) ⟨fun _ => hQ, fun c => absurd h c⟩
theorem is_6 {w : MW} {P : Int} {E : MW → Prop} {Q : Int32 → MW → Prop} (hI : BND w) (hr : w.2.2 99 11 = some 1) (hp : (w.1 99 12).toInt = P) (h1 : (tks (cf w) (ltr 6 3) P).1 = true → E w) (h0 : (tks (cf w) (ltr 6 3) P).1 = false → Q 0 w) (m : Nat) : ∀ j : Nat, j ≤ 3 → (tks (cf w) (ltr 6 j) P).1 = true → 3 - j < m → q_Ro_iss99_2006_27 E Q m (nI j) w := by
  induction m with
  | zero => intros; omega
  | succ m ih =>
    intro j hj ht hm
    have ti : (nI j).toInt = (j : Int) := nI_toInt (by omega)
    have b12 := bd_99_12 hI
    have ix := ti_add2 hp ti (by omega) (by omega)
    rw [q_Ro_iss99_2006_27.eq_2]
    refine ⟨fun c => ?_, fun c => ⟨hr, at_x hI ?_⟩⟩
    · obtain rfl : j = 3 := by omega
      exact h1 ht
    have ev : (cv w ((w.1 99 12) + nI j)).toInt = cf w (P + j) := by rw [cv_cf, ix]
    have st := tks_st (cf w) (ltr 6 j) [(chT 6 (nI j)).toInt] P ht
    rw [← ltr_s, ltr_l] at st
    have e1 : tks (cf w) [(chT 6 (nI j)).toInt] (P + j) = if cf w (P + j) = (chT 6 (nI j)).toInt then (true, P + j + 1) else (false, P + j) := rfl
    refine ⟨⟨by omega, by omega⟩, fun q => ?_, fun q => ?_⟩
    · rw [ev] at q
      rw [nI_1]
      refine ih (j + 1) (by omega) ?_ (by omega)
      rw [st, e1, if_pos q]
    · rw [ev] at q
      obtain ⟨l, el⟩ := ltr_a 6 (j + 1) (3 - (j + 1))
      have en : j + 1 + (3 - (j + 1)) = 3 := by omega
      rw [en] at el
      refine h0 ?_
      rw [el, tks_f (cf w) (ltr 6 (j + 1)) l P (P + j) (by rw [st, e1, if_neg q])]
theorem iss_6 {w : MW} {i : Nat} {Q : Int32 → MW → Prop} (hI : BND w) (h : WSt w i) (h1 : (w.1 99 17).toInt < 0 → wq (cf w) (w.1 1 2).toInt i (ltr 6 3) = true → Q 1 w) (h0 : (w.1 99 17).toInt < 0 → wq (cf w) (w.1 1 2).toInt i (ltr 6 3) = false → Q 0 w) (hb : 0 ≤ (w.1 99 17).toInt → Q 0 w) : p_Ro_iss99_2006 w Q := by
  have b12 := bd_99_12 hI
  have b13 := bd_99_13 hI
  have d := ti_sub2 h.2.1 h.1 (by rw [← h.2.1, ← h.1]; omega) (by rw [← h.2.1, ← h.1]; omega)
  refine Eq.mpr (p_Ro_iss99_2006.eq_1 _ _) ⟨hb, fun c => ⟨fun q => is_6 hI h.2.2.2 h.1 (fun t => h1 (by omega) ?_) (fun t => h0 (by omega) ?_) FU 0 (by omega) rfl (fu_lt (by decide)), fun q => h0 (by omega) ?_⟩⟩
  · unfold wq
    rw [t, decide_eq_true (show wnd (cf w) (w.1 1 2).toInt i - wat (cf w) (w.1 1 2).toInt i = ((ltr 6 3).length : Int) by rw [ltr_l, ← d]; exact q)]
    rfl
  · unfold wq
    rw [t, Bool.and_false]
  · unfold wq
    rw [decide_eq_false (show ¬ wnd (cf w) (w.1 1 2).toInt i - wat (cf w) (w.1 1 2).toInt i = ((ltr 6 3).length : Int) by rw [ltr_l, ← d]; exact q), Bool.false_and]
theorem tkw_6 {w : MW} {i : Nat} {Q : Int32 → MW → Prop} (hI : BND w) (h : WSt w i) (hi : i ≤ 100000) (h1 : (w.1 99 17).toInt < 0 → wq (cf w) (w.1 1 2).toInt i (ltr 6 3) = true → ∀ w', BND w' → FR lnw w w' → WSt w' (i + 1) → Q 1 w') (h0 : (w.1 99 17).toInt < 0 → wq (cf w) (w.1 1 2).toInt i (ltr 6 3) = false → Q 0 (sI w 99 17 (w.1 99 14))) (hb : 0 ≤ (w.1 99 17).toInt → Q 0 w) : p_Ro_takess99_2006 w Q :=
  Eq.mpr (p_Ro_takess99_2006.eq_1 _ _) (iss_6 hI h (fun c q => ⟨fun _ => nws hI h hi (fun w' B F S => h1 c q w' B F S), fun z => absurd (show ¬ (1 : Int32).toInt = 0 by decide) z⟩) (fun c q => ⟨fun z => absurd i_0 z, fun _ => flr_x c (h0 c q)⟩) (fun c => ⟨fun z => absurd i_0 z, fun _ => flr_b c (hb c)⟩))
theorem is_7 {w : MW} {P : Int} {E : MW → Prop} {Q : Int32 → MW → Prop} (hI : BND w) (hr : w.2.2 99 11 = some 1) (hp : (w.1 99 12).toInt = P) (h1 : (tks (cf w) (ltr 7 4) P).1 = true → E w) (h0 : (tks (cf w) (ltr 7 4) P).1 = false → Q 0 w) (m : Nat) : ∀ j : Nat, j ≤ 4 → (tks (cf w) (ltr 7 j) P).1 = true → 4 - j < m → q_Ro_iss99_2007_27 E Q m (nI j) w := by
  induction m with
  | zero => intros; omega
  | succ m ih =>
    intro j hj ht hm
    have ti : (nI j).toInt = (j : Int) := nI_toInt (by omega)
    have b12 := bd_99_12 hI
    have ix := ti_add2 hp ti (by omega) (by omega)
    rw [q_Ro_iss99_2007_27.eq_2]
    refine ⟨fun c => ?_, fun c => ⟨hr, at_x hI ?_⟩⟩
    · obtain rfl : j = 4 := by omega
      exact h1 ht
    have ev : (cv w ((w.1 99 12) + nI j)).toInt = cf w (P + j) := by rw [cv_cf, ix]
    have st := tks_st (cf w) (ltr 7 j) [(chT 7 (nI j)).toInt] P ht
    rw [← ltr_s, ltr_l] at st
    have e1 : tks (cf w) [(chT 7 (nI j)).toInt] (P + j) = if cf w (P + j) = (chT 7 (nI j)).toInt then (true, P + j + 1) else (false, P + j) := rfl
    refine ⟨⟨by omega, by omega⟩, fun q => ?_, fun q => ?_⟩
    · rw [ev] at q
      rw [nI_1]
      refine ih (j + 1) (by omega) ?_ (by omega)
      rw [st, e1, if_pos q]
    · rw [ev] at q
      obtain ⟨l, el⟩ := ltr_a 7 (j + 1) (4 - (j + 1))
      have en : j + 1 + (4 - (j + 1)) = 4 := by omega
      rw [en] at el
      refine h0 ?_
      rw [el, tks_f (cf w) (ltr 7 (j + 1)) l P (P + j) (by rw [st, e1, if_neg q])]
theorem iss_7 {w : MW} {i : Nat} {Q : Int32 → MW → Prop} (hI : BND w) (h : WSt w i) (h1 : (w.1 99 17).toInt < 0 → wq (cf w) (w.1 1 2).toInt i (ltr 7 4) = true → Q 1 w) (h0 : (w.1 99 17).toInt < 0 → wq (cf w) (w.1 1 2).toInt i (ltr 7 4) = false → Q 0 w) (hb : 0 ≤ (w.1 99 17).toInt → Q 0 w) : p_Ro_iss99_2007 w Q := by
  have b12 := bd_99_12 hI
  have b13 := bd_99_13 hI
  have d := ti_sub2 h.2.1 h.1 (by rw [← h.2.1, ← h.1]; omega) (by rw [← h.2.1, ← h.1]; omega)
  refine Eq.mpr (p_Ro_iss99_2007.eq_1 _ _) ⟨hb, fun c => ⟨fun q => is_7 hI h.2.2.2 h.1 (fun t => h1 (by omega) ?_) (fun t => h0 (by omega) ?_) FU 0 (by omega) rfl (fu_lt (by decide)), fun q => h0 (by omega) ?_⟩⟩
  · unfold wq
    rw [t, decide_eq_true (show wnd (cf w) (w.1 1 2).toInt i - wat (cf w) (w.1 1 2).toInt i = ((ltr 7 4).length : Int) by rw [ltr_l, ← d]; exact q)]
    rfl
  · unfold wq
    rw [t, Bool.and_false]
  · unfold wq
    rw [decide_eq_false (show ¬ wnd (cf w) (w.1 1 2).toInt i - wat (cf w) (w.1 1 2).toInt i = ((ltr 7 4).length : Int) by rw [ltr_l, ← d]; exact q), Bool.false_and]
theorem tkw_7 {w : MW} {i : Nat} {Q : Int32 → MW → Prop} (hI : BND w) (h : WSt w i) (hi : i ≤ 100000) (h1 : (w.1 99 17).toInt < 0 → wq (cf w) (w.1 1 2).toInt i (ltr 7 4) = true → ∀ w', BND w' → FR lnw w w' → WSt w' (i + 1) → Q 1 w') (h0 : (w.1 99 17).toInt < 0 → wq (cf w) (w.1 1 2).toInt i (ltr 7 4) = false → Q 0 (sI w 99 17 (w.1 99 14))) (hb : 0 ≤ (w.1 99 17).toInt → Q 0 w) : p_Ro_takess99_2007 w Q :=
  Eq.mpr (p_Ro_takess99_2007.eq_1 _ _) (iss_7 hI h (fun c q => ⟨fun _ => nws hI h hi (fun w' B F S => h1 c q w' B F S), fun z => absurd (show ¬ (1 : Int32).toInt = 0 by decide) z⟩) (fun c q => ⟨fun z => absurd i_0 z, fun _ => flr_x c (h0 c q)⟩) (fun c => ⟨fun z => absurd i_0 z, fun _ => flr_b c (hb c)⟩))
theorem is_8 {w : MW} {P : Int} {E : MW → Prop} {Q : Int32 → MW → Prop} (hI : BND w) (hr : w.2.2 99 11 = some 1) (hp : (w.1 99 12).toInt = P) (h1 : (tks (cf w) (ltr 8 3) P).1 = true → E w) (h0 : (tks (cf w) (ltr 8 3) P).1 = false → Q 0 w) (m : Nat) : ∀ j : Nat, j ≤ 3 → (tks (cf w) (ltr 8 j) P).1 = true → 3 - j < m → q_Ro_iss99_2008_27 E Q m (nI j) w := by
  induction m with
  | zero => intros; omega
  | succ m ih =>
    intro j hj ht hm
    have ti : (nI j).toInt = (j : Int) := nI_toInt (by omega)
    have b12 := bd_99_12 hI
    have ix := ti_add2 hp ti (by omega) (by omega)
    rw [q_Ro_iss99_2008_27.eq_2]
    refine ⟨fun c => ?_, fun c => ⟨hr, at_x hI ?_⟩⟩
    · obtain rfl : j = 3 := by omega
      exact h1 ht
    have ev : (cv w ((w.1 99 12) + nI j)).toInt = cf w (P + j) := by rw [cv_cf, ix]
    have st := tks_st (cf w) (ltr 8 j) [(chT 8 (nI j)).toInt] P ht
    rw [← ltr_s, ltr_l] at st
    have e1 : tks (cf w) [(chT 8 (nI j)).toInt] (P + j) = if cf w (P + j) = (chT 8 (nI j)).toInt then (true, P + j + 1) else (false, P + j) := rfl
    refine ⟨⟨by omega, by omega⟩, fun q => ?_, fun q => ?_⟩
    · rw [ev] at q
      rw [nI_1]
      refine ih (j + 1) (by omega) ?_ (by omega)
      rw [st, e1, if_pos q]
    · rw [ev] at q
      obtain ⟨l, el⟩ := ltr_a 8 (j + 1) (3 - (j + 1))
      have en : j + 1 + (3 - (j + 1)) = 3 := by omega
      rw [en] at el
      refine h0 ?_
      rw [el, tks_f (cf w) (ltr 8 (j + 1)) l P (P + j) (by rw [st, e1, if_neg q])]
theorem iss_8 {w : MW} {i : Nat} {Q : Int32 → MW → Prop} (hI : BND w) (h : WSt w i) (h1 : (w.1 99 17).toInt < 0 → wq (cf w) (w.1 1 2).toInt i (ltr 8 3) = true → Q 1 w) (h0 : (w.1 99 17).toInt < 0 → wq (cf w) (w.1 1 2).toInt i (ltr 8 3) = false → Q 0 w) (hb : 0 ≤ (w.1 99 17).toInt → Q 0 w) : p_Ro_iss99_2008 w Q := by
  have b12 := bd_99_12 hI
  have b13 := bd_99_13 hI
  have d := ti_sub2 h.2.1 h.1 (by rw [← h.2.1, ← h.1]; omega) (by rw [← h.2.1, ← h.1]; omega)
  refine Eq.mpr (p_Ro_iss99_2008.eq_1 _ _) ⟨hb, fun c => ⟨fun q => is_8 hI h.2.2.2 h.1 (fun t => h1 (by omega) ?_) (fun t => h0 (by omega) ?_) FU 0 (by omega) rfl (fu_lt (by decide)), fun q => h0 (by omega) ?_⟩⟩
  · unfold wq
    rw [t, decide_eq_true (show wnd (cf w) (w.1 1 2).toInt i - wat (cf w) (w.1 1 2).toInt i = ((ltr 8 3).length : Int) by rw [ltr_l, ← d]; exact q)]
    rfl
  · unfold wq
    rw [t, Bool.and_false]
  · unfold wq
    rw [decide_eq_false (show ¬ wnd (cf w) (w.1 1 2).toInt i - wat (cf w) (w.1 1 2).toInt i = ((ltr 8 3).length : Int) by rw [ltr_l, ← d]; exact q), Bool.false_and]
theorem is_9 {w : MW} {P : Int} {E : MW → Prop} {Q : Int32 → MW → Prop} (hI : BND w) (hr : w.2.2 99 11 = some 1) (hp : (w.1 99 12).toInt = P) (h1 : (tks (cf w) (ltr 9 1) P).1 = true → E w) (h0 : (tks (cf w) (ltr 9 1) P).1 = false → Q 0 w) (m : Nat) : ∀ j : Nat, j ≤ 1 → (tks (cf w) (ltr 9 j) P).1 = true → 1 - j < m → q_Ro_iss99_2009_27 E Q m (nI j) w := by
  induction m with
  | zero => intros; omega
  | succ m ih =>
    intro j hj ht hm
    have ti : (nI j).toInt = (j : Int) := nI_toInt (by omega)
    have b12 := bd_99_12 hI
    have ix := ti_add2 hp ti (by omega) (by omega)
    rw [q_Ro_iss99_2009_27.eq_2]
    refine ⟨fun c => ?_, fun c => ⟨hr, at_x hI ?_⟩⟩
    · obtain rfl : j = 1 := by omega
      exact h1 ht
    have ev : (cv w ((w.1 99 12) + nI j)).toInt = cf w (P + j) := by rw [cv_cf, ix]
    have st := tks_st (cf w) (ltr 9 j) [(chT 9 (nI j)).toInt] P ht
    rw [← ltr_s, ltr_l] at st
    have e1 : tks (cf w) [(chT 9 (nI j)).toInt] (P + j) = if cf w (P + j) = (chT 9 (nI j)).toInt then (true, P + j + 1) else (false, P + j) := rfl
    refine ⟨⟨by omega, by omega⟩, fun q => ?_, fun q => ?_⟩
    · rw [ev] at q
      rw [nI_1]
      refine ih (j + 1) (by omega) ?_ (by omega)
      rw [st, e1, if_pos q]
    · rw [ev] at q
      obtain ⟨l, el⟩ := ltr_a 9 (j + 1) (1 - (j + 1))
      have en : j + 1 + (1 - (j + 1)) = 1 := by omega
      rw [en] at el
      refine h0 ?_
      rw [el, tks_f (cf w) (ltr 9 (j + 1)) l P (P + j) (by rw [st, e1, if_neg q])]
theorem iss_9 {w : MW} {i : Nat} {Q : Int32 → MW → Prop} (hI : BND w) (h : WSt w i) (h1 : (w.1 99 17).toInt < 0 → wq (cf w) (w.1 1 2).toInt i (ltr 9 1) = true → Q 1 w) (h0 : (w.1 99 17).toInt < 0 → wq (cf w) (w.1 1 2).toInt i (ltr 9 1) = false → Q 0 w) (hb : 0 ≤ (w.1 99 17).toInt → Q 0 w) : p_Ro_iss99_2009 w Q := by
  have b12 := bd_99_12 hI
  have b13 := bd_99_13 hI
  have d := ti_sub2 h.2.1 h.1 (by rw [← h.2.1, ← h.1]; omega) (by rw [← h.2.1, ← h.1]; omega)
  refine Eq.mpr (p_Ro_iss99_2009.eq_1 _ _) ⟨hb, fun c => ⟨fun q => is_9 hI h.2.2.2 h.1 (fun t => h1 (by omega) ?_) (fun t => h0 (by omega) ?_) FU 0 (by omega) rfl (fu_lt (by decide)), fun q => h0 (by omega) ?_⟩⟩
  · unfold wq
    rw [t, decide_eq_true (show wnd (cf w) (w.1 1 2).toInt i - wat (cf w) (w.1 1 2).toInt i = ((ltr 9 1).length : Int) by rw [ltr_l, ← d]; exact q)]
    rfl
  · unfold wq
    rw [t, Bool.and_false]
  · unfold wq
    rw [decide_eq_false (show ¬ wnd (cf w) (w.1 1 2).toInt i - wat (cf w) (w.1 1 2).toInt i = ((ltr 9 1).length : Int) by rw [ltr_l, ← d]; exact q), Bool.false_and]
theorem is_10 {w : MW} {P : Int} {E : MW → Prop} {Q : Int32 → MW → Prop} (hI : BND w) (hr : w.2.2 99 11 = some 1) (hp : (w.1 99 12).toInt = P) (h1 : (tks (cf w) (ltr 10 1) P).1 = true → E w) (h0 : (tks (cf w) (ltr 10 1) P).1 = false → Q 0 w) (m : Nat) : ∀ j : Nat, j ≤ 1 → (tks (cf w) (ltr 10 j) P).1 = true → 1 - j < m → q_Ro_iss99_2010_27 E Q m (nI j) w := by
  induction m with
  | zero => intros; omega
  | succ m ih =>
    intro j hj ht hm
    have ti : (nI j).toInt = (j : Int) := nI_toInt (by omega)
    have b12 := bd_99_12 hI
    have ix := ti_add2 hp ti (by omega) (by omega)
    rw [q_Ro_iss99_2010_27.eq_2]
    refine ⟨fun c => ?_, fun c => ⟨hr, at_x hI ?_⟩⟩
    · obtain rfl : j = 1 := by omega
      exact h1 ht
    have ev : (cv w ((w.1 99 12) + nI j)).toInt = cf w (P + j) := by rw [cv_cf, ix]
    have st := tks_st (cf w) (ltr 10 j) [(chT 10 (nI j)).toInt] P ht
    rw [← ltr_s, ltr_l] at st
    have e1 : tks (cf w) [(chT 10 (nI j)).toInt] (P + j) = if cf w (P + j) = (chT 10 (nI j)).toInt then (true, P + j + 1) else (false, P + j) := rfl
    refine ⟨⟨by omega, by omega⟩, fun q => ?_, fun q => ?_⟩
    · rw [ev] at q
      rw [nI_1]
      refine ih (j + 1) (by omega) ?_ (by omega)
      rw [st, e1, if_pos q]
    · rw [ev] at q
      obtain ⟨l, el⟩ := ltr_a 10 (j + 1) (1 - (j + 1))
      have en : j + 1 + (1 - (j + 1)) = 1 := by omega
      rw [en] at el
      refine h0 ?_
      rw [el, tks_f (cf w) (ltr 10 (j + 1)) l P (P + j) (by rw [st, e1, if_neg q])]
theorem iss_10 {w : MW} {i : Nat} {Q : Int32 → MW → Prop} (hI : BND w) (h : WSt w i) (h1 : (w.1 99 17).toInt < 0 → wq (cf w) (w.1 1 2).toInt i (ltr 10 1) = true → Q 1 w) (h0 : (w.1 99 17).toInt < 0 → wq (cf w) (w.1 1 2).toInt i (ltr 10 1) = false → Q 0 w) (hb : 0 ≤ (w.1 99 17).toInt → Q 0 w) : p_Ro_iss99_2010 w Q := by
  have b12 := bd_99_12 hI
  have b13 := bd_99_13 hI
  have d := ti_sub2 h.2.1 h.1 (by rw [← h.2.1, ← h.1]; omega) (by rw [← h.2.1, ← h.1]; omega)
  refine Eq.mpr (p_Ro_iss99_2010.eq_1 _ _) ⟨hb, fun c => ⟨fun q => is_10 hI h.2.2.2 h.1 (fun t => h1 (by omega) ?_) (fun t => h0 (by omega) ?_) FU 0 (by omega) rfl (fu_lt (by decide)), fun q => h0 (by omega) ?_⟩⟩
  · unfold wq
    rw [t, decide_eq_true (show wnd (cf w) (w.1 1 2).toInt i - wat (cf w) (w.1 1 2).toInt i = ((ltr 10 1).length : Int) by rw [ltr_l, ← d]; exact q)]
    rfl
  · unfold wq
    rw [t, Bool.and_false]
  · unfold wq
    rw [decide_eq_false (show ¬ wnd (cf w) (w.1 1 2).toInt i - wat (cf w) (w.1 1 2).toInt i = ((ltr 10 1).length : Int) by rw [ltr_l, ← d]; exact q), Bool.false_and]
theorem tkw_10 {w : MW} {i : Nat} {Q : Int32 → MW → Prop} (hI : BND w) (h : WSt w i) (hi : i ≤ 100000) (h1 : (w.1 99 17).toInt < 0 → wq (cf w) (w.1 1 2).toInt i (ltr 10 1) = true → ∀ w', BND w' → FR lnw w w' → WSt w' (i + 1) → Q 1 w') (h0 : (w.1 99 17).toInt < 0 → wq (cf w) (w.1 1 2).toInt i (ltr 10 1) = false → Q 0 (sI w 99 17 (w.1 99 14))) (hb : 0 ≤ (w.1 99 17).toInt → Q 0 w) : p_Ro_takess99_2010 w Q :=
  Eq.mpr (p_Ro_takess99_2010.eq_1 _ _) (iss_10 hI h (fun c q => ⟨fun _ => nws hI h hi (fun w' B F S => h1 c q w' B F S), fun z => absurd (show ¬ (1 : Int32).toInt = 0 by decide) z⟩) (fun c q => ⟨fun z => absurd i_0 z, fun _ => flr_x c (h0 c q)⟩) (fun c => ⟨fun z => absurd i_0 z, fun _ => flr_b c (hb c)⟩))
theorem is_11 {w : MW} {P : Int} {E : MW → Prop} {Q : Int32 → MW → Prop} (hI : BND w) (hr : w.2.2 99 11 = some 1) (hp : (w.1 99 12).toInt = P) (h1 : (tks (cf w) (ltr 11 3) P).1 = true → E w) (h0 : (tks (cf w) (ltr 11 3) P).1 = false → Q 0 w) (m : Nat) : ∀ j : Nat, j ≤ 3 → (tks (cf w) (ltr 11 j) P).1 = true → 3 - j < m → q_Ro_iss99_2011_27 E Q m (nI j) w := by
  induction m with
  | zero => intros; omega
  | succ m ih =>
    intro j hj ht hm
    have ti : (nI j).toInt = (j : Int) := nI_toInt (by omega)
    have b12 := bd_99_12 hI
    have ix := ti_add2 hp ti (by omega) (by omega)
    rw [q_Ro_iss99_2011_27.eq_2]
    refine ⟨fun c => ?_, fun c => ⟨hr, at_x hI ?_⟩⟩
    · obtain rfl : j = 3 := by omega
      exact h1 ht
    have ev : (cv w ((w.1 99 12) + nI j)).toInt = cf w (P + j) := by rw [cv_cf, ix]
    have st := tks_st (cf w) (ltr 11 j) [(chT 11 (nI j)).toInt] P ht
    rw [← ltr_s, ltr_l] at st
    have e1 : tks (cf w) [(chT 11 (nI j)).toInt] (P + j) = if cf w (P + j) = (chT 11 (nI j)).toInt then (true, P + j + 1) else (false, P + j) := rfl
    refine ⟨⟨by omega, by omega⟩, fun q => ?_, fun q => ?_⟩
    · rw [ev] at q
      rw [nI_1]
      refine ih (j + 1) (by omega) ?_ (by omega)
      rw [st, e1, if_pos q]
    · rw [ev] at q
      obtain ⟨l, el⟩ := ltr_a 11 (j + 1) (3 - (j + 1))
      have en : j + 1 + (3 - (j + 1)) = 3 := by omega
      rw [en] at el
      refine h0 ?_
      rw [el, tks_f (cf w) (ltr 11 (j + 1)) l P (P + j) (by rw [st, e1, if_neg q])]
theorem iss_11 {w : MW} {i : Nat} {Q : Int32 → MW → Prop} (hI : BND w) (h : WSt w i) (h1 : (w.1 99 17).toInt < 0 → wq (cf w) (w.1 1 2).toInt i (ltr 11 3) = true → Q 1 w) (h0 : (w.1 99 17).toInt < 0 → wq (cf w) (w.1 1 2).toInt i (ltr 11 3) = false → Q 0 w) (hb : 0 ≤ (w.1 99 17).toInt → Q 0 w) : p_Ro_iss99_2011 w Q := by
  have b12 := bd_99_12 hI
  have b13 := bd_99_13 hI
  have d := ti_sub2 h.2.1 h.1 (by rw [← h.2.1, ← h.1]; omega) (by rw [← h.2.1, ← h.1]; omega)
  refine Eq.mpr (p_Ro_iss99_2011.eq_1 _ _) ⟨hb, fun c => ⟨fun q => is_11 hI h.2.2.2 h.1 (fun t => h1 (by omega) ?_) (fun t => h0 (by omega) ?_) FU 0 (by omega) rfl (fu_lt (by decide)), fun q => h0 (by omega) ?_⟩⟩
  · unfold wq
    rw [t, decide_eq_true (show wnd (cf w) (w.1 1 2).toInt i - wat (cf w) (w.1 1 2).toInt i = ((ltr 11 3).length : Int) by rw [ltr_l, ← d]; exact q)]
    rfl
  · unfold wq
    rw [t, Bool.and_false]
  · unfold wq
    rw [decide_eq_false (show ¬ wnd (cf w) (w.1 1 2).toInt i - wat (cf w) (w.1 1 2).toInt i = ((ltr 11 3).length : Int) by rw [ltr_l, ← d]; exact q), Bool.false_and]
theorem is_12 {w : MW} {P : Int} {E : MW → Prop} {Q : Int32 → MW → Prop} (hI : BND w) (hr : w.2.2 99 11 = some 1) (hp : (w.1 99 12).toInt = P) (h1 : (tks (cf w) (ltr 12 2) P).1 = true → E w) (h0 : (tks (cf w) (ltr 12 2) P).1 = false → Q 0 w) (m : Nat) : ∀ j : Nat, j ≤ 2 → (tks (cf w) (ltr 12 j) P).1 = true → 2 - j < m → q_Ro_iss99_2012_27 E Q m (nI j) w := by
  induction m with
  | zero => intros; omega
  | succ m ih =>
    intro j hj ht hm
    have ti : (nI j).toInt = (j : Int) := nI_toInt (by omega)
    have b12 := bd_99_12 hI
    have ix := ti_add2 hp ti (by omega) (by omega)
    rw [q_Ro_iss99_2012_27.eq_2]
    refine ⟨fun c => ?_, fun c => ⟨hr, at_x hI ?_⟩⟩
    · obtain rfl : j = 2 := by omega
      exact h1 ht
    have ev : (cv w ((w.1 99 12) + nI j)).toInt = cf w (P + j) := by rw [cv_cf, ix]
    have st := tks_st (cf w) (ltr 12 j) [(chT 12 (nI j)).toInt] P ht
    rw [← ltr_s, ltr_l] at st
    have e1 : tks (cf w) [(chT 12 (nI j)).toInt] (P + j) = if cf w (P + j) = (chT 12 (nI j)).toInt then (true, P + j + 1) else (false, P + j) := rfl
    refine ⟨⟨by omega, by omega⟩, fun q => ?_, fun q => ?_⟩
    · rw [ev] at q
      rw [nI_1]
      refine ih (j + 1) (by omega) ?_ (by omega)
      rw [st, e1, if_pos q]
    · rw [ev] at q
      obtain ⟨l, el⟩ := ltr_a 12 (j + 1) (2 - (j + 1))
      have en : j + 1 + (2 - (j + 1)) = 2 := by omega
      rw [en] at el
      refine h0 ?_
      rw [el, tks_f (cf w) (ltr 12 (j + 1)) l P (P + j) (by rw [st, e1, if_neg q])]
theorem iss_12 {w : MW} {i : Nat} {Q : Int32 → MW → Prop} (hI : BND w) (h : WSt w i) (h1 : (w.1 99 17).toInt < 0 → wq (cf w) (w.1 1 2).toInt i (ltr 12 2) = true → Q 1 w) (h0 : (w.1 99 17).toInt < 0 → wq (cf w) (w.1 1 2).toInt i (ltr 12 2) = false → Q 0 w) (hb : 0 ≤ (w.1 99 17).toInt → Q 0 w) : p_Ro_iss99_2012 w Q := by
  have b12 := bd_99_12 hI
  have b13 := bd_99_13 hI
  have d := ti_sub2 h.2.1 h.1 (by rw [← h.2.1, ← h.1]; omega) (by rw [← h.2.1, ← h.1]; omega)
  refine Eq.mpr (p_Ro_iss99_2012.eq_1 _ _) ⟨hb, fun c => ⟨fun q => is_12 hI h.2.2.2 h.1 (fun t => h1 (by omega) ?_) (fun t => h0 (by omega) ?_) FU 0 (by omega) rfl (fu_lt (by decide)), fun q => h0 (by omega) ?_⟩⟩
  · unfold wq
    rw [t, decide_eq_true (show wnd (cf w) (w.1 1 2).toInt i - wat (cf w) (w.1 1 2).toInt i = ((ltr 12 2).length : Int) by rw [ltr_l, ← d]; exact q)]
    rfl
  · unfold wq
    rw [t, Bool.and_false]
  · unfold wq
    rw [decide_eq_false (show ¬ wnd (cf w) (w.1 1 2).toInt i - wat (cf w) (w.1 1 2).toInt i = ((ltr 12 2).length : Int) by rw [ltr_l, ← d]; exact q), Bool.false_and]
theorem is_13 {w : MW} {P : Int} {E : MW → Prop} {Q : Int32 → MW → Prop} (hI : BND w) (hr : w.2.2 99 11 = some 1) (hp : (w.1 99 12).toInt = P) (h1 : (tks (cf w) (ltr 13 3) P).1 = true → E w) (h0 : (tks (cf w) (ltr 13 3) P).1 = false → Q 0 w) (m : Nat) : ∀ j : Nat, j ≤ 3 → (tks (cf w) (ltr 13 j) P).1 = true → 3 - j < m → q_Ro_iss99_2013_27 E Q m (nI j) w := by
  induction m with
  | zero => intros; omega
  | succ m ih =>
    intro j hj ht hm
    have ti : (nI j).toInt = (j : Int) := nI_toInt (by omega)
    have b12 := bd_99_12 hI
    have ix := ti_add2 hp ti (by omega) (by omega)
    rw [q_Ro_iss99_2013_27.eq_2]
    refine ⟨fun c => ?_, fun c => ⟨hr, at_x hI ?_⟩⟩
    · obtain rfl : j = 3 := by omega
      exact h1 ht
    have ev : (cv w ((w.1 99 12) + nI j)).toInt = cf w (P + j) := by rw [cv_cf, ix]
    have st := tks_st (cf w) (ltr 13 j) [(chT 13 (nI j)).toInt] P ht
    rw [← ltr_s, ltr_l] at st
    have e1 : tks (cf w) [(chT 13 (nI j)).toInt] (P + j) = if cf w (P + j) = (chT 13 (nI j)).toInt then (true, P + j + 1) else (false, P + j) := rfl
    refine ⟨⟨by omega, by omega⟩, fun q => ?_, fun q => ?_⟩
    · rw [ev] at q
      rw [nI_1]
      refine ih (j + 1) (by omega) ?_ (by omega)
      rw [st, e1, if_pos q]
    · rw [ev] at q
      obtain ⟨l, el⟩ := ltr_a 13 (j + 1) (3 - (j + 1))
      have en : j + 1 + (3 - (j + 1)) = 3 := by omega
      rw [en] at el
      refine h0 ?_
      rw [el, tks_f (cf w) (ltr 13 (j + 1)) l P (P + j) (by rw [st, e1, if_neg q])]
theorem iss_13 {w : MW} {i : Nat} {Q : Int32 → MW → Prop} (hI : BND w) (h : WSt w i) (h1 : (w.1 99 17).toInt < 0 → wq (cf w) (w.1 1 2).toInt i (ltr 13 3) = true → Q 1 w) (h0 : (w.1 99 17).toInt < 0 → wq (cf w) (w.1 1 2).toInt i (ltr 13 3) = false → Q 0 w) (hb : 0 ≤ (w.1 99 17).toInt → Q 0 w) : p_Ro_iss99_2013 w Q := by
  have b12 := bd_99_12 hI
  have b13 := bd_99_13 hI
  have d := ti_sub2 h.2.1 h.1 (by rw [← h.2.1, ← h.1]; omega) (by rw [← h.2.1, ← h.1]; omega)
  refine Eq.mpr (p_Ro_iss99_2013.eq_1 _ _) ⟨hb, fun c => ⟨fun q => is_13 hI h.2.2.2 h.1 (fun t => h1 (by omega) ?_) (fun t => h0 (by omega) ?_) FU 0 (by omega) rfl (fu_lt (by decide)), fun q => h0 (by omega) ?_⟩⟩
  · unfold wq
    rw [t, decide_eq_true (show wnd (cf w) (w.1 1 2).toInt i - wat (cf w) (w.1 1 2).toInt i = ((ltr 13 3).length : Int) by rw [ltr_l, ← d]; exact q)]
    rfl
  · unfold wq
    rw [t, Bool.and_false]
  · unfold wq
    rw [decide_eq_false (show ¬ wnd (cf w) (w.1 1 2).toInt i - wat (cf w) (w.1 1 2).toInt i = ((ltr 13 3).length : Int) by rw [ltr_l, ← d]; exact q), Bool.false_and]
theorem is_14 {w : MW} {P : Int} {E : MW → Prop} {Q : Int32 → MW → Prop} (hI : BND w) (hr : w.2.2 99 11 = some 1) (hp : (w.1 99 12).toInt = P) (h1 : (tks (cf w) (ltr 14 7) P).1 = true → E w) (h0 : (tks (cf w) (ltr 14 7) P).1 = false → Q 0 w) (m : Nat) : ∀ j : Nat, j ≤ 7 → (tks (cf w) (ltr 14 j) P).1 = true → 7 - j < m → q_Ro_iss99_2014_27 E Q m (nI j) w := by
  induction m with
  | zero => intros; omega
  | succ m ih =>
    intro j hj ht hm
    have ti : (nI j).toInt = (j : Int) := nI_toInt (by omega)
    have b12 := bd_99_12 hI
    have ix := ti_add2 hp ti (by omega) (by omega)
    rw [q_Ro_iss99_2014_27.eq_2]
    refine ⟨fun c => ?_, fun c => ⟨hr, at_x hI ?_⟩⟩
    · obtain rfl : j = 7 := by omega
      exact h1 ht
    have ev : (cv w ((w.1 99 12) + nI j)).toInt = cf w (P + j) := by rw [cv_cf, ix]
    have st := tks_st (cf w) (ltr 14 j) [(chT 14 (nI j)).toInt] P ht
    rw [← ltr_s, ltr_l] at st
    have e1 : tks (cf w) [(chT 14 (nI j)).toInt] (P + j) = if cf w (P + j) = (chT 14 (nI j)).toInt then (true, P + j + 1) else (false, P + j) := rfl
    refine ⟨⟨by omega, by omega⟩, fun q => ?_, fun q => ?_⟩
    · rw [ev] at q
      rw [nI_1]
      refine ih (j + 1) (by omega) ?_ (by omega)
      rw [st, e1, if_pos q]
    · rw [ev] at q
      obtain ⟨l, el⟩ := ltr_a 14 (j + 1) (7 - (j + 1))
      have en : j + 1 + (7 - (j + 1)) = 7 := by omega
      rw [en] at el
      refine h0 ?_
      rw [el, tks_f (cf w) (ltr 14 (j + 1)) l P (P + j) (by rw [st, e1, if_neg q])]
theorem iss_14 {w : MW} {i : Nat} {Q : Int32 → MW → Prop} (hI : BND w) (h : WSt w i) (h1 : (w.1 99 17).toInt < 0 → wq (cf w) (w.1 1 2).toInt i (ltr 14 7) = true → Q 1 w) (h0 : (w.1 99 17).toInt < 0 → wq (cf w) (w.1 1 2).toInt i (ltr 14 7) = false → Q 0 w) (hb : 0 ≤ (w.1 99 17).toInt → Q 0 w) : p_Ro_iss99_2014 w Q := by
  have b12 := bd_99_12 hI
  have b13 := bd_99_13 hI
  have d := ti_sub2 h.2.1 h.1 (by rw [← h.2.1, ← h.1]; omega) (by rw [← h.2.1, ← h.1]; omega)
  refine Eq.mpr (p_Ro_iss99_2014.eq_1 _ _) ⟨hb, fun c => ⟨fun q => is_14 hI h.2.2.2 h.1 (fun t => h1 (by omega) ?_) (fun t => h0 (by omega) ?_) FU 0 (by omega) rfl (fu_lt (by decide)), fun q => h0 (by omega) ?_⟩⟩
  · unfold wq
    rw [t, decide_eq_true (show wnd (cf w) (w.1 1 2).toInt i - wat (cf w) (w.1 1 2).toInt i = ((ltr 14 7).length : Int) by rw [ltr_l, ← d]; exact q)]
    rfl
  · unfold wq
    rw [t, Bool.and_false]
  · unfold wq
    rw [decide_eq_false (show ¬ wnd (cf w) (w.1 1 2).toInt i - wat (cf w) (w.1 1 2).toInt i = ((ltr 14 7).length : Int) by rw [ltr_l, ← d]; exact q), Bool.false_and]
theorem is_15 {w : MW} {P : Int} {E : MW → Prop} {Q : Int32 → MW → Prop} (hI : BND w) (hr : w.2.2 99 11 = some 1) (hp : (w.1 99 12).toInt = P) (h1 : (tks (cf w) (ltr 15 1) P).1 = true → E w) (h0 : (tks (cf w) (ltr 15 1) P).1 = false → Q 0 w) (m : Nat) : ∀ j : Nat, j ≤ 1 → (tks (cf w) (ltr 15 j) P).1 = true → 1 - j < m → q_Ro_iss99_2015_27 E Q m (nI j) w := by
  induction m with
  | zero => intros; omega
  | succ m ih =>
    intro j hj ht hm
    have ti : (nI j).toInt = (j : Int) := nI_toInt (by omega)
    have b12 := bd_99_12 hI
    have ix := ti_add2 hp ti (by omega) (by omega)
    rw [q_Ro_iss99_2015_27.eq_2]
    refine ⟨fun c => ?_, fun c => ⟨hr, at_x hI ?_⟩⟩
    · obtain rfl : j = 1 := by omega
      exact h1 ht
    have ev : (cv w ((w.1 99 12) + nI j)).toInt = cf w (P + j) := by rw [cv_cf, ix]
    have st := tks_st (cf w) (ltr 15 j) [(chT 15 (nI j)).toInt] P ht
    rw [← ltr_s, ltr_l] at st
    have e1 : tks (cf w) [(chT 15 (nI j)).toInt] (P + j) = if cf w (P + j) = (chT 15 (nI j)).toInt then (true, P + j + 1) else (false, P + j) := rfl
    refine ⟨⟨by omega, by omega⟩, fun q => ?_, fun q => ?_⟩
    · rw [ev] at q
      rw [nI_1]
      refine ih (j + 1) (by omega) ?_ (by omega)
      rw [st, e1, if_pos q]
    · rw [ev] at q
      obtain ⟨l, el⟩ := ltr_a 15 (j + 1) (1 - (j + 1))
      have en : j + 1 + (1 - (j + 1)) = 1 := by omega
      rw [en] at el
      refine h0 ?_
      rw [el, tks_f (cf w) (ltr 15 (j + 1)) l P (P + j) (by rw [st, e1, if_neg q])]
theorem iss_15 {w : MW} {i : Nat} {Q : Int32 → MW → Prop} (hI : BND w) (h : WSt w i) (h1 : (w.1 99 17).toInt < 0 → wq (cf w) (w.1 1 2).toInt i (ltr 15 1) = true → Q 1 w) (h0 : (w.1 99 17).toInt < 0 → wq (cf w) (w.1 1 2).toInt i (ltr 15 1) = false → Q 0 w) (hb : 0 ≤ (w.1 99 17).toInt → Q 0 w) : p_Ro_iss99_2015 w Q := by
  have b12 := bd_99_12 hI
  have b13 := bd_99_13 hI
  have d := ti_sub2 h.2.1 h.1 (by rw [← h.2.1, ← h.1]; omega) (by rw [← h.2.1, ← h.1]; omega)
  refine Eq.mpr (p_Ro_iss99_2015.eq_1 _ _) ⟨hb, fun c => ⟨fun q => is_15 hI h.2.2.2 h.1 (fun t => h1 (by omega) ?_) (fun t => h0 (by omega) ?_) FU 0 (by omega) rfl (fu_lt (by decide)), fun q => h0 (by omega) ?_⟩⟩
  · unfold wq
    rw [t, decide_eq_true (show wnd (cf w) (w.1 1 2).toInt i - wat (cf w) (w.1 1 2).toInt i = ((ltr 15 1).length : Int) by rw [ltr_l, ← d]; exact q)]
    rfl
  · unfold wq
    rw [t, Bool.and_false]
  · unfold wq
    rw [decide_eq_false (show ¬ wnd (cf w) (w.1 1 2).toInt i - wat (cf w) (w.1 1 2).toInt i = ((ltr 15 1).length : Int) by rw [ltr_l, ← d]; exact q), Bool.false_and]
theorem tkw_15 {w : MW} {i : Nat} {Q : Int32 → MW → Prop} (hI : BND w) (h : WSt w i) (hi : i ≤ 100000) (h1 : (w.1 99 17).toInt < 0 → wq (cf w) (w.1 1 2).toInt i (ltr 15 1) = true → ∀ w', BND w' → FR lnw w w' → WSt w' (i + 1) → Q 1 w') (h0 : (w.1 99 17).toInt < 0 → wq (cf w) (w.1 1 2).toInt i (ltr 15 1) = false → Q 0 (sI w 99 17 (w.1 99 14))) (hb : 0 ≤ (w.1 99 17).toInt → Q 0 w) : p_Ro_takess99_2015 w Q :=
  Eq.mpr (p_Ro_takess99_2015.eq_1 _ _) (iss_15 hI h (fun c q => ⟨fun _ => nws hI h hi (fun w' B F S => h1 c q w' B F S), fun z => absurd (show ¬ (1 : Int32).toInt = 0 by decide) z⟩) (fun c q => ⟨fun z => absurd i_0 z, fun _ => flr_x c (h0 c q)⟩) (fun c => ⟨fun z => absurd i_0 z, fun _ => flr_b c (hb c)⟩))
/-! the class's number behind a word's first letters -/
def dgv (f : Int → Int) : Nat → Int → Int → Int
  | 0, _, v => v
  | k + 1, p, v => if 48 ≤ f p ∧ f p ≤ 57 then dgv f k (p + 1) (v * 10 + f p - 48) else -1
theorem dgv_u (f : Int → Int) (k : Nat) (p v : Int) : dgv f (k + 1) p v = if 48 ≤ f p ∧ f p ≤ 57 then dgv f k (p + 1) (v * 10 + f p - 48) else -1 := rfl
/-- the number that word i is behind its first s letters, -1 when it is none up to m -/
def nbv (f : Int → Int) (n : Int) (i : Nat) (s m : Int) : Int := if wnd f n i - (wat f n i + s) < 1 ∨ 4 < wnd f n i - (wat f n i + s) ∨ (1 < wnd f n i - (wat f n i + s) ∧ f (wat f n i + s) = 48) then -1 else if m < dgv f (wnd f n i - (wat f n i + s)).toNat (wat f n i + s) 0 then -1 else dgv f (wnd f n i - (wat f n i + s)).toNat (wat f n i + s) 0
theorem idg_x {w : MW} {c : Int32} {Q : Int32 → MW → Prop} (h1 : 48 ≤ c.toInt ∧ c.toInt ≤ 57 → Q 1 w) (h0 : ¬ (48 ≤ c.toInt ∧ c.toInt ≤ 57) → Q 0 w) : p_Tp_isDigit w c Q :=
  Eq.mpr (p_Tp_isDigit.eq_1 _ _ _) ⟨fun d => h0 (by omega), fun d => ⟨fun d2 => h0 (by omega), fun d2 => h1 (by omega)⟩⟩
theorem nb_54 {w : MW} {b a d : Int32} {P T : Int} {D : Nat} {E Q : Int32 → MW → Prop} (hI : BND w) (hr : w.2.2 99 11 = some 1) (ha : a.toInt = P) (p0 : 0 ≤ P) (p4 : P ≤ 4001) (hd : d.toInt = (D : Int)) (d4 : D ≤ 4) (hE : ∀ v : Int32, v.toInt = T → E v w) (hQ : T = -1 → Q (-1) w) (m : Nat) : ∀ (j : Nat) (v : Int32), j ≤ D → 0 ≤ v.toInt → v.toInt < 10 ^ j → dgv (cf w) (D - j) (P + j) v.toInt = T → D - j < m → q_Ro_numberBehinds99_54 b a d E Q m v (nI j) w := by
  induction m with
  | zero => intros; omega
  | succ m ih =>
    intro j v hj v0 v1 hT hm
    have ti : (nI j).toInt = (j : Int) := nI_toInt (by omega)
    have ix := ti_add2 ha ti (by omega) (by omega)
    have pw : (10 : Int) ^ j ≤ 10000 := by
      have : j = 0 ∨ j = 1 ∨ j = 2 ∨ j = 3 ∨ j = 4 := by omega
      rcases this with rfl | rfl | rfl | rfl | rfl <;> decide
    rw [q_Ro_numberBehinds99_54.eq_2]
    refine ⟨fun c => ?_, fun c => ⟨hr, at_x hI ?_⟩⟩
    · have e : D - j = 0 := by omega
      rw [e] at hT
      exact hE v hT
    have ev : (cv w (a + nI j)).toInt = cf w (P + j) := by rw [cv_cf, ix]
    obtain ⟨k, ek⟩ : ∃ k, D - j = k + 1 := ⟨D - j - 1, by omega⟩
    rw [ek, dgv_u] at hT
    refine idg_x (fun q => ⟨fun _ => ⟨hr, at_x hI ?_⟩, fun z => absurd (show ¬ (1 : Int32).toInt = 0 by decide) z⟩) (fun q => ⟨fun z => absurd i_0 z, fun _ => ?_⟩)
    · have q2 := q
      rw [ev] at q2
      rw [if_pos q2] at hT
      have s1 := ti_mul2 (Eq.refl v.toInt) (by decide : ((10 : Int32)).toInt = 10) (by omega) (by omega)
      have s2 := ti_add2 s1 ev (by omega) (by omega)
      have s3 := ti_sub2 s2 (by decide : ((48 : Int32)).toInt = 48) (by omega) (by omega)
      rw [nI_1]
      have pj : (10 : Int) ^ (j + 1) = 10 ^ j * 10 := Int.pow_succ 10 j
      refine ih (j + 1) _ (by omega) (by omega) (by omega) ?_ (by omega)
      have e1 : D - (j + 1) = k := by omega
      have e2 : P + ((j + 1 : Nat) : Int) = P + (j : Int) + 1 := by omega
      rw [e1, e2, s3]
      exact hT
    · rw [ev] at q
      rw [if_neg q] at hT
      exact hQ hT.symm
theorem nbh {w : MW} {i : Nat} {s m : Int32} {S M : Int} {Q : Int32 → MW → Prop} (hI : BND w) (h : WSt w i) (hs : s.toInt = S) (s0 : 0 ≤ S) (s1 : S ≤ 1) (hm : m.toInt = M) (m0 : 0 ≤ M) (hQ : ∀ r : Int32, r.toInt = nbv (cf w) (w.1 1 2).toInt i S M → Q r w) : p_Ro_numberBehinds99 w s m Q := by
  have b12 := bd_99_12 hI
  have b13 := bd_99_13 hI
  have h12 := h.1
  have h13 := h.2.1
  have x1 := ti_add2 h12 hs (by omega) (by omega)
  have x2 := ti_sub2 h13 x1 (by omega) (by omega)
  unfold nbv at hQ
  have go : ¬ (wnd (cf w) (w.1 1 2).toInt i - (wat (cf w) (w.1 1 2).toInt i + S) < 1 ∨ 4 < wnd (cf w) (w.1 1 2).toInt i - (wat (cf w) (w.1 1 2).toInt i + S) ∨ (1 < wnd (cf w) (w.1 1 2).toInt i - (wat (cf w) (w.1 1 2).toInt i + S) ∧ cf w (wat (cf w) (w.1 1 2).toInt i + S) = 48)) → q_Ro_numberBehinds99_54 m ((w.1 99 12) + s) ((w.1 99 13) - ((w.1 99 12) + s)) (fun (e54_5_11 : Int32) (w11 : MW) => ((m.toInt < e54_5_11.toInt → (Q (-1) w11)) ∧ (¬ (m.toInt < e54_5_11.toInt) → (Q e54_5_11 w11)))) Q FU 0 0 w := fun c => by
    rw [if_neg c] at hQ
    have c1 : 1 ≤ wnd (cf w) (w.1 1 2).toInt i - (wat (cf w) (w.1 1 2).toInt i + S) ∧ wnd (cf w) (w.1 1 2).toInt i - (wat (cf w) (w.1 1 2).toInt i + S) ≤ 4 := by
      refine ⟨?_, ?_⟩
      · by_cases q : wnd (cf w) (w.1 1 2).toInt i - (wat (cf w) (w.1 1 2).toInt i + S) < 1
        · exact absurd (Or.inl q) c
        · omega
      · by_cases q : 4 < wnd (cf w) (w.1 1 2).toInt i - (wat (cf w) (w.1 1 2).toInt i + S)
        · exact absurd (Or.inr (Or.inl q)) c
        · omega
    have e0 : wat (cf w) (w.1 1 2).toInt i + S + ((0 : Nat) : Int) = wat (cf w) (w.1 1 2).toInt i + S := by omega
    generalize eT : dgv (cf w) (wnd (cf w) (w.1 1 2).toInt i - (wat (cf w) (w.1 1 2).toInt i + S)).toNat (wat (cf w) (w.1 1 2).toInt i + S) 0 = T at hQ
    have h1 : ∀ v : Int32, v.toInt = T → ((m.toInt < v.toInt → (Q (-1) w)) ∧ (¬ (m.toInt < v.toInt) → (Q v w))) := fun v hv => ⟨fun q => hQ _ (by rw [if_pos (by omega)]; exact i_m1), fun q => hQ _ (by rw [if_neg (by omega)]; exact hv)⟩
    have h2 : T = -1 → Q (-1) w := fun q => hQ _ (by rw [if_neg (by omega), q]; exact i_m1)
    have h3 : dgv (cf w) ((wnd (cf w) (w.1 1 2).toInt i - (wat (cf w) (w.1 1 2).toInt i + S)).toNat - 0) (wat (cf w) (w.1 1 2).toInt i + S + ((0 : Nat) : Int)) (0 : Int32).toInt = T := by
      rw [i_0, e0, Nat.sub_zero]
      exact eT
    have h4 : (wnd (cf w) (w.1 1 2).toInt i - (wat (cf w) (w.1 1 2).toInt i + S)).toNat - 0 < FU := Nat.lt_of_le_of_lt (show _ ≤ 4 by omega) (fu_lt (by decide))
    exact nb_54 (D := (wnd (cf w) (w.1 1 2).toInt i - (wat (cf w) (w.1 1 2).toInt i + S)).toNat) hI h.2.2.2 x1 (by omega) (by omega) (by rw [x2]; omega) (by omega) h1 h2 FU 0 0 (Nat.zero_le _) (by decide) (by decide) h3 h4
  refine Eq.mpr (p_Ro_numberBehinds99.eq_1 _ _ _ _) ⟨fun c => ?_, fun c => ⟨fun c2 => ?_, fun c2 => ⟨fun c3 => go ?_, fun c3 => ⟨h.2.2.2, at_x hI ⟨fun c4 => go ?_, fun c4 => ?_⟩⟩⟩⟩⟩
  · rw [x2] at c
    refine hQ _ ?_
    rw [if_pos (Or.inl c)]
    exact i_m1
  · rw [x2] at c2
    refine hQ _ ?_
    rw [if_pos (Or.inr (Or.inl c2))]
    exact i_m1
  · rw [x2] at c c2 c3
    intro z
    rcases z with z | z | z
    · exact c z
    · exact c2 z
    · have := z.1
      omega
  · rw [x2] at c c2 c3
    have ev : (cv w ((w.1 99 12) + s)).toInt = cf w (wat (cf w) (w.1 1 2).toInt i + S) := by rw [cv_cf, x1]
    intro z
    rcases z with z | z | z
    · exact c z
    · exact c2 z
    · rw [ev] at c4
      exact c4 z.2
  · rw [x2] at c3
    have ev : (cv w ((w.1 99 12) + s)).toInt = cf w (wat (cf w) (w.1 1 2).toInt i + S) := by rw [cv_cf, x1]
    have c4 := Classical.not_not.mp c4
    rw [ev] at c4
    refine hQ _ ?_
    rw [if_pos (Or.inr (Or.inr ⟨by omega, c4⟩))]
    exact i_m1
/-! the grammar of a row's condition: a relation that both readers tell -/
def rsF (i : Nat) : Bool × List Int × Nat × Nat := (false, [], 0, i)
/-- the condition that word i is, or -1 -/
def cnw (f : Int → Int) (n : Int) (i : Nat) : Int := if f (wat f n i) = 99 then nbv f n i 1 15 else -1
/-- md 0: a part, 1: parts joined by and, 2: these joined by or, 3: behind a part, 4: behind parts joined by and -/
def SP (f : Int → Int) (n : Int) : Nat → Nat → Nat → List Int → Nat → Nat → (Bool × List Int × Nat × Nat) → Prop
  | 0, _, _, _, _, _, _ => False
  | k + 1, 0, o, c, t, i, r => if wq f n i (ltr 8 3) = true then (if o = 20 then r = rsF i else ∃ r1, SP f n k 0 (o + 1) c t (i + 1) r1 ∧ r = if r1.1 = true then (true, r1.2.1 ++ [16], r1.2.2.1, r1.2.2.2) else r1) else if wq f n i (ltr 9 1) = true then (if o = 20 then r = rsF i else ∃ r1, SP f n k 2 (o + 1) c t (i + 1) r1 ∧ r = if r1.1 = true then (if wq f n r1.2.2.2 (ltr 10 1) = true then (true, r1.2.1, r1.2.2.1, r1.2.2.2 + 1) else rsF r1.2.2.2) else r1) else r = if cnw f n i < 0 ∨ t = 32 then rsF i else (true, c ++ [cnw f n i], t + 1, i + 1)
  | k + 1, 1, o, c, t, i, r => ∃ r1, SP f n k 0 o c t i r1 ∧ if r1.1 = true then SP f n k 3 o r1.2.1 r1.2.2.1 r1.2.2.2 r else r = r1
  | k + 1, 2, o, c, t, i, r => ∃ r1, SP f n k 1 o c t i r1 ∧ if r1.1 = true then SP f n k 4 o r1.2.1 r1.2.2.1 r1.2.2.2 r else r = r1
  | k + 1, 3, o, c, t, i, r => if wq f n i (ltr 11 3) = true then ∃ r1, SP f n k 0 o c t (i + 1) r1 ∧ (if r1.1 = true then SP f n k 3 o (r1.2.1 ++ [17]) r1.2.2.1 r1.2.2.2 r else r = r1) else r = (true, c, t, i)
  | k + 1, _, o, c, t, i, r => if wq f n i (ltr 12 2) = true then ∃ r1, SP f n k 1 o c t (i + 1) r1 ∧ (if r1.1 = true then SP f n k 4 o (r1.2.1 ++ [18]) r1.2.2.1 r1.2.2.2 r else r = r1) else r = (true, c, t, i)
theorem SP0 (f : Int → Int) (n : Int) (k o : Nat) (c : List Int) (t i : Nat) (r : Bool × List Int × Nat × Nat) : SP f n (k + 1) 0 o c t i r = (if wq f n i (ltr 8 3) = true then (if o = 20 then r = rsF i else ∃ r1, SP f n k 0 (o + 1) c t (i + 1) r1 ∧ r = if r1.1 = true then (true, r1.2.1 ++ [16], r1.2.2.1, r1.2.2.2) else r1) else if wq f n i (ltr 9 1) = true then (if o = 20 then r = rsF i else ∃ r1, SP f n k 2 (o + 1) c t (i + 1) r1 ∧ r = if r1.1 = true then (if wq f n r1.2.2.2 (ltr 10 1) = true then (true, r1.2.1, r1.2.2.1, r1.2.2.2 + 1) else rsF r1.2.2.2) else r1) else r = if cnw f n i < 0 ∨ t = 32 then rsF i else (true, c ++ [cnw f n i], t + 1, i + 1)) := rfl
theorem SP1 (f : Int → Int) (n : Int) (k o : Nat) (c : List Int) (t i : Nat) (r : Bool × List Int × Nat × Nat) : SP f n (k + 1) 1 o c t i r = (∃ r1, SP f n k 0 o c t i r1 ∧ if r1.1 = true then SP f n k 3 o r1.2.1 r1.2.2.1 r1.2.2.2 r else r = r1) := rfl
theorem SP2 (f : Int → Int) (n : Int) (k o : Nat) (c : List Int) (t i : Nat) (r : Bool × List Int × Nat × Nat) : SP f n (k + 1) 2 o c t i r = (∃ r1, SP f n k 1 o c t i r1 ∧ if r1.1 = true then SP f n k 4 o r1.2.1 r1.2.2.1 r1.2.2.2 r else r = r1) := rfl
theorem SP3 (f : Int → Int) (n : Int) (k o : Nat) (c : List Int) (t i : Nat) (r : Bool × List Int × Nat × Nat) : SP f n (k + 1) 3 o c t i r = (if wq f n i (ltr 11 3) = true then ∃ r1, SP f n k 0 o c t (i + 1) r1 ∧ (if r1.1 = true then SP f n k 3 o (r1.2.1 ++ [17]) r1.2.2.1 r1.2.2.2 r else r = r1) else r = (true, c, t, i)) := rfl
theorem SP4 (f : Int → Int) (n : Int) (k m o : Nat) (c : List Int) (t i : Nat) (r : Bool × List Int × Nat × Nat) : SP f n (k + 1) (m + 4) o c t i r = (if wq f n i (ltr 12 2) = true then ∃ r1, SP f n k 1 o c t (i + 1) r1 ∧ (if r1.1 = true then SP f n k 4 o (r1.2.1 ++ [18]) r1.2.2.1 r1.2.2.2 r else r = r1) else r = (true, c, t, i)) := rfl
theorem sp_det {f : Int → Int} {n : Int} : ∀ (k k' md o : Nat) (c : List Int) (t i : Nat) (r r' : Bool × List Int × Nat × Nat), SP f n k md o c t i r → SP f n k' md o c t i r' → r = r' := by
  intro k
  induction k with
  | zero => intro k' md o c t i r r' h; exact absurd h (by cases md <;> exact fun z => z)
  | succ k ih =>
    intro k' md o c t i r r' h h'
    cases k' with
    | zero => exact absurd h' (by cases md <;> exact fun z => z)
    | succ k' =>
      match md with
      | 0 =>
        rw [SP0] at h h'
        by_cases c1 : wq f n i (ltr 8 3) = true
        · rw [if_pos c1] at h h'
          by_cases c2 : o = 20
          · rw [if_pos c2] at h h'
            rw [h, h']
          · rw [if_neg c2] at h h'
            obtain ⟨r1, h1, e⟩ := h
            obtain ⟨r2, h2, e'⟩ := h'
            rw [e, e', ih k' 0 _ _ _ _ _ _ h1 h2]
        · rw [if_neg c1] at h h'
          by_cases c3 : wq f n i (ltr 9 1) = true
          · rw [if_pos c3] at h h'
            by_cases c2 : o = 20
            · rw [if_pos c2] at h h'
              rw [h, h']
            · rw [if_neg c2] at h h'
              obtain ⟨r1, h1, e⟩ := h
              obtain ⟨r2, h2, e'⟩ := h'
              rw [e, e', ih k' 2 _ _ _ _ _ _ h1 h2]
          · rw [if_neg c3] at h h'
            rw [h, h']
      | 1 =>
        rw [SP1] at h h'
        obtain ⟨r1, h1, e⟩ := h
        obtain ⟨r2, h2, e'⟩ := h'
        have q := ih k' 0 _ _ _ _ _ _ h1 h2
        rw [← q] at e'
        by_cases c1 : r1.1 = true
        · rw [if_pos c1] at e e'
          exact ih k' 3 _ _ _ _ _ _ e e'
        · rw [if_neg c1] at e e'
          rw [e, e']
      | 2 =>
        rw [SP2] at h h'
        obtain ⟨r1, h1, e⟩ := h
        obtain ⟨r2, h2, e'⟩ := h'
        have q := ih k' 1 _ _ _ _ _ _ h1 h2
        rw [← q] at e'
        by_cases c1 : r1.1 = true
        · rw [if_pos c1] at e e'
          exact ih k' 4 _ _ _ _ _ _ e e'
        · rw [if_neg c1] at e e'
          rw [e, e']
      | 3 =>
        rw [SP3] at h h'
        by_cases c0 : wq f n i (ltr 11 3) = true
        · rw [if_pos c0] at h h'
          obtain ⟨r1, h1, e⟩ := h
          obtain ⟨r2, h2, e'⟩ := h'
          have q := ih k' 0 _ _ _ _ _ _ h1 h2
          rw [← q] at e'
          by_cases c1 : r1.1 = true
          · rw [if_pos c1] at e e'
            exact ih k' 3 _ _ _ _ _ _ e e'
          · rw [if_neg c1] at e e'
            rw [e, e']
        · rw [if_neg c0] at h h'
          rw [h, h']
      | m + 4 =>
        rw [SP4] at h h'
        by_cases c0 : wq f n i (ltr 12 2) = true
        · rw [if_pos c0] at h h'
          obtain ⟨r1, h1, e⟩ := h
          obtain ⟨r2, h2, e'⟩ := h'
          have q := ih k' 1 _ _ _ _ _ _ h1 h2
          rw [← q] at e'
          by_cases c1 : r1.1 = true
          · rw [if_pos c1] at e e'
            exact ih k' 4 _ _ _ _ _ _ e e'
          · rw [if_neg c1] at e e'
            rw [e, e']
        · rw [if_neg c0] at h h'
          rw [h, h']
theorem sp_s {f : Int → Int} {n : Int} : ∀ (k md o : Nat) (c : List Int) (t i : Nat) (r : Bool × List Int × Nat × Nat), SP f n k md o c t i r → SP f n (k + 1) md o c t i r := by
  intro k
  induction k with
  | zero => intro md o c t i r h; exact absurd h (by cases md <;> exact fun z => z)
  | succ k ih =>
    intro md o c t i r h
    match md with
    | 0 =>
      rw [SP0] at h ⊢
      by_cases c1 : wq f n i (ltr 8 3) = true
      · rw [if_pos c1] at h ⊢
        by_cases c2 : o = 20
        · rw [if_pos c2] at h ⊢
          exact h
        · rw [if_neg c2] at h ⊢
          obtain ⟨r1, h1, e⟩ := h
          exact ⟨r1, ih _ _ _ _ _ _ h1, e⟩
      · rw [if_neg c1] at h ⊢
        by_cases c3 : wq f n i (ltr 9 1) = true
        · rw [if_pos c3] at h ⊢
          by_cases c2 : o = 20
          · rw [if_pos c2] at h ⊢
            exact h
          · rw [if_neg c2] at h ⊢
            obtain ⟨r1, h1, e⟩ := h
            exact ⟨r1, ih _ _ _ _ _ _ h1, e⟩
        · rw [if_neg c3] at h ⊢
          exact h
    | 1 =>
      rw [SP1] at h ⊢
      obtain ⟨r1, h1, e⟩ := h
      refine ⟨r1, ih _ _ _ _ _ _ h1, ?_⟩
      by_cases c1 : r1.1 = true
      · rw [if_pos c1] at e ⊢
        exact ih _ _ _ _ _ _ e
      · rw [if_neg c1] at e ⊢
        exact e
    | 2 =>
      rw [SP2] at h ⊢
      obtain ⟨r1, h1, e⟩ := h
      refine ⟨r1, ih _ _ _ _ _ _ h1, ?_⟩
      by_cases c1 : r1.1 = true
      · rw [if_pos c1] at e ⊢
        exact ih _ _ _ _ _ _ e
      · rw [if_neg c1] at e ⊢
        exact e
    | 3 =>
      rw [SP3] at h ⊢
      by_cases c0 : wq f n i (ltr 11 3) = true
      · rw [if_pos c0] at h ⊢
        obtain ⟨r1, h1, e⟩ := h
        refine ⟨r1, ih _ _ _ _ _ _ h1, ?_⟩
        by_cases c1 : r1.1 = true
        · rw [if_pos c1] at e ⊢
          exact ih _ _ _ _ _ _ e
        · rw [if_neg c1] at e ⊢
          exact e
      · rw [if_neg c0] at h ⊢
        exact h
    | m + 4 =>
      rw [SP4] at h ⊢
      by_cases c0 : wq f n i (ltr 12 2) = true
      · rw [if_pos c0] at h ⊢
        obtain ⟨r1, h1, e⟩ := h
        refine ⟨r1, ih _ _ _ _ _ _ h1, ?_⟩
        by_cases c1 : r1.1 = true
        · rw [if_pos c1] at e ⊢
          exact ih _ _ _ _ _ _ e
        · rw [if_neg c1] at e ⊢
          exact e
      · rw [if_neg c0] at h ⊢
        exact h
theorem sp_le {f : Int → Int} {n : Int} {k k' md o : Nat} {c : List Int} {t i : Nat} {r : Bool × List Int × Nat × Nat} (h : SP f n k md o c t i r) (hk : k ≤ k') : SP f n k' md o c t i r := by
  induction hk with
  | refl => exact h
  | step _ ih => exact sp_s _ _ _ _ _ _ _ ih
/-! how many words of two letters and more there are -/
def lwn (f : Int → Int) (n : Int) : Nat → Nat
  | 0 => 0
  | i + 1 => lwn f n i + (if 2 ≤ wnd f n i - wat f n i then 1 else 0)
theorem skp_e (f : Int → Int) (n : Int) : ∀ (k : Nat) (p : Int), (n - p).toNat ≤ k → ¬ (skp f n k p < n ∧ blk (f (skp f n k p)) = true) := by
  intro k
  induction k with
  | zero =>
    intro p h z
    have : skp f n 0 p = p := rfl
    rw [this] at z
    have := z.1
    omega
  | succ k ih =>
    intro p h
    rw [skp_u]
    by_cases c : p < n ∧ blk (f p) = true
    · rw [if_pos c]
      exact ih (p + 1) (by omega)
    · rw [if_neg c]
      exact c
theorem rnw_e (f : Int → Int) (n : Int) : ∀ (k : Nat) (p : Int), (n - p).toNat ≤ k → ¬ (rnw f n k p < n ∧ (blk (f (rnw f n k p)) = false ∧ mrk (f (rnw f n k p)) = false)) := by
  intro k
  induction k with
  | zero =>
    intro p h z
    have : rnw f n 0 p = p := rfl
    rw [this] at z
    have := z.1
    omega
  | succ k ih =>
    intro p h
    rw [rnw_u]
    by_cases c : p < n ∧ (blk (f p) = false ∧ mrk (f p) = false)
    · rw [if_pos c]
      exact ih (p + 1) (by omega)
    · rw [if_neg c]
      exact c
/-- two long words do not touch -/
theorem lw_gap {f : Int → Int} {n : Int} (h0 : 0 ≤ n) (hn : n ≤ 4000) (i : Nat) (h1 : 2 ≤ wnd f n i - wat f n i) (h2 : 2 ≤ wnd f n (i + 1) - wat f n (i + 1)) : wnd f n i + 1 ≤ wat f n (i + 1) := by
  have w := wat_b (f := f) h0 i
  have s := wat_s (f := f) h0 i
  have w' := wat_b (f := f) h0 (i + 1)
  have s' := wat_s (f := f) h0 (i + 1)
  by_cases c : wat f n (i + 1) = wnd f n i
  · have ew : wnd f n i = rnw f n 4001 (wat f n i) := by
      have e : wnd f n i = if rnw f n 4001 (wat f n i) = wat f n i ∧ wat f n i < n then wat f n i + 1 else rnw f n 4001 (wat f n i) := rfl
      by_cases q : rnw f n 4001 (wat f n i) = wat f n i ∧ wat f n i < n
      · rw [if_pos q] at e
        omega
      · rw [if_neg q] at e
        exact e
    have ne := rnw_e f n 4001 (wat f n i) (by omega)
    have es : wat f n (i + 1) = skp f n 4001 (wnd f n i) := rfl
    have nb := skp_e f n 4001 (wnd f n i) (by omega)
    rw [← es, c] at nb
    rw [← ew] at ne
    have lt : wnd f n i < n := by omega
    have e2 : wnd f n (i + 1) = if rnw f n 4001 (wat f n (i + 1)) = wat f n (i + 1) ∧ wat f n (i + 1) < n then wat f n (i + 1) + 1 else rnw f n 4001 (wat f n (i + 1)) := rfl
    have nr : rnw f n 4001 (wat f n (i + 1)) = wat f n (i + 1) := by
      rw [c]
      exact rnw_n 4001 ne
    rw [if_pos ⟨nr, by omega⟩] at e2
    omega
  · omega
theorem lw_b {f : Int → Int} {n : Int} (h0 : 0 ≤ n) (hn : n ≤ 4000) : ∀ i : Nat, 3 * (lwn f n (i + 1) : Int) ≤ wnd f n i + (if 2 ≤ wnd f n i - wat f n i ∨ n ≤ wat f n i then 1 else 0) := by
  intro i
  induction i with
  | zero =>
    have w := wat_b (f := f) h0 0
    have s := wat_s (f := f) h0 0
    have e : lwn f n (0 + 1) = 0 + (if 2 ≤ wnd f n 0 - wat f n 0 then 1 else 0) := rfl
    by_cases c : 2 ≤ wnd f n 0 - wat f n 0
    · rw [if_pos c] at e
      rw [if_pos (Or.inl c), e]
      omega
    · rw [if_neg c] at e
      rw [e]
      have := if01 (2 ≤ wnd f n 0 - wat f n 0 ∨ n ≤ wat f n 0)
      omega
  | succ i ih =>
    have w := wat_b (f := f) h0 i
    have s := wat_s (f := f) h0 i
    have w' := wat_b (f := f) h0 (i + 1)
    have s' := wat_s (f := f) h0 (i + 1)
    have e : lwn f n (i + 1 + 1) = lwn f n (i + 1) + (if 2 ≤ wnd f n (i + 1) - wat f n (i + 1) then 1 else 0) := rfl
    by_cases c : 2 ≤ wnd f n (i + 1) - wat f n (i + 1)
    · rw [if_pos c] at e
      rw [if_pos (Or.inl c), e]
      have lt : ¬ n ≤ wat f n i := by omega
      by_cases d : 2 ≤ wnd f n i - wat f n i
      · have g := lw_gap h0 hn i d c
        rw [if_pos (Or.inl d)] at ih
        omega
      · rw [if_neg (fun z => z.elim d lt)] at ih
        omega
    · rw [if_neg c] at e
      rw [e]
      have b := if01 (2 ≤ wnd f n i - wat f n i ∨ n ≤ wat f n i)
      by_cases d : n ≤ wat f n (i + 1)
      · rw [if_pos (Or.inr d)]
        omega
      · have := s'.2.2.2 (by omega)
        have := if01 (2 ≤ wnd f n (i + 1) - wat f n (i + 1) ∨ n ≤ wat f n (i + 1))
        omega
theorem lw_max {f : Int → Int} {n : Int} (h0 : 0 ≤ n) (hn : n ≤ 4000) (i : Nat) : lwn f n i ≤ 1333 := by
  cases i with
  | zero => exact Nat.zero_le _
  | succ i =>
    have a := lw_b (f := f) h0 hn i
    have s := wat_s (f := f) h0 i
    have b := if01 (2 ≤ wnd f n i - wat f n i ∨ n ≤ wat f n i)
    omega
theorem lw_l {f : Int → Int} {n : Int} {i : Nat} (h : 2 ≤ wnd f n i - wat f n i) : lwn f n (i + 1) = lwn f n i + 1 := by
  have e : lwn f n (i + 1) = lwn f n i + (if 2 ≤ wnd f n i - wat f n i then 1 else 0) := rfl
  rw [if_pos h] at e
  exact e
theorem lw_m {f : Int → Int} {n : Int} (i : Nat) : lwn f n i ≤ lwn f n (i + 1) := Nat.le_add_right _ _
theorem wq_len {f : Int → Int} {n : Int} {i : Nat} {l : List Int} (h : wq f n i l = true) : wnd f n i - wat f n i = (l.length : Int) := by
  unfold wq at h
  exact of_decide_eq_true (Bool.and_eq_true _ _ ▸ h).1
/-- a word that is there is not behind the text -/
theorem wq_in {f : Int → Int} {n : Int} {i : Nat} (h0 : 0 ≤ n) (h : 0 < wnd f n i - wat f n i) : wat f n i < n := by
  have w := wat_b (f := f) h0 i
  have s := wat_s (f := f) h0 i
  omega
/-! the class reads a row's condition -/
def lpu : Pl := [(99, some 10), (107, none)]
def lpt : Pl := [(99, some 10), (99, some 12), (99, some 13), (99, some 14), (99, some 15), (99, some 16), (99, some 17), (107, none)]
/-- the codes from place b on -/
def Cod (w : MW) (b : Nat) (c : List Int) : Prop := (w.1 99 10).toInt = ((b + c.length : Nat) : Int) ∧ ∀ (j : Nat) (x : Int), c[j]? = some x → (w.1 107 (b + j)).toInt = x
theorem cod_fr {l : Pl} {w w' : MW} {b : Nat} {c : List Int} (h : Cod w b c) (hF : FR l w w') (ho : off l lpu = true) : Cod w' b c := by
  refine ⟨?_, fun j x q => ?_⟩
  · rw [(hF 99 10 (off_hit ho rfl)).1]
    exact h.1
  · rw [(hF 107 (b + j) (off_hit ho rfl)).1]
    exact h.2 j x q
theorem pu_b {w : MW} {a : Int32} {Q : MW → Prop} (hI : BND w) (a0 : 0 ≤ a.toInt) (a1 : a.toInt ≤ 18) (hQ : ∀ w', BND w' → FR lpu w w' → Q w') : p_Ro_puts99 w a Q := by
  have b := bd_99_10 hI
  have s := ti_add2 (Eq.refl (w.1 99 10).toInt) i_1 (by omega) (by omega)
  exact Eq.mpr (p_Ro_puts99.eq_1 _ _ _) ⟨fun _ => hQ w hI (FR.refl _ w), fun c => ⟨⟨by omega, by omega⟩, hQ _ (wbd_99_10 (wbd_107 hI _ a0 a1) (by omega) (by omega)) (FR.I (FR.I (FR.refl _ w) rfl) rfl)⟩⟩
theorem pu_x {w : MW} {a : Int32} {b : Nat} {c : List Int} {x : Int} {Q : MW → Prop} (hI : BND w) (hc : Cod w b c) (lt : b + c.length < 1400) (ha : a.toInt = x) (a0 : 0 ≤ x) (a1 : x ≤ 18) (hQ : ∀ w', BND w' → FR lpu w w' → Cod w' b (c ++ [x]) → Q w') : p_Ro_puts99 w a Q := by
  have h1 := hc.1
  have s := ti_add2 h1 i_1 (by omega) (by omega)
  have n : (w.1 99 10).toInt.toNat = b + c.length := by omega
  refine Eq.mpr (p_Ro_puts99.eq_1 _ _ _) ⟨fun q => by omega, fun q => ⟨⟨by omega, by omega⟩, hQ _ (wbd_99_10 (wbd_107 hI _ (by omega) (by omega)) (by omega) (by omega)) (FR.I (FR.I (FR.refl _ w) rfl) rfl) ⟨?_, fun j y q => ?_⟩⟩⟩
  · rw [sI_same, s, List.length_append]
    show ((b + c.length : Nat) : Int) + 1 = ((b + (c.length + 1) : Nat) : Int)
    omega
  · rw [sI_oth _ _ _ _ _ _ (by decide), sI_if, n]
    by_cases e : j = c.length
    · rw [if_pos (by omega), ha]
      rw [e, List.getElem?_append_right (Nat.le_refl _), Nat.sub_self] at q
      exact Option.some.inj q
    · rw [if_neg (by omega)]
      have l2 := (List.getElem?_eq_some_iff.mp q).1
      rw [List.length_append] at l2
      have : ([x] : List Int).length = 1 := rfl
      rw [List.getElem?_append_left (by omega)] at q
      exact hc.2 j y q
/-- the class stands at word i, with its codes, nothing wrong -/
def CSt (w : MW) (b o : Nat) (c : List Int) (t i : Nat) : Prop := WSt w i ∧ (w.1 99 17).toInt < 0 ∧ (w.1 99 15).toInt = (o : Int) ∧ (w.1 99 16).toInt = (t : Int) ∧ Cod w b c
/-- behind a part: as r says -/
def OuC (w : MW) (b o pd : Nat) (r : Bool × List Int × Nat × Nat) : Prop := WSt w r.2.2.2 ∧ (w.1 99 15).toInt = (o : Int) ∧ r.2.2.2 ≤ 5000 ∧ ((r.1 = true ∧ CSt w b o r.2.1 r.2.2.1 r.2.2.2 ∧ r.2.2.1 ≤ 32 ∧ b + r.2.1.length + pd ≤ lwn (cf w) (w.1 1 2).toInt r.2.2.2) ∨ (r.1 = false ∧ (w.1 99 17).toInt = (r.2.2.2 : Int)))
/-- a reader of mode md, with d calls in one another left -/
def PQr (md : Nat) (X : MW → (MW → Prop) → Prop) (dn d : Nat) : Prop := ∀ (w : MW) (b o : Nat) (c : List Int) (t i pd : Nat) (Q : MW → Prop), BND w → CSt w b o c t i → o ≤ 20 → t ≤ 32 → i ≤ 5000 → b + c.length + pd ≤ lwn (cf w) (w.1 1 2).toInt i → 3 * (20 - o) + dn ≤ d → (∀ w' r, BND w' → FR lpt w w' → (∃ k, SP (cf w) (w.1 1 2).toInt k md o c t i r) → OuC w' b o pd r → Q w') → X w Q
theorem i_le {w : MW} {i : Nat} (hI : BND w) (h : 0 < wnd (cf w) (w.1 1 2).toInt i - wat (cf w) (w.1 1 2).toInt i) : i < 4000 := by
  have b := bd_1_2 hI
  have a := wq_in (f := cf w) b.1 h
  have c := wat_i (f := cf w) b.1 i a
  omega
theorem ltln (K N : Nat) : ((ltr K N).length : Int) = (N : Int) := by rw [ltr_l]
/-- what the words' functions hang on stands -/
theorem cf_n {l : Pl} {w w' : MW} (hF : FR l w w') (ho : off l [(1, some 2), (2, none)] = true) : cf w' = cf w ∧ w'.1 1 2 = w.1 1 2 := ⟨cf_fr hF ho, (hF 1 2 (off_hit ho rfl)).1⟩
/-- a wrong word -/
theorem ou_f {w w0 : MW} {b o pd i : Nat} (h : WSt w i) (h17 : (w.1 99 17).toInt < 0) (h15 : (w.1 99 15).toInt = (o : Int)) (hi : i ≤ 5000) : OuC (sI w 99 17 (w.1 99 14)) b o pd (rsF i) := by
  have F : FR [(99, some 17)] w (sI w 99 17 (w.1 99 14)) := FR.I (FR.refl _ w) rfl
  refine ⟨wst_fr h F rfl, ?_, hi, Or.inr ⟨rfl, ?_⟩⟩
  · rw [(F 99 15 rfl).1]
    exact h15
  · rw [sI_same]
    exact h.2.2.1
theorem pq_114 {rA rO rP : MW → (MW → Prop) → Prop} {w : MW} {b o t i pd : Nat} {c : List Int} {v : Int32} {Q : MW → Prop} (hI : BND w) (h : CSt w b o c t i) (t2 : t ≤ 32) (i5 : i ≤ 5000) (hl : b + c.length + pd ≤ lwn (cf w) (w.1 1 2).toInt i) (n1 : wq (cf w) (w.1 1 2).toInt i (ltr 8 3) = false) (n2 : wq (cf w) (w.1 1 2).toInt i (ltr 9 1) = false) (hv : v.toInt = cnw (cf w) (w.1 1 2).toInt i) (hQ : ∀ w' r, BND w' → FR lpt w w' → (∃ k, SP (cf w) (w.1 1 2).toInt k 0 o c t i r) → OuC w' b o pd r → Q w') : q_Ro_readParts99_114 rA rO rP v w Q := by
  have sp : ∀ r, (r = if cnw (cf w) (w.1 1 2).toInt i < 0 ∨ t = 32 then rsF i else (true, c ++ [cnw (cf w) (w.1 1 2).toInt i], t + 1, i + 1)) → ∃ k, SP (cf w) (w.1 1 2).toInt k 0 o c t i r := fun r e => by
    refine ⟨1, ?_⟩
    rw [SP0]
    rw [if_neg (by rw [n1]; decide), if_neg (by rw [n2]; decide)]
    exact e
  have fail : cnw (cf w) (w.1 1 2).toInt i < 0 ∨ t = 32 → p_Ro_fails99 w (fun w' => Q w') := fun z => flr_x h.2.1 (hQ _ (rsF i) (wbd_99_17 hI) (FR.I (FR.refl _ w) rfl) (sp _ (by rw [if_pos z])) (ou_f (w0 := w) h.1 h.2.1 h.2.2.1 i5))
  have h17 := h.2.1
  have h16 := h.2.2.2.1
  refine Eq.mpr (q_Ro_readParts99_114.eq_1 _ _ _ _ _ _) ⟨fun z => by omega, fun _ => ⟨fun z => fail (Or.inl (by omega)), fun z => ⟨fun z2 => ?_, fun z2 => fail (Or.inr (by omega))⟩⟩⟩
  have nf : ¬ (cnw (cf w) (w.1 1 2).toInt i < 0 ∨ t = 32) := fun y => by
    rcases y with y | y
    · omega
    · omega
  have s := ti_add2 h16 i_1 (by omega) (by omega)
  have B1 : BND (sI w 99 16 ((w.1 99 16) + (1 : Int32))) := wbd_99_16 hI (by omega) (by omega)
  have F1 : FR [(99, some 16)] w (sI w 99 16 ((w.1 99 16) + (1 : Int32))) := FR.I (FR.refl _ w) rfl
  have e16 : ((sI w 99 16 ((w.1 99 16) + (1 : Int32))).1 99 16).toInt = ((t + 1 : Nat) : Int) := by rw [sI_same, s]; rfl
  generalize (sI w 99 16 ((w.1 99 16) + (1 : Int32))) = w1 at *
  have b2 := bd_1_2 hI
  have len : 2 ≤ wnd (cf w) (w.1 1 2).toInt i - wat (cf w) (w.1 1 2).toInt i ∧ cnw (cf w) (w.1 1 2).toInt i ≤ 15 := by
    have nz : ¬ cnw (cf w) (w.1 1 2).toInt i < 0 := fun y => nf (Or.inl y)
    unfold cnw at nz ⊢
    by_cases q : cf w (wat (cf w) (w.1 1 2).toInt i) = 99
    · rw [if_pos q] at nz ⊢
      unfold nbv at nz ⊢
      by_cases q2 : wnd (cf w) (w.1 1 2).toInt i - (wat (cf w) (w.1 1 2).toInt i + 1) < 1 ∨ 4 < wnd (cf w) (w.1 1 2).toInt i - (wat (cf w) (w.1 1 2).toInt i + 1) ∨ (1 < wnd (cf w) (w.1 1 2).toInt i - (wat (cf w) (w.1 1 2).toInt i + 1) ∧ cf w (wat (cf w) (w.1 1 2).toInt i + 1) = 48)
      · rw [if_pos q2] at nz
        exact absurd (by decide) nz
      · rw [if_neg q2] at nz ⊢
        by_cases q3 : 15 < dgv (cf w) (wnd (cf w) (w.1 1 2).toInt i - (wat (cf w) (w.1 1 2).toInt i + 1)).toNat (wat (cf w) (w.1 1 2).toInt i + 1) 0
        · rw [if_pos q3] at nz
          exact absurd (by decide) nz
        · rw [if_neg q3]
          refine ⟨?_, by omega⟩
          by_cases q4 : wnd (cf w) (w.1 1 2).toInt i - (wat (cf w) (w.1 1 2).toInt i + 1) < 1
          · exact absurd (Or.inl q4) q2
          · omega
    · rw [if_neg q] at nz
      exact absurd (by decide) nz
  have mx := lw_max (f := cf w) b2.1 b2.2 i
  have i4 := i_le hI (i := i) (by omega)
  have le := lw_l len.1
  refine pu_x B1 (cod_fr h.2.2.2.2 F1 rfl) (by omega) hv (by omega) (by omega) (fun w2 B2 F2 C2 => nws B2 (wst_fr (wst_fr h.1 F1 rfl) F2 rfl) (by omega) (fun w3 B3 F3 S3 => ?_))
  have F : FR lpt w w3 := ((FR.tr (FR.refl _ w) F1 rfl).tr F2 rfl).tr F3 rfl
  have cn := cf_n F rfl
  refine hQ w3 (true, c ++ [cnw (cf w) (w.1 1 2).toInt i], t + 1, i + 1) B3 F (sp _ (by rw [if_neg nf])) ⟨S3, ?_, by show i + 1 ≤ 5000; omega, Or.inl ⟨rfl, ⟨S3, ?_, ?_, ?_, cod_fr C2 F3 rfl⟩, by show t + 1 ≤ 32; omega, ?_⟩⟩
  · rw [(F3 99 15 rfl).1, (F2 99 15 rfl).1, (F1 99 15 rfl).1]
    exact h.2.2.1
  · rw [(F3 99 17 rfl).1, (F2 99 17 rfl).1, (F1 99 17 rfl).1]
    exact h17
  · rw [(F3 99 15 rfl).1, (F2 99 15 rfl).1, (F1 99 15 rfl).1]
    exact h.2.2.1
  · rw [(F3 99 16 rfl).1, (F2 99 16 rfl).1]
    exact e16
  · rw [cn.1, cn.2]
    show b + (c ++ [cnw (cf w) (w.1 1 2).toInt i]).length + pd ≤ lwn (cf w) (w.1 1 2).toInt (i + 1)
    rw [List.length_append, le]
    show b + (c.length + 1) + pd ≤ _
    omega
theorem b16 : ((16 : Int32)).toInt = 16 := by decide
theorem b17 : ((17 : Int32)).toInt = 17 := by decide
theorem b18 : ((18 : Int32)).toInt = 18 := by decide
/-- a part that begins with not, or with a bracket -/
theorem pq_20 {rA rO rP : MW → (MW → Prop) → Prop} {d : Nat} (hO : PQr 2 rO 3 d) (hP : PQr 0 rP 1 d) {w : MW} {b o t i pd : Nat} {c : List Int} {y : Int32} {Q : MW → Prop} (hI : BND w) (h : CSt w b o c t i) (o2 : o ≤ 20) (t2 : t ≤ 32) (i5 : i ≤ 5000) (hl : b + c.length + pd ≤ lwn (cf w) (w.1 1 2).toInt i) (hd : 3 * (20 - o) + 1 ≤ d + 1) (hy : (¬ y.toInt = 0 ∧ wq (cf w) (w.1 1 2).toInt i (ltr 8 3) = true) ∨ (y.toInt = 0 ∧ wq (cf w) (w.1 1 2).toInt i (ltr 8 3) = false ∧ wq (cf w) (w.1 1 2).toInt i (ltr 9 1) = true)) (hQ : ∀ w' r, BND w' → FR lpt w w' → (∃ k, SP (cf w) (w.1 1 2).toInt k 0 o c t i r) → OuC w' b o pd r → Q w') : q_Ro_readParts99_20 rA rO rP y w Q := by
  have h15 := h.2.2.1
  have b2 := bd_1_2 hI
  refine Eq.mpr (q_Ro_readParts99_20.eq_1 _ _ _ _ _ _) ⟨fun z => ?_, fun z => ?_⟩
  · have no : ¬ o = 20 := by omega
    have s := ti_add2 h15 i_1 (by omega) (by omega)
    have B1 : BND (sI w 99 15 ((w.1 99 15) + (1 : Int32))) := wbd_99_15 hI (by omega) (by omega)
    have F1 : FR [(99, some 15)] w (sI w 99 15 ((w.1 99 15) + (1 : Int32))) := FR.I (FR.refl _ w) rfl
    have e15 : ((sI w 99 15 ((w.1 99 15) + (1 : Int32))).1 99 15).toInt = ((o + 1 : Nat) : Int) := by rw [sI_same, s]; rfl
    generalize (sI w 99 15 ((w.1 99 15) + (1 : Int32))) = w1 at *
    have i4 : i < 4000 := by
      rcases hy with q | q
      · have := wq_len q.2
        rw [ltln] at this
        exact i_le hI (by omega)
      · have := wq_len q.2.2
        rw [ltln] at this
        exact i_le hI (by omega)
    refine nws B1 (wst_fr h.1 F1 rfl) (by omega) (fun w4 B4 F4 S4 => ?_)
    have F : FR lpt w w4 := (FR.tr (FR.refl _ w) F1 rfl).tr F4 rfl
    have cn := cf_n F rfl
    have C4 : CSt w4 b (o + 1) c t (i + 1) := ⟨S4, by rw [(F4 99 17 rfl).1, (F1 99 17 rfl).1]; exact h.2.1, by rw [(F4 99 15 rfl).1]; exact e15, by rw [(F4 99 16 rfl).1, (F1 99 16 rfl).1]; exact h.2.2.2.1, cod_fr (cod_fr h.2.2.2.2 F1 rfl) F4 rfl⟩
    have dec : ∀ v : MW, BND v → (v.1 99 15).toInt = ((o + 1 : Nat) : Int) → BND (sI v 99 15 ((v.1 99 15) - (1 : Int32))) ∧ FR [(99, some 15)] v (sI v 99 15 ((v.1 99 15) - (1 : Int32))) ∧ ((sI v 99 15 ((v.1 99 15) - (1 : Int32))).1 99 15).toInt = (o : Int) := fun v Bv ev => by
      have s2 := ti_sub2 ev i_1 (by omega) (by omega)
      refine ⟨wbd_99_15 Bv (by omega) (by omega), FR.I (FR.refl _ v) rfl, ?_⟩
      rw [sI_same, s2]
      omega
    refine ⟨fun y0 => ?_, fun y0 => ?_⟩
    · have q := hy.resolve_left (fun k => k.1 y0)
      refine hO w4 b (o + 1) c t (i + 1) pd _ B4 C4 (by omega) t2 (by omega) (by rw [cn.1, cn.2]; have := lw_m (f := cf w) (n := (w.1 1 2).toInt) i; omega) (by omega) (fun w6 r1 B6 F6 S6 U6 => ?_)
      rw [cn.1, cn.2] at S6
      obtain ⟨k, hk⟩ := S6
      have G6 : FR lpt w w6 := F.tr F6 rfl
      have cn6 := cf_n G6 rfl
      have sp : ∀ r, (r = if r1.1 = true then (if wq (cf w) (w.1 1 2).toInt r1.2.2.2 (ltr 10 1) = true then (true, r1.2.1, r1.2.2.1, r1.2.2.2 + 1) else rsF r1.2.2.2) else r1) → ∃ k, SP (cf w) (w.1 1 2).toInt k 0 o c t i r := fun r e => by
        refine ⟨k + 1, ?_⟩
        rw [SP0]
        rw [if_neg (by rw [q.2.1]; decide), if_pos q.2.2, if_neg no]
        exact ⟨r1, hk, e⟩
      have i6 := U6.2.2.1
      refine tkw_10 B6 U6.1 (by omega) (fun w17 wqt w7 B7 F7 S7 => ?_) (fun w17 wqf => ?_) (fun w17 => ?_)
      · rw [cn6.1, cn6.2] at wqt
        rcases U6.2.2.2 with ⟨ok, C6, t6, l6⟩ | ⟨nk, e17⟩
        · have e7 : (w7.1 99 15).toInt = ((o + 1 : Nat) : Int) := by rw [(F7 99 15 rfl).1]; exact U6.2.1
          have D := dec w7 B7 e7
          have i7 : r1.2.2.2 < 4000 := by
            have z1 := wq_len wqt
            rw [ltln] at z1
            exact i_le hI (by omega)
          generalize (sI w7 99 15 ((w7.1 99 15) - (1 : Int32))) = w8 at *
          have G8 : FR lpt w w8 := (G6.tr F7 rfl).tr D.2.1 rfl
          have cn8 := cf_n G8 rfl
          refine hQ w8 (true, r1.2.1, r1.2.2.1, r1.2.2.2 + 1) D.1 G8 (sp _ (by rw [if_pos ok, if_pos wqt])) ⟨wst_fr S7 D.2.1 rfl, D.2.2, by show r1.2.2.2 + 1 ≤ 5000; omega, Or.inl ⟨rfl, ⟨wst_fr S7 D.2.1 rfl, ?_, D.2.2, ?_, cod_fr (cod_fr C6.2.2.2.2 F7 rfl) D.2.1 rfl⟩, t6, ?_⟩⟩
          · rw [(D.2.1 99 17 rfl).1, (F7 99 17 rfl).1]
            exact C6.2.1
          · rw [(D.2.1 99 16 rfl).1, (F7 99 16 rfl).1]
            exact C6.2.2.2.1
          · rw [cn8.1, cn8.2]
            rw [cn6.1, cn6.2] at l6
            have := lw_m (f := cf w) (n := (w.1 1 2).toInt) r1.2.2.2
            show b + r1.2.1.length + pd ≤ lwn (cf w) (w.1 1 2).toInt (r1.2.2.2 + 1)
            omega
        · omega
      · rw [cn6.1, cn6.2] at wqf
        rcases U6.2.2.2 with ⟨ok, C6, t6, l6⟩ | ⟨nk, e17⟩
        · have Ff : FR [(99, some 17)] w6 (sI w6 99 17 (w6.1 99 14)) := FR.I (FR.refl _ w6) rfl
          have Bf : BND (sI w6 99 17 (w6.1 99 14)) := wbd_99_17 B6
          have ef : ((sI w6 99 17 (w6.1 99 14)).1 99 17).toInt = (r1.2.2.2 : Int) := by rw [sI_same]; exact U6.1.2.2.1
          generalize (sI w6 99 17 (w6.1 99 14)) = w7 at *
          have e7 : (w7.1 99 15).toInt = ((o + 1 : Nat) : Int) := by rw [(Ff 99 15 rfl).1]; exact U6.2.1
          have D := dec w7 Bf e7
          generalize (sI w7 99 15 ((w7.1 99 15) - (1 : Int32))) = w8 at *
          refine hQ w8 (rsF r1.2.2.2) D.1 ((G6.tr Ff rfl).tr D.2.1 rfl) (sp _ (by rw [if_pos ok, if_neg (by rw [wqf]; decide)])) ⟨wst_fr (wst_fr U6.1 Ff rfl) D.2.1 rfl, D.2.2, i6, Or.inr ⟨rfl, ?_⟩⟩
          rw [(D.2.1 99 17 rfl).1]
          exact ef
        · omega
      · rcases U6.2.2.2 with ⟨ok, C6, t6, l6⟩ | ⟨nk, e17⟩
        · have := C6.2.1
          omega
        · have D := dec w6 B6 U6.2.1
          generalize (sI w6 99 15 ((w6.1 99 15) - (1 : Int32))) = w8 at *
          refine hQ w8 r1 D.1 (G6.tr D.2.1 rfl) (sp _ (by rw [if_neg (by rw [nk]; decide)])) ⟨wst_fr U6.1 D.2.1 rfl, D.2.2, i6, Or.inr ⟨nk, ?_⟩⟩
          rw [(D.2.1 99 17 rfl).1]
          exact e17
    · have q := hy.resolve_right (fun k => y0 k.1)
      have ln := wq_len q.2
      rw [ltln] at ln
      have le := lw_l (f := cf w) (n := (w.1 1 2).toInt) (i := i) (by omega)
      refine hP w4 b (o + 1) c t (i + 1) (pd + 1) _ B4 C4 (by omega) t2 (by omega) (by rw [cn.1, cn.2, le]; omega) (by omega) (fun w6 r1 B6 F6 S6 U6 => ?_)
      rw [cn.1, cn.2] at S6
      obtain ⟨k, hk⟩ := S6
      have G6 : FR lpt w w6 := F.tr F6 rfl
      have cn6 := cf_n G6 rfl
      have sp : ∀ r, (r = if r1.1 = true then (true, r1.2.1 ++ [16], r1.2.2.1, r1.2.2.2) else r1) → ∃ k, SP (cf w) (w.1 1 2).toInt k 0 o c t i r := fun r e => by
        refine ⟨k + 1, ?_⟩
        rw [SP0]
        rw [if_pos q.2, if_neg no]
        exact ⟨r1, hk, e⟩
      have i6 := U6.2.2.1
      rcases U6.2.2.2 with ⟨ok, C6, t6, l6⟩ | ⟨nk, e17⟩
      · have mx := lw_max (f := cf w) b2.1 b2.2 r1.2.2.2
        rw [cn6.1, cn6.2] at l6
        refine pu_x B6 C6.2.2.2.2 (by omega) b16 (by decide) (by decide) (fun w7 B7 F7 C7 => ?_)
        have e7 : (w7.1 99 15).toInt = ((o + 1 : Nat) : Int) := by rw [(F7 99 15 rfl).1]; exact U6.2.1
        have D := dec w7 B7 e7
        generalize (sI w7 99 15 ((w7.1 99 15) - (1 : Int32))) = w8 at *
        have G8 : FR lpt w w8 := (G6.tr F7 rfl).tr D.2.1 rfl
        have cn8 := cf_n G8 rfl
        have S8 := wst_fr (wst_fr U6.1 F7 rfl) D.2.1 rfl
        refine hQ w8 (true, r1.2.1 ++ [16], r1.2.2.1, r1.2.2.2) D.1 G8 (sp _ (by rw [if_pos ok])) ⟨S8, D.2.2, i6, Or.inl ⟨rfl, ⟨S8, ?_, D.2.2, ?_, cod_fr C7 D.2.1 rfl⟩, t6, ?_⟩⟩
        · rw [(D.2.1 99 17 rfl).1, (F7 99 17 rfl).1]
          exact C6.2.1
        · rw [(D.2.1 99 16 rfl).1, (F7 99 16 rfl).1]
          exact C6.2.2.2.1
        · rw [cn8.1, cn8.2]
          show b + (r1.2.1 ++ [16]).length + pd ≤ lwn (cf w) (w.1 1 2).toInt r1.2.2.2
          rw [List.length_append]
          show b + (r1.2.1.length + 1) + pd ≤ _
          omega
      · refine pu_b B6 (by decide) (by decide) (fun w7 B7 F7 => ?_)
        have e7 : (w7.1 99 15).toInt = ((o + 1 : Nat) : Int) := by rw [(F7 99 15 rfl).1]; exact U6.2.1
        have D := dec w7 B7 e7
        generalize (sI w7 99 15 ((w7.1 99 15) - (1 : Int32))) = w8 at *
        refine hQ w8 r1 D.1 ((G6.tr F7 rfl).tr D.2.1 rfl) (sp _ (by rw [if_neg (by rw [nk]; decide)])) ⟨wst_fr (wst_fr U6.1 F7 rfl) D.2.1 rfl, D.2.2, i6, Or.inr ⟨nk, ?_⟩⟩
        rw [(D.2.1 99 17 rfl).1, (F7 99 17 rfl).1]
        exact e17
  · have o20 : o = 20 := by omega
    refine flr_x h.2.1 (hQ _ (rsF i) (wbd_99_17 hI) (FR.I (FR.refl _ w) rfl) ⟨1, ?_⟩ (ou_f (w0 := w) h.1 h.2.1 h.2.2.1 i5))
    rw [SP0]
    rcases hy with q | q
    · rw [if_pos q.2, if_pos o20]
    · rw [if_neg (by rw [q.2.1]; decide), if_pos q.2.2, if_pos o20]
theorem pq_part {rA rO rP : MW → (MW → Prop) → Prop} {d : Nat} (hO : PQr 2 rO 3 d) (hP : PQr 0 rP 1 d) : PQr 0 (pb_Ro_readParts99 rA rO rP) 1 (d + 1) := by
  intro w b o c t i pd Q hI h o2 t2 i5 hl hd hQ
  have h17 := h.2.1
  refine Eq.mpr (pb_Ro_readParts99.eq_1 _ _ _ _ _) (iss_8 hI h.1 (fun _ q => ⟨fun _ => pq_20 hO hP hI h o2 t2 i5 hl hd (Or.inl ⟨by decide, q⟩) hQ, fun z => absurd (show ¬ (1 : Int32).toInt = 0 by decide) z⟩) (fun _ q => ⟨fun z => absurd i_0 z, fun _ => iss_9 hI h.1 (fun _ q2 => ⟨fun z => absurd z (by decide), fun _ => pq_20 hO hP hI h o2 t2 i5 hl hd (Or.inr ⟨i_0, q, q2⟩) hQ⟩) (fun _ q2 => ⟨fun _ => ⟨h.1.2.2.2, at_x hI ?_⟩, fun z => absurd i_0 z⟩) (fun z => by omega)⟩) (fun z => by omega))
  have ev : (cv w (w.1 99 12)).toInt = cf w (wat (cf w) (w.1 1 2).toInt i) := by rw [cv_cf, h.1.1]
  refine ⟨fun z => pq_114 hI h t2 i5 hl q q2 ?_ hQ, fun z => nbh hI h.1 i_1 (by decide) (by decide) (by decide : ((15 : Int32)).toInt = 15) (by decide) (fun r hr => pq_114 hI h t2 i5 hl q q2 ?_ hQ)⟩
  · rw [ev] at z
    unfold cnw
    rw [if_neg z]
    exact i_m1
  · have z := Classical.not_not.mp z
    rw [ev] at z
    unfold cnw
    rw [if_pos z]
    exact hr
/-! the class reads parts joined by and, and these joined by or -/
theorem sp_i {f : Int → Int} {n : Int} : ∀ (k md o : Nat) (c : List Int) (t i : Nat) (r : Bool × List Int × Nat × Nat), SP f n k md o c t i r → i ≤ r.2.2.2 := by
  intro k
  induction k with
  | zero => intro md o c t i r h; exact absurd h (by cases md <;> exact fun z => z)
  | succ k ih =>
    intro md o c t i r h
    match md with
    | 0 =>
      rw [SP0] at h
      by_cases c1 : wq f n i (ltr 8 3) = true
      · rw [if_pos c1] at h
        by_cases c2 : o = 20
        · rw [if_pos c2] at h
          rw [h]
          exact Nat.le_refl i
        · rw [if_neg c2] at h
          obtain ⟨r1, h1, e⟩ := h
          have q := ih _ _ _ _ _ _ h1
          rw [e]
          by_cases c4 : r1.1 = true
          · rw [if_pos c4]
            exact Nat.le_of_succ_le q
          · rw [if_neg c4]
            exact Nat.le_of_succ_le q
      · rw [if_neg c1] at h
        by_cases c3 : wq f n i (ltr 9 1) = true
        · rw [if_pos c3] at h
          by_cases c2 : o = 20
          · rw [if_pos c2] at h
            rw [h]
            exact Nat.le_refl i
          · rw [if_neg c2] at h
            obtain ⟨r1, h1, e⟩ := h
            have q := ih _ _ _ _ _ _ h1
            rw [e]
            by_cases c4 : r1.1 = true
            · rw [if_pos c4]
              by_cases c5 : wq f n r1.2.2.2 (ltr 10 1) = true
              · rw [if_pos c5]
                exact Nat.le_succ_of_le (Nat.le_of_succ_le q)
              · rw [if_neg c5]
                exact Nat.le_of_succ_le q
            · rw [if_neg c4]
              exact Nat.le_of_succ_le q
        · rw [if_neg c3] at h
          rw [h]
          by_cases c4 : cnw f n i < 0 ∨ t = 32
          · rw [if_pos c4]
            exact Nat.le_refl i
          · rw [if_neg c4]
            exact Nat.le_succ i
    | 1 =>
      rw [SP1] at h
      obtain ⟨r1, h1, e⟩ := h
      have q := ih _ _ _ _ _ _ h1
      by_cases c1 : r1.1 = true
      · rw [if_pos c1] at e
        exact Nat.le_trans q (ih _ _ _ _ _ _ e)
      · rw [if_neg c1] at e
        rw [e]
        exact q
    | 2 =>
      rw [SP2] at h
      obtain ⟨r1, h1, e⟩ := h
      have q := ih _ _ _ _ _ _ h1
      by_cases c1 : r1.1 = true
      · rw [if_pos c1] at e
        exact Nat.le_trans q (ih _ _ _ _ _ _ e)
      · rw [if_neg c1] at e
        rw [e]
        exact q
    | 3 =>
      rw [SP3] at h
      by_cases c0 : wq f n i (ltr 11 3) = true
      · rw [if_pos c0] at h
        obtain ⟨r1, h1, e⟩ := h
        have q := ih _ _ _ _ _ _ h1
        by_cases c1 : r1.1 = true
        · rw [if_pos c1] at e
          exact Nat.le_trans (Nat.le_of_succ_le q) (ih _ _ _ _ _ _ e)
        · rw [if_neg c1] at e
          rw [e]
          exact Nat.le_of_succ_le q
      · rw [if_neg c0] at h
        rw [h]
        exact Nat.le_refl i
    | m + 4 =>
      rw [SP4] at h
      by_cases c0 : wq f n i (ltr 12 2) = true
      · rw [if_pos c0] at h
        obtain ⟨r1, h1, e⟩ := h
        have q := ih _ _ _ _ _ _ h1
        by_cases c1 : r1.1 = true
        · rw [if_pos c1] at e
          exact Nat.le_trans (Nat.le_of_succ_le q) (ih _ _ _ _ _ _ e)
        · rw [if_neg c1] at e
          rw [e]
          exact Nat.le_of_succ_le q
      · rw [if_neg c0] at h
        rw [h]
        exact Nat.le_refl i
theorem ou_ok {w : MW} {b o pd t i : Nat} {c : List Int} (h : CSt w b o c t i) (t2 : t ≤ 32) (i5 : i ≤ 5000) (hl : b + c.length + pd ≤ lwn (cf w) (w.1 1 2).toInt i) : OuC w b o pd (true, c, t, i) := ⟨h.1, h.2.2.1, i5, Or.inl ⟨rfl, h, t2, hl⟩⟩
theorem ou_up {w : MW} {b o pd : Nat} {r : Bool × List Int × Nat × Nat} (h : OuC w b o (pd + 1) r) (nk : r.1 = false) : OuC w b o pd r := ⟨h.1, h.2.1, h.2.2.1, Or.inr ⟨nk, by
  rcases h.2.2.2 with ⟨ok, _⟩ | ⟨_, e⟩
  · rw [ok] at nk
    exact absurd nk (by decide)
  · exact e⟩⟩
theorem ou_fr {l : Pl} {w w' : MW} {b o pd : Nat} {r : Bool × List Int × Nat × Nat} (h : OuC w b o pd r) (nk : r.1 = false) (hF : FR l w w') (ho : off l [(99, some 11), (99, some 12), (99, some 13), (99, some 14), (99, some 15), (99, some 17), (1, some 2), (2, none)] = true) : OuC w' b o pd r := ⟨wst_fr h.1 hF (off_mono ho (by decide)), by rw [(hF 99 15 (off_hit ho rfl)).1]; exact h.2.1, h.2.2.1, Or.inr ⟨nk, by
  rcases h.2.2.2 with ⟨ok, _⟩ | ⟨_, e⟩
  · rw [ok] at nk
    exact absurd nk (by decide)
  · rw [(hF 99 17 (off_hit ho rfl)).1]
    exact e⟩⟩
theorem la_b {rA rO rP : MW → (MW → Prop) → Prop} {w : MW} {E Q : MW → Prop} {b o pd : Nat} {r : Bool × List Int × Nat × Nat} (hI : BND w) (h : OuC w b o pd r) (nk : r.1 = false) (hE : E w) (m : Nat) (j : Int32) : q_Ro_readAnds99_6 rA rO rP E Q (m + 1) j w := by
  have e17 : 0 ≤ (w.1 99 17).toInt := by
    rcases h.2.2.2 with ⟨ok, _⟩ | ⟨_, e⟩
    · rw [ok] at nk
      exact absurd nk (by decide)
    · omega
  rw [q_Ro_readAnds99_6.eq_2]
  exact ⟨fun _ => hE, fun _ => iss_11 hI h.1 (fun c => by omega) (fun c => by omega) (fun _ => ⟨fun _ => hE, fun z => absurd i_0 z⟩)⟩
theorem la_6 {rA rO rP : MW → (MW → Prop) → Prop} {d : Nat} (hX : PQr 0 rP 1 d) {w0 : MW} {b o pd t0 i0 : Nat} {c0 : List Int} {E Q : MW → Prop} (o2 : o ≤ 20) (hd : 3 * (20 - o) + 1 ≤ d) (hE : ∀ w' r, BND w' → FR lpt w0 w' → (∃ k, SP (cf w0) (w0.1 1 2).toInt k 3 o c0 t0 i0 r) → OuC w' b o pd r → E w') (m : Nat) : ∀ (j : Nat) (w : MW) (c : List Int) (t i : Nat), BND w → FR lpt w0 w → CSt w b o c t i → t ≤ 32 → i ≤ 5000 → j ≤ i → b + c.length + pd ≤ lwn (cf w0) (w0.1 1 2).toInt i → (∀ r, (∃ k, SP (cf w0) (w0.1 1 2).toInt k 3 o c t i r) → ∃ k, SP (cf w0) (w0.1 1 2).toInt k 3 o c0 t0 i0 r) → 5001 - j < m → q_Ro_readAnds99_6 rA rO rP E Q m (nI j) w := by
  induction m with
  | zero => intros; omega
  | succ m ih =>
    intro j w c t i hI hF h t2 i5 ji hl hc hm
    have cn := cf_n hF rfl
    have b2 := bd_1_2 hI
    have ti : (nI j).toInt = (j : Int) := nI_toInt (by omega)
    have stop : wq (cf w0) (w0.1 1 2).toInt i (ltr 11 3) = false → E w := fun q => hE w (true, c, t, i) hI hF (hc _ ⟨1, by rw [SP3]; rw [if_neg (by rw [q]; decide)]⟩) (ou_ok h t2 i5 (by rw [cn.1, cn.2]; exact hl))
    rw [q_Ro_readAnds99_6.eq_2]
    refine ⟨fun z => stop ?_, fun z => iss_11 hI h.1 (fun _ q => ⟨fun y => absurd y (by decide), fun _ => ?_⟩) (fun _ q => ⟨fun _ => stop (by rw [cn.1, cn.2] at q; exact q), fun y => absurd i_0 y⟩) (fun y => by have := h.2.1; omega)⟩
    · cases hq : wq (cf w0) (w0.1 1 2).toInt i (ltr 11 3) with
      | false => rfl
      | true =>
        have ln := wq_len hq
        rw [ltln] at ln
        rw [← cn.1, ← cn.2] at ln
        have := i_le hI (i := i) (by omega)
        omega
    · have ln := wq_len q
      rw [ltln] at ln
      have i4 := i_le hI (i := i) (by omega)
      rw [cn.1, cn.2] at q ln
      have le := lw_l (f := cf w0) (n := (w0.1 1 2).toInt) (i := i) (by omega)
      refine nws hI h.1 (by omega) (fun w5 B5 F5 S5 => ?_)
      have G5 : FR lpt w0 w5 := hF.tr F5 rfl
      have cn5 := cf_n G5 rfl
      have C5 : CSt w5 b o c t (i + 1) := ⟨S5, by rw [(F5 99 17 rfl).1]; exact h.2.1, by rw [(F5 99 15 rfl).1]; exact h.2.2.1, by rw [(F5 99 16 rfl).1]; exact h.2.2.2.1, cod_fr h.2.2.2.2 F5 rfl⟩
      refine hX w5 b o c t (i + 1) (pd + 1) _ B5 C5 o2 t2 (by omega) (by rw [cn5.1, cn5.2, le]; omega) hd (fun w6 r1 B6 F6 S6 U6 => ?_)
      rw [cn5.1, cn5.2] at S6
      obtain ⟨k, hk⟩ := S6
      have G6 : FR lpt w0 w6 := G5.tr F6 rfl
      have cn6 := cf_n G6 rfl
      have ri := sp_i _ _ _ _ _ _ _ hk
      have i6 := U6.2.2.1
      rcases U6.2.2.2 with ⟨ok, C6, t6, l6⟩ | ⟨nk, e17⟩
      · rw [cn6.1, cn6.2] at l6
        have b20 := bd_1_2 (w := w5) B5
        rw [cn5.2] at b20
        have mx := lw_max (f := cf w0) b20.1 b20.2 r1.2.2.2
        refine pu_x B6 C6.2.2.2.2 (by omega) b17 (by decide) (by decide) (fun w7 B7 F7 C7 => ?_)
        rw [nI_1]
        refine ih (j + 1) w7 (r1.2.1 ++ [17]) r1.2.2.1 r1.2.2.2 B7 (G6.tr F7 rfl) ⟨wst_fr C6.1 F7 rfl, by rw [(F7 99 17 rfl).1]; exact C6.2.1, by rw [(F7 99 15 rfl).1]; exact C6.2.2.1, by rw [(F7 99 16 rfl).1]; exact C6.2.2.2.1, C7⟩ t6 i6 (by omega) ?_ (fun r hr => hc r ?_) (by omega)
        · rw [List.length_append]
          show b + (r1.2.1.length + 1) + pd ≤ _
          omega
        · obtain ⟨k2, hk2⟩ := hr
          refine ⟨k + k2 + 1, ?_⟩
          rw [SP3]
          rw [if_pos q]
          refine ⟨r1, sp_le hk (by omega), ?_⟩
          rw [if_pos ok]
          exact sp_le hk2 (by omega)
      · refine pu_b B6 (by decide) (by decide) (fun w7 B7 F7 => ?_)
        have U7 := ou_fr (ou_up U6 nk) nk F7 rfl
        obtain ⟨m', em⟩ : ∃ m', m = m' + 1 := ⟨m - 1, by omega⟩
        rw [em]
        refine la_b B7 U7 nk (hE w7 r1 B7 (G6.tr F7 rfl) (hc _ ⟨k + 1, ?_⟩) U7) m' _
        rw [SP3]
        rw [if_pos q]
        refine ⟨r1, hk, ?_⟩
        rw [if_neg (by rw [nk]; decide)]
theorem pq_And {rA rO rP : MW → (MW → Prop) → Prop} {d : Nat} (hX : PQr 0 rP 1 d) : PQr 1 (pb_Ro_readAnds99 rA rO rP) 2 (d + 1) := by
  intro w b o c t i pd Q hI h o2 t2 i5 hl hd hQ
  refine Eq.mpr (pb_Ro_readAnds99.eq_1 _ _ _ _ _) (hX w b o c t i pd _ hI h o2 t2 i5 hl (by omega) (fun w1 r1 B1 F1 S1 U1 => ?_))
  obtain ⟨k, hk⟩ := S1
  have cn1 := cf_n F1 rfl
  have i6 := U1.2.2.1
  rcases U1.2.2.2 with ⟨ok, C1, t1, l1⟩ | ⟨nk, e17⟩
  · refine la_6 (j := 0) hX (w0 := w1) (c0 := r1.2.1) (t0 := r1.2.2.1) (i0 := r1.2.2.2) o2 (by omega) (fun w' r B' F' S' U' => hQ w' r B' (F1.tr F' rfl) ?_ U') FU w1 r1.2.1 r1.2.2.1 r1.2.2.2 B1 (FR.refl _ w1) C1 t1 i6 (Nat.zero_le _) l1 (fun r q => q) (fu_lt (by decide))
    rw [cn1.1, cn1.2] at S'
    obtain ⟨k2, hk2⟩ := S'
    refine ⟨k + k2 + 1, ?_⟩
    rw [SP1]
    refine ⟨r1, sp_le hk (by omega), ?_⟩
    rw [if_pos ok]
    exact sp_le hk2 (by omega)
  · refine la_b B1 U1 nk (hQ w1 r1 B1 F1 ⟨k + 1, ?_⟩ U1) 99999999999999999999 _
    rw [SP1]
    refine ⟨r1, hk, ?_⟩
    rw [if_neg (by rw [nk]; decide)]
theorem lo_b {rA rO rP : MW → (MW → Prop) → Prop} {w : MW} {E Q : MW → Prop} {b o pd : Nat} {r : Bool × List Int × Nat × Nat} (hI : BND w) (h : OuC w b o pd r) (nk : r.1 = false) (hE : E w) (m : Nat) (j : Int32) : q_Ro_readOrs99_6 rA rO rP E Q (m + 1) j w := by
  have e17 : 0 ≤ (w.1 99 17).toInt := by
    rcases h.2.2.2 with ⟨ok, _⟩ | ⟨_, e⟩
    · rw [ok] at nk
      exact absurd nk (by decide)
    · omega
  rw [q_Ro_readOrs99_6.eq_2]
  exact ⟨fun _ => hE, fun _ => iss_12 hI h.1 (fun c => by omega) (fun c => by omega) (fun _ => ⟨fun _ => hE, fun z => absurd i_0 z⟩)⟩
theorem lo_6 {rA rO rP : MW → (MW → Prop) → Prop} {d : Nat} (hX : PQr 1 rA 2 d) {w0 : MW} {b o pd t0 i0 : Nat} {c0 : List Int} {E Q : MW → Prop} (o2 : o ≤ 20) (hd : 3 * (20 - o) + 2 ≤ d) (hE : ∀ w' r, BND w' → FR lpt w0 w' → (∃ k, SP (cf w0) (w0.1 1 2).toInt k 4 o c0 t0 i0 r) → OuC w' b o pd r → E w') (m : Nat) : ∀ (j : Nat) (w : MW) (c : List Int) (t i : Nat), BND w → FR lpt w0 w → CSt w b o c t i → t ≤ 32 → i ≤ 5000 → j ≤ i → b + c.length + pd ≤ lwn (cf w0) (w0.1 1 2).toInt i → (∀ r, (∃ k, SP (cf w0) (w0.1 1 2).toInt k 4 o c t i r) → ∃ k, SP (cf w0) (w0.1 1 2).toInt k 4 o c0 t0 i0 r) → 5001 - j < m → q_Ro_readOrs99_6 rA rO rP E Q m (nI j) w := by
  induction m with
  | zero => intros; omega
  | succ m ih =>
    intro j w c t i hI hF h t2 i5 ji hl hc hm
    have cn := cf_n hF rfl
    have b2 := bd_1_2 hI
    have ti : (nI j).toInt = (j : Int) := nI_toInt (by omega)
    have stop : wq (cf w0) (w0.1 1 2).toInt i (ltr 12 2) = false → E w := fun q => hE w (true, c, t, i) hI hF (hc _ ⟨1, by rw [SP4]; rw [if_neg (by rw [q]; decide)]⟩) (ou_ok h t2 i5 (by rw [cn.1, cn.2]; exact hl))
    rw [q_Ro_readOrs99_6.eq_2]
    refine ⟨fun z => stop ?_, fun z => iss_12 hI h.1 (fun _ q => ⟨fun y => absurd y (by decide), fun _ => ?_⟩) (fun _ q => ⟨fun _ => stop (by rw [cn.1, cn.2] at q; exact q), fun y => absurd i_0 y⟩) (fun y => by have := h.2.1; omega)⟩
    · cases hq : wq (cf w0) (w0.1 1 2).toInt i (ltr 12 2) with
      | false => rfl
      | true =>
        have ln := wq_len hq
        rw [ltln] at ln
        rw [← cn.1, ← cn.2] at ln
        have := i_le hI (i := i) (by omega)
        omega
    · have ln := wq_len q
      rw [ltln] at ln
      have i4 := i_le hI (i := i) (by omega)
      rw [cn.1, cn.2] at q ln
      have le := lw_l (f := cf w0) (n := (w0.1 1 2).toInt) (i := i) (by omega)
      refine nws hI h.1 (by omega) (fun w5 B5 F5 S5 => ?_)
      have G5 : FR lpt w0 w5 := hF.tr F5 rfl
      have cn5 := cf_n G5 rfl
      have C5 : CSt w5 b o c t (i + 1) := ⟨S5, by rw [(F5 99 17 rfl).1]; exact h.2.1, by rw [(F5 99 15 rfl).1]; exact h.2.2.1, by rw [(F5 99 16 rfl).1]; exact h.2.2.2.1, cod_fr h.2.2.2.2 F5 rfl⟩
      refine hX w5 b o c t (i + 1) (pd + 1) _ B5 C5 o2 t2 (by omega) (by rw [cn5.1, cn5.2, le]; omega) hd (fun w6 r1 B6 F6 S6 U6 => ?_)
      rw [cn5.1, cn5.2] at S6
      obtain ⟨k, hk⟩ := S6
      have G6 : FR lpt w0 w6 := G5.tr F6 rfl
      have cn6 := cf_n G6 rfl
      have ri := sp_i _ _ _ _ _ _ _ hk
      have i6 := U6.2.2.1
      rcases U6.2.2.2 with ⟨ok, C6, t6, l6⟩ | ⟨nk, e17⟩
      · rw [cn6.1, cn6.2] at l6
        have b20 := bd_1_2 (w := w5) B5
        rw [cn5.2] at b20
        have mx := lw_max (f := cf w0) b20.1 b20.2 r1.2.2.2
        refine pu_x B6 C6.2.2.2.2 (by omega) b18 (by decide) (by decide) (fun w7 B7 F7 C7 => ?_)
        rw [nI_1]
        refine ih (j + 1) w7 (r1.2.1 ++ [18]) r1.2.2.1 r1.2.2.2 B7 (G6.tr F7 rfl) ⟨wst_fr C6.1 F7 rfl, by rw [(F7 99 17 rfl).1]; exact C6.2.1, by rw [(F7 99 15 rfl).1]; exact C6.2.2.1, by rw [(F7 99 16 rfl).1]; exact C6.2.2.2.1, C7⟩ t6 i6 (by omega) ?_ (fun r hr => hc r ?_) (by omega)
        · rw [List.length_append]
          show b + (r1.2.1.length + 1) + pd ≤ _
          omega
        · obtain ⟨k2, hk2⟩ := hr
          refine ⟨k + k2 + 1, ?_⟩
          rw [SP4]
          rw [if_pos q]
          refine ⟨r1, sp_le hk (by omega), ?_⟩
          rw [if_pos ok]
          exact sp_le hk2 (by omega)
      · refine pu_b B6 (by decide) (by decide) (fun w7 B7 F7 => ?_)
        have U7 := ou_fr (ou_up U6 nk) nk F7 rfl
        obtain ⟨m', em⟩ : ∃ m', m = m' + 1 := ⟨m - 1, by omega⟩
        rw [em]
        refine lo_b B7 U7 nk (hE w7 r1 B7 (G6.tr F7 rfl) (hc _ ⟨k + 1, ?_⟩) U7) m' _
        rw [SP4]
        rw [if_pos q]
        refine ⟨r1, hk, ?_⟩
        rw [if_neg (by rw [nk]; decide)]
theorem pq_Or {rA rO rP : MW → (MW → Prop) → Prop} {d : Nat} (hX : PQr 1 rA 2 d) : PQr 2 (pb_Ro_readOrs99 rA rO rP) 3 (d + 1) := by
  intro w b o c t i pd Q hI h o2 t2 i5 hl hd hQ
  refine Eq.mpr (pb_Ro_readOrs99.eq_1 _ _ _ _ _) (hX w b o c t i pd _ hI h o2 t2 i5 hl (by omega) (fun w1 r1 B1 F1 S1 U1 => ?_))
  obtain ⟨k, hk⟩ := S1
  have cn1 := cf_n F1 rfl
  have i6 := U1.2.2.1
  rcases U1.2.2.2 with ⟨ok, C1, t1, l1⟩ | ⟨nk, e17⟩
  · refine lo_6 (j := 0) hX (w0 := w1) (c0 := r1.2.1) (t0 := r1.2.2.1) (i0 := r1.2.2.2) o2 (by omega) (fun w' r B' F' S' U' => hQ w' r B' (F1.tr F' rfl) ?_ U') FU w1 r1.2.1 r1.2.2.1 r1.2.2.2 B1 (FR.refl _ w1) C1 t1 i6 (Nat.zero_le _) l1 (fun r q => q) (fu_lt (by decide))
    rw [cn1.1, cn1.2] at S'
    obtain ⟨k2, hk2⟩ := S'
    refine ⟨k + k2 + 1, ?_⟩
    rw [SP2]
    refine ⟨r1, sp_le hk (by omega), ?_⟩
    rw [if_pos ok]
    exact sp_le hk2 (by omega)
  · refine lo_b B1 U1 nk (hQ w1 r1 B1 F1 ⟨k + 1, ?_⟩ U1) 99999999999999999999 _
    rw [SP2]
    refine ⟨r1, hk, ?_⟩
    rw [if_neg (by rw [nk]; decide)]
theorem pq_all : ∀ d : Nat, PQr 0 (pn_Ro_readParts99 d) 1 d ∧ PQr 1 (pn_Ro_readAnds99 d) 2 d ∧ PQr 2 (pn_Ro_readOrs99 d) 3 d := by
  intro d
  induction d with
  | zero => exact ⟨fun w b o c t i pd Q _ _ _ _ _ _ hd => by omega, fun w b o c t i pd Q _ _ _ _ _ _ hd => by omega, fun w b o c t i pd Q _ _ _ _ _ _ hd => by omega⟩
  | succ d ih =>
    refine ⟨fun w b o c t i pd Q h1 h2 h3 h4 h5 h6 h7 h8 => ?_, fun w b o c t i pd Q h1 h2 h3 h4 h5 h6 h7 h8 => ?_, fun w b o c t i pd Q h1 h2 h3 h4 h5 h6 h7 h8 => ?_⟩
    · rw [pe_Ro_readParts99]
      exact pq_part ih.2.2 ih.1 w b o c t i pd Q h1 h2 h3 h4 h5 h6 h7 h8
    · rw [pe_Ro_readAnds99]
      exact pq_And ih.1 w b o c t i pd Q h1 h2 h3 h4 h5 h6 h7 h8
    · rw [pe_Ro_readOrs99]
      exact pq_Or ih.2.1 w b o c t i pd Q h1 h2 h3 h4 h5 h6 h7 h8
/-- a row's condition -/
theorem ror {w : MW} {b t i : Nat} {c : List Int} {Q : MW → Prop} (hI : BND w) (h : CSt w b 0 c t i) (t2 : t ≤ 32) (i5 : i ≤ 5000) (hl : b + c.length ≤ lwn (cf w) (w.1 1 2).toInt i) (hQ : ∀ w' r, BND w' → FR lpt w w' → (∃ k, SP (cf w) (w.1 1 2).toInt k 2 0 c t i r) → OuC w' b 0 0 r → Q w') : p_Ro_readOrs99 w Q := (pq_all 400).2.2 w b 0 c t i 0 Q hI h (by omega) t2 i5 (by omega) (by omega) hQ
/-- with something wrong, nothing is done -/
theorem ror_b {w : MW} {i : Nat} {Q : MW → Prop} (hI : BND w) (h : WSt w i) (h17 : 0 ≤ (w.1 99 17).toInt) (hQ : Q w) : p_Ro_readOrs99 w Q := by
  have P : ∀ (rA rO rP : MW → (MW → Prop) → Prop) (R : MW → Prop), R w → pb_Ro_readParts99 rA rO rP w R := fun rA rO rP R hR => by
    have k114 : ∀ v : Int32, q_Ro_readParts99_114 rA rO rP v w R := fun v => Eq.mpr (q_Ro_readParts99_114.eq_1 _ _ _ _ _ _) ⟨fun _ => flr_b h17 hR, fun z => absurd h17 z⟩
    exact Eq.mpr (pb_Ro_readParts99.eq_1 _ _ _ _ _) (iss_8 hI h (fun z => by omega) (fun z => by omega) (fun _ => ⟨fun z => absurd i_0 z, fun _ => iss_9 hI h (fun z => by omega) (fun z => by omega) (fun _ => ⟨fun _ => ⟨h.2.2.2, at_x hI ⟨fun _ => k114 _, fun _ => nbh hI h i_1 (by decide) (by decide) (by decide : ((15 : Int32)).toInt = 15) (by decide) (fun r _ => k114 r)⟩⟩, fun z => absurd i_0 z⟩)⟩))
  have A : ∀ (rA rO rP : MW → (MW → Prop) → Prop) (E R : MW → Prop) (m : Nat) (j : Int32), E w → q_Ro_readAnds99_6 rA rO rP E R (m + 1) j w := fun rA rO rP E R m j hE => by
    rw [q_Ro_readAnds99_6.eq_2]
    exact ⟨fun _ => hE, fun _ => iss_11 hI h (fun z => by omega) (fun z => by omega) (fun _ => ⟨fun _ => hE, fun z => absurd i_0 z⟩)⟩
  have O : ∀ (rA rO rP : MW → (MW → Prop) → Prop) (E R : MW → Prop) (m : Nat) (j : Int32), E w → q_Ro_readOrs99_6 rA rO rP E R (m + 1) j w := fun rA rO rP E R m j hE => by
    rw [q_Ro_readOrs99_6.eq_2]
    exact ⟨fun _ => hE, fun _ => iss_12 hI h (fun z => by omega) (fun z => by omega) (fun _ => ⟨fun _ => hE, fun z => absurd i_0 z⟩)⟩
  show pn_Ro_readOrs99 (399 + 1) w Q
  rw [pe_Ro_readOrs99]
  refine Eq.mpr (pb_Ro_readOrs99.eq_1 _ _ _ _ _) ?_
  show pn_Ro_readAnds99 (398 + 1) w _
  rw [pe_Ro_readAnds99]
  refine Eq.mpr (pb_Ro_readAnds99.eq_1 _ _ _ _ _) ?_
  show pn_Ro_readParts99 (397 + 1) w _
  rw [pe_Ro_readParts99]
  exact P _ _ _ _ (A _ _ _ _ _ 99999999999999999999 _ (O _ _ _ _ _ 99999999999999999999 _ hQ))
/-! the acts of a row -/
theorem mb_us : ∀ n, n < 32 → (((nI n).toUInt32 &&& Int32.toUInt32 31).toBitVec % 32).toNat = n := by decide +kernel
theorem mb_ubit (x : Int32) {n : Nat} (hn : n < 32) : (((x.toUInt32 >>> ((nI n).toUInt32 &&& Int32.toUInt32 31)).toInt32) &&& (1 : Int32)).toInt = 0 ↔ mb x n = false := by
  rw [mb_and1]
  have e := pk_ushr x (nI n) n (mb_us n hn)
  unfold mb
  rw [← BitVec.testBit_toNat, ← BitVec.testBit_toNat, e, Nat.testBit_div_two_pow, Nat.zero_add]
/-- the act that word i is, or -1 -/
def actw (f : Int → Int) (n : Int) (i : Nat) : Int := if f (wat f n i) = 97 then nbv f n i 1 31 else -1
/-- the acts from word i on -/
def acF (f : Int → Int) (n : Int) : Nat → List Int → Nat → Bool × List Int × Nat
  | 0, _, i => (false, [], i)
  | k + 1, as, i => if ¬ as = [] ∧ wq f n i (ltr 7 4) = true then (true, as, i) else if actw f n i < 0 ∨ as.length = 8 ∨ actw f n i ∈ as then (false, [], i) else acF f n k (as ++ [actw f n i]) (i + 1)
theorem acF_u (f : Int → Int) (n : Int) (k : Nat) (as : List Int) (i : Nat) : acF f n (k + 1) as i = if ¬ as = [] ∧ wq f n i (ltr 7 4) = true then (true, as, i) else if actw f n i < 0 ∨ as.length = 8 ∨ actw f n i ∈ as then (false, [], i) else acF f n k (as ++ [actw f n i]) (i + 1) := rfl
/-- the bits of x are the numbers of the list -/
def BtS (x : Int32) (as : List Int) : Prop := (∀ a : Nat, a < 32 → (mb x a = true ↔ (a : Int) ∈ as)) ∧ ∀ a ∈ as, 0 ≤ a ∧ a ≤ 31
theorem bts_0 : BtS 0 [] := by
  refine ⟨fun a _ => ⟨fun h => ?_, fun h => (by cases h)⟩, fun a h => (by cases h)⟩
  have e : mb 0 a = false := BitVec.getLsbD_zero
  rw [e] at h
  exact absurd h (by decide)
theorem bts_s {x v : Int32} {as : List Int} {a : Int} (h : BtS x as) (hv : v.toInt = a) (a0 : 0 ≤ a) (a1 : a ≤ 31) : BtS (x ||| ((1 : Int32) <<< (v &&& 31))) (as ++ [a]) := by
  have en : v = nI a.toNat := by
    rw [← hv]
    exact (nI_tn (by omega)).symm
  refine ⟨fun b hb => ?_, fun b hb => ?_⟩
  · rw [en, mb_or x (by omega), Bool.or_eq_true, decide_eq_true_iff, h.1 b hb, List.mem_append, List.mem_singleton]
    constructor
    · rintro (q | q)
      · exact Or.inl q
      · exact Or.inr (by omega)
    · rintro (q | q)
      · exact Or.inl q
      · exact Or.inr (by omega)
  · rcases List.mem_append.mp hb with q | q
    · exact h.2 b q
    · rw [List.mem_singleton.mp q]
      exact ⟨a0, a1⟩
theorem nbv_b {f : Int → Int} {n : Int} {i : Nat} {s m : Int} (m0 : 0 ≤ m) : nbv f n i s m ≤ m := by
  unfold nbv
  by_cases q2 : wnd f n i - (wat f n i + s) < 1 ∨ 4 < wnd f n i - (wat f n i + s) ∨ (1 < wnd f n i - (wat f n i + s) ∧ f (wat f n i + s) = 48)
  · rw [if_pos q2]
    omega
  · rw [if_neg q2]
    by_cases q3 : m < dgv f (wnd f n i - (wat f n i + s)).toNat (wat f n i + s) 0
    · rw [if_pos q3]
      omega
    · rw [if_neg q3]
      omega
theorem nbv_p {f : Int → Int} {n : Int} {i : Nat} {s m : Int} (h : ¬ nbv f n i s m < 0) : s + 1 ≤ wnd f n i - wat f n i := by
  unfold nbv at h
  by_cases q2 : wnd f n i - (wat f n i + s) < 1 ∨ 4 < wnd f n i - (wat f n i + s) ∨ (1 < wnd f n i - (wat f n i + s) ∧ f (wat f n i + s) = 48)
  · rw [if_pos q2] at h
    exact absurd (by decide) h
  · by_cases q4 : wnd f n i - (wat f n i + s) < 1
    · exact absurd (Or.inl q4) q2
    · omega
theorem actw_b {f : Int → Int} {n : Int} {i : Nat} : actw f n i ≤ 31 ∧ (¬ actw f n i < 0 → 2 ≤ wnd f n i - wat f n i) := by
  unfold actw
  by_cases q : f (wat f n i) = 97
  · rw [if_pos q]
    exact ⟨nbv_b (by decide), fun h => by have := nbv_p h; omega⟩
  · rw [if_neg q]
    exact ⟨by decide, fun h => absurd (by decide) h⟩
def lac : Pl := [(99, some 12), (99, some 13), (99, some 14), (99, some 17), (103, none)]
/-- behind the acts -/
def OuA (w0 w : MW) (C : Nat) (r : Bool × List Int × Nat) : Prop := WSt w r.2.2 ∧ r.2.2 ≤ 5000 ∧ (∀ j, ¬ j = C → w.1 103 j = w0.1 103 j) ∧ ((r.1 = true ∧ (w.1 99 17).toInt < 0 ∧ BtS (w.1 103 C) r.2.1) ∨ (r.1 = false ∧ (w.1 99 17).toInt = (r.2.2 : Int)))
theorem ra_fail {w0 w : MW} {C i : Nat} {R : Bool × List Int × Nat} {Q : MW → Prop} (hI : BND w) (hF : FR lac w0 w) (h : WSt w i) (h17 : (w.1 99 17).toInt < 0) (i5 : i ≤ 5000) (h3 : ∀ j, ¬ j = C → w.1 103 j = w0.1 103 j) (hR : R = (false, [], i)) (hQ : ∀ w', BND w' → FR lac w0 w' → OuA w0 w' C R → Q w') : p_Ro_fails99 w (fun w' => Q w') := by
  have F : FR [(99, some 17)] w (sI w 99 17 (w.1 99 14)) := FR.I (FR.refl _ w) rfl
  refine flr_x h17 (hQ _ (wbd_99_17 hI) (hF.tr F rfl) ?_)
  rw [hR]
  refine ⟨wst_fr h F rfl, i5, fun j hj => by rw [(F 103 j rfl).1]; exact h3 j hj, Or.inr ⟨rfl, ?_⟩⟩
  rw [sI_same]
  exact h.2.2.1
theorem ra_2 {w0 : MW} {C : Nat} {R : Bool × List Int × Nat} {Q : MW → Prop} (hC : (w0.1 99 0).toInt = (C : Int)) (c40 : C < 40) (hQ : ∀ w', BND w' → FR lac w0 w' → OuA w0 w' C R → Q w') (m : Nat) : ∀ (w : MW) (as : List Int) (i : Nat), BND w → FR lac w0 w → WSt w i → (w.1 99 17).toInt < 0 → i ≤ 5000 → BtS (w.1 103 C) as → (∀ j, ¬ j = C → w.1 103 j = w0.1 103 j) → as.length ≤ 8 → acF (cf w0) (w0.1 1 2).toInt (10 - as.length) as i = R → 9 - as.length < m → q_Ro_readActss99_2 Q Q m (nI as.length) w := by
  induction m with
  | zero => intros; omega
  | succ m ih =>
    intro w as i hI hF h h17 i5 hb h3 a8 hR hm
    have cn := cf_n hF rfl
    have ti : (nI as.length).toInt = (as.length : Int) := nI_toInt (by omega)
    have eC : (w.1 99 0).toInt = (C : Int) := by rw [(hF 99 0 rfl).1]; exact hC
    have nC : (w.1 99 0).toInt.toNat = C := by omega
    obtain ⟨k, ek⟩ : ∃ k, 10 - as.length = k + 1 := ⟨9 - as.length, by omega⟩
    rw [ek, acF_u] at hR
    have b2 := bd_1_2 hI
    -- the word is no 'when'
    have K29 : (as = [] ∨ wq (cf w0) (w0.1 1 2).toInt i (ltr 7 4) = false) → q_Ro_readActss99_29 (nI as.length) w (fun (x2_1 : Int32) (w : MW) => q_Ro_readActss99_2 Q Q m x2_1 w) Q Q := fun nw => by
      rw [if_neg (fun z => nw.elim (fun q => z.1 q) (fun q => by rw [q] at z; exact absurd z.2 (by decide)))] at hR
      have ev : (cv w (w.1 99 12)).toInt = cf w0 (wat (cf w0) (w0.1 1 2).toInt i) := by rw [cv_cf, h.1, cn.1, cn.2]
      have K56 : ∀ v : Int32, v.toInt = actw (cf w0) (w0.1 1 2).toInt i → q_Ro_readActss99_56 (nI as.length) v w (fun (x2_1 : Int32) (w : MW) => q_Ro_readActss99_2 Q Q m x2_1 w) Q Q := fun v hv => by
        have ab := actw_b (f := cf w0) (n := (w0.1 1 2).toInt) (i := i)
        refine Eq.mpr (q_Ro_readActss99_56.eq_1 _ _ _ _ _ _) ⟨fun z => ra_fail hI hF h h17 i5 h3 (by rw [← hR, if_pos (Or.inl (by omega))]) hQ, fun z => ⟨fun z8 => ra_fail hI hF h h17 i5 h3 (by rw [← hR, if_pos (Or.inr (Or.inl (by omega)))]) hQ, fun z8 => ⟨⟨by omega, by omega⟩, fun zb => ⟨⟨by omega, by omega⟩, ⟨by omega, by omega⟩, ?_⟩, fun zb => ra_fail hI hF h h17 i5 h3 ?_ hQ⟩⟩⟩
        · have en : v = nI v.toInt.toNat := (nI_tn (by omega)).symm
          rw [nC] at zb ⊢
          have nm : ¬ actw (cf w0) (w0.1 1 2).toInt i ∈ as := fun q => by
            rw [en, mb_ubit _ (by omega)] at zb
            have := (hb.1 v.toInt.toNat (by omega)).mpr (by rw [show ((v.toInt.toNat : Nat) : Int) = actw (cf w0) (w0.1 1 2).toInt i by omega]; exact q)
            rw [zb] at this
            exact absurd this (by decide)
          rw [if_neg (fun q => by
            rcases q with q | q | q
            · omega
            · omega
            · exact nm q)] at hR
          have ln := ab.2 (by omega)
          rw [← cn.1, ← cn.2] at ln
          have i4 := i_le hI (i := i) (by omega)
          have B1 : BND (sI w 103 C ((w.1 103 C) ||| ((1 : Int32) <<< (v &&& 31)))) := wbd_103 hI _
          have F1 : FR [(103, none)] w (sI w 103 C ((w.1 103 C) ||| ((1 : Int32) <<< (v &&& 31)))) := FR.I (FR.refl _ w) rfl
          have e1 : (sI w 103 C ((w.1 103 C) ||| ((1 : Int32) <<< (v &&& 31)))).1 103 C = (w.1 103 C) ||| ((1 : Int32) <<< (v &&& 31)) := sI_same _ _ _ _
          have e3 : ∀ j, ¬ j = C → (sI w 103 C ((w.1 103 C) ||| ((1 : Int32) <<< (v &&& 31)))).1 103 j = w0.1 103 j := fun j hj => by rw [sI_ne _ _ _ _ _ hj]; exact h3 j hj
          generalize (sI w 103 C ((w.1 103 C) ||| ((1 : Int32) <<< (v &&& 31)))) = w1 at *
          refine nws B1 (wst_fr h F1 rfl) (by omega) (fun w2 B2 F2 S2 => ?_)
          have el : (as ++ [actw (cf w0) (w0.1 1 2).toInt i]).length = as.length + 1 := by
            rw [List.length_append]
            rfl
          rw [nI_1, ← el]
          refine ih w2 (as ++ [actw (cf w0) (w0.1 1 2).toInt i]) (i + 1) B2 ((hF.tr F1 rfl).tr F2 rfl) S2 (by rw [(F2 99 17 rfl).1, (F1 99 17 rfl).1]; exact h17) (by omega) ?_ (fun j hj => by rw [(F2 103 j rfl).1]; exact e3 j hj) (by omega) ?_ (by omega)
          · rw [(F2 103 C rfl).1, e1]
            exact bts_s hb hv (by omega) ab.1
          · rw [el, show 10 - (as.length + 1) = k by omega]
            exact hR
        · have en : v = nI v.toInt.toNat := (nI_tn (by omega)).symm
          rw [nC, en, mb_ubit _ (by omega)] at zb
          rw [← hR, if_pos (Or.inr (Or.inr ?_))]
          have : mb (w.1 103 C) v.toInt.toNat = true := by
            cases hh : mb (w.1 103 C) v.toInt.toNat with
            | true => rfl
            | false => exact absurd hh zb
          have q := (hb.1 v.toInt.toNat (by omega)).mp this
          rw [show ((v.toInt.toNat : Nat) : Int) = actw (cf w0) (w0.1 1 2).toInt i by omega] at q
          exact q
      refine Eq.mpr (q_Ro_readActss99_29.eq_1 _ _ _ _ _) ⟨h.2.2.2, at_x hI ⟨fun z => K56 _ ?_, fun z => nbh hI h i_1 (by decide) (by decide) (by decide : ((31 : Int32)).toInt = 31) (by decide) (fun r hr => K56 r ?_)⟩⟩
      · rw [ev] at z
        unfold actw
        rw [if_neg z]
        exact i_m1
      · have z := Classical.not_not.mp z
        rw [ev] at z
        unfold actw
        rw [if_pos z, ← cn.1, ← cn.2]
        exact hr
    rw [q_Ro_readActss99_2.eq_2]
    refine ⟨fun z => by omega, fun _ => ⟨fun z => by omega, fun _ => ⟨fun z => K29 (Or.inl ?_), fun z => iss_7 hI h (fun _ q => ⟨fun y => absurd y (by decide), fun _ => hQ w hI hF ?_⟩) (fun _ q => ⟨fun _ => K29 (Or.inr (by rw [cn.1, cn.2] at q; exact q)), fun y => absurd i_0 y⟩) (fun y => by omega)⟩⟩⟩
    · exact List.eq_nil_of_length_eq_zero (by omega)
    · rw [cn.1, cn.2] at q
      rw [if_pos ⟨fun e => by rw [e] at z ti; exact z (by rw [ti]; decide), q⟩] at hR
      rw [← hR]
      exact ⟨h, i5, h3, Or.inl ⟨rfl, h17, hb⟩⟩
theorem ra_x {w : MW} {C i : Nat} {Q : MW → Prop} (hI : BND w) (h : WSt w i) (h17 : (w.1 99 17).toInt < 0) (i5 : i ≤ 5000) (hC : (w.1 99 0).toInt = (C : Int)) (c40 : C < 40) (hb : w.1 103 C = 0) (hQ : ∀ w', BND w' → FR lac w w' → OuA w w' C (acF (cf w) (w.1 1 2).toInt 10 [] i) → Q w') : p_Ro_readActss99 w Q :=
  Eq.mpr (p_Ro_readActss99.eq_1 _ _) (ra_2 hC c40 hQ FU w [] i hI (FR.refl _ w) h h17 i5 (by rw [hb]; exact bts_0) (fun j _ => rfl) (by decide) rfl (fu_lt (by decide)))
theorem ra_b {w : MW} {Q : MW → Prop} (h17 : 0 ≤ (w.1 99 17).toInt) (hQ : Q w) : p_Ro_readActss99 w Q := by
  have k : ∀ m, q_Ro_readActss99_2 Q Q (m + 1) 0 w := fun m => by
    rw [q_Ro_readActss99_2.eq_2]
    exact ⟨fun _ => hQ, fun _ => ⟨fun _ => hQ, fun z => absurd h17 z⟩⟩
  exact Eq.mpr (p_Ro_readActss99.eq_1 _ _) (k 99999999999999999999)
/-! what was read before a condition stands ahead of its codes -/
def preR (a : List Int) (r : Bool × List Int × Nat × Nat) : Bool × List Int × Nat × Nat := if r.1 = true then (true, a ++ r.2.1, r.2.2.1, r.2.2.2) else r
theorem preR_t {a : List Int} {r : Bool × List Int × Nat × Nat} (h : r.1 = true) : preR a r = (true, a ++ r.2.1, r.2.2.1, r.2.2.2) := if_pos h
theorem preR_f {a : List Int} {r : Bool × List Int × Nat × Nat} (h : ¬ r.1 = true) : preR a r = r := if_neg h
theorem rsF_n (i : Nat) : ¬ (rsF i).1 = true := fun z => absurd (show false = true from z) (by decide)
theorem sp_pre {f : Int → Int} {n : Int} (a : List Int) : ∀ (k md o : Nat) (c : List Int) (t i : Nat) (r : Bool × List Int × Nat × Nat), SP f n k md o (a ++ c) t i r → ∃ r0, SP f n k md o c t i r0 ∧ r = preR a r0 := by
  intro k
  induction k with
  | zero => intro md o c t i r h; exact absurd h (by cases md <;> exact fun z => z)
  | succ k ih =>
    intro md o c t i r h
    match md with
    | 0 =>
      rw [SP0] at h
      by_cases c1 : wq f n i (ltr 8 3) = true
      · rw [if_pos c1] at h
        by_cases c2 : o = 20
        · rw [if_pos c2] at h
          refine ⟨rsF i, ?_, ?_⟩
          · rw [SP0, if_pos c1, if_pos c2]
          · rw [h]
            exact (preR_f (rsF_n _)).symm
        · rw [if_neg c2] at h
          obtain ⟨r1, h1, e⟩ := h
          obtain ⟨s, hs, es⟩ := ih _ _ _ _ _ _ h1
          refine ⟨if s.1 = true then (true, s.2.1 ++ [16], s.2.2.1, s.2.2.2) else s, ?_, ?_⟩
          · rw [SP0, if_pos c1, if_neg c2]
            exact ⟨s, hs, rfl⟩
          · rw [e, es]
            by_cases q : s.1 = true
            · rw [preR_t q, if_pos q, if_pos rfl, preR_t rfl, List.append_assoc]
            · rw [preR_f q, if_neg q, preR_f q]
      · rw [if_neg c1] at h
        by_cases c3 : wq f n i (ltr 9 1) = true
        · rw [if_pos c3] at h
          by_cases c2 : o = 20
          · rw [if_pos c2] at h
            refine ⟨rsF i, ?_, ?_⟩
            · rw [SP0, if_neg c1, if_pos c3, if_pos c2]
            · rw [h]
              exact (preR_f (rsF_n _)).symm
          · rw [if_neg c2] at h
            obtain ⟨r1, h1, e⟩ := h
            obtain ⟨s, hs, es⟩ := ih _ _ _ _ _ _ h1
            refine ⟨if s.1 = true then (if wq f n s.2.2.2 (ltr 10 1) = true then (true, s.2.1, s.2.2.1, s.2.2.2 + 1) else rsF s.2.2.2) else s, ?_, ?_⟩
            · rw [SP0, if_neg c1, if_pos c3, if_neg c2]
              exact ⟨s, hs, rfl⟩
            · rw [e, es]
              by_cases q : s.1 = true
              · rw [preR_t q, if_pos q, if_pos rfl]
                by_cases q2 : wq f n s.2.2.2 (ltr 10 1) = true
                · rw [if_pos q2, if_pos q2, preR_t rfl]
                · rw [if_neg q2, if_neg q2]
                  exact (preR_f (rsF_n _)).symm
              · rw [preR_f q, if_neg q, preR_f q]
        · rw [if_neg c3] at h
          refine ⟨if cnw f n i < 0 ∨ t = 32 then rsF i else (true, c ++ [cnw f n i], t + 1, i + 1), ?_, ?_⟩
          · rw [SP0, if_neg c1, if_neg c3]
          · rw [h]
            by_cases q : cnw f n i < 0 ∨ t = 32
            · rw [if_pos q, if_pos q]
              exact (preR_f (rsF_n _)).symm
            · rw [if_neg q, if_neg q, preR_t rfl, List.append_assoc]
    | 1 =>
      rw [SP1] at h
      obtain ⟨r1, h1, e⟩ := h
      obtain ⟨s, hs, es⟩ := ih _ _ _ _ _ _ h1
      by_cases q : s.1 = true
      · rw [es, preR_t q, if_pos rfl] at e
        obtain ⟨u, hu, eu⟩ := ih _ _ _ _ _ _ e
        refine ⟨u, ?_, eu⟩
        rw [SP1]
        refine ⟨s, hs, ?_⟩
        rw [if_pos q]
        exact hu
      · rw [es, preR_f q, if_neg q] at e
        refine ⟨s, ?_, by rw [e, preR_f q]⟩
        rw [SP1]
        refine ⟨s, hs, ?_⟩
        rw [if_neg q]
    | 2 =>
      rw [SP2] at h
      obtain ⟨r1, h1, e⟩ := h
      obtain ⟨s, hs, es⟩ := ih _ _ _ _ _ _ h1
      by_cases q : s.1 = true
      · rw [es, preR_t q, if_pos rfl] at e
        obtain ⟨u, hu, eu⟩ := ih _ _ _ _ _ _ e
        refine ⟨u, ?_, eu⟩
        rw [SP2]
        refine ⟨s, hs, ?_⟩
        rw [if_pos q]
        exact hu
      · rw [es, preR_f q, if_neg q] at e
        refine ⟨s, ?_, by rw [e, preR_f q]⟩
        rw [SP2]
        refine ⟨s, hs, ?_⟩
        rw [if_neg q]
    | 3 =>
      rw [SP3] at h
      by_cases c0 : wq f n i (ltr 11 3) = true
      · rw [if_pos c0] at h
        obtain ⟨r1, h1, e⟩ := h
        obtain ⟨s, hs, es⟩ := ih _ _ _ _ _ _ h1
        by_cases q : s.1 = true
        · rw [es, preR_t q, if_pos rfl, List.append_assoc] at e
          obtain ⟨u, hu, eu⟩ := ih _ _ _ _ _ _ e
          refine ⟨u, ?_, eu⟩
          rw [SP3, if_pos c0]
          refine ⟨s, hs, ?_⟩
          rw [if_pos q]
          exact hu
        · rw [es, preR_f q, if_neg q] at e
          refine ⟨s, ?_, by rw [e, preR_f q]⟩
          rw [SP3, if_pos c0]
          refine ⟨s, hs, ?_⟩
          rw [if_neg q]
      · rw [if_neg c0] at h
        refine ⟨(true, c, t, i), ?_, by rw [h, preR_t rfl]⟩
        rw [SP3, if_neg c0]
    | m + 4 =>
      rw [SP4] at h
      by_cases c0 : wq f n i (ltr 12 2) = true
      · rw [if_pos c0] at h
        obtain ⟨r1, h1, e⟩ := h
        obtain ⟨s, hs, es⟩ := ih _ _ _ _ _ _ h1
        by_cases q : s.1 = true
        · rw [es, preR_t q, if_pos rfl, List.append_assoc] at e
          obtain ⟨u, hu, eu⟩ := ih _ _ _ _ _ _ e
          refine ⟨u, ?_, eu⟩
          rw [SP4, if_pos c0]
          refine ⟨s, hs, ?_⟩
          rw [if_pos q]
          exact hu
        · rw [es, preR_f q, if_neg q] at e
          refine ⟨s, ?_, by rw [e, preR_f q]⟩
          rw [SP4, if_pos c0]
          refine ⟨s, hs, ?_⟩
          rw [if_neg q]
      · rw [if_neg c0] at h
        refine ⟨(true, c, t, i), ?_, by rw [h, preR_t rfl]⟩
        rw [SP4, if_neg c0]
