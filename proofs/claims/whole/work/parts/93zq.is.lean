/-! the class looks whether its word is a text -/
/-- word i is the text l -/
def wq (f : Int → Int) (n : Int) (i : Nat) (l : List Int) : Bool := decide (wnd f n i - wat f n i = (l.length : Int)) && (tks f l (wat f n i)).1
/-- the class stands at word i -/
def WSt (w : MW) (i : Nat) : Prop := (w.1 99 12).toInt = wat (cf w) (w.1 1 2).toInt i ∧ (w.1 99 13).toInt = wnd (cf w) (w.1 1 2).toInt i ∧ (w.1 99 14).toInt = (i : Int) ∧ w.2.2 99 11 = some 1
theorem wst_fr {l : Pl} {w w' : MW} {i : Nat} (h : WSt w i) (hF : FR l w w') (ho : off l [(99, some 11), (99, some 12), (99, some 13), (99, some 14), (1, some 2), (2, none)] = true) : WSt w' i := by
  have ec : cf w' = cf w := cf_fr hF (off_mono ho (by decide))
  unfold WSt
  rw [ec, (hF 99 12 (off_hit ho rfl)).1, (hF 99 13 (off_hit ho rfl)).1, (hF 99 14 (off_hit ho rfl)).1, (hF 1 2 (off_hit ho rfl)).1, (hF 99 11 (off_hit ho rfl)).2.2]
  exact h
theorem nws {w : MW} {i : Nat} {Q : MW → Prop} (hI : BND w) (h : WSt w i) (hi : i ≤ 100000) (hQ : ∀ w', BND w' → FR lnw w w' → WSt w' (i + 1) → Q w') : p_Ro_nextWords99 w Q := by
  have b2 := bd_1_2 hI
  have s := wat_s (f := cf w) b2.1 i
  refine nw_x hI h.2.2.2 h.2.1 s.2.2.1 (fun w' B' F' a b c => hQ w' B' F' ?_)
  have ec : cf w' = cf w := cf_fr F' rfl
  have en : w'.1 1 2 = w.1 1 2 := (F' 1 2 rfl).1
  refine ⟨?_, ?_, ?_, ((F' 99 11 rfl).2.2).trans h.2.2.2⟩
  · rw [ec, en]
    exact a
  · rw [ec, en]
    exact b
  · have h14 := h.2.2.1
    rw [c, ti_add2 h14 i_1 (by omega) (by omega)]
    rfl
theorem flr_x {w : MW} {Q : MW → Prop} (h : (w.1 99 17).toInt < 0) (hQ : Q (sI w 99 17 (w.1 99 14))) : p_Ro_fails99 w Q := Eq.mpr (p_Ro_fails99.eq_1 _ _) ⟨fun c => by omega, fun _ => hQ⟩
theorem flr_b {w : MW} {Q : MW → Prop} (h : 0 ≤ (w.1 99 17).toInt) (hQ : Q w) : p_Ro_fails99 w Q := Eq.mpr (p_Ro_fails99.eq_1 _ _) ⟨fun _ => hQ, fun c => absurd h c⟩
theorem is_6 {w : MW} {P : Int} {E : MW → Prop} {Q : Int32 → MW → Prop} (hI : BND w) (hr : w.2.2 99 11 = some 1) (hp : (w.1 99 12).toInt = P) (h1 : (tks (cf w) (ltr 6 3) P).1 = true → E w) (h0 : (tks (cf w) (ltr 6 3) P).1 = false → Q 0 w) (m : Nat) : ∀ j : Nat, j ≤ 3 → (tks (cf w) (ltr 6 j) P).1 = true → 3 - j < m → q_Ro_iss99_2006_27 E Q m (nI j) w := by
  induction m with
  | zero => intros; omega
  | succ m ih =>
    intro j hj ht hm
    have ti : (nI j).toInt = (j : Int) := nI_toInt (by omega)
    have b12 := bd_99_12 hI
    have ix := ti_add2 hp ti (by omega) (by omega)
    rw [q_Ro_iss99_2006_27.eq_2]
    refine ⟨fun c => ?_, fun c => ⟨hr, at_x hI ?_⟩⟩
    · obtain rfl : j = 3 := by omega
      exact h1 ht
    have ev : (cv w ((w.1 99 12) + nI j)).toInt = cf w (P + j) := by rw [cv_cf, ix]
    have st := tks_st (cf w) (ltr 6 j) [(chT 6 (nI j)).toInt] P ht
    rw [← ltr_s, ltr_l] at st
    have e1 : tks (cf w) [(chT 6 (nI j)).toInt] (P + j) = if cf w (P + j) = (chT 6 (nI j)).toInt then (true, P + j + 1) else (false, P + j) := rfl
    refine ⟨⟨by omega, by omega⟩, fun q => ?_, fun q => ?_⟩
    · rw [ev] at q
      rw [nI_1]
      refine ih (j + 1) (by omega) ?_ (by omega)
      rw [st, e1, if_pos q]
    · rw [ev] at q
      obtain ⟨l, el⟩ := ltr_a 6 (j + 1) (3 - (j + 1))
      have en : j + 1 + (3 - (j + 1)) = 3 := by omega
      rw [en] at el
      refine h0 ?_
      rw [el, tks_f (cf w) (ltr 6 (j + 1)) l P (P + j) (by rw [st, e1, if_neg q])]
theorem iss_6 {w : MW} {i : Nat} {Q : Int32 → MW → Prop} (hI : BND w) (h : WSt w i) (h1 : (w.1 99 17).toInt < 0 → wq (cf w) (w.1 1 2).toInt i (ltr 6 3) = true → Q 1 w) (h0 : (w.1 99 17).toInt < 0 → wq (cf w) (w.1 1 2).toInt i (ltr 6 3) = false → Q 0 w) (hb : 0 ≤ (w.1 99 17).toInt → Q 0 w) : p_Ro_iss99_2006 w Q := by
  have b12 := bd_99_12 hI
  have b13 := bd_99_13 hI
  have d := ti_sub2 h.2.1 h.1 (by rw [← h.2.1, ← h.1]; omega) (by rw [← h.2.1, ← h.1]; omega)
  refine Eq.mpr (p_Ro_iss99_2006.eq_1 _ _) ⟨hb, fun c => ⟨fun q => is_6 hI h.2.2.2 h.1 (fun t => h1 (by omega) ?_) (fun t => h0 (by omega) ?_) FU 0 (by omega) rfl (fu_lt (by decide)), fun q => h0 (by omega) ?_⟩⟩
  · unfold wq
    rw [t, decide_eq_true (show wnd (cf w) (w.1 1 2).toInt i - wat (cf w) (w.1 1 2).toInt i = ((ltr 6 3).length : Int) by rw [ltr_l, ← d]; exact q)]
    rfl
  · unfold wq
    rw [t, Bool.and_false]
  · unfold wq
    rw [decide_eq_false (show ¬ wnd (cf w) (w.1 1 2).toInt i - wat (cf w) (w.1 1 2).toInt i = ((ltr 6 3).length : Int) by rw [ltr_l, ← d]; exact q), Bool.false_and]
theorem tkw_6 {w : MW} {i : Nat} {Q : Int32 → MW → Prop} (hI : BND w) (h : WSt w i) (hi : i ≤ 100000) (h1 : (w.1 99 17).toInt < 0 → wq (cf w) (w.1 1 2).toInt i (ltr 6 3) = true → ∀ w', BND w' → FR lnw w w' → WSt w' (i + 1) → Q 1 w') (h0 : (w.1 99 17).toInt < 0 → wq (cf w) (w.1 1 2).toInt i (ltr 6 3) = false → Q 0 (sI w 99 17 (w.1 99 14))) (hb : 0 ≤ (w.1 99 17).toInt → Q 0 w) : p_Ro_takess99_2006 w Q :=
  Eq.mpr (p_Ro_takess99_2006.eq_1 _ _) (iss_6 hI h (fun c q => ⟨fun _ => nws hI h hi (fun w' B F S => h1 c q w' B F S), fun z => absurd (show ¬ (1 : Int32).toInt = 0 by decide) z⟩) (fun c q => ⟨fun z => absurd i_0 z, fun _ => flr_x c (h0 c q)⟩) (fun c => ⟨fun z => absurd i_0 z, fun _ => flr_b c (hb c)⟩))
theorem is_7 {w : MW} {P : Int} {E : MW → Prop} {Q : Int32 → MW → Prop} (hI : BND w) (hr : w.2.2 99 11 = some 1) (hp : (w.1 99 12).toInt = P) (h1 : (tks (cf w) (ltr 7 4) P).1 = true → E w) (h0 : (tks (cf w) (ltr 7 4) P).1 = false → Q 0 w) (m : Nat) : ∀ j : Nat, j ≤ 4 → (tks (cf w) (ltr 7 j) P).1 = true → 4 - j < m → q_Ro_iss99_2007_27 E Q m (nI j) w := by
  induction m with
  | zero => intros; omega
  | succ m ih =>
    intro j hj ht hm
    have ti : (nI j).toInt = (j : Int) := nI_toInt (by omega)
    have b12 := bd_99_12 hI
    have ix := ti_add2 hp ti (by omega) (by omega)
    rw [q_Ro_iss99_2007_27.eq_2]
    refine ⟨fun c => ?_, fun c => ⟨hr, at_x hI ?_⟩⟩
    · obtain rfl : j = 4 := by omega
      exact h1 ht
    have ev : (cv w ((w.1 99 12) + nI j)).toInt = cf w (P + j) := by rw [cv_cf, ix]
    have st := tks_st (cf w) (ltr 7 j) [(chT 7 (nI j)).toInt] P ht
    rw [← ltr_s, ltr_l] at st
    have e1 : tks (cf w) [(chT 7 (nI j)).toInt] (P + j) = if cf w (P + j) = (chT 7 (nI j)).toInt then (true, P + j + 1) else (false, P + j) := rfl
    refine ⟨⟨by omega, by omega⟩, fun q => ?_, fun q => ?_⟩
    · rw [ev] at q
      rw [nI_1]
      refine ih (j + 1) (by omega) ?_ (by omega)
      rw [st, e1, if_pos q]
    · rw [ev] at q
      obtain ⟨l, el⟩ := ltr_a 7 (j + 1) (4 - (j + 1))
      have en : j + 1 + (4 - (j + 1)) = 4 := by omega
      rw [en] at el
      refine h0 ?_
      rw [el, tks_f (cf w) (ltr 7 (j + 1)) l P (P + j) (by rw [st, e1, if_neg q])]
theorem iss_7 {w : MW} {i : Nat} {Q : Int32 → MW → Prop} (hI : BND w) (h : WSt w i) (h1 : (w.1 99 17).toInt < 0 → wq (cf w) (w.1 1 2).toInt i (ltr 7 4) = true → Q 1 w) (h0 : (w.1 99 17).toInt < 0 → wq (cf w) (w.1 1 2).toInt i (ltr 7 4) = false → Q 0 w) (hb : 0 ≤ (w.1 99 17).toInt → Q 0 w) : p_Ro_iss99_2007 w Q := by
  have b12 := bd_99_12 hI
  have b13 := bd_99_13 hI
  have d := ti_sub2 h.2.1 h.1 (by rw [← h.2.1, ← h.1]; omega) (by rw [← h.2.1, ← h.1]; omega)
  refine Eq.mpr (p_Ro_iss99_2007.eq_1 _ _) ⟨hb, fun c => ⟨fun q => is_7 hI h.2.2.2 h.1 (fun t => h1 (by omega) ?_) (fun t => h0 (by omega) ?_) FU 0 (by omega) rfl (fu_lt (by decide)), fun q => h0 (by omega) ?_⟩⟩
  · unfold wq
    rw [t, decide_eq_true (show wnd (cf w) (w.1 1 2).toInt i - wat (cf w) (w.1 1 2).toInt i = ((ltr 7 4).length : Int) by rw [ltr_l, ← d]; exact q)]
    rfl
  · unfold wq
    rw [t, Bool.and_false]
  · unfold wq
    rw [decide_eq_false (show ¬ wnd (cf w) (w.1 1 2).toInt i - wat (cf w) (w.1 1 2).toInt i = ((ltr 7 4).length : Int) by rw [ltr_l, ← d]; exact q), Bool.false_and]
theorem tkw_7 {w : MW} {i : Nat} {Q : Int32 → MW → Prop} (hI : BND w) (h : WSt w i) (hi : i ≤ 100000) (h1 : (w.1 99 17).toInt < 0 → wq (cf w) (w.1 1 2).toInt i (ltr 7 4) = true → ∀ w', BND w' → FR lnw w w' → WSt w' (i + 1) → Q 1 w') (h0 : (w.1 99 17).toInt < 0 → wq (cf w) (w.1 1 2).toInt i (ltr 7 4) = false → Q 0 (sI w 99 17 (w.1 99 14))) (hb : 0 ≤ (w.1 99 17).toInt → Q 0 w) : p_Ro_takess99_2007 w Q :=
  Eq.mpr (p_Ro_takess99_2007.eq_1 _ _) (iss_7 hI h (fun c q => ⟨fun _ => nws hI h hi (fun w' B F S => h1 c q w' B F S), fun z => absurd (show ¬ (1 : Int32).toInt = 0 by decide) z⟩) (fun c q => ⟨fun z => absurd i_0 z, fun _ => flr_x c (h0 c q)⟩) (fun c => ⟨fun z => absurd i_0 z, fun _ => flr_b c (hb c)⟩))
theorem is_8 {w : MW} {P : Int} {E : MW → Prop} {Q : Int32 → MW → Prop} (hI : BND w) (hr : w.2.2 99 11 = some 1) (hp : (w.1 99 12).toInt = P) (h1 : (tks (cf w) (ltr 8 3) P).1 = true → E w) (h0 : (tks (cf w) (ltr 8 3) P).1 = false → Q 0 w) (m : Nat) : ∀ j : Nat, j ≤ 3 → (tks (cf w) (ltr 8 j) P).1 = true → 3 - j < m → q_Ro_iss99_2008_27 E Q m (nI j) w := by
  induction m with
  | zero => intros; omega
  | succ m ih =>
    intro j hj ht hm
    have ti : (nI j).toInt = (j : Int) := nI_toInt (by omega)
    have b12 := bd_99_12 hI
    have ix := ti_add2 hp ti (by omega) (by omega)
    rw [q_Ro_iss99_2008_27.eq_2]
    refine ⟨fun c => ?_, fun c => ⟨hr, at_x hI ?_⟩⟩
    · obtain rfl : j = 3 := by omega
      exact h1 ht
    have ev : (cv w ((w.1 99 12) + nI j)).toInt = cf w (P + j) := by rw [cv_cf, ix]
    have st := tks_st (cf w) (ltr 8 j) [(chT 8 (nI j)).toInt] P ht
    rw [← ltr_s, ltr_l] at st
    have e1 : tks (cf w) [(chT 8 (nI j)).toInt] (P + j) = if cf w (P + j) = (chT 8 (nI j)).toInt then (true, P + j + 1) else (false, P + j) := rfl
    refine ⟨⟨by omega, by omega⟩, fun q => ?_, fun q => ?_⟩
    · rw [ev] at q
      rw [nI_1]
      refine ih (j + 1) (by omega) ?_ (by omega)
      rw [st, e1, if_pos q]
    · rw [ev] at q
      obtain ⟨l, el⟩ := ltr_a 8 (j + 1) (3 - (j + 1))
      have en : j + 1 + (3 - (j + 1)) = 3 := by omega
      rw [en] at el
      refine h0 ?_
      rw [el, tks_f (cf w) (ltr 8 (j + 1)) l P (P + j) (by rw [st, e1, if_neg q])]
theorem iss_8 {w : MW} {i : Nat} {Q : Int32 → MW → Prop} (hI : BND w) (h : WSt w i) (h1 : (w.1 99 17).toInt < 0 → wq (cf w) (w.1 1 2).toInt i (ltr 8 3) = true → Q 1 w) (h0 : (w.1 99 17).toInt < 0 → wq (cf w) (w.1 1 2).toInt i (ltr 8 3) = false → Q 0 w) (hb : 0 ≤ (w.1 99 17).toInt → Q 0 w) : p_Ro_iss99_2008 w Q := by
  have b12 := bd_99_12 hI
  have b13 := bd_99_13 hI
  have d := ti_sub2 h.2.1 h.1 (by rw [← h.2.1, ← h.1]; omega) (by rw [← h.2.1, ← h.1]; omega)
  refine Eq.mpr (p_Ro_iss99_2008.eq_1 _ _) ⟨hb, fun c => ⟨fun q => is_8 hI h.2.2.2 h.1 (fun t => h1 (by omega) ?_) (fun t => h0 (by omega) ?_) FU 0 (by omega) rfl (fu_lt (by decide)), fun q => h0 (by omega) ?_⟩⟩
  · unfold wq
    rw [t, decide_eq_true (show wnd (cf w) (w.1 1 2).toInt i - wat (cf w) (w.1 1 2).toInt i = ((ltr 8 3).length : Int) by rw [ltr_l, ← d]; exact q)]
    rfl
  · unfold wq
    rw [t, Bool.and_false]
  · unfold wq
    rw [decide_eq_false (show ¬ wnd (cf w) (w.1 1 2).toInt i - wat (cf w) (w.1 1 2).toInt i = ((ltr 8 3).length : Int) by rw [ltr_l, ← d]; exact q), Bool.false_and]
theorem is_9 {w : MW} {P : Int} {E : MW → Prop} {Q : Int32 → MW → Prop} (hI : BND w) (hr : w.2.2 99 11 = some 1) (hp : (w.1 99 12).toInt = P) (h1 : (tks (cf w) (ltr 9 1) P).1 = true → E w) (h0 : (tks (cf w) (ltr 9 1) P).1 = false → Q 0 w) (m : Nat) : ∀ j : Nat, j ≤ 1 → (tks (cf w) (ltr 9 j) P).1 = true → 1 - j < m → q_Ro_iss99_2009_27 E Q m (nI j) w := by
  induction m with
  | zero => intros; omega
  | succ m ih =>
    intro j hj ht hm
    have ti : (nI j).toInt = (j : Int) := nI_toInt (by omega)
    have b12 := bd_99_12 hI
    have ix := ti_add2 hp ti (by omega) (by omega)
    rw [q_Ro_iss99_2009_27.eq_2]
    refine ⟨fun c => ?_, fun c => ⟨hr, at_x hI ?_⟩⟩
    · obtain rfl : j = 1 := by omega
      exact h1 ht
    have ev : (cv w ((w.1 99 12) + nI j)).toInt = cf w (P + j) := by rw [cv_cf, ix]
    have st := tks_st (cf w) (ltr 9 j) [(chT 9 (nI j)).toInt] P ht
    rw [← ltr_s, ltr_l] at st
    have e1 : tks (cf w) [(chT 9 (nI j)).toInt] (P + j) = if cf w (P + j) = (chT 9 (nI j)).toInt then (true, P + j + 1) else (false, P + j) := rfl
    refine ⟨⟨by omega, by omega⟩, fun q => ?_, fun q => ?_⟩
    · rw [ev] at q
      rw [nI_1]
      refine ih (j + 1) (by omega) ?_ (by omega)
      rw [st, e1, if_pos q]
    · rw [ev] at q
      obtain ⟨l, el⟩ := ltr_a 9 (j + 1) (1 - (j + 1))
      have en : j + 1 + (1 - (j + 1)) = 1 := by omega
      rw [en] at el
      refine h0 ?_
      rw [el, tks_f (cf w) (ltr 9 (j + 1)) l P (P + j) (by rw [st, e1, if_neg q])]
theorem iss_9 {w : MW} {i : Nat} {Q : Int32 → MW → Prop} (hI : BND w) (h : WSt w i) (h1 : (w.1 99 17).toInt < 0 → wq (cf w) (w.1 1 2).toInt i (ltr 9 1) = true → Q 1 w) (h0 : (w.1 99 17).toInt < 0 → wq (cf w) (w.1 1 2).toInt i (ltr 9 1) = false → Q 0 w) (hb : 0 ≤ (w.1 99 17).toInt → Q 0 w) : p_Ro_iss99_2009 w Q := by
  have b12 := bd_99_12 hI
  have b13 := bd_99_13 hI
  have d := ti_sub2 h.2.1 h.1 (by rw [← h.2.1, ← h.1]; omega) (by rw [← h.2.1, ← h.1]; omega)
  refine Eq.mpr (p_Ro_iss99_2009.eq_1 _ _) ⟨hb, fun c => ⟨fun q => is_9 hI h.2.2.2 h.1 (fun t => h1 (by omega) ?_) (fun t => h0 (by omega) ?_) FU 0 (by omega) rfl (fu_lt (by decide)), fun q => h0 (by omega) ?_⟩⟩
  · unfold wq
    rw [t, decide_eq_true (show wnd (cf w) (w.1 1 2).toInt i - wat (cf w) (w.1 1 2).toInt i = ((ltr 9 1).length : Int) by rw [ltr_l, ← d]; exact q)]
    rfl
  · unfold wq
    rw [t, Bool.and_false]
  · unfold wq
    rw [decide_eq_false (show ¬ wnd (cf w) (w.1 1 2).toInt i - wat (cf w) (w.1 1 2).toInt i = ((ltr 9 1).length : Int) by rw [ltr_l, ← d]; exact q), Bool.false_and]
theorem is_10 {w : MW} {P : Int} {E : MW → Prop} {Q : Int32 → MW → Prop} (hI : BND w) (hr : w.2.2 99 11 = some 1) (hp : (w.1 99 12).toInt = P) (h1 : (tks (cf w) (ltr 10 1) P).1 = true → E w) (h0 : (tks (cf w) (ltr 10 1) P).1 = false → Q 0 w) (m : Nat) : ∀ j : Nat, j ≤ 1 → (tks (cf w) (ltr 10 j) P).1 = true → 1 - j < m → q_Ro_iss99_2010_27 E Q m (nI j) w := by
  induction m with
  | zero => intros; omega
  | succ m ih =>
    intro j hj ht hm
    have ti : (nI j).toInt = (j : Int) := nI_toInt (by omega)
    have b12 := bd_99_12 hI
    have ix := ti_add2 hp ti (by omega) (by omega)
    rw [q_Ro_iss99_2010_27.eq_2]
    refine ⟨fun c => ?_, fun c => ⟨hr, at_x hI ?_⟩⟩
    · obtain rfl : j = 1 := by omega
      exact h1 ht
    have ev : (cv w ((w.1 99 12) + nI j)).toInt = cf w (P + j) := by rw [cv_cf, ix]
    have st := tks_st (cf w) (ltr 10 j) [(chT 10 (nI j)).toInt] P ht
    rw [← ltr_s, ltr_l] at st
    have e1 : tks (cf w) [(chT 10 (nI j)).toInt] (P + j) = if cf w (P + j) = (chT 10 (nI j)).toInt then (true, P + j + 1) else (false, P + j) := rfl
    refine ⟨⟨by omega, by omega⟩, fun q => ?_, fun q => ?_⟩
    · rw [ev] at q
      rw [nI_1]
      refine ih (j + 1) (by omega) ?_ (by omega)
      rw [st, e1, if_pos q]
    · rw [ev] at q
      obtain ⟨l, el⟩ := ltr_a 10 (j + 1) (1 - (j + 1))
      have en : j + 1 + (1 - (j + 1)) = 1 := by omega
      rw [en] at el
      refine h0 ?_
      rw [el, tks_f (cf w) (ltr 10 (j + 1)) l P (P + j) (by rw [st, e1, if_neg q])]
theorem iss_10 {w : MW} {i : Nat} {Q : Int32 → MW → Prop} (hI : BND w) (h : WSt w i) (h1 : (w.1 99 17).toInt < 0 → wq (cf w) (w.1 1 2).toInt i (ltr 10 1) = true → Q 1 w) (h0 : (w.1 99 17).toInt < 0 → wq (cf w) (w.1 1 2).toInt i (ltr 10 1) = false → Q 0 w) (hb : 0 ≤ (w.1 99 17).toInt → Q 0 w) : p_Ro_iss99_2010 w Q := by
  have b12 := bd_99_12 hI
  have b13 := bd_99_13 hI
  have d := ti_sub2 h.2.1 h.1 (by rw [← h.2.1, ← h.1]; omega) (by rw [← h.2.1, ← h.1]; omega)
  refine Eq.mpr (p_Ro_iss99_2010.eq_1 _ _) ⟨hb, fun c => ⟨fun q => is_10 hI h.2.2.2 h.1 (fun t => h1 (by omega) ?_) (fun t => h0 (by omega) ?_) FU 0 (by omega) rfl (fu_lt (by decide)), fun q => h0 (by omega) ?_⟩⟩
  · unfold wq
    rw [t, decide_eq_true (show wnd (cf w) (w.1 1 2).toInt i - wat (cf w) (w.1 1 2).toInt i = ((ltr 10 1).length : Int) by rw [ltr_l, ← d]; exact q)]
    rfl
  · unfold wq
    rw [t, Bool.and_false]
  · unfold wq
    rw [decide_eq_false (show ¬ wnd (cf w) (w.1 1 2).toInt i - wat (cf w) (w.1 1 2).toInt i = ((ltr 10 1).length : Int) by rw [ltr_l, ← d]; exact q), Bool.false_and]
theorem tkw_10 {w : MW} {i : Nat} {Q : Int32 → MW → Prop} (hI : BND w) (h : WSt w i) (hi : i ≤ 100000) (h1 : (w.1 99 17).toInt < 0 → wq (cf w) (w.1 1 2).toInt i (ltr 10 1) = true → ∀ w', BND w' → FR lnw w w' → WSt w' (i + 1) → Q 1 w') (h0 : (w.1 99 17).toInt < 0 → wq (cf w) (w.1 1 2).toInt i (ltr 10 1) = false → Q 0 (sI w 99 17 (w.1 99 14))) (hb : 0 ≤ (w.1 99 17).toInt → Q 0 w) : p_Ro_takess99_2010 w Q :=
  Eq.mpr (p_Ro_takess99_2010.eq_1 _ _) (iss_10 hI h (fun c q => ⟨fun _ => nws hI h hi (fun w' B F S => h1 c q w' B F S), fun z => absurd (show ¬ (1 : Int32).toInt = 0 by decide) z⟩) (fun c q => ⟨fun z => absurd i_0 z, fun _ => flr_x c (h0 c q)⟩) (fun c => ⟨fun z => absurd i_0 z, fun _ => flr_b c (hb c)⟩))
theorem is_11 {w : MW} {P : Int} {E : MW → Prop} {Q : Int32 → MW → Prop} (hI : BND w) (hr : w.2.2 99 11 = some 1) (hp : (w.1 99 12).toInt = P) (h1 : (tks (cf w) (ltr 11 3) P).1 = true → E w) (h0 : (tks (cf w) (ltr 11 3) P).1 = false → Q 0 w) (m : Nat) : ∀ j : Nat, j ≤ 3 → (tks (cf w) (ltr 11 j) P).1 = true → 3 - j < m → q_Ro_iss99_2011_27 E Q m (nI j) w := by
  induction m with
  | zero => intros; omega
  | succ m ih =>
    intro j hj ht hm
    have ti : (nI j).toInt = (j : Int) := nI_toInt (by omega)
    have b12 := bd_99_12 hI
    have ix := ti_add2 hp ti (by omega) (by omega)
    rw [q_Ro_iss99_2011_27.eq_2]
    refine ⟨fun c => ?_, fun c => ⟨hr, at_x hI ?_⟩⟩
    · obtain rfl : j = 3 := by omega
      exact h1 ht
    have ev : (cv w ((w.1 99 12) + nI j)).toInt = cf w (P + j) := by rw [cv_cf, ix]
    have st := tks_st (cf w) (ltr 11 j) [(chT 11 (nI j)).toInt] P ht
    rw [← ltr_s, ltr_l] at st
    have e1 : tks (cf w) [(chT 11 (nI j)).toInt] (P + j) = if cf w (P + j) = (chT 11 (nI j)).toInt then (true, P + j + 1) else (false, P + j) := rfl
    refine ⟨⟨by omega, by omega⟩, fun q => ?_, fun q => ?_⟩
    · rw [ev] at q
      rw [nI_1]
      refine ih (j + 1) (by omega) ?_ (by omega)
      rw [st, e1, if_pos q]
    · rw [ev] at q
      obtain ⟨l, el⟩ := ltr_a 11 (j + 1) (3 - (j + 1))
      have en : j + 1 + (3 - (j + 1)) = 3 := by omega
      rw [en] at el
      refine h0 ?_
      rw [el, tks_f (cf w) (ltr 11 (j + 1)) l P (P + j) (by rw [st, e1, if_neg q])]
theorem iss_11 {w : MW} {i : Nat} {Q : Int32 → MW → Prop} (hI : BND w) (h : WSt w i) (h1 : (w.1 99 17).toInt < 0 → wq (cf w) (w.1 1 2).toInt i (ltr 11 3) = true → Q 1 w) (h0 : (w.1 99 17).toInt < 0 → wq (cf w) (w.1 1 2).toInt i (ltr 11 3) = false → Q 0 w) (hb : 0 ≤ (w.1 99 17).toInt → Q 0 w) : p_Ro_iss99_2011 w Q := by
  have b12 := bd_99_12 hI
  have b13 := bd_99_13 hI
  have d := ti_sub2 h.2.1 h.1 (by rw [← h.2.1, ← h.1]; omega) (by rw [← h.2.1, ← h.1]; omega)
  refine Eq.mpr (p_Ro_iss99_2011.eq_1 _ _) ⟨hb, fun c => ⟨fun q => is_11 hI h.2.2.2 h.1 (fun t => h1 (by omega) ?_) (fun t => h0 (by omega) ?_) FU 0 (by omega) rfl (fu_lt (by decide)), fun q => h0 (by omega) ?_⟩⟩
  · unfold wq
    rw [t, decide_eq_true (show wnd (cf w) (w.1 1 2).toInt i - wat (cf w) (w.1 1 2).toInt i = ((ltr 11 3).length : Int) by rw [ltr_l, ← d]; exact q)]
    rfl
  · unfold wq
    rw [t, Bool.and_false]
  · unfold wq
    rw [decide_eq_false (show ¬ wnd (cf w) (w.1 1 2).toInt i - wat (cf w) (w.1 1 2).toInt i = ((ltr 11 3).length : Int) by rw [ltr_l, ← d]; exact q), Bool.false_and]
theorem is_12 {w : MW} {P : Int} {E : MW → Prop} {Q : Int32 → MW → Prop} (hI : BND w) (hr : w.2.2 99 11 = some 1) (hp : (w.1 99 12).toInt = P) (h1 : (tks (cf w) (ltr 12 2) P).1 = true → E w) (h0 : (tks (cf w) (ltr 12 2) P).1 = false → Q 0 w) (m : Nat) : ∀ j : Nat, j ≤ 2 → (tks (cf w) (ltr 12 j) P).1 = true → 2 - j < m → q_Ro_iss99_2012_27 E Q m (nI j) w := by
  induction m with
  | zero => intros; omega
  | succ m ih =>
    intro j hj ht hm
    have ti : (nI j).toInt = (j : Int) := nI_toInt (by omega)
    have b12 := bd_99_12 hI
    have ix := ti_add2 hp ti (by omega) (by omega)
    rw [q_Ro_iss99_2012_27.eq_2]
    refine ⟨fun c => ?_, fun c => ⟨hr, at_x hI ?_⟩⟩
    · obtain rfl : j = 2 := by omega
      exact h1 ht
    have ev : (cv w ((w.1 99 12) + nI j)).toInt = cf w (P + j) := by rw [cv_cf, ix]
    have st := tks_st (cf w) (ltr 12 j) [(chT 12 (nI j)).toInt] P ht
    rw [← ltr_s, ltr_l] at st
    have e1 : tks (cf w) [(chT 12 (nI j)).toInt] (P + j) = if cf w (P + j) = (chT 12 (nI j)).toInt then (true, P + j + 1) else (false, P + j) := rfl
    refine ⟨⟨by omega, by omega⟩, fun q => ?_, fun q => ?_⟩
    · rw [ev] at q
      rw [nI_1]
      refine ih (j + 1) (by omega) ?_ (by omega)
      rw [st, e1, if_pos q]
    · rw [ev] at q
      obtain ⟨l, el⟩ := ltr_a 12 (j + 1) (2 - (j + 1))
      have en : j + 1 + (2 - (j + 1)) = 2 := by omega
      rw [en] at el
      refine h0 ?_
      rw [el, tks_f (cf w) (ltr 12 (j + 1)) l P (P + j) (by rw [st, e1, if_neg q])]
theorem iss_12 {w : MW} {i : Nat} {Q : Int32 → MW → Prop} (hI : BND w) (h : WSt w i) (h1 : (w.1 99 17).toInt < 0 → wq (cf w) (w.1 1 2).toInt i (ltr 12 2) = true → Q 1 w) (h0 : (w.1 99 17).toInt < 0 → wq (cf w) (w.1 1 2).toInt i (ltr 12 2) = false → Q 0 w) (hb : 0 ≤ (w.1 99 17).toInt → Q 0 w) : p_Ro_iss99_2012 w Q := by
  have b12 := bd_99_12 hI
  have b13 := bd_99_13 hI
  have d := ti_sub2 h.2.1 h.1 (by rw [← h.2.1, ← h.1]; omega) (by rw [← h.2.1, ← h.1]; omega)
  refine Eq.mpr (p_Ro_iss99_2012.eq_1 _ _) ⟨hb, fun c => ⟨fun q => is_12 hI h.2.2.2 h.1 (fun t => h1 (by omega) ?_) (fun t => h0 (by omega) ?_) FU 0 (by omega) rfl (fu_lt (by decide)), fun q => h0 (by omega) ?_⟩⟩
  · unfold wq
    rw [t, decide_eq_true (show wnd (cf w) (w.1 1 2).toInt i - wat (cf w) (w.1 1 2).toInt i = ((ltr 12 2).length : Int) by rw [ltr_l, ← d]; exact q)]
    rfl
  · unfold wq
    rw [t, Bool.and_false]
  · unfold wq
    rw [decide_eq_false (show ¬ wnd (cf w) (w.1 1 2).toInt i - wat (cf w) (w.1 1 2).toInt i = ((ltr 12 2).length : Int) by rw [ltr_l, ← d]; exact q), Bool.false_and]
theorem is_13 {w : MW} {P : Int} {E : MW → Prop} {Q : Int32 → MW → Prop} (hI : BND w) (hr : w.2.2 99 11 = some 1) (hp : (w.1 99 12).toInt = P) (h1 : (tks (cf w) (ltr 13 3) P).1 = true → E w) (h0 : (tks (cf w) (ltr 13 3) P).1 = false → Q 0 w) (m : Nat) : ∀ j : Nat, j ≤ 3 → (tks (cf w) (ltr 13 j) P).1 = true → 3 - j < m → q_Ro_iss99_2013_27 E Q m (nI j) w := by
  induction m with
  | zero => intros; omega
  | succ m ih =>
    intro j hj ht hm
    have ti : (nI j).toInt = (j : Int) := nI_toInt (by omega)
    have b12 := bd_99_12 hI
    have ix := ti_add2 hp ti (by omega) (by omega)
    rw [q_Ro_iss99_2013_27.eq_2]
    refine ⟨fun c => ?_, fun c => ⟨hr, at_x hI ?_⟩⟩
    · obtain rfl : j = 3 := by omega
      exact h1 ht
    have ev : (cv w ((w.1 99 12) + nI j)).toInt = cf w (P + j) := by rw [cv_cf, ix]
    have st := tks_st (cf w) (ltr 13 j) [(chT 13 (nI j)).toInt] P ht
    rw [← ltr_s, ltr_l] at st
    have e1 : tks (cf w) [(chT 13 (nI j)).toInt] (P + j) = if cf w (P + j) = (chT 13 (nI j)).toInt then (true, P + j + 1) else (false, P + j) := rfl
    refine ⟨⟨by omega, by omega⟩, fun q => ?_, fun q => ?_⟩
    · rw [ev] at q
      rw [nI_1]
      refine ih (j + 1) (by omega) ?_ (by omega)
      rw [st, e1, if_pos q]
    · rw [ev] at q
      obtain ⟨l, el⟩ := ltr_a 13 (j + 1) (3 - (j + 1))
      have en : j + 1 + (3 - (j + 1)) = 3 := by omega
      rw [en] at el
      refine h0 ?_
      rw [el, tks_f (cf w) (ltr 13 (j + 1)) l P (P + j) (by rw [st, e1, if_neg q])]
theorem iss_13 {w : MW} {i : Nat} {Q : Int32 → MW → Prop} (hI : BND w) (h : WSt w i) (h1 : (w.1 99 17).toInt < 0 → wq (cf w) (w.1 1 2).toInt i (ltr 13 3) = true → Q 1 w) (h0 : (w.1 99 17).toInt < 0 → wq (cf w) (w.1 1 2).toInt i (ltr 13 3) = false → Q 0 w) (hb : 0 ≤ (w.1 99 17).toInt → Q 0 w) : p_Ro_iss99_2013 w Q := by
  have b12 := bd_99_12 hI
  have b13 := bd_99_13 hI
  have d := ti_sub2 h.2.1 h.1 (by rw [← h.2.1, ← h.1]; omega) (by rw [← h.2.1, ← h.1]; omega)
  refine Eq.mpr (p_Ro_iss99_2013.eq_1 _ _) ⟨hb, fun c => ⟨fun q => is_13 hI h.2.2.2 h.1 (fun t => h1 (by omega) ?_) (fun t => h0 (by omega) ?_) FU 0 (by omega) rfl (fu_lt (by decide)), fun q => h0 (by omega) ?_⟩⟩
  · unfold wq
    rw [t, decide_eq_true (show wnd (cf w) (w.1 1 2).toInt i - wat (cf w) (w.1 1 2).toInt i = ((ltr 13 3).length : Int) by rw [ltr_l, ← d]; exact q)]
    rfl
  · unfold wq
    rw [t, Bool.and_false]
  · unfold wq
    rw [decide_eq_false (show ¬ wnd (cf w) (w.1 1 2).toInt i - wat (cf w) (w.1 1 2).toInt i = ((ltr 13 3).length : Int) by rw [ltr_l, ← d]; exact q), Bool.false_and]
theorem is_14 {w : MW} {P : Int} {E : MW → Prop} {Q : Int32 → MW → Prop} (hI : BND w) (hr : w.2.2 99 11 = some 1) (hp : (w.1 99 12).toInt = P) (h1 : (tks (cf w) (ltr 14 7) P).1 = true → E w) (h0 : (tks (cf w) (ltr 14 7) P).1 = false → Q 0 w) (m : Nat) : ∀ j : Nat, j ≤ 7 → (tks (cf w) (ltr 14 j) P).1 = true → 7 - j < m → q_Ro_iss99_2014_27 E Q m (nI j) w := by
  induction m with
  | zero => intros; omega
  | succ m ih =>
    intro j hj ht hm
    have ti : (nI j).toInt = (j : Int) := nI_toInt (by omega)
    have b12 := bd_99_12 hI
    have ix := ti_add2 hp ti (by omega) (by omega)
    rw [q_Ro_iss99_2014_27.eq_2]
    refine ⟨fun c => ?_, fun c => ⟨hr, at_x hI ?_⟩⟩
    · obtain rfl : j = 7 := by omega
      exact h1 ht
    have ev : (cv w ((w.1 99 12) + nI j)).toInt = cf w (P + j) := by rw [cv_cf, ix]
    have st := tks_st (cf w) (ltr 14 j) [(chT 14 (nI j)).toInt] P ht
    rw [← ltr_s, ltr_l] at st
    have e1 : tks (cf w) [(chT 14 (nI j)).toInt] (P + j) = if cf w (P + j) = (chT 14 (nI j)).toInt then (true, P + j + 1) else (false, P + j) := rfl
    refine ⟨⟨by omega, by omega⟩, fun q => ?_, fun q => ?_⟩
    · rw [ev] at q
      rw [nI_1]
      refine ih (j + 1) (by omega) ?_ (by omega)
      rw [st, e1, if_pos q]
    · rw [ev] at q
      obtain ⟨l, el⟩ := ltr_a 14 (j + 1) (7 - (j + 1))
      have en : j + 1 + (7 - (j + 1)) = 7 := by omega
      rw [en] at el
      refine h0 ?_
      rw [el, tks_f (cf w) (ltr 14 (j + 1)) l P (P + j) (by rw [st, e1, if_neg q])]
theorem iss_14 {w : MW} {i : Nat} {Q : Int32 → MW → Prop} (hI : BND w) (h : WSt w i) (h1 : (w.1 99 17).toInt < 0 → wq (cf w) (w.1 1 2).toInt i (ltr 14 7) = true → Q 1 w) (h0 : (w.1 99 17).toInt < 0 → wq (cf w) (w.1 1 2).toInt i (ltr 14 7) = false → Q 0 w) (hb : 0 ≤ (w.1 99 17).toInt → Q 0 w) : p_Ro_iss99_2014 w Q := by
  have b12 := bd_99_12 hI
  have b13 := bd_99_13 hI
  have d := ti_sub2 h.2.1 h.1 (by rw [← h.2.1, ← h.1]; omega) (by rw [← h.2.1, ← h.1]; omega)
  refine Eq.mpr (p_Ro_iss99_2014.eq_1 _ _) ⟨hb, fun c => ⟨fun q => is_14 hI h.2.2.2 h.1 (fun t => h1 (by omega) ?_) (fun t => h0 (by omega) ?_) FU 0 (by omega) rfl (fu_lt (by decide)), fun q => h0 (by omega) ?_⟩⟩
  · unfold wq
    rw [t, decide_eq_true (show wnd (cf w) (w.1 1 2).toInt i - wat (cf w) (w.1 1 2).toInt i = ((ltr 14 7).length : Int) by rw [ltr_l, ← d]; exact q)]
    rfl
  · unfold wq
    rw [t, Bool.and_false]
  · unfold wq
    rw [decide_eq_false (show ¬ wnd (cf w) (w.1 1 2).toInt i - wat (cf w) (w.1 1 2).toInt i = ((ltr 14 7).length : Int) by rw [ltr_l, ← d]; exact q), Bool.false_and]
theorem is_15 {w : MW} {P : Int} {E : MW → Prop} {Q : Int32 → MW → Prop} (hI : BND w) (hr : w.2.2 99 11 = some 1) (hp : (w.1 99 12).toInt = P) (h1 : (tks (cf w) (ltr 15 1) P).1 = true → E w) (h0 : (tks (cf w) (ltr 15 1) P).1 = false → Q 0 w) (m : Nat) : ∀ j : Nat, j ≤ 1 → (tks (cf w) (ltr 15 j) P).1 = true → 1 - j < m → q_Ro_iss99_2015_27 E Q m (nI j) w := by
  induction m with
  | zero => intros; omega
  | succ m ih =>
    intro j hj ht hm
    have ti : (nI j).toInt = (j : Int) := nI_toInt (by omega)
    have b12 := bd_99_12 hI
    have ix := ti_add2 hp ti (by omega) (by omega)
    rw [q_Ro_iss99_2015_27.eq_2]
    refine ⟨fun c => ?_, fun c => ⟨hr, at_x hI ?_⟩⟩
    · obtain rfl : j = 1 := by omega
      exact h1 ht
    have ev : (cv w ((w.1 99 12) + nI j)).toInt = cf w (P + j) := by rw [cv_cf, ix]
    have st := tks_st (cf w) (ltr 15 j) [(chT 15 (nI j)).toInt] P ht
    rw [← ltr_s, ltr_l] at st
    have e1 : tks (cf w) [(chT 15 (nI j)).toInt] (P + j) = if cf w (P + j) = (chT 15 (nI j)).toInt then (true, P + j + 1) else (false, P + j) := rfl
    refine ⟨⟨by omega, by omega⟩, fun q => ?_, fun q => ?_⟩
    · rw [ev] at q
      rw [nI_1]
      refine ih (j + 1) (by omega) ?_ (by omega)
      rw [st, e1, if_pos q]
    · rw [ev] at q
      obtain ⟨l, el⟩ := ltr_a 15 (j + 1) (1 - (j + 1))
      have en : j + 1 + (1 - (j + 1)) = 1 := by omega
      rw [en] at el
      refine h0 ?_
      rw [el, tks_f (cf w) (ltr 15 (j + 1)) l P (P + j) (by rw [st, e1, if_neg q])]
theorem iss_15 {w : MW} {i : Nat} {Q : Int32 → MW → Prop} (hI : BND w) (h : WSt w i) (h1 : (w.1 99 17).toInt < 0 → wq (cf w) (w.1 1 2).toInt i (ltr 15 1) = true → Q 1 w) (h0 : (w.1 99 17).toInt < 0 → wq (cf w) (w.1 1 2).toInt i (ltr 15 1) = false → Q 0 w) (hb : 0 ≤ (w.1 99 17).toInt → Q 0 w) : p_Ro_iss99_2015 w Q := by
  have b12 := bd_99_12 hI
  have b13 := bd_99_13 hI
  have d := ti_sub2 h.2.1 h.1 (by rw [← h.2.1, ← h.1]; omega) (by rw [← h.2.1, ← h.1]; omega)
  refine Eq.mpr (p_Ro_iss99_2015.eq_1 _ _) ⟨hb, fun c => ⟨fun q => is_15 hI h.2.2.2 h.1 (fun t => h1 (by omega) ?_) (fun t => h0 (by omega) ?_) FU 0 (by omega) rfl (fu_lt (by decide)), fun q => h0 (by omega) ?_⟩⟩
  · unfold wq
    rw [t, decide_eq_true (show wnd (cf w) (w.1 1 2).toInt i - wat (cf w) (w.1 1 2).toInt i = ((ltr 15 1).length : Int) by rw [ltr_l, ← d]; exact q)]
    rfl
  · unfold wq
    rw [t, Bool.and_false]
  · unfold wq
    rw [decide_eq_false (show ¬ wnd (cf w) (w.1 1 2).toInt i - wat (cf w) (w.1 1 2).toInt i = ((ltr 15 1).length : Int) by rw [ltr_l, ← d]; exact q), Bool.false_and]
theorem tkw_15 {w : MW} {i : Nat} {Q : Int32 → MW → Prop} (hI : BND w) (h : WSt w i) (hi : i ≤ 100000) (h1 : (w.1 99 17).toInt < 0 → wq (cf w) (w.1 1 2).toInt i (ltr 15 1) = true → ∀ w', BND w' → FR lnw w w' → WSt w' (i + 1) → Q 1 w') (h0 : (w.1 99 17).toInt < 0 → wq (cf w) (w.1 1 2).toInt i (ltr 15 1) = false → Q 0 (sI w 99 17 (w.1 99 14))) (hb : 0 ≤ (w.1 99 17).toInt → Q 0 w) : p_Ro_takess99_2015 w Q :=
  Eq.mpr (p_Ro_takess99_2015.eq_1 _ _) (iss_15 hI h (fun c q => ⟨fun _ => nws hI h hi (fun w' B F S => h1 c q w' B F S), fun z => absurd (show ¬ (1 : Int32).toInt = 0 by decide) z⟩) (fun c q => ⟨fun z => absurd i_0 z, fun _ => flr_x c (h0 c q)⟩) (fun c => ⟨fun z => absurd i_0 z, fun _ => flr_b c (hb c)⟩))
