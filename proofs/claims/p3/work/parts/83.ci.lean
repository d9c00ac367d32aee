/-! the class between calls -/
def lci : Pl := [(61, some 3), (61, some 5), (62, some 1), (63, none), (64, none), (65, none), (66, none), (77, none), (78, none), (79, none), (58, none), (59, none), (60, none), (8, some 0), (8, some 1), (13, none), (14, none), (15, none), (7, some 0), (47, some 3), (26, some 1), (32, none), (34, none), (35, none), (36, none), (80, none), (81, none), (61, some 4), (62, some 2), (117, none), (119, none), (71, none), (73, none), (0, some 8), (0, some 9), (0, some 10)]
def lcj : Pl := [(61, some 3), (61, some 5), (62, some 1), (63, none), (64, none), (65, none), (66, none), (77, none), (78, none), (79, none), (58, none), (59, none), (60, none), (8, some 0), (8, some 1), (13, none), (14, none), (15, none), (7, some 0), (47, some 3), (80, none), (81, none), (61, some 4), (62, some 2), (117, none), (119, none), (71, none), (73, none), (0, some 8), (0, some 9), (0, some 10)]
def lix : Pl := [(117, none), (119, none), (71, none), (73, none), (0, some 8), (0, some 9), (0, some 10)]
def ltP : Pl := [(7, some 0), (16, none), (17, none), (18, none), (19, none), (23, none), (20, none), (21, none), (0, some 8), (26, some 1), (36, none), (37, none), (61, some 4), (123, none), (0, some 12)]
def ltQ : Pl := [(99, some 1), (47, some 3), (0, some 9)]
def ltN : Pl := [(61, some 3), (61, some 4), (61, some 5), (77, none), (78, none), (79, none), (0, some 10), (16, none), (26, some 1), (27, none), (28, none), (29, none), (30, none), (31, none), (32, none), (33, none), (36, none), (37, none)]
def lBE : Pl := [(1, some 2), (91, some 0), (91, some 1), (91, some 9), (91, some 10), (91, some 11), (92, none), (93, none), (94, none), (95, none), (96, none), (97, none), (98, none), (99, some 0), (99, some 10), (99, some 11), (99, some 12), (99, some 13), (99, some 14), (99, some 15), (99, some 16), (99, some 17), (100, none), (101, none), (102, none), (103, none), (104, none), (105, none), (106, none), (107, none), (87, some 0), (87, some 1), (87, some 2), (87, some 3), (87, some 4), (87, some 5), (87, some 6), (87, some 7), (87, some 8), (87, some 9), (88, none), (89, none), (108, some 0), (108, some 1), (108, some 2), (108, some 10), (109, none), (110, none), (111, none), (112, none), (113, none), (114, none), (115, none), (116, none), (117, none), (118, none), (119, none), (120, none), (121, none), (7, some 0), (16, none), (17, none), (18, none), (19, none), (23, none), (20, none), (21, none), (0, some 8), (26, some 1), (36, none), (37, none), (61, some 4), (123, none), (0, some 12), (99, some 1), (47, some 3), (0, some 9), (61, some 3), (61, some 5), (77, none), (78, none), (79, none), (0, some 10), (27, none), (28, none), (29, none), (30, none), (31, none), (32, none), (33, none)]
def CrZ (w : MW) : Prop := PA w ∧ PT w ∧ AC w ∧ AZ w ∧ PE w ∧ PJ w ∧ PL w ∧ w.2.2 61 3 = some 62 ∧ w.2.2 7 0 = some 8 ∧ w.2.2 47 3 = some 48
theorem CrZ.fr {l : Pl} {w w' : MW} (h : CrZ w) (hF : FR l w w') (ho : off l lcs = true) : CrZ w' :=
  ⟨PA_fr hF (off_mono ho (by decide)) h.1, PT_fr hF (off_mono ho (by decide)) h.2.1, AC_fr hF (off_mono ho (by decide)) h.2.2.1, AZ_fr hF (off_mono ho (by decide)) h.2.2.2.1, PE_fr hF (off_mono ho (by decide)) h.2.2.2.2.1, PJ_fr hF (off_mono ho (by decide)) h.2.2.2.2.2.1, PL_fr hF (off_mono ho (by decide)) h.2.2.2.2.2.2.1, ((hF 61 3 (off_hit ho rfl)).2.2).trans h.2.2.2.2.2.2.2.1, ((hF 7 0 (off_hit ho rfl)).2.2).trans h.2.2.2.2.2.2.2.2.1, ((hF 47 3 (off_hit ho rfl)).2.2).trans h.2.2.2.2.2.2.2.2.2⟩
/-- no program was taken yet -/
def FZ (w : MW) : Prop := (w.1 62 2).toInt < 0 ∧ (w.1 61 4).toInt = 4
def NKz (w : MW) : Prop := ∀ i : Int32, (w.1 71 i.toInt.toNat).toInt = 10 → 0 ≤ (w.1 73 i.toInt.toNat).toInt
theorem NKz_fr {l : Pl} {w w' : MW} (hF : FR l w w') (ho : off l [(71, none), (73, none)] = true) (h : NKz w) : NKz w' := fun i => by
  rw [(hF 71 _ (off_hit ho rfl)).1, (hF 73 _ (off_hit ho rfl)).1]
  exact h i
def CIx (w : MW) : Prop := NK w ∧ NKz w ∧ w.2.2 0 8 = some 91 ∧ w.2.2 0 9 = some 99 ∧ w.2.2 0 10 = some 108
theorem CIx.fr {l : Pl} {w w' : MW} (h : CIx w) (hF : FR l w w') (ho : off l lix = true) : CIx w' :=
  ⟨NK_fr hF (off_mono ho (by decide)) h.1, NKz_fr hF (off_mono ho (by decide)) h.2.1, ((hF 0 8 (off_hit ho rfl)).2.2).trans h.2.2.1, ((hF 0 9 (off_hit ho rfl)).2.2).trans h.2.2.2.1, ((hF 0 10 (off_hit ho rfl)).2.2).trans h.2.2.2.2⟩
/-- the class between calls: with the plant at 8, the rows at 48, the program at 62 -/
def CI (w : MW) : Prop := BND w ∧ CrZ w ∧ WO w ∧ ((RLz w ∧ RnI w) ∨ FZ w) ∧ CIx w
theorem cri_ci {w : MW} (h : CrI w) (hx : CIx w) : CI w := ⟨h.1, h.2.1.2, h.2.2.1, Or.inl ⟨h.2.1.1, h.2.2.2⟩, hx⟩
theorem ci_wo {l : Pl} {w w' : MW} (h : CI w) (hF : FR l w w') (hB : BND w') (hW : WO w') (ho : off l lcj = true) : CI w' := by
  have hx := h.2.2.2.2.fr hF (off_mono ho (by decide))
  cases h.2.2.2.1 with
  | inl q => exact cri_ci (cri_wo ⟨h.1, ⟨q.1, h.2.1⟩, h.2.2.1, q.2⟩ hF hB hW (off_mono ho (by decide))) hx
  | inr q =>
    refine ⟨hB, h.2.1.fr hF (off_mono ho (by decide)), hW, Or.inr ⟨?_, ?_⟩, hx⟩
    · rw [(hF 62 2 (off_hit ho rfl)).1]
      exact q.1
    · rw [(hF 61 4 (off_hit ho rfl)).1]
      exact q.2
theorem ci_fr {l : Pl} {w w' : MW} (h : CI w) (hF : FR l w w') (hB : BND w') (ho : off l lci = true) : CI w' :=
  ci_wo h hF hB (WO_fr hF (off_mono ho (by decide)) h.2.2.1) (off_mono ho (by decide))
theorem wo_cnt {w : MW} (h : (w.1 26 1).toInt ≤ 0) : WO w := by
  refine ⟨fun _ => -1, fun p _ _ q => absurd q (show ¬ (0 : Int) ≤ -1 by decide), fun k k0 k1 => ?_, fun k l k0 k1 l0 l1 _ => ?_⟩ <;> omega
/-! the calls that run -/
theorem ci_start {w : MW} {Q : Int32 → MW → Prop} (h : CI w) (hQ : ∀ (r : Int32) (w' : MW), CI w' → FR l_Bh_start w w' → Q r w') : p_Bh_start w Q := by
  cases h.2.2.2.1 with
  | inl q => exact c_start ⟨h.1, ⟨q.1, h.2.1⟩, h.2.2.1, q.2⟩ (fun r w' h' hF => hQ r w' (cri_ci h' (h.2.2.2.2.fr hF rfl)) hF)
  | inr q =>
    have := q.1
    exact Eq.mpr (p_Bh_start.eq_1 _ _) ⟨h.2.1.2.2.2.2.2.2.2.1, fun c => absurd c (by omega), fun _ => hQ 0 w h (FR.refl _ w)⟩
theorem ci_answer {w : MW} {v : Int64} {Q : Int32 → MW → Prop} (h : CI w) (hQ : ∀ (r : Int32) (w' : MW), CI w' → FR l_Ru_giveAnswer w w' → Q r w') : p_Bh_answer w v Q := by
  cases h.2.2.2.1 with
  | inl q => exact c_answer ⟨h.1, ⟨q.1, h.2.1⟩, h.2.2.1, q.2⟩ (fun r w' _ h' hF => hQ r w' (cri_ci h' (h.2.2.2.2.fr hF rfl)) hF)
  | inr q =>
    have q2 := q.2
    have F1 : FR l_Ru_giveAnswer w (sI w 61 15 0) := FR.I (FR.refl _ w) rfl
    have h1 : CI (sI w 61 15 0) := ci_fr h F1 (wbd_61_15 h.1) rfl
    have e4 : (sI w 61 15 0).1 61 4 = w.1 61 4 := rfl
    refine Eq.mpr (p_Bh_answer.eq_1 _ _ _) (Eq.mpr (p_Ru_giveAnswer.eq_1 _ _ _) ⟨fun _ => ?_, fun c => ?_⟩)
    · exact Eq.mpr (q_Ru_giveAnswer_23.eq_1 _ _ _ _) ⟨fun c => absurd c (by decide), fun _ => hQ 0 _ h1 F1⟩
    · exact absurd q2 (by omega)
theorem ci_still {w : MW} {a : Int32} {Q : Int32 → MW → Prop} (h : CI w) (hQ : ∀ (r : Int32) (w' : MW), CI w' → FR l_Ru_seek w w' → Q r w') : p_Bh_still w a Q := by
  cases h.2.2.2.1 with
  | inl q => exact c_still ⟨h.1, ⟨q.1, h.2.1⟩, h.2.2.1, q.2⟩ (fun r w' h' hF => hQ r w' (cri_ci h' (h.2.2.2.2.fr hF rfl)) hF)
  | inr q =>
    have q2 := q.2
    have F1 : FR l_Ru_seek w (sI w 61 15 a) := FR.I (FR.refl _ w) rfl
    have h1 : CI (sI w 61 15 a) := ci_fr h F1 (wbd_61_15 h.1) rfl
    have e4 : (sI w 61 15 a).1 61 4 = w.1 61 4 := rfl
    refine Eq.mpr (p_Bh_still.eq_1 _ _ _) (Eq.mpr (p_Ru_standingNode.eq_1 _ _ _) ?_)
    generalize (sI w 61 15 a) = w1 at *
    rw [← e4] at q2
    have nil : Q (-1) w1 := hQ _ w1 h1 F1
    exact Eq.mpr (p_Ru_isAlive.eq_1 _ _) ⟨fun c => absurd q2 (by omega), fun c => ⟨fun _ => ⟨fun _ => nil, fun z => absurd i_0 z⟩, fun c2 => absurd q2 (by omega)⟩⟩
theorem ci_hold {w : MW} {a : Int32} {Q : Int32 → MW → Prop} (h : CI w) (hQ : ∀ (r : Int32) (w' : MW), CI w' → FR l_Bh_hold w w' → Q r w') : p_Bh_hold w a Q := by
  cases h.2.2.2.1 with
  | inl q => exact c_hold ⟨h.1, ⟨q.1, h.2.1⟩, h.2.2.1, q.2⟩ (fun r w' h' hF => hQ r w' (cri_ci h' (h.2.2.2.2.fr hF rfl)) hF)
  | inr q =>
    have q2 := q.2
    have go : ∀ y : Int32, (y.toInt = 0 ∨ y.toInt = 2) → q_Bh_hold_16 a y (w.1 61 4) w Q := fun y hy => 
      Eq.mpr (q_Bh_hold_16.eq_1 _ _ _ _ _) ⟨fun c => absurd q2 (by omega), fun _ => hQ 0 w h (FR.refl _ w)⟩
    exact Eq.mpr (p_Bh_hold.eq_1 _ _ _) ⟨fun _ => go 2 (Or.inr (by decide)), fun _ => go 0 (Or.inl (by decide))⟩
theorem ci_stop {w : MW} {Q : Int32 → MW → Prop} (h : CI w) (hQ : ∀ (r : Int32) (w' : MW), CI w' → FR l_Bh_stop w w' → Q r w') : p_Bh_stop w Q := by
  cases h.2.2.2.1 with
  | inl q => exact c_stop ⟨h.1, ⟨q.1, h.2.1⟩, h.2.2.1, q.2⟩ (fun r w' h' hF => hQ r w' (cri_ci h' (h.2.2.2.2.fr hF rfl)) hF)
  | inr q =>
    have q2 := q.2
    exact Eq.mpr (p_Bh_stop.eq_1 _ _) (ru_alive (fun z => absurd q2 (by omega)) (fun _ => ⟨fun z => absurd i_0 z, fun _ => hQ 0 w h (FR.refl _ w)⟩))
theorem ci_tick15 {a : Int32} {w0 : MW} {E : MW → Prop} {Q : Int32 → MW → Prop} (a1 : a.toInt ≤ 600) (hE : ∀ w', CI w' → FR l_Bh_tick w0 w' → E w') (n : Nat) : ∀ (i : Int32) (w : MW), CI w → FZ w → FR l_Bh_tick w0 w → 0 ≤ i.toInt → i.toInt ≤ 600 → (601 - i.toInt).toNat < n → q_Bh_tick_15 a E Q n i w := by
  have fz : ∀ {l : Pl} {w w' : MW}, FZ w → FR l w w' → off l [(62, some 2), (61, some 4)] = true → FZ w' := fun {l w w'} f hF ho => ⟨by rw [(hF 62 2 (off_hit ho rfl)).1]; exact f.1, by rw [(hF 61 4 (off_hit ho rfl)).1]; exact f.2⟩
  induction n with
  | zero => intros; omega
  | succ n ih =>
    intro i w h f hF i0 i1 hm
    rw [q_Bh_tick_15.eq_2]
    refine ⟨fun _ => hE w h hF, fun ci => ?_⟩
    have si := ti_add2 (Eq.refl i.toInt) i_1 (by omega) (by omega)
    have S := h.2.1.2.2.2.2.2.2.2
    refine h_Bh_senseAll h.1 S.2.2 S.1 S.2.1 (fun w4 hB4 hF4 => ?_)
    have h4 := ci_fr h hF4 hB4 rfl
    have f4 := fz f hF4 rfl
    refine ⟨h4.2.1.2.2.2.2.2.2.2.2.2, h_Ro_countSecond hB4 (fun w6 hB6 hF6 => ?_)⟩
    have h6 := ci_fr h4 hF6 hB6 rfl
    have f6 := fz f4 hF6 rfl
    have F6 : FR l_Bh_tick w0 w6 := (hF.tr hF4 rfl).tr hF6 rfl
    refine ⟨fun _ => ?_, fun c => absurd f6.2 (by omega)⟩
    refine h_Wa_move h6.1 h6.2.1.2.2.2.2.2.2.2.2.1 (fun w8 hB8 hF8 => ?_)
    have h8 := ci_fr h6 hF8 hB8 rfl
    have F9 : FR [(7, some 1)] w8 (sI w8 7 1 ((w8.1 7 1) + (1 : Int32))) := FR.I (FR.refl _ w8) rfl
    exact ih _ _ (ci_fr h8 F9 (wbd_7_1 h8.1) rfl) (fz (fz f6 hF8 rfl) F9 rfl) ((F6.tr hF8 rfl).tr F9 rfl) (by omega) (by omega) (by omega)
theorem ci_tick {w : MW} {a : Int32} {Q : Int32 → MW → Prop} (h : CI w) (hQ : ∀ (r : Int32) (w' : MW), CI w' → FR l_Bh_tick w w' → Q r w') : p_Bh_tick w a Q := by
  cases h.2.2.2.1 with
  | inl q => exact c_tick ⟨h.1, ⟨q.1, h.2.1⟩, h.2.2.1, q.2⟩ (fun r w' h' hF => hQ r w' (cri_ci h' (h.2.2.2.2.fr hF rfl)) hF)
  | inr q =>
    exact Eq.mpr (p_Bh_tick.eq_1 _ _ _) ⟨fun _ => hQ _ w h (FR.refl _ w), fun _ => ⟨fun c => ci_tick15 c (fun w' h' F' => hQ _ w' h' F') FU 0 w h q (FR.refl _ w) (by decide) (by decide) (by decide), fun _ => hQ _ w h (FR.refl _ w)⟩⟩
