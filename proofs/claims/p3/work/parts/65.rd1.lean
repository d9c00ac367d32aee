/-! the class's reader: words -/
theorem t_at1 {w : MW} {a : Int32} {Q : Int32 → MW → Prop} (hQ : ∀ r : Int32, Q r w) : p_Tp_at w a Q := by
  refine Eq.mpr (p_Tp_at.eq_1 _ _ _) ⟨fun _ => hQ _, fun a0 => ⟨fun _ => hQ _, fun _ => ⟨fun a1 => ⟨?_, hQ _⟩, fun _ => hQ _⟩⟩⟩
  have e : ((4 : Int32) * (1005 : Int32)).toInt = 4020 := by decide
  have s := nb_shr a ((2 : Int32) &&& 31) 2 4 (by decide) (by decide)
  omega
theorem t_let1 {w : MW} {a : Int32} {Q : Int32 → MW → Prop} (h0 : Q 0 w) (h1 : Q 1 w) : p_Tp_isLetter w a Q := Eq.mpr (p_Tp_isLetter.eq_1 _ _ _) ⟨fun _ => h0, fun _ => ⟨fun _ => h0, fun _ => h1⟩⟩
theorem t_dig1 {w : MW} {a : Int32} {Q : Int32 → MW → Prop} (h0 : Q 0 w) (h1 : Q 1 w) : p_Tp_isDigit w a Q := Eq.mpr (p_Tp_isDigit.eq_1 _ _ _) ⟨fun _ => h0, fun _ => ⟨fun _ => h0, fun _ => h1⟩⟩
theorem t_mark {w : MW} {a : Int32} {Q : Int32 → MW → Prop} (h0 : Q 0 w) (h1 : Q 1 w) : p_Rd_isMark w a Q := Eq.mpr (p_Rd_isMark.eq_1 _ _ _) ⟨fun _ => h1, fun _ => ⟨fun _ => h1, fun _ => ⟨fun _ => h1, fun _ => ⟨fun _ => h1, fun _ => ⟨fun _ => h1, fun _ => ⟨fun _ => h1, fun _ => ⟨fun _ => h1, fun _ => ⟨fun _ => h1, fun _ => ⟨fun _ => h1, fun _ => ⟨fun _ => h1, fun _ => ⟨fun _ => h1, fun _ => ⟨fun _ => h0, fun _ => h1⟩⟩⟩⟩⟩⟩⟩⟩⟩⟩⟩⟩
def PP (w : MW) : Prop := 0 ≤ (w.1 87 4).toInt
def WM (w w' : MW) : Prop := 0 ≤ (w.1 87 9).toInt → 0 ≤ (w'.1 87 9).toInt
theorem WM.tr {w w1 w2 : MW} (h : WM w w1) (h2 : WM w1 w2) : WM w w2 := fun c => h2 (h c)
theorem WM.fr {l : Pl} {w w' : MW} (hF : FR l w w') (ho : off l [(87, some 9)] = true) : WM w w' := fun c => by
  rw [(hF 87 9 (off_hit ho rfl)).1]
  exact c
/-- fail: behind it the text is wrong -/
theorem t_fail {w : MW} {Q : MW → Prop} (hI : BND w) (hP : PP w) (hQ : ∀ w', BND w' → FR [(87, some 9)] w w' → 0 ≤ (w'.1 87 9).toInt → Q w') : p_Rd_fail w Q :=
  Eq.mpr (p_Rd_fail.eq_1 _ _) ⟨fun c => hQ w hI (FR.refl _ w) c, fun _ => hQ _ (wbd_87_9 hI) (FR.I (FR.refl _ w) rfl) hP⟩
theorem t_refuse {w : MW} {a : Int32} {Q : MW → Prop} (hI : BND w) (a0 : 0 ≤ a.toInt) (hQ : ∀ w', BND w' → FR [(87, some 3), (87, some 4), (87, some 9)] w w' → PP w' → 0 ≤ (w'.1 87 9).toInt → Q w') : p_Rd_refuseByte w a Q := by
  have hF : FR [(87, some 3), (87, some 4), (87, some 9)] w (sI (sI w 87 3 33) 87 4 a) := FR.I (FR.I (FR.refl _ w) rfl) rfl
  have hP : PP (sI (sI w 87 3 33) 87 4 a) := a0
  refine Eq.mpr (p_Rd_refuseByte.eq_1 _ _ _) (t_fail (wbd_87_4 (wbd_87_3 hI)) hP (fun w' h' f' c => hQ w' h' (hF.tr f' rfl) ?_ c))
  unfold PP
  rw [(f' 87 4 rfl).1]
  exact hP
theorem t_144 {w0 w : MW} {Q : MW → Prop} (hI : BND w) (hr : w.2.2 87 0 = some 1) (hP : PP w) (hF : FR l_Rd_nextWord w0 w) (hM : WM w0 w) (hQ : ∀ w', BND w' → FR l_Rd_nextWord w0 w' → PP w' → WM w0 w' → Q w') : q_Rd_nextWord_144 w Q := by
  have b2 := bd_87_2 hI
  have R : p_Rd_refuseByte w (w.1 87 2) (fun w24 => (Q w24)) := t_refuse hI b2.1 (fun w' h' f' p' c => hQ w' h' (hF.tr f' rfl) p' (fun _ => c))
  exact Eq.mpr (q_Rd_nextWord_144.eq_1 _ _) ⟨hr, t_at1 (fun r => t_let1 ⟨fun c => absurd i_0 c, fun _ => t_dig1 ⟨fun c => absurd i_0 c, fun _ => ⟨fun _ => hQ w hI hF hP hM, fun _ => R⟩⟩ ⟨fun _ => R, fun c => absurd (by decide) c⟩⟩ ⟨fun _ => R, fun c => absurd (by decide) c⟩)⟩
theorem t_next {w : MW} {Q : MW → Prop} (hI : BND w) (hr : w.2.2 87 0 = some 1) (hQ : ∀ w', BND w' → FR l_Rd_nextWord w w' → PP w' → WM w w' → Q w') : p_Rd_nextWord w Q := by
  have b2 := bd_87_2 hI
  refine Eq.mpr (p_Rd_nextWord.eq_1 _ _) (hq_Rd_nextWord_0 FU w hI hr (fu_lt (by omega)) (fun w7 h7 f7 => ?_) (fun _ _ _ q => q.elim))
  have r7 : w7.2.2 87 0 = some 1 := ((f7 87 0 rfl).2.2).trans hr
  have b27 := bd_87_2 h7
  have h8 : BND (sI w7 87 4 (w7.1 87 2)) := wbd_87_4 h7
  have f8 : FR l_Rd_nextWord w (sI w7 87 4 (w7.1 87 2)) := FR.I ((FR.refl _ w).tr f7 rfl) rfl
  have p8 : PP (sI w7 87 4 (w7.1 87 2)) := b27.1
  have m8 : WM w (sI w7 87 4 (w7.1 87 2)) := fun c => by
    have q : 0 ≤ (w7.1 87 9).toInt := by rw [(f7 87 9 rfl).1]; exact c
    exact q
  have r8 : (sI w7 87 4 (w7.1 87 2)).2.2 87 0 = some 1 := r7
  refine ⟨r7, t_at1 (fun r9 => ?_)⟩
  generalize (sI w7 87 4 (w7.1 87 2)) = w9 at *
  refine ⟨r8, fun ce => t_let1 ⟨fun _ => t_dig1 ⟨fun _ => ?_, fun c => absurd i_0 c⟩ ⟨fun c => absurd c (by decide), fun _ => h_Rd_scanNumber h8 r8 (fun w19 h19 f19 => t_144 h19 (((f19 87 0 rfl).2.2).trans r8) (by unfold PP; rw [(f19 87 4 rfl).1]; exact p8) (f8.tr f19 rfl) (m8.tr (WM.fr f19 rfl)) hQ)⟩, fun c => absurd i_0 c⟩ ⟨fun c => absurd c (by decide), fun _ => h_Rd_scanLetters h8 r8 (fun w19 h19 f19 => t_144 h19 (((f19 87 0 rfl).2.2).trans r8) (by unfold PP; rw [(f19 87 4 rfl).1]; exact p8) (f8.tr f19 rfl) (m8.tr (WM.fr f19 rfl)) hQ)⟩, fun _ => hQ _ (wbd_87_3 h8) (FR.I f8 rfl) p8 (m8.tr (WM.fr (l := [(87, some 3)]) (FR.I (FR.refl _ w9) rfl) rfl))⟩
  have b12 := bd_1_2 h8
  have b9 := bd_87_2 h8
  have s2 := ti_add2 (Eq.refl (w9.1 87 2).toInt) i_1 (by omega) (by omega)
  have hB : BND (sI (sI w9 87 3 r9) 87 2 ((w9.1 87 2) + (1 : Int32))) := wbd_87_2 (wbd_87_3 h8) (by omega) (by omega)
  have hF : FR l_Rd_nextWord w (sI (sI w9 87 3 r9) 87 2 ((w9.1 87 2) + (1 : Int32))) := FR.I (FR.I f8 rfl) rfl
  have hP : PP (sI (sI w9 87 3 r9) 87 2 ((w9.1 87 2) + (1 : Int32))) := p8
  have hM : WM w (sI (sI w9 87 3 r9) 87 2 ((w9.1 87 2) + (1 : Int32))) := m8.tr (WM.fr (l := [(87, some 3), (87, some 2)]) (FR.I (FR.I (FR.refl _ w9) rfl) rfl) rfl)
  generalize (sI (sI w9 87 3 r9) 87 2 ((w9.1 87 2) + (1 : Int32))) = w16 at *
  exact t_mark ⟨fun c => absurd i_0 c, fun _ => t_refuse hB hP (fun w' h' f' p' c => hQ w' h' (hF.tr f' rfl) p' (fun _ => c))⟩ ⟨fun _ => hQ w16 hB hF hP hM, fun c => absurd (by decide) c⟩
