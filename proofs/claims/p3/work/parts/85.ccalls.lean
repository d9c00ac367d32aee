/-! the class: the other calls -/
theorem ci_feed {w : MW} {a b c d e : Int32} {Q : Int32 → MW → Prop} (h : CI w) (hQ : ∀ r w', CI w' → FR l_Bh_feed w w' → Q r w') : p_Bh_feed w a b c d e Q := h_Bh_feed h.1 (fun r w' hB hF _ _ => hQ r w' (ci_fr h hF hB rfl) hF)
theorem ci_fill {w : MW} {a b : Int32} {c : Int64} {Q : Int32 → MW → Prop} (h : CI w) (hQ : ∀ r w', CI w' → FR l_Bh_fill w w' → Q r w') : p_Bh_fill w a b c Q := h_Bh_fill h.1 h.2.1.2.2.2.2.1 h.2.1.2.2.2.2.2.2.1 h.2.1.2.2.2.2.2.2.2.2.1 (fun r w' hB hF _ _ => hQ r w' (ci_fr h hF hB rfl) hF)
theorem ci_may {w : MW} {a b : Int32} {Q : Int32 → MW → Prop} (h : CI w) (hQ : ∀ r w', CI w' → FR l_Bh_may w w' → Q r w') : p_Bh_may w a b Q := h_Bh_may h.1 (fun r w' hB hF _ _ => hQ r w' (ci_fr h hF hB rfl) hF)
theorem ci_need {w : MW} {a b c : Int32} {Q : Int32 → MW → Prop} (h : CI w) (hQ : ∀ r w', CI w' → FR l_Bh_need w w' → Q r w') : p_Bh_need w a b c Q := h_Bh_need h.1 (fun r w' hB hF _ _ => hQ r w' (ci_fr h hF hB rfl) hF)
theorem ci_lasts {w : MW} {a b : Int32} {Q : Int32 → MW → Prop} (h : CI w) (hQ : ∀ r w', CI w' → FR l_Bh_lasts w w' → Q r w') : p_Bh_lasts w a b Q := h_Bh_lasts h.1 (fun r w' hB hF _ _ => hQ r w' (ci_fr h hF hB rfl) hF)
theorem ci_sense {w : MW} {a b c : Int32} {Q : Int32 → MW → Prop} (h : CI w) (hQ : ∀ r w', CI w' → FR l_Bh_sense w w' → Q r w') : p_Bh_sense w a b c Q := h_Bh_sense h.1 h.2.1.2.2.2.2.2.2.2.1 (fun r w' hB hF _ _ => hQ r w' (ci_fr h hF hB rfl) hF)
theorem ci_watch {w : MW} {a b c : Int32} {d : Int64} {Q : Int32 → MW → Prop} (h : CI w) (hQ : ∀ r w', CI w' → FR l_Bh_watch w w' → Q r w') : p_Bh_watch w a b c d Q := h_Bh_watch h.1 (fun r w' hB hF _ _ => hQ r w' (ci_fr h hF hB rfl) hF)
theorem ci_signal {w : MW} {a : Int32} {b : Int64} {Q : Int32 → MW → Prop} (h : CI w) (hQ : ∀ r w', CI w' → FR l_Bh_signal w w' → Q r w') : p_Bh_signal w a b Q := h_Bh_signal h.1 h.2.1.2.2.2.2.2.2.2.1 (fun r w' hB hF _ _ => hQ r w' (ci_fr h hF hB rfl) hF)
theorem ci_act {w : MW} {a : Int32} {Q : Int32 → MW → Prop} (h : CI w) (hQ : ∀ r w', CI w' → FR l_Bh_act w w' → Q r w') : p_Bh_act w a Q := h_Bh_act h.1 h.2.1.2.2.1 h.2.1.2.2.2.1 h.2.1.2.2.2.2.1 h.2.1.2.2.2.2.2.1 h.2.1.2.2.2.2.2.2.1 h.2.2.1 h.2.1.2.2.2.2.2.2.2.2.2 h.2.1.2.2.2.2.2.2.2.2.1 (fun r w' hB hF hW _ _ => hQ r w' (ci_wo h hF hB hW rfl) hF)
theorem ci_pass {w : MW} {a b c d : Int32} {Q : Int32 → MW → Prop} (h : CI w) (hQ : ∀ r w', CI w' → FR l_Bh_pass w w' → Q r w') : p_Bh_pass w a b c d Q := h_Bh_pass h.1 h.2.1.2.2.2.2.2.2.2.2.2 (fun r w' hB hF _ _ => hQ r w' (ci_fr h hF hB rfl) hF)
theorem ci_reset {w : MW} {a : Int32} {Q : Int32 → MW → Prop} (h : CI w) (hQ : ∀ r w', CI w' → FR l_Bh_reset w w' → Q r w') : p_Bh_reset w a Q := h_Bh_reset h.1 h.2.1.2.2.2.2.2.2.2.2.2 (fun r w' hB hF _ _ => hQ r w' (ci_fr h hF hB rfl) hF)
theorem ci_bars {w : MW} {a : Int32} {Q : Int32 → MW → Prop} (h : CI w) (hQ : ∀ r w', CI w' → FR l_Bh_bars w w' → Q r w') : p_Bh_bars w a Q := h_Bh_bars h.1 h.2.1.2.2.2.2.2.2.2.2.2 (fun r w' hB hF _ _ => hQ r w' (ci_fr h hF hB rfl) hF)
theorem ci_row {w : MW} {a b : Int32} {Q : Int32 → MW → Prop} (h : CI w) (hQ : ∀ r w', CI w' → FR l_Bh_row w w' → Q r w') : p_Bh_row w a b Q := h_Bh_row h.1 h.2.1.2.2.2.2.2.2.2.2.2 (fun r w' hB hF _ _ => hQ r w' (ci_fr h hF hB rfl) hF)
theorem ci_space {w : MW} {a b : Int32} {Q : Int32 → MW → Prop} (h : CI w) (hQ : ∀ r w', CI w' → FR l_Bh_space w w' → Q r w') : p_Bh_space w a b Q := h_Bh_space h.1 h.2.1.2.2.2.2.2.2.2.2.1 (fun r w' hB hF => hQ r w' (ci_fr h hF hB rfl) hF)
theorem ci_danger {w : MW} {a : Int32} {Q : Int32 → MW → Prop} (h : CI w) (hQ : ∀ r w', CI w' → FR l_Bh_danger w w' → Q r w') : p_Bh_danger w a Q := h_Bh_danger h.1 h.2.1.2.2.2.2.1 h.2.1.2.2.2.2.2.2.1 h.2.1.2.2.2.2.2.2.2.2.1 (fun r w' hB hF => hQ r w' (ci_fr h hF hB rfl) hF)
theorem ci_way {w : MW} {a b : Int32} {Q : Int32 → MW → Prop} (h : CI w) (hQ : ∀ r w', CI w' → FR l_Wa_get w w' → Q r w') : p_Bh_way w a b Q := Eq.mpr (p_Bh_way.eq_1 _ _ _ _) (h_Wa_get h.1 (fun r w' hB hF _ _ => hQ r w' (ci_fr h hF hB rfl) hF))
theorem ci_state {w : MW} {Q : Int32 → MW → Prop} (h : CI w) (hQ : ∀ r w', CI w' → FR [] w w' → Q r w') : p_Bh_state w Q := Eq.mpr (p_Bh_state.eq_1 _ _) (hQ _ w h (FR.refl _ w))
theorem ci_second {w : MW} {Q : Int32 → MW → Prop} (h : CI w) (hQ : ∀ r w', CI w' → FR [] w w' → Q r w') : p_Bh_second w Q := Eq.mpr (p_Bh_second.eq_1 _ _) (hQ _ w h (FR.refl _ w))
theorem ci_write {w : MW} {a : Int32} {Q : Int32 → MW → Prop} (h : CI w) (hQ : ∀ r w', CI w' → FR [] w w' → Q r w') : p_Bh_write w a Q := by
  have n := fun r => hQ r w h (FR.refl _ w)
  have b := bd_0_12 h.1
  exact Eq.mpr (p_Bh_write.eq_1 _ _ _) ⟨fun _ => n _, fun _ => ⟨fun _ => n _, fun _ => ⟨⟨by omega, by omega⟩, n _⟩⟩⟩
theorem ci_value {w : MW} {a : Int32} {Q : Int64 → MW → Prop} (h : CI w) (hQ : ∀ r w', CI w' → FR [] w w' → Q r w') : p_Bh_value w a Q := by
  have n := fun r => hQ r w h (FR.refl _ w)
  have b := bd_62_10 h.1
  have rr := h.2.1.2.2.2.2.2.2.2.1
  exact Eq.mpr (p_Bh_value.eq_1 _ _ _) ⟨rr, Eq.mpr (p_Pr_hasValue.eq_1 _ _ _) ⟨fun _ => ⟨fun _ => n _, fun z => absurd i_0 z⟩, fun a0 => ⟨fun _ => ⟨fun _ => n _, fun z => absurd i_0 z⟩, fun a1 => ⟨⟨by omega, by omega⟩, fun _ => ⟨fun _ => n _, fun z => absurd i_0 z⟩, fun _ => ⟨fun z => absurd z (by decide), fun _ => ⟨rr, ⟨by omega, by omega⟩, n _⟩⟩⟩⟩⟩⟩
theorem ci_alarm {w : MW} {a b : Int32} {Q : Int32 → MW → Prop} (h : CI w) (hQ : ∀ r w', CI w' → FR [] w w' → Q r w') : p_Bh_alarm w a b Q := by
  have n := fun r => hQ r w h (FR.refl _ w)
  have b0 := bd_3_0 h.1
  exact Eq.mpr (p_Bh_alarm.eq_1 _ _ _ _) (Eq.mpr (p_Al_get.eq_1 _ _ _ _) ⟨fun _ => n _, fun _ => ⟨fun _ => n _, fun _ => ⟨fun _ => n _, fun _ => ⟨fun _ => ⟨fun _ => ⟨fun _ => ⟨⟨by omega, by omega⟩, n _⟩, fun _ => ⟨⟨by omega, by omega⟩, n _⟩⟩, fun _ => ⟨⟨by omega, by omega⟩, n _⟩⟩, fun _ => n _⟩⟩⟩⟩)
theorem ci_bind {w : MW} {a b c d f : Int32} {Q : Int32 → MW → Prop} (h : CI w) (hQ : ∀ r w', CI w' → FR l_Ac_tie w w' → Q r w') : p_Bh_bind w a b c d f Q := by
  have n : Q 0 w := hQ 0 w h (FR.refl _ w)
  have K71 : 0 ≤ a.toInt → a.toInt ≤ 31 → 0 ≤ b.toInt → b.toInt ≤ 4 → (b.toInt = 0 → 1 ≤ f.toInt ∧ f.toInt ≤ 100) → (b.toInt = 2 → 0 ≤ d.toInt ∧ d.toInt ≤ 9) → (b.toInt = 3 → 1 ≤ d.toInt ∧ d.toInt ≤ 5) → q_Ac_tie_71 a b c d f w Q := fun a0 a1 b0 b1 z0 z2 z3 => by
    have hr : 0 ≤ a.toInt ∧ a.toInt < 32 := ⟨a0, by omega⟩
    have hF : FR l_Ac_tie w (sI (sI (sI (sI w 60 a.toInt.toNat b) 57 a.toInt.toNat c) 58 a.toInt.toNat d) 59 a.toInt.toNat f) := FR.I (FR.I (FR.I (FR.I (FR.refl _ w) rfl) rfl) rfl) rfl
    refine Eq.mpr (q_Ac_tie_71.eq_1 _ _ _ _ _ _ _) ⟨hr, hr, hr, hr, hQ _ _ ?_ hF⟩
    have hB : BND (sI (sI (sI (sI w 60 a.toInt.toNat b) 57 a.toInt.toNat c) 58 a.toInt.toNat d) 59 a.toInt.toNat f) := wbd_59 (wbd_58 (wbd_57 (wbd_60 h.1 _ (by omega) b1) _) _) _
    have q7 : ∀ j, (sI (sI (sI (sI w 60 a.toInt.toNat b) 57 a.toInt.toNat c) 58 a.toInt.toNat d) 59 a.toInt.toNat f).1 60 j = (sI w 60 a.toInt.toNat b).1 60 j := fun j => rfl
    have q9 : ∀ j, (sI (sI (sI (sI w 60 a.toInt.toNat b) 57 a.toInt.toNat c) 58 a.toInt.toNat d) 59 a.toInt.toNat f).1 58 j = (sI w 58 a.toInt.toNat d).1 58 j := fun j => rfl
    have q0 : ∀ j, (sI (sI (sI (sI w 60 a.toInt.toNat b) 57 a.toInt.toNat c) 58 a.toInt.toNat d) 59 a.toInt.toNat f).1 59 j = (sI w 59 a.toInt.toNat f).1 59 j := fun j => rfl
    generalize (sI (sI (sI (sI w 60 a.toInt.toNat b) 57 a.toInt.toNat c) 58 a.toInt.toNat d) 59 a.toInt.toNat f) = w' at *
    have z := h.2.1
    have hA : AC w' := fun i => by
      rw [q7, q9]
      by_cases e : i.toInt.toNat = a.toInt.toNat
      · rw [e, sI_same, sI_same]
        exact ⟨z3, z2⟩
      · rw [sI_ne _ _ _ _ _ e, sI_ne _ _ _ _ _ e]
        exact z.2.2.1 i
    have hZ : AZ w' := fun i => by
      rw [q7, q0]
      by_cases e : i.toInt.toNat = a.toInt.toNat
      · rw [e, sI_same, sI_same]
        exact z0
      · rw [sI_ne _ _ _ _ _ e, sI_ne _ _ _ _ _ e]
        exact z.2.2.2.1 i
    have z' : CrZ w' := ⟨PA_fr hF rfl z.1, PT_fr hF rfl z.2.1, hA, hZ, PE_fr hF rfl z.2.2.2.2.1, PJ_fr hF rfl z.2.2.2.2.2.1, PL_fr hF rfl z.2.2.2.2.2.2.1, ((hF 61 3 rfl).2.2).trans z.2.2.2.2.2.2.2.1, ((hF 7 0 rfl).2.2).trans z.2.2.2.2.2.2.2.2.1, ((hF 47 3 rfl).2.2).trans z.2.2.2.2.2.2.2.2.2⟩
    refine ⟨hB, z', WO_fr hF rfl h.2.2.1, ?_, h.2.2.2.2.fr hF rfl⟩
    cases h.2.2.2.1 with
    | inl q =>
      refine Or.inl ⟨q.1.sl (SLy.fr hF rfl), fun k => ?_⟩
      rw [(hF 61 4 rfl).1] at k
      have t := q.2 k
      obtain ⟨L, hL⟩ := t.2
      exact ⟨by unfold yG; rw [(hF 80 _ rfl).1]; exact t.1, L, lv_fr hL hF rfl⟩
    | inr q => exact Or.inr ⟨by rw [(hF 62 2 rfl).1]; exact q.1, by rw [(hF 61 4 rfl).1]; exact q.2⟩
  have K35 : 0 ≤ a.toInt → a.toInt ≤ 31 → 0 ≤ b.toInt → b.toInt ≤ 4 → (b.toInt = 0 → 1 ≤ f.toInt ∧ f.toInt ≤ 100) → q_Ac_tie_35 a b c d f w Q := fun a0 a1 b0 b1 z0 => by
    have K52 : (b.toInt = 2 → 0 ≤ d.toInt ∧ d.toInt ≤ 9) → q_Ac_tie_52 a b c d f w Q := fun z2 => Eq.mpr (q_Ac_tie_52.eq_1 _ _ _ _ _ _ _) ⟨fun c3 => K71 a0 a1 b0 b1 z0 z2 (fun e => absurd e c3), fun c3 => ⟨fun _ => n, fun d1 => ⟨fun d5 => K71 a0 a1 b0 b1 z0 z2 (fun _ => ⟨by omega, by omega⟩), fun _ => n⟩⟩⟩
    exact Eq.mpr (q_Ac_tie_35.eq_1 _ _ _ _ _ _ _) ⟨fun c2 => K52 (fun e => absurd e c2), fun c2 => ⟨fun _ => n, fun d0 => ⟨fun _ => n, fun d9 => K52 (fun _ => ⟨by omega, by omega⟩)⟩⟩⟩
  refine Eq.mpr (p_Bh_bind.eq_1 _ _ _ _ _ _ _) (Eq.mpr (p_Ac_tie.eq_1 _ _ _ _ _ _ _) (Eq.mpr (p_Ac_isAct.eq_1 _ _ _) ⟨fun _ => ⟨fun _ => n, fun z => absurd i_0 z⟩, fun a0 => ⟨fun _ => ⟨fun _ => n, fun z => absurd i_0 z⟩, fun a1 => ⟨fun z => absurd z (by decide), fun _ => ⟨fun _ => n, fun b0 => ⟨fun b4 => ⟨fun c0 => ?_, fun c0 => ⟨fun _ => n, fun f1 => ⟨fun _ => n, fun f2 => ?_⟩⟩⟩, fun _ => n⟩⟩⟩⟩⟩))
  · exact K35 (by omega) (by omega) (by omega) b4 (fun e => absurd e c0)
  · exact K35 (by omega) (by omega) (by omega) b4 (fun _ => ⟨by omega, by omega⟩)
