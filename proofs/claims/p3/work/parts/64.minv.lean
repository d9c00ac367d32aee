/-! the reference: what holds before and behind every public call -/
/-- the answer does not matter, the world keeps its invariant -/
theorem mj_fr {l : Pl} {w w' : MW} (h : MdJ w) (hI : BND w') (hF : FR l w w') (ho : off l lMJ = true) : MdJ w' := MdJ_fr hF hI ho h
theorem mj_tk {l : Pl} {w w' : MW} (h : MdJ w) (hM : MdI w') (hF : FR l w w') (ho : off l ((129, some 8) :: lTL) = true) : MdJ w' := ⟨hM, tlx_fr h.1.1 hF (off_mono ho (by decide)) h.2.1, by unfold VG; rw [(hF 129 8 (off_hit ho rfl)).2.1]; exact h.2.2⟩
theorem m_feed {w : MW} {a b c d f : Int32} {Q : Int32 → MW → Prop} (h : MdJ w) (hQ : ∀ r w', MdJ w' → Q r w') : p_Mo_feed w a b c d f Q := h_Mo_feed h.1.1 (fun r w' hI hF _ _ => hQ r w' (mj_fr h hI hF rfl))
theorem m_fill {w : MW} {a b : Int32} {c : Int64} {Q : Int32 → MW → Prop} (h : MdJ w) (hQ : ∀ r w', MdJ w' → Q r w') : p_Mo_fill w a b c Q := h_Mo_fill h.1.1 h.1.2.2.2.1.2.1 (fun r w' hI hF _ _ => hQ r w' (mj_fr h hI hF rfl))
theorem m_may {w : MW} {a b : Int32} {Q : Int32 → MW → Prop} (h : MdJ w) (hQ : ∀ r w', MdJ w' → Q r w') : p_Mo_may w a b Q := h_Mo_may h.1.1 (fun r w' hI hF _ _ => hQ r w' (mj_fr h hI hF rfl))
theorem m_need {w : MW} {a b c : Int32} {Q : Int32 → MW → Prop} (h : MdJ w) (hQ : ∀ r w', MdJ w' → Q r w') : p_Mo_need w a b c Q := h_Mo_need h.1.1 (fun r w' hI hF _ _ => hQ r w' (mj_fr h hI hF rfl))
theorem m_lasts {w : MW} {a b : Int32} {Q : Int32 → MW → Prop} (h : MdJ w) (hQ : ∀ r w', MdJ w' → Q r w') : p_Mo_lasts w a b Q := h_Mo_lasts h.1.1 (fun r w' hI hF _ _ => hQ r w' (mj_fr h hI hF rfl))
theorem m_sense {w : MW} {a b c : Int32} {Q : Int32 → MW → Prop} (h : MdJ w) (hQ : ∀ r w', MdJ w' → Q r w') : p_Mo_sense w a b c Q := h_Mo_sense h.1.1 (fun r w' hI hF _ _ => hQ r w' (mj_fr h hI hF rfl))
theorem m_watch {w : MW} {a b c : Int32} {d : Int64} {Q : Int32 → MW → Prop} (h : MdJ w) (hQ : ∀ r w', MdJ w' → Q r w') : p_Mo_watch w a b c d Q := h_Mo_watch h.1.1 (fun r w' hI hF _ _ => hQ r w' (mj_fr h hI hF rfl))
theorem m_signal {w : MW} {a : Int32} {b : Int64} {Q : Int32 → MW → Prop} (h : MdJ w) (hQ : ∀ r w', MdJ w' → Q r w') : p_Mo_signal w a b Q := h_Mo_signal h.1.1 (fun r w' hI hF _ _ => hQ r w' (mj_fr h hI hF rfl))
theorem m_row {w : MW} {a b : Int32} {Q : Int32 → MW → Prop} (h : MdJ w) (hQ : ∀ r w', MdJ w' → Q r w') : p_Mo_row w a b Q := h_Mo_row h.1.1 h.1.2.2.2.1.1 (fun r w' hI hF _ _ => hQ r w' (mj_fr h hI hF rfl))
theorem m_value {w : MW} {a : Int32} {Q : Int64 → MW → Prop} (h : MdJ w) (hQ : ∀ r w', MdJ w' → Q r w') : p_Mo_value w a Q := h_Mo_value h.1.1 (fun r w' hI hF => hQ r w' (mj_fr h hI hF rfl))
theorem m_space {w : MW} {a b : Int32} {Q : Int32 → MW → Prop} (h : MdJ w) (hQ : ∀ r w', MdJ w' → Q r w') : p_Mo_space w a b Q := h_Mo_space h.1.1 (fun r w' hI hF => hQ r w' (mj_fr h hI hF rfl))
theorem m_danger {w : MW} {a : Int32} {Q : Int32 → MW → Prop} (h : MdJ w) (hQ : ∀ r w', MdJ w' → Q r w') : p_Mo_danger w a Q := h_Mo_danger h.1.1 h.1.2.2.2.1.2.1 (fun r w' hI hF => hQ r w' (mj_fr h hI hF rfl))
theorem m_write {w : MW} {a : Int32} {Q : Int32 → MW → Prop} (h : MdJ w) (hQ : ∀ r w', MdJ w' → Q r w') : p_Mo_write w a Q := h_Mo_write h.1.1 (fun r w' hI hF => hQ r w' (mj_fr h hI hF rfl))
theorem m_pass {w : MW} {a b c d : Int32} {Q : Int32 → MW → Prop} (h : MdJ w) (hQ : ∀ r w', MdJ w' → Q r w') : p_Mo_pass w a b c d Q := Eq.mpr (p_Mo_pass.eq_1 _ _ _ _ _ _) (h_Mr_pass h.1.1 (fun r w' hI hF _ _ => hQ r w' (mj_fr h hI hF rfl)))
theorem m_reset {w : MW} {a : Int32} {Q : Int32 → MW → Prop} (h : MdJ w) (hQ : ∀ r w', MdJ w' → Q r w') : p_Mo_reset w a Q := Eq.mpr (p_Mo_reset.eq_1 _ _ _) (h_Mr_reset h.1.1 h.1.2.2.2.1.1 (fun r w' hI hF _ _ => hQ r w' (mj_fr h hI hF rfl)))
theorem m_bars {w : MW} {a : Int32} {Q : Int32 → MW → Prop} (h : MdJ w) (hQ : ∀ r w', MdJ w' → Q r w') : p_Mo_bars w a Q := Eq.mpr (p_Mo_bars.eq_1 _ _ _) (h_Mr_act1 h.1.1 h.1.2.2.2.1.1 (fun r w' hI hF _ _ => hQ r w' (mj_fr h hI hF rfl)))
theorem m_state {w : MW} {Q : Int32 → MW → Prop} (h : MdJ w) (hQ : ∀ r w', MdJ w' → Q r w') : p_Mo_state w Q := Eq.mpr (p_Mo_state.eq_1 _ _) (hQ _ _ h)
theorem m_second {w : MW} {Q : Int32 → MW → Prop} (h : MdJ w) (hQ : ∀ r w', MdJ w' → Q r w') : p_Mo_second w Q := Eq.mpr (p_Mo_second.eq_1 _ _) (hQ _ _ h)
theorem m_alarm {w : MW} {a b : Int32} {Q : Int32 → MW → Prop} (h : MdJ w) (hQ : ∀ r w', MdJ w' → Q r w') : p_Mo_alarm w a b Q := by
  have b79 := bd_127_79 h.1.1
  exact Eq.mpr (p_Mo_alarm.eq_1 _ _ _ _) ⟨fun _ => hQ _ _ h, fun _ => ⟨fun _ => ⟨fun _ => ⟨fun _ => ⟨fun _ => hQ _ _ h, fun _ => ⟨⟨by omega, by omega⟩, hQ _ _ h⟩⟩, fun _ => ⟨⟨by omega, by omega⟩, hQ _ _ h⟩⟩, fun _ => ⟨⟨by omega, by omega⟩, hQ _ _ h⟩⟩, fun _ => hQ _ _ h⟩⟩
theorem m_way {w : MW} {a b : Int32} {Q : Int32 → MW → Prop} (h : MdJ w) (hQ : ∀ r w', MdJ w' → Q r w') : p_Mo_way w a b Q := by
  have b26 := bd_127_26 h.1.1
  have b185 := bd_185 h.1.1 a.toInt.toNat
  refine Eq.mpr (p_Mo_way.eq_1 _ _ _ _) ⟨fun _ => hQ _ _ h, fun a0 => ⟨fun _ => hQ _ _ h, fun a1 => ⟨fun _ => hQ _ _ h, fun b0 => ⟨⟨by omega, by omega⟩, fun c => ⟨fun _ => ⟨fun _ => ⟨fun _ => ?_, fun _ => ⟨⟨by omega, by omega⟩, hQ _ _ h⟩⟩, fun _ => ⟨⟨by omega, by omega⟩, hQ _ _ h⟩⟩, fun _ => ⟨⟨by omega, by omega⟩, hQ _ _ h⟩⟩, fun _ => hQ _ _ h⟩⟩⟩⟩
  have s := ti_add2 (by decide : ((2 : Int32)).toInt = 2) (Eq.refl (w.1 185 a.toInt.toNat).toInt) (by omega) (by omega)
  have m := ti_mul2 (by decide : ((24 : Int32)).toInt = 24) (Eq.refl a.toInt) (by omega) (by omega)
  have m2 := ti_add2 m (Eq.refl b.toInt) (by omega) (by omega)
  have m3 := ti_sub2 m2 (by decide : ((3 : Int32)).toInt = 3) (by omega) (by omega)
  exact ⟨⟨by omega, by omega⟩, hQ _ _ h⟩
theorem m_act {w : MW} {a : Int32} {Q : Int32 → MW → Prop} (h : MdJ w) (hQ : ∀ r w', MdJ w' → Q r w') : p_Mo_act w a Q := by
  have P := h.1.2.2.2.1
  exact h_Mo_act h.1.1 P.1 P.2.1 P.2.2.1 P.2.2.2.1 P.2.2.2.2.1 P.2.2.2.2.2.1 P.2.2.2.2.2.2 (fun r w' hI hF hT hH _ _ => hQ r w' (mj_tk h (MdI_fw hF hI rfl hT hH h.1) hF rfl))
theorem m_tick {w : MW} {a : Int32} {Q : Int32 → MW → Prop} (h : MdJ w) (hQ : ∀ r w', MdJ w' → Q r w') : p_Mo_tick w a Q := h_Mo_tick h.1 (fun r w' hM hF => hQ r w' (mj_tk h hM hF rfl))
theorem m_still {w : MW} {a : Int32} {Q : Int32 → MW → Prop} (h : MdJ w) (hQ : ∀ r w', MdJ w' → Q r w') : p_Mo_still w a Q := h_Mo_still h.1 (fun r w' hM hF => hQ r w' (mj_tk h hM hF rfl))
theorem m_answer {w : MW} {a : Int64} {Q : Int32 → MW → Prop} (h : MdJ w) (hQ : ∀ r w', MdJ w' → Q r w') : p_Mo_answer w a Q := h_Mo_answer h.1 (fun r w' hM hF => hQ r w' (mj_tk h hM hF rfl))
theorem m_start {w : MW} {Q : Int32 → MW → Prop} (h : MdJ w) (hQ : ∀ r w', MdJ w' → Q r w') : p_Mo_start w Q := h_Mo_start h (fun r w' hM _ _ _ => hQ r w' hM)
theorem m_end {w : MW} {a b : Int32} {Q : Int32 → MW → Prop} (h : MdJ w) (hQ : ∀ r w', MdJ w' → Q r w') : p_Mo_end w a b Q := h_Mo_end h hQ
/-- the state changes; a running one only from a running one -/
theorem mj_59 {w : MW} {v : Int32} (h : MdJ w) (v0 : 0 ≤ v.toInt) (v1 : v.toInt ≤ 4) (hv : (v.toInt = 0 ∨ v.toInt = 2) → ((w.1 127 59).toInt = 0 ∨ (w.1 127 59).toInt = 2)) : MdJ (sI w 127 59 v) := by
  have hF : FR [(127, some 59)] w (sI w 127 59 v) := FR.I (FR.refl _ w) rfl
  have hB : BND (sI w 127 59 v) := wbd_127_59 h.1.1 v0 v1
  refine mj_tk h ⟨hB, tex_fr hF rfl h.1.2.1, TSx_fr hF rfl h.1.2.2.1, PF_fr hF rfl h.1.2.2.2.1, fun q => ?_⟩ hF rfl
  have q' : v.toInt = 0 ∨ v.toInt = 2 := q
  exact ⟨QP_fr hF rfl (h.1.2.2.2.2 (hv q')).1, QS_fr hF rfl (hF 210 0 rfl).1 (h.1.2.2.2.2 (hv q')).2⟩
theorem mj_close {w : MW} {Q : MW → Prop} (h : MdJ w) (hQ : ∀ w', MdJ w' → Q w') : p_Mo_closeAll w Q :=
  h_Mo_closeAll h.1.1 h.1.2.2.2.1.2.1 h.1.2.2.2.1.2.2.1 (fun w' hI hF hT hH => hQ w' (mj_tk h (MdI_fw hF hI rfl hT hH h.1) hF rfl))
theorem m_hold {w : MW} {a : Int32} {Q : Int32 → MW → Prop} (h : MdJ w) (hQ : ∀ r w', MdJ w' → Q r w') : p_Mo_hold w a Q := by
  have K : ((w.1 127 59).toInt = 0 ∨ (w.1 127 59).toInt = 2) → q_Mo_hold_24 a w Q := fun c => Eq.mpr (q_Mo_hold_24.eq_1 _ _ _) ⟨fun _ => hQ _ _ (mj_59 h (by decide) (by decide) (fun _ => c)), fun _ => mj_close (mj_59 h (by decide) (by decide) (fun _ => c)) (fun w' h' => hQ _ _ h')⟩
  exact Eq.mpr (p_Mo_hold.eq_1 _ _ _) ⟨fun _ => ⟨fun c => K (Or.inr c), fun _ => hQ _ _ h⟩, fun _ => ⟨fun c => K (Or.inl c), fun _ => hQ _ _ h⟩⟩
theorem m_stop {w : MW} {Q : Int32 → MW → Prop} (h : MdJ w) (hQ : ∀ r w', MdJ w' → Q r w') : p_Mo_stop w Q := by
  have K : p_Mo_closeAll (sI w 127 59 3)  (fun w2 => (Q 1 w2)) := mj_close (mj_59 h (by decide) (by decide) (fun q => absurd q (by decide))) (fun w' h' => hQ _ _ h')
  exact Eq.mpr (p_Mo_stop.eq_1 _ _) ⟨fun _ => K, fun _ => ⟨fun _ => K, fun _ => hQ _ _ h⟩⟩
theorem m_bind {w : MW} {a b c d f : Int32} {Q : Int32 → MW → Prop} (h : MdJ w) (hQ : ∀ r w', MdJ w' → Q r w') : p_Mo_bind w a b c d f Q := by
  have N := hQ 0 w h
  have K72 : 0 ≤ a.toInt → a.toInt ≤ 31 → 0 ≤ b.toInt → b.toInt ≤ 4 → (b.toInt = 0 → 1 ≤ f.toInt ∧ f.toInt ≤ 100) → (b.toInt = 2 → 0 ≤ d.toInt ∧ d.toInt ≤ 9) → (b.toInt = 3 → 1 ≤ d.toInt ∧ d.toInt ≤ 5) → q_Mo_bind_72 a b c d f w Q := fun a0 a1 b0 b1 z0 z2 z3 => by
    have hr : 0 ≤ a.toInt ∧ a.toInt < 32 := ⟨a0, by omega⟩
    refine Eq.mpr (q_Mo_bind_72.eq_1 _ _ _ _ _ _ _) ⟨hr, hr, hr, hr, hQ _ _ ?_⟩
    have hF : FR [(197, none), (198, none), (199, none), (200, none)] w (sI (sI (sI (sI w 197 a.toInt.toNat b) 198 a.toInt.toNat c) 199 a.toInt.toNat d) 200 a.toInt.toNat f) := FR.I (FR.I (FR.I (FR.I (FR.refl _ w) rfl) rfl) rfl) rfl
    have hB : BND (sI (sI (sI (sI w 197 a.toInt.toNat b) 198 a.toInt.toNat c) 199 a.toInt.toNat d) 200 a.toInt.toNat f) := wbd_200 (wbd_199 (wbd_198 (wbd_197 h.1.1 _ (by omega) b1) _) _) _
    have q7 : ∀ j, (sI (sI (sI (sI w 197 a.toInt.toNat b) 198 a.toInt.toNat c) 199 a.toInt.toNat d) 200 a.toInt.toNat f).1 197 j = (sI w 197 a.toInt.toNat b).1 197 j := fun j => rfl
    have q9 : ∀ j, (sI (sI (sI (sI w 197 a.toInt.toNat b) 198 a.toInt.toNat c) 199 a.toInt.toNat d) 200 a.toInt.toNat f).1 199 j = (sI w 199 a.toInt.toNat d).1 199 j := fun j => rfl
    have q0 : ∀ j, (sI (sI (sI (sI w 197 a.toInt.toNat b) 198 a.toInt.toNat c) 199 a.toInt.toNat d) 200 a.toInt.toNat f).1 200 j = (sI w 200 a.toInt.toNat f).1 200 j := fun j => rfl
    generalize (sI (sI (sI (sI w 197 a.toInt.toNat b) 198 a.toInt.toNat c) 199 a.toInt.toNat d) 200 a.toInt.toNat f) = w' at *
    have P := h.1.2.2.2.1
    refine mj_tk h ⟨hB, tex_fr hF rfl h.1.2.1, TSx_fr hF rfl h.1.2.2.1, ⟨DR_fr hF rfl P.1, FT_fr hF rfl P.2.1, HW_fr hF rfl P.2.2.1, fun i => ?_, fun i => ?_, RP_fr hF rfl P.2.2.2.2.2.1, SZ_fr hF rfl P.2.2.2.2.2.2⟩, fun q => ?_⟩ hF rfl
    · rw [q7, q9]
      by_cases e : i.toInt.toNat = a.toInt.toNat
      · rw [e, sI_same, sI_same]
        exact ⟨z3, z2⟩
      · rw [sI_ne _ _ _ _ _ e, sI_ne _ _ _ _ _ e]
        exact P.2.2.2.1 i
    · rw [q7, q0]
      by_cases e : i.toInt.toNat = a.toInt.toNat
      · rw [e, sI_same, sI_same]
        exact z0
      · rw [sI_ne _ _ _ _ _ e, sI_ne _ _ _ _ _ e]
        exact P.2.2.2.2.1 i
    · rw [(hF 127 59 rfl).1] at q
      exact ⟨QP_fr hF rfl (h.1.2.2.2.2 q).1, QS_fr hF rfl (hF 210 0 rfl).1 (h.1.2.2.2.2 q).2⟩
  have K36 : 0 ≤ a.toInt → a.toInt ≤ 31 → 0 ≤ b.toInt → b.toInt ≤ 4 → (b.toInt = 0 → 1 ≤ f.toInt ∧ f.toInt ≤ 100) → q_Mo_bind_36 a b c d f w Q := fun a0 a1 b0 b1 z0 => Eq.mpr (q_Mo_bind_36.eq_1 _ _ _ _ _ _ _) ⟨fun n2 => Eq.mpr (q_Mo_bind_53.eq_1 _ _ _ _ _ _ _) ⟨fun n3 => K72 a0 a1 b0 b1 z0 (fun q => absurd q n2) (fun q => absurd q n3), fun _ => ⟨fun _ => N, fun _ => ⟨fun _ => K72 a0 a1 b0 b1 z0 (fun q => absurd q n2) (fun _ => ⟨by omega, by omega⟩), fun _ => N⟩⟩⟩, fun _ => ⟨fun _ => N, fun _ => ⟨fun _ => N, fun _ => Eq.mpr (q_Mo_bind_53.eq_1 _ _ _ _ _ _ _) ⟨fun n3 => K72 a0 a1 b0 b1 z0 (fun _ => ⟨by omega, by omega⟩) (fun q => absurd q n3), fun _ => ⟨fun _ => N, fun _ => ⟨fun _ => K72 a0 a1 b0 b1 z0 (fun _ => ⟨by omega, by omega⟩) (fun _ => ⟨by omega, by omega⟩), fun _ => N⟩⟩⟩⟩⟩⟩
  exact Eq.mpr (p_Mo_bind.eq_1 _ _ _ _ _ _ _) ⟨fun _ => N, fun a0 => ⟨fun _ => N, fun a1 => ⟨fun _ => N, fun b0 => ⟨fun _ => N, fun b1 => ⟨fun n0 => K36 (by omega) (by omega) (by omega) (by omega) (fun q => absurd q n0), fun _ => ⟨fun _ => N, fun _ => ⟨fun _ => N, fun _ => K36 (by omega) (by omega) (by omega) (by omega) (fun _ => ⟨by omega, by omega⟩)⟩⟩⟩⟩⟩⟩⟩
