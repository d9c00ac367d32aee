/-! the reference: every public call keeps the invariant and says what it may change -/
theorem mf_feed {w : MW} {a b c d f : Int32} {Q : Int32 → MW → Prop} (h : MdJ w) (hQ : ∀ r w', MdJ w' → FR l_Mo_feed w w' → Q r w') : p_Mo_feed w a b c d f Q := h_Mo_feed h.1.1 (fun r w' hI hF _ _ => hQ r w' (mj_fr h hI hF rfl) hF)
theorem mf_fill {w : MW} {a b : Int32} {c : Int64} {Q : Int32 → MW → Prop} (h : MdJ w) (hQ : ∀ r w', MdJ w' → FR l_Mo_fill w w' → Q r w') : p_Mo_fill w a b c Q := h_Mo_fill h.1.1 h.1.2.2.2.1.2.1 (fun r w' hI hF _ _ => hQ r w' (mj_fr h hI hF rfl) hF)
theorem mf_may {w : MW} {a b : Int32} {Q : Int32 → MW → Prop} (h : MdJ w) (hQ : ∀ r w', MdJ w' → FR l_Mo_may w w' → Q r w') : p_Mo_may w a b Q := h_Mo_may h.1.1 (fun r w' hI hF _ _ => hQ r w' (mj_fr h hI hF rfl) hF)
theorem mf_need {w : MW} {a b c : Int32} {Q : Int32 → MW → Prop} (h : MdJ w) (hQ : ∀ r w', MdJ w' → FR l_Mo_need w w' → Q r w') : p_Mo_need w a b c Q := h_Mo_need h.1.1 (fun r w' hI hF _ _ => hQ r w' (mj_fr h hI hF rfl) hF)
theorem mf_lasts {w : MW} {a b : Int32} {Q : Int32 → MW → Prop} (h : MdJ w) (hQ : ∀ r w', MdJ w' → FR l_Mo_lasts w w' → Q r w') : p_Mo_lasts w a b Q := h_Mo_lasts h.1.1 (fun r w' hI hF _ _ => hQ r w' (mj_fr h hI hF rfl) hF)
theorem mf_sense {w : MW} {a b c : Int32} {Q : Int32 → MW → Prop} (h : MdJ w) (hQ : ∀ r w', MdJ w' → FR l_Mo_sense w w' → Q r w') : p_Mo_sense w a b c Q := h_Mo_sense h.1.1 (fun r w' hI hF _ _ => hQ r w' (mj_fr h hI hF rfl) hF)
theorem mf_watch {w : MW} {a b c : Int32} {d : Int64} {Q : Int32 → MW → Prop} (h : MdJ w) (hQ : ∀ r w', MdJ w' → FR l_Mo_watch w w' → Q r w') : p_Mo_watch w a b c d Q := h_Mo_watch h.1.1 (fun r w' hI hF _ _ => hQ r w' (mj_fr h hI hF rfl) hF)
theorem mf_signal {w : MW} {a : Int32} {b : Int64} {Q : Int32 → MW → Prop} (h : MdJ w) (hQ : ∀ r w', MdJ w' → FR l_Mo_signal w w' → Q r w') : p_Mo_signal w a b Q := h_Mo_signal h.1.1 (fun r w' hI hF _ _ => hQ r w' (mj_fr h hI hF rfl) hF)
theorem mf_row {w : MW} {a b : Int32} {Q : Int32 → MW → Prop} (h : MdJ w) (hQ : ∀ r w', MdJ w' → FR l_Mo_row w w' → Q r w') : p_Mo_row w a b Q := h_Mo_row h.1.1 h.1.2.2.2.1.1 (fun r w' hI hF _ _ => hQ r w' (mj_fr h hI hF rfl) hF)
theorem mf_value {w : MW} {a : Int32} {Q : Int64 → MW → Prop} (h : MdJ w) (hQ : ∀ r w', MdJ w' → FR l_Mo_value w w' → Q r w') : p_Mo_value w a Q := h_Mo_value h.1.1 (fun r w' hI hF => hQ r w' (mj_fr h hI hF rfl) hF)
theorem mf_space {w : MW} {a b : Int32} {Q : Int32 → MW → Prop} (h : MdJ w) (hQ : ∀ r w', MdJ w' → FR l_Mo_space w w' → Q r w') : p_Mo_space w a b Q := h_Mo_space h.1.1 (fun r w' hI hF => hQ r w' (mj_fr h hI hF rfl) hF)
theorem mf_danger {w : MW} {a : Int32} {Q : Int32 → MW → Prop} (h : MdJ w) (hQ : ∀ r w', MdJ w' → FR l_Mo_danger w w' → Q r w') : p_Mo_danger w a Q := h_Mo_danger h.1.1 h.1.2.2.2.1.2.1 (fun r w' hI hF => hQ r w' (mj_fr h hI hF rfl) hF)
theorem mf_write {w : MW} {a : Int32} {Q : Int32 → MW → Prop} (h : MdJ w) (hQ : ∀ r w', MdJ w' → FR l_Mo_write w w' → Q r w') : p_Mo_write w a Q := h_Mo_write h.1.1 (fun r w' hI hF => hQ r w' (mj_fr h hI hF rfl) hF)
theorem mf_pass {w : MW} {a b c d : Int32} {Q : Int32 → MW → Prop} (h : MdJ w) (hQ : ∀ r w', MdJ w' → FR l_Mr_pass w w' → Q r w') : p_Mo_pass w a b c d Q := Eq.mpr (p_Mo_pass.eq_1 _ _ _ _ _ _) (h_Mr_pass h.1.1 (fun r w' hI hF _ _ => hQ r w' (mj_fr h hI hF rfl) hF))
theorem mf_reset {w : MW} {a : Int32} {Q : Int32 → MW → Prop} (h : MdJ w) (hQ : ∀ r w', MdJ w' → FR l_Mr_reset w w' → Q r w') : p_Mo_reset w a Q := Eq.mpr (p_Mo_reset.eq_1 _ _ _) (h_Mr_reset h.1.1 h.1.2.2.2.1.1 (fun r w' hI hF _ _ => hQ r w' (mj_fr h hI hF rfl) hF))
theorem mf_bars {w : MW} {a : Int32} {Q : Int32 → MW → Prop} (h : MdJ w) (hQ : ∀ r w', MdJ w' → FR l_Mr_act1 w w' → Q r w') : p_Mo_bars w a Q := Eq.mpr (p_Mo_bars.eq_1 _ _ _) (h_Mr_act1 h.1.1 h.1.2.2.2.1.1 (fun r w' hI hF _ _ => hQ r w' (mj_fr h hI hF rfl) hF))
theorem mf_act {w : MW} {a : Int32} {Q : Int32 → MW → Prop} (h : MdJ w) (hQ : ∀ r w', MdJ w' → FR l_Mo_act w w' → Q r w') : p_Mo_act w a Q := by
  have P := h.1.2.2.2.1
  exact h_Mo_act h.1.1 P.1 P.2.1 P.2.2.1 P.2.2.2.1 P.2.2.2.2.1 P.2.2.2.2.2.1 P.2.2.2.2.2.2 (fun r w' hI hF hT hH _ _ => hQ r w' (mj_tk h (MdI_fw hF hI rfl hT hH h.1) hF rfl) hF)
theorem mf_tick {w : MW} {a : Int32} {Q : Int32 → MW → Prop} (h : MdJ w) (hQ : ∀ r w', MdJ w' → FR ltk w w' → Q r w') : p_Mo_tick w a Q := h_Mo_tick h.1 (fun r w' hM hF => hQ r w' (mj_tk h hM hF rfl) hF)
theorem mf_still {w : MW} {a : Int32} {Q : Int32 → MW → Prop} (h : MdJ w) (hQ : ∀ r w', MdJ w' → FR lsa w w' → Q r w') : p_Mo_still w a Q := h_Mo_still h.1 (fun r w' hM hF => hQ r w' (mj_tk h hM hF rfl) hF)
theorem mf_answer {w : MW} {a : Int64} {Q : Int32 → MW → Prop} (h : MdJ w) (hQ : ∀ r w', MdJ w' → FR lan w w' → Q r w') : p_Mo_answer w a Q := h_Mo_answer h.1 (fun r w' hM hF => hQ r w' (mj_tk h hM hF rfl) hF)
theorem mf_state {w : MW} {Q : Int32 → MW → Prop} (h : MdJ w) (hQ : ∀ r w', MdJ w' → FR [] w w' → Q r w') : p_Mo_state w Q := Eq.mpr (p_Mo_state.eq_1 _ _) (hQ _ _ h (FR.refl _ w))
theorem mf_second {w : MW} {Q : Int32 → MW → Prop} (h : MdJ w) (hQ : ∀ r w', MdJ w' → FR [] w w' → Q r w') : p_Mo_second w Q := Eq.mpr (p_Mo_second.eq_1 _ _) (hQ _ _ h (FR.refl _ w))
theorem mf_alarm {w : MW} {a b : Int32} {Q : Int32 → MW → Prop} (h : MdJ w) (hQ : ∀ r w', MdJ w' → FR [] w w' → Q r w') : p_Mo_alarm w a b Q := by
  have b79 := bd_127_79 h.1.1
  exact Eq.mpr (p_Mo_alarm.eq_1 _ _ _ _) ⟨fun _ => hQ _ _ h (FR.refl _ w), fun _ => ⟨fun _ => ⟨fun _ => ⟨fun _ => ⟨fun _ => hQ _ _ h (FR.refl _ w), fun _ => ⟨⟨by omega, by omega⟩, hQ _ _ h (FR.refl _ w)⟩⟩, fun _ => ⟨⟨by omega, by omega⟩, hQ _ _ h (FR.refl _ w)⟩⟩, fun _ => ⟨⟨by omega, by omega⟩, hQ _ _ h (FR.refl _ w)⟩⟩, fun _ => hQ _ _ h (FR.refl _ w)⟩⟩
theorem mf_way {w : MW} {a b : Int32} {Q : Int32 → MW → Prop} (h : MdJ w) (hQ : ∀ r w', MdJ w' → FR [] w w' → Q r w') : p_Mo_way w a b Q := by
  have b26 := bd_127_26 h.1.1
  have b185 := bd_185 h.1.1 a.toInt.toNat
  refine Eq.mpr (p_Mo_way.eq_1 _ _ _ _) ⟨fun _ => hQ _ _ h (FR.refl _ w), fun a0 => ⟨fun _ => hQ _ _ h (FR.refl _ w), fun a1 => ⟨fun _ => hQ _ _ h (FR.refl _ w), fun b0 => ⟨⟨by omega, by omega⟩, fun c => ⟨fun _ => ⟨fun _ => ⟨fun _ => ?_, fun _ => ⟨⟨by omega, by omega⟩, hQ _ _ h (FR.refl _ w)⟩⟩, fun _ => ⟨⟨by omega, by omega⟩, hQ _ _ h (FR.refl _ w)⟩⟩, fun _ => ⟨⟨by omega, by omega⟩, hQ _ _ h (FR.refl _ w)⟩⟩, fun _ => hQ _ _ h (FR.refl _ w)⟩⟩⟩⟩
  have s := ti_add2 (by decide : ((2 : Int32)).toInt = 2) (Eq.refl (w.1 185 a.toInt.toNat).toInt) (by omega) (by omega)
  have m := ti_mul2 (by decide : ((24 : Int32)).toInt = 24) (Eq.refl a.toInt) (by omega) (by omega)
  have m2 := ti_add2 m (Eq.refl b.toInt) (by omega) (by omega)
  have m3 := ti_sub2 m2 (by decide : ((3 : Int32)).toInt = 3) (by omega) (by omega)
  exact ⟨⟨by omega, by omega⟩, hQ _ _ h (FR.refl _ w)⟩
def lhs : Pl := [(127, some 59), (127, some 26), (167, none), (181, none), (182, none), (183, none), (184, none), (185, none), (186, none), (187, none)]
theorem mjf_close {w : MW} {Q : MW → Prop} (h : MdJ w) (hQ : ∀ w', MdJ w' → FR l_Mo_closeAll w w' → Q w') : p_Mo_closeAll w Q :=
  h_Mo_closeAll h.1.1 h.1.2.2.2.1.2.1 h.1.2.2.2.1.2.2.1 (fun w' hI hF hT hH => hQ w' (mj_tk h (MdI_fw hF hI rfl hT hH h.1) hF rfl) hF)
theorem mf_hold {w : MW} {a : Int32} {Q : Int32 → MW → Prop} (h : MdJ w) (hQ : ∀ r w', MdJ w' → FR lhs w w' → Q r w') : p_Mo_hold w a Q := by
  have F : ∀ v : Int32, FR lhs w (sI w 127 59 v) := fun v => FR.I (FR.refl _ w) rfl
  have K : ((w.1 127 59).toInt = 0 ∨ (w.1 127 59).toInt = 2) → q_Mo_hold_24 a w Q := fun c => Eq.mpr (q_Mo_hold_24.eq_1 _ _ _) ⟨fun _ => hQ _ _ (mj_59 h (by decide) (by decide) (fun _ => c)) (F _), fun _ => mjf_close (mj_59 h (by decide) (by decide) (fun _ => c)) (fun w' h' hF => hQ _ _ h' ((F _).tr hF rfl))⟩
  exact Eq.mpr (p_Mo_hold.eq_1 _ _ _) ⟨fun _ => ⟨fun c => K (Or.inr c), fun _ => hQ _ _ h (FR.refl _ w)⟩, fun _ => ⟨fun c => K (Or.inl c), fun _ => hQ _ _ h (FR.refl _ w)⟩⟩
theorem mf_stop {w : MW} {Q : Int32 → MW → Prop} (h : MdJ w) (hQ : ∀ r w', MdJ w' → FR lhs w w' → Q r w') : p_Mo_stop w Q := by
  have F : ∀ v : Int32, FR lhs w (sI w 127 59 v) := fun v => FR.I (FR.refl _ w) rfl
  have K : p_Mo_closeAll (sI w 127 59 3)  (fun w2 => (Q 1 w2)) := mjf_close (mj_59 h (by decide) (by decide) (fun q => absurd q (by decide))) (fun w' h' hF => hQ _ _ h' ((F _).tr hF rfl))
  exact Eq.mpr (p_Mo_stop.eq_1 _ _) ⟨fun _ => K, fun _ => ⟨fun _ => K, fun _ => hQ _ _ h (FR.refl _ w)⟩⟩
theorem mf_start {w : MW} {Q : Int32 → MW → Prop} (h : MdJ w) (hQ : ∀ r w', MdJ w' → FR lst w w' → Q r w') : p_Mo_start w Q := h_Mo_start h (fun r w' hM hF _ _ => hQ r w' hM hF)
theorem mf_bind {w : MW} {a b c d f : Int32} {Q : Int32 → MW → Prop} (h : MdJ w) (hQ : ∀ r w', MdJ w' → FR [(197, none), (198, none), (199, none), (200, none)] w w' → Q r w') : p_Mo_bind w a b c d f Q := by
  have N := hQ 0 w h (FR.refl _ w)
  have K72 : 0 ≤ a.toInt → a.toInt ≤ 31 → 0 ≤ b.toInt → b.toInt ≤ 4 → (b.toInt = 0 → 1 ≤ f.toInt ∧ f.toInt ≤ 100) → (b.toInt = 2 → 0 ≤ d.toInt ∧ d.toInt ≤ 9) → (b.toInt = 3 → 1 ≤ d.toInt ∧ d.toInt ≤ 5) → q_Mo_bind_72 a b c d f w Q := fun a0 a1 b0 b1 z0 z2 z3 => by
    have hr : 0 ≤ a.toInt ∧ a.toInt < 32 := ⟨a0, by omega⟩
    have hF : FR [(197, none), (198, none), (199, none), (200, none)] w (sI (sI (sI (sI w 197 a.toInt.toNat b) 198 a.toInt.toNat c) 199 a.toInt.toNat d) 200 a.toInt.toNat f) := FR.I (FR.I (FR.I (FR.I (FR.refl _ w) rfl) rfl) rfl) rfl
    refine Eq.mpr (q_Mo_bind_72.eq_1 _ _ _ _ _ _ _) ⟨hr, hr, hr, hr, hQ _ _ ?_ hF⟩
    have hB : BND (sI (sI (sI (sI w 197 a.toInt.toNat b) 198 a.toInt.toNat c) 199 a.toInt.toNat d) 200 a.toInt.toNat f) := wbd_200 (wbd_199 (wbd_198 (wbd_197 h.1.1 _ (by omega) b1) _) _) _
    have q7 : ∀ j, (sI (sI (sI (sI w 197 a.toInt.toNat b) 198 a.toInt.toNat c) 199 a.toInt.toNat d) 200 a.toInt.toNat f).1 197 j = (sI w 197 a.toInt.toNat b).1 197 j := fun j => rfl
    have q9 : ∀ j, (sI (sI (sI (sI w 197 a.toInt.toNat b) 198 a.toInt.toNat c) 199 a.toInt.toNat d) 200 a.toInt.toNat f).1 199 j = (sI w 199 a.toInt.toNat d).1 199 j := fun j => rfl
    have q0 : ∀ j, (sI (sI (sI (sI w 197 a.toInt.toNat b) 198 a.toInt.toNat c) 199 a.toInt.toNat d) 200 a.toInt.toNat f).1 200 j = (sI w 200 a.toInt.toNat f).1 200 j := fun j => rfl
    generalize (sI (sI (sI (sI w 197 a.toInt.toNat b) 198 a.toInt.toNat c) 199 a.toInt.toNat d) 200 a.toInt.toNat f) = w' at *
    have P := h.1.2.2.2.1
    refine mj_tk h ⟨hB, tex_fr hF rfl h.1.2.1, TSx_fr hF rfl h.1.2.2.1, ⟨DR_fr hF rfl P.1, FT_fr hF rfl P.2.1, HW_fr hF rfl P.2.2.1, fun i => ?_, fun i => ?_, RP_fr hF rfl P.2.2.2.2.2.1, SZ_fr hF rfl P.2.2.2.2.2.2⟩, fun q => ?_⟩ hF rfl
    · rw [q7, q9]
      by_cases e : i.toInt.toNat = a.toInt.toNat
      · rw [e, sI_same, sI_same]
        exact ⟨z3, z2⟩
      · rw [sI_ne _ _ _ _ _ e, sI_ne _ _ _ _ _ e]
        exact P.2.2.2.1 i
    · rw [q7, q0]
      by_cases e : i.toInt.toNat = a.toInt.toNat
      · rw [e, sI_same, sI_same]
        exact z0
      · rw [sI_ne _ _ _ _ _ e, sI_ne _ _ _ _ _ e]
        exact P.2.2.2.2.1 i
    · rw [(hF 127 59 rfl).1] at q
      exact ⟨QP_fr hF rfl (h.1.2.2.2.2 q).1, QS_fr hF rfl (hF 210 0 rfl).1 (h.1.2.2.2.2 q).2⟩
  have K36 : 0 ≤ a.toInt → a.toInt ≤ 31 → 0 ≤ b.toInt → b.toInt ≤ 4 → (b.toInt = 0 → 1 ≤ f.toInt ∧ f.toInt ≤ 100) → q_Mo_bind_36 a b c d f w Q := fun a0 a1 b0 b1 z0 => Eq.mpr (q_Mo_bind_36.eq_1 _ _ _ _ _ _ _) ⟨fun n2 => Eq.mpr (q_Mo_bind_53.eq_1 _ _ _ _ _ _ _) ⟨fun n3 => K72 a0 a1 b0 b1 z0 (fun q => absurd q n2) (fun q => absurd q n3), fun _ => ⟨fun _ => N, fun _ => ⟨fun _ => K72 a0 a1 b0 b1 z0 (fun q => absurd q n2) (fun _ => ⟨by omega, by omega⟩), fun _ => N⟩⟩⟩, fun _ => ⟨fun _ => N, fun _ => ⟨fun _ => N, fun _ => Eq.mpr (q_Mo_bind_53.eq_1 _ _ _ _ _ _ _) ⟨fun n3 => K72 a0 a1 b0 b1 z0 (fun _ => ⟨by omega, by omega⟩) (fun q => absurd q n3), fun _ => ⟨fun _ => N, fun _ => ⟨fun _ => K72 a0 a1 b0 b1 z0 (fun _ => ⟨by omega, by omega⟩) (fun _ => ⟨by omega, by omega⟩), fun _ => N⟩⟩⟩⟩⟩⟩
  exact Eq.mpr (p_Mo_bind.eq_1 _ _ _ _ _ _ _) ⟨fun _ => N, fun a0 => ⟨fun _ => N, fun a1 => ⟨fun _ => N, fun b0 => ⟨fun _ => N, fun b1 => ⟨fun n0 => K36 (by omega) (by omega) (by omega) (by omega) (fun q => absurd q n0), fun _ => ⟨fun _ => N, fun _ => ⟨fun _ => N, fun _ => K36 (by omega) (by omega) (by omega) (by omega) (fun _ => ⟨by omega, by omega⟩)⟩⟩⟩⟩⟩⟩⟩
def lme : Pl := [(129, some 1), (130, none), (147, some 1), (148, none), (129, some 12), (129, some 30), (129, some 31), (129, some 32), (129, some 33), (129, some 2), (129, some 3), (129, some 4), (129, some 5), (129, some 6), (129, some 7), (129, some 8), (129, some 9), (129, some 10), (129, some 11), (129, some 13), (129, some 21), (129, some 23), (129, some 24), (129, some 35), (129, some 38), (145, none), (146, none), (131, none), (132, none), (133, none), (134, none), (135, none), (136, none), (137, none), (138, none), (139, none), (140, none), (141, none), (142, none), (143, none), (144, none), (147, some 4), (147, some 5), (147, some 6), (147, some 7), (147, some 11), (147, some 12), (147, some 13), (147, some 20), (149, none), (150, none), (151, none), (152, none), (153, none), (154, none), (155, none), (156, none), (157, none), (158, none), (159, none), (160, none), (161, none), (162, none), (127, some 4), (127, some 11), (127, some 21), (127, some 26), (127, some 59), (127, some 85), (127, some 86), (127, some 22), (163, none), (164, none), (165, none), (166, none), (167, none), (168, none), (169, none), (170, none), (171, none), (172, none), (173, none), (174, none), (178, none), (179, none), (180, none), (181, none), (182, none), (183, none), (184, none), (185, none), (186, none), (187, none), (201, none), (206, none)]
theorem mef_97 {a b : Int32} {E : MW → Prop} {Q : Int32 → MW → Prop} (hb : b.toInt ≤ 4000) {w0 : MW} (hE : ∀ w', MdJ w' → FR lme w0 w' → E w') (n : Nat) : ∀ (k : Int32) (w : MW), MdJ w → FR lme w0 w → 0 ≤ k.toInt → k.toInt ≤ 4000 → (4000 - k.toInt).toNat < n → q_Mo_end_97 a b E Q n k w := by
  induction n with
  | zero => intros; omega
  | succ n ih =>
    intro k w h hw k0 k1 hm
    rw [q_Mo_end_97.eq_2]
    refine ⟨fun _ => hE w h hw, fun c => ?_⟩
    have s1 := ti_add2 (Eq.refl k.toInt) i_1 (by omega) (by omega)
    have b128 := bd_128 h.1.1 k.toInt.toNat
    exact ⟨fun _ => ⟨⟨by omega, by omega⟩, h_Tx_unit h.1.1 b128.1 b128.2 (fun r w' h' f' _ _ => ih _ _ (MdJ_fr f' h' rfl h) (hw.tr f' rfl) (by omega) (by omega) (by omega))⟩, fun _ => ⟨⟨by omega, by omega⟩, h_Mr_unit h.1.1 b128.1 b128.2 (fun r w' h' f' _ _ => ih _ _ (MdJ_fr f' h' rfl h) (hw.tr f' rfl) (by omega) (by omega) (by omega))⟩⟩
theorem mef_193 {z : Int32} {E : MW → Prop} {Q : Int32 → MW → Prop} {w0 : MW} (hE : ∀ w', MdJ w' → FR lme w0 w' → E w') (n : Nat) : ∀ (k : Int32) (w : MW), MdJ w → FR lme w0 w → 0 ≤ k.toInt → k.toInt ≤ 40 → (40 - k.toInt).toNat < n → q_Mo_end_193 z E Q n k w := by
  induction n with
  | zero => intros; omega
  | succ n ih =>
    intro k w h hw k0 k1 hm
    rw [q_Mo_end_193.eq_2]
    refine ⟨fun _ => hE w h hw, fun c => ?_⟩
    have s1 := ti_add2 (Eq.refl k.toInt) i_1 (by omega) (by omega)
    exact ⟨⟨by omega, by omega⟩, ⟨by omega, by omega⟩, ih _ _ (MdJ_fr (l := [(201, none), (206, none)]) (FR.J (FR.I (FR.refl _ w) rfl) rfl) (bnd_J (wbd_201 h.1.1 _ (by decide) (by decide))) rfl h) (FR.J (FR.I hw rfl) rfl) (by omega) (by omega) (by omega)⟩
theorem mf_end {w : MW} {a b : Int32} {Q : Int32 → MW → Prop} (h : MdJ w) (hQ : ∀ (r : Int32) (w' : MW), MdJ w' → FR lme (sI w 127 1 0) w' → Q r w') : p_Mo_end w a b Q := by
  have K33 : ∀ x : Int32, (¬ x.toInt = 0 → (0 ≤ a.toInt ∧ a.toInt ≤ 2) ∧ 0 ≤ b.toInt ∧ b.toInt ≤ 4000) → q_Mo_end_33 a b x w Q := fun x hx => by
    refine Eq.mpr (q_Mo_end_33.eq_1 _ _ _ _ _) (me_37 (fun x6 hx6 => ?_) FU x 0 (by decide) (by decide) hx (fu_lt (by decide)))
    have h1 : MdJ (sI w 127 1 0) := MdJ_fr (l := [(127, some 1)]) (FR.I (FR.refl _ w) rfl) (wbd_127_1 h.1.1 (by decide) (by decide)) rfl h
    refine ⟨fun c6 => ?_, fun _ => hQ _ _ h1 (FR.refl _ _)⟩
    have g := hx6 c6
    generalize (sI w 127 1 0) = w1 at *
    refine ⟨fun ca => mef_97 (w0 := w1) g.2.2 (fun w15 h15 f15 => ?_) FU 0 w1 h1 (FR.refl _ w1) (by decide) (by decide) (fu_lt (by decide)), fun _ => ?_⟩
    · have P15 := h15.1.2.2.2.1
      refine ⟨fun c1 => t_read h15.1.1 h15.2.2 h15.2.1 (fun r w' hB hF hV hL hs => ?_), fun c1 => h_Mr_read h15.1.1 P15.1 (fun r w' hB hF hD _ _ => ?_)⟩
      · have X := tl_tex hB hL
        have P' : PF w' := PF_fr hF rfl P15
        have N : r.toInt < 0 → MdJ w' := fun c => ⟨⟨hB, X.1, X.2, P', fun q => by
          rw [(hF 127 59 rfl).1] at q
          exact qp_sh h15.1.1 hF rfl (hs c).1 (hs c).2.1 (hs c).2.2 (h15.1.2.2.2.2 q)⟩, hL, hV⟩
        have O : ∀ w26 : MW, MdJ w26 → FR lme w1 w26 → ((0 ≤ r.toInt → (Q r w26)) ∧ (¬ (0 ≤ r.toInt) → (Q (r - (2 : Int32)) w26))) := fun w26 h26 f26 => ⟨fun _ => hQ _ _ h26 f26, fun _ => hQ _ _ h26 f26⟩
        refine Eq.mpr (q_Mo_end_169.eq_1 _ _ _ _) ⟨fun c2 => by omega, fun _ => ⟨fun c => O w' (N c) (f15.tr hF rfl), fun _ => ?_⟩⟩
        have B4 : BND (sI w' 127 59 4) := wbd_127_59 hB (by decide) (by decide)
        have F4 : FR [(127, some 59)] w' (sI w' 127 59 4) := FR.I (FR.refl _ w') rfl
        have G4 : FR lme w1 (sI w' 127 59 4) := FR.I (f15.tr hF rfl) rfl
        have e4 : (sI w' 127 59 4).1 127 59 = 4 := rfl
        have L4 : TLx (sI w' 127 59 4) := tlx_fr hB F4 rfl hL
        have V4 : VG (sI w' 127 59 4) := hV
        have P4 : PF (sI w' 127 59 4) := PF_fr F4 rfl P'
        generalize (sI w' 127 59 4) = w4 at *
        refine h_Mo_closeAll B4 P4.2.1 P4.2.2.1 (fun w22 B22 F22 T22 H22 => mef_193 (w0 := w1) (fun w26 h26 f26 => O w26 h26 f26) FU 0 w22 ?_ (G4.tr F22 rfl) (by decide) (by decide) (fu_lt (by decide)))
        have L22 := tlx_fr B4 F22 rfl L4
        have X22 := tl_tex B22 L22
        refine ⟨⟨B22, X22.1, X22.2, ⟨DR_fr F22 rfl P4.1, T22, H22, MC_fr F22 rfl P4.2.2.2.1, MZ_fr F22 rfl P4.2.2.2.2.1, RP_fr F22 rfl P4.2.2.2.2.2.1, SZ_fr F22 rfl P4.2.2.2.2.2.2⟩, fun q => ?_⟩, L22, by unfold VG; rw [(F22 129 8 rfl).2.1]; exact V4⟩
        rw [(F22 127 59 rfl).1, e4] at q
        exact absurd q (by decide)
      · have hL := tlx_fr h15.1.1 hF rfl h15.2.1
        have X := tl_tex hB hL
        have h' : MdJ w' := ⟨⟨hB, X.1, X.2, ⟨hD, FT_fr hF rfl P15.2.1, HW_fr hF rfl P15.2.2.1, MC_fr hF rfl P15.2.2.2.1, MZ_fr hF rfl P15.2.2.2.2.1, RP_fr hF rfl P15.2.2.2.2.2.1, SZ_fr hF rfl P15.2.2.2.2.2.2⟩, fun q => by
          rw [(hF 127 59 rfl).1] at q
          exact ⟨QP_fr hF rfl (h15.1.2.2.2.2 q).1, QS_fr hF rfl (hF 210 0 rfl).1 (h15.1.2.2.2.2 q).2⟩⟩, hL, by unfold VG; rw [(hF 129 8 rfl).2.1]; exact h15.2.2⟩
        exact Eq.mpr (q_Mo_end_169.eq_1 _ _ _ _) ⟨fun _ => ⟨fun _ => hQ _ _ h' (f15.tr hF rfl), fun _ => hQ _ _ h' (f15.tr hF rfl)⟩, fun c2 => by omega⟩
    · have h2 : MdJ (sI w1 127 22 b) := MdJ_fr (l := [(127, some 22)]) (FR.I (FR.refl _ w1) rfl) (wbd_127_22 h1.1.1 g.2.1 g.2.2) rfl h1
      have G2 : FR lme w1 (sI w1 127 22 b) := FR.I (FR.refl _ w1) rfl
      generalize (sI w1 127 22 b) = w2 at *
      have P2 := h2.1.2.2.2.1
      refine h2_Mo_readPlant h2.1.1 P2.2.1 P2.2.2.1 P2.2.2.2.2.2.1 P2.2.2.2.2.2.2 (fun r w' hB hF hT hH hR hZ h59 => hQ r w' ?_ (G2.tr hF rfl))
      have hL := tlx_fr h2.1.1 hF rfl h2.2.1
      have X := tl_tex hB hL
      refine ⟨⟨hB, X.1, X.2, ⟨DR_fr hF rfl P2.1, hT, hH, MC_fr hF rfl P2.2.2.2.1, MZ_fr hF rfl P2.2.2.2.2.1, hR, hZ⟩, fun q => ?_⟩, hL, by unfold VG; rw [(hF 129 8 rfl).2.1]; exact h2.2.2⟩
      cases h59 with
      | inl e =>
        rw [e] at q
        exact ⟨QP_fr hF rfl (h2.1.2.2.2.2 q).1, QS_fr hF rfl (hF 210 0 rfl).1 (h2.1.2.2.2.2 q).2⟩
      | inr e => omega
  have K0 := K33 0 (fun c => absurd i_0 c)
  exact Eq.mpr (p_Mo_end.eq_1 _ _ _ _) ⟨fun _ => K0, fun a0 => ⟨fun _ => K0, fun a2 => ⟨fun _ => K0, fun b0 => ⟨fun _ => K0, fun b4 => ⟨fun _ => K0, fun _ => K33 1 (fun _ => ⟨⟨by omega, by omega⟩, by omega, by omega⟩)⟩⟩⟩⟩⟩
def lR : Pl := [(127, none), (128, none), (129, none), (130, none), (131, none), (132, none), (133, none), (134, none), (135, none), (136, none), (137, none), (138, none), (139, none), (140, none), (141, none), (142, none), (143, none), (144, none), (145, none), (146, none), (147, none), (148, none), (149, none), (150, none), (151, none), (152, none), (153, none), (154, none), (155, none), (156, none), (157, none), (158, none), (159, none), (160, none), (161, none), (162, none), (163, none), (164, none), (165, none), (166, none), (167, none), (168, none), (169, none), (170, none), (171, none), (172, none), (173, none), (174, none), (175, none), (176, none), (177, none), (178, none), (179, none), (180, none), (181, none), (182, none), (183, none), (184, none), (185, none), (186, none), (187, none), (188, none), (189, none), (190, none), (191, none), (192, none), (193, none), (194, none), (195, none), (196, none), (197, none), (198, none), (199, none), (200, none), (201, none), (202, none), (203, none), (204, none), (205, none), (206, none), (207, none), (208, none), (209, none), (210, none), (211, none), (212, none), (213, none), (214, none), (215, none), (216, none), (217, none), (218, none), (219, none), (220, none)]
def lC : Pl := [(0, none), (1, none), (2, none), (3, none), (4, none), (5, none), (6, none), (7, none), (8, none), (9, none), (10, none), (11, none), (12, none), (13, none), (14, none), (15, none), (16, none), (17, none), (18, none), (19, none), (20, none), (21, none), (22, none), (23, none), (24, none), (25, none), (26, none), (27, none), (28, none), (29, none), (30, none), (31, none), (32, none), (33, none), (34, none), (35, none), (36, none), (37, none), (38, none), (39, none), (40, none), (41, none), (42, none), (43, none), (44, none), (45, none), (46, none), (47, none), (48, none), (49, none), (50, none), (51, none), (52, none), (53, none), (54, none), (55, none), (56, none), (57, none), (58, none), (59, none), (60, none), (61, none), (62, none), (63, none), (64, none), (65, none), (66, none), (67, none), (68, none), (69, none), (70, none), (71, none), (72, none), (73, none), (74, none), (75, none), (76, none), (77, none), (78, none), (79, none), (80, none), (81, none), (82, none), (83, none), (84, none), (85, none), (86, none), (87, none), (88, none), (89, none), (90, none), (91, none), (92, none), (93, none), (94, none), (95, none), (96, none), (97, none), (98, none), (99, none), (100, none), (101, none), (102, none), (103, none), (104, none), (105, none), (106, none), (107, none), (108, none), (109, none), (110, none), (111, none), (112, none), (113, none), (114, none), (115, none), (116, none), (117, none), (118, none), (119, none), (120, none), (121, none), (122, none), (123, none), (124, none), (125, none), (126, none)]
