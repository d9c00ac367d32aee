/-! the reference's run: walk, tick, still, answer -/
def MdL (w : MW) : Prop := ((w.1 127 59).toInt = 0 ∨ (w.1 127 59).toInt = 2) → QP w ∧ QS w
def MdI (w : MW) : Prop := BND w ∧ TEx w ∧ TSx w ∧ PF w ∧ MdL w
theorem MdI.rn {w : MW} (h : MdI w) (hs : (w.1 127 59).toInt = 0 ∨ (w.1 127 59).toInt = 2) : RnX w := ⟨h.1, h.2.1, h.2.2.1, (h.2.2.2.2 hs).1, (h.2.2.2.2 hs).2, h.2.2.2.1⟩
theorem RnX.md {w : MW} (h : RnX w) : MdI w := ⟨h.1, h.2.1, h.2.2.1, h.2.2.2.2.2, fun _ => ⟨h.2.2.2.1, h.2.2.2.2.1⟩⟩
def lMd : Pl := [(127, some 59), (127, some 60), (129, some 12), (129, some 30), (131, none), (132, none), (135, none), (137, none), (207, none), (208, none), (209, none), (210, none), (213, none), (127, some 4), (127, some 11), (127, some 26), (147, some 12), (147, some 20), (151, none), (152, none), (153, none), (154, none), (163, none), (169, none), (170, none), (171, none), (182, none), (185, none), (186, none), (187, none), (197, none), (199, none), (200, none)]
theorem MdI_fr {l : Pl} {w w' : MW} (hF : FR l w w') (hI : BND w') (ho : off l lMd = true) (h : MdI w) : MdI w' :=
  ⟨hI, tex_fr hF (off_mono ho (by decide)) h.2.1, TSx_fr hF (off_mono ho (by decide)) h.2.2.1, PF_fr hF (off_mono ho (by decide)) h.2.2.2.1, fun hs => by
    rw [(hF 127 59 (off_hit ho rfl)).1] at hs
    exact ⟨QP_fr hF (off_mono ho (by decide)) (h.2.2.2.2 hs).1, QS_fr hF (off_mono ho (by decide)) (hF 210 0 (off_hit ho rfl)).1 (h.2.2.2.2 hs).2⟩⟩
/-- ways may go, too -/
def lMw : Pl := [(127, some 59), (127, some 60), (129, some 12), (129, some 30), (131, none), (132, none), (135, none), (137, none), (207, none), (208, none), (209, none), (210, none), (213, none), (147, some 12), (147, some 20), (151, none), (152, none), (153, none), (154, none), (127, some 11), (163, none), (169, none), (170, none), (171, none), (197, none), (199, none), (200, none)]
theorem MdI_fw {l : Pl} {w w' : MW} (hF : FR l w w') (hI : BND w') (ho : off l lMw = true) (hT : FT w') (hH : HW w') (h : MdI w) : MdI w' :=
  ⟨hI, tex_fr hF (off_mono ho (by decide)) h.2.1, TSx_fr hF (off_mono ho (by decide)) h.2.2.1, ⟨DR_fr hF (off_mono ho (by decide)) h.2.2.2.1.1, hT, hH, MC_fr hF (off_mono ho (by decide)) h.2.2.2.1.2.2.2.1, MZ_fr hF (off_mono ho (by decide)) h.2.2.2.1.2.2.2.2.1, RP_fr hF (off_mono ho (by decide)) h.2.2.2.1.2.2.2.2.2.1, SZ_fr hF (off_mono ho (by decide)) h.2.2.2.1.2.2.2.2.2.2⟩, fun hs => by
    rw [(hF 127 59 (off_hit ho rfl)).1] at hs
    exact ⟨QP_fr hF (off_mono ho (by decide)) (h.2.2.2.2 hs).1, QS_fr hF (off_mono ho (by decide)) (hF 210 0 (off_hit ho rfl)).1 (h.2.2.2.2 hs).2⟩⟩
def ltk : Pl := (127, some 59) :: (127, some 74) :: (127, some 78) :: (147, some 24) :: (160, none) :: (161, none) :: (162, none) :: (173, none) :: (193, none) :: lgo
theorem g_walk {w : MW} {Q : MW → Prop} (h : RnX w) (hQ : ∀ w', RnX w' → FR ltk w w' → Q w') : p_Mo_walk w Q := by
  have hF0 : FR [(127, some 72), (127, some 73), (127, some 75)] w (sI (sI (sI w 127 72 0) 127 73 0) 127 75 0) := FR.I (FR.I (FR.I (FR.refl _ w) rfl) rfl) rfl
  have h0 : RnX (sI (sI (sI w 127 72 0) 127 73 0) 127 75 0) := RnX_fr hF0 (wbd_127_75 (wbd_127_73 (wbd_127_72 h.1 (by decide) (by decide)) (by decide) (by decide)) (by decide) (by decide)) rfl h
  have hG : FR ltk w (sI (sI (sI w 127 72 0) 127 73 0) 127 75 0) := (FR.refl ltk w).tr hF0 rfl
  refine Eq.mpr (p_Mo_walk.eq_1 _ _) ?_
  generalize (sI (sI (sI w 127 72 0) 127 73 0) 127 75 0) = w0 at *
  have s1 := h0.2.2.2.2.1.1
  have e32 : ∀ (r : Int32) (w1 : MW), RnS 0 w0 w1 → q_Mo_walk_32 r w1 Q := by
    intro r w1 h1
    have q : ∀ v : Int32, 0 ≤ v.toInt → v.toInt ≤ 4 → Q (sI (sI w1 127 59 v) 127 74 ((w1.1 127 74) + (1 : Int32))) := fun v v0 v1 => by
      have hF : FR [(127, some 59), (127, some 74)] w1 (sI (sI w1 127 59 v) 127 74 ((w1.1 127 74) + (1 : Int32))) := FR.I (FR.I (FR.refl _ w1) rfl) rfl
      exact hQ _ (RnX_fr hF (wbd_127_74 (wbd_127_59 h1.1.1 v0 v1)) rfl h1.1) ((hG.tr h1.2.1 rfl).tr hF rfl)
    exact Eq.mpr (q_Mo_walk_32.eq_1 _ _ _) ⟨fun _ => ⟨fun _ => ⟨fun _ => q _ (by decide) (by decide), fun _ => ⟨fun _ => q _ (by decide) (by decide), fun _ => q _ (by decide) (by decide)⟩⟩, fun _ => q _ (by decide) (by decide)⟩, fun _ => q _ (by decide) (by decide)⟩
  refine lm_all 510 0 w0 _ h0 (by decide) (by rw [i_0]; omega) (by decide) (fun r1 w1 h1 => ⟨fun _ => e32 _ w1 h1, fun _ => ?_⟩)
  have e60 : w1.1 127 60 = w0.1 127 60 := (h1.2.1 127 60 rfl).1
  exact (go_all 1010).1 0 w1 _ h1.1 (by decide) (by rw [i_0, e60]; omega) (by decide) (fun r w2 h2 _ => e32 r w2 (h1.tr h2 (Int.le_refl _)))
theorem tk_67 {a b : Int32} {E : MW → Prop} {Q : Int32 → MW → Prop} {z : MW} (hE : ∀ w, MdI w → FR ltk z w → E w) (n : Nat) : ∀ (k : Int32) (w : MW), MdI w → FR ltk z w → 0 ≤ k.toInt → k.toInt ≤ 24 → (24 - k.toInt).toNat < n → q_Mo_tick_67 a b E Q n k w := by
  induction n with
  | zero => intros; omega
  | succ n ih =>
    intro k w h hF k0 k1 hm
    rw [q_Mo_tick_67.eq_2]
    refine ⟨fun _ => hE w h hF, fun c => ?_⟩
    have b26 := bd_127_26 h.1
    have e : (k + (1 : Int32)).toInt = k.toInt + 1 := ti_add2 rfl (by decide) (by omega) (by omega)
    exact h_Mo_flow h.1 h.2.2.2.1.2.1 k0 (by omega) (by omega) (fun w' hI' hF' => ih _ w' (MdI_fr hF' hI' rfl h) (hF.tr hF' rfl) (by omega) (by omega) (by omega))
theorem tk_15 {a : Int32} {E : MW → Prop} {Q : Int32 → MW → Prop} {z : MW} (ha : a.toInt ≤ 600) (hE : ∀ w, MdI w → FR ltk z w → E w) (n : Nat) : ∀ (k : Int32) (w : MW), MdI w → FR ltk z w → 0 ≤ k.toInt → k.toInt ≤ 600 → (600 - k.toInt).toNat < n → q_Mo_tick_15 a E Q n k w := by
  induction n with
  | zero => intros; omega
  | succ n ih =>
    intro k w h hF k0 k1 hm
    rw [q_Mo_tick_15.eq_2]
    refine ⟨fun _ => hE w h hF, fun c => ?_⟩
    have e : (k + (1 : Int32)).toInt = k.toInt + 1 := ti_add2 rfl (by decide) (by omega) (by omega)
    refine h_Mo_senseAll h.1 (fun w4 hI4 hF4 => ?_)
    have h4 := MdI_fr hF4 hI4 rfl h
    refine h_Mr_tick hI4 h4.2.2.2.1.1 (by decide) (by decide) (fun r5 w5 hI5 hF5 _ _ => ?_)
    have h5 := MdI_fr hF5 hI5 rfl h4
    have hG := (hF.tr hF4 rfl).tr hF5 rfl
    have fl : ∀ w1 : MW, MdI w1 → FR ltk z w1 → q_Mo_tick_67 a k (fun (w9 : MW) => (q_Mo_tick_15 a E Q n (k + (1 : Int32)) (sI w9 127 78 ((w9.1 127 78) + (1 : Int32))))) Q FU 0 w1 := fun w1 h1 hF1 => tk_67 (z := z) (fun w9 h9 hF9 => ih _ _ (MdI_fr (l := [(127, some 78)]) (FR.I (FR.refl _ w9) rfl) (wbd_127_78 h9.1) rfl h9) (FR.I hF9 rfl) (by omega) (by omega) (by omega)) FU 0 w1 h1 hF1 (by decide) (by decide) (fu_lt (by decide))
    refine ⟨fun _ => fl w5 h5 hG, fun c0 => g_walk (h5.rn (Or.inl (Classical.not_not.mp c0))) (fun w10 h10 hF10 => ?_)⟩
    have hH := hG.tr hF10 rfl
    have cl : q_Mo_tick_60 a k w10 (fun (x15_2 : Int32) (w : MW) => q_Mo_tick_15 a E Q n x15_2 w) E Q := by
      refine Eq.mpr (q_Mo_tick_60.eq_1 _ _ _ _ _ _) (h_Mo_closeAll h10.1 h10.2.2.2.2.2.2.1 h10.2.2.2.2.2.2.2.1 (fun w12 hI12 hF12 hT12 hH12 => ?_))
      exact fl w12 (MdI_fw hF12 hI12 rfl hT12 hH12 h10.md) (hH.tr hF12 rfl)
    exact ⟨fun _ => cl, fun _ => ⟨fun _ => fl w10 h10.md hH, fun _ => cl⟩⟩
theorem h_Mo_tick {w : MW} {a0 : Int32} {Q : Int32 → MW → Prop} (h : MdI w) (hQ : ∀ (r : Int32) (w' : MW), MdI w' → FR ltk w w' → Q r w') : p_Mo_tick w a0 Q :=
  Eq.mpr (p_Mo_tick.eq_1 _ _ _) ⟨fun _ => hQ _ w h (FR.refl _ w), fun _ => ⟨fun c => tk_15 (z := w) c (fun w' h' hF' => hQ _ w' h' hF') FU 0 w h (FR.refl _ w) (by decide) (by decide) (fu_lt (by decide)), fun _ => hQ _ w h (FR.refl _ w)⟩⟩
theorem h_Mo_still {w : MW} {a0 : Int32} {Q : Int32 → MW → Prop} (h : MdI w) (hQ : ∀ (r : Int32) (w' : MW), MdI w' → FR lsa w w' → Q r w') : p_Mo_still w a0 Q := by
  have hF : FR lsa w (sI w 127 77 a0) := FR.I (FR.refl _ w) rfl
  have h1 : MdI (sI w 127 77 a0) := MdI_fr hF (wbd_127_77 h.1) rfl h
  have e59 : (sI w 127 77 a0).1 127 59 = w.1 127 59 := (hF 127 59 rfl).1
  have q24 : ((w.1 127 59).toInt = 0 ∨ (w.1 127 59).toInt = 2) → q_Mo_still_24 (sI w 127 77 a0) Q := by
    intro hs
    have hr := h1.rn (by rw [e59]; exact hs)
    have s1 := hr.2.2.2.2.1.1
    refine Eq.mpr (q_Mo_still_24.eq_1 _ _) (sa_all 510 0 0 _ _ hr.1 hr.2.2.2.1 (by decide) (by rw [i_0]; omega) (by decide) (fun r w' hI' hF' hS => ⟨fun c => ?_, fun _ => ?_⟩))
    · have hS := hS.resolve_left c
      have b60 := bd_127_60 hr.1
      exact ⟨⟨hS.1, by have := hS.2.1; omega⟩, hQ _ _ (MdI_fr hF' hI' rfl h1) (hF.tr hF' rfl)⟩
    · exact hQ _ _ (MdI_fr hF' hI' rfl h1) (hF.tr hF' rfl)
  exact Eq.mpr (p_Mo_still.eq_1 _ _ _) ⟨fun _ => hQ _ _ h1 hF, fun _ => ⟨fun c => q24 (Or.inl c), fun _ => ⟨fun _ => hQ _ _ h1 hF, fun c => q24 (Or.inr (Classical.not_not.mp c))⟩⟩⟩
def lan : Pl := [(127, some 77), (206, none), (211, none)]
theorem h_Mo_answer {w : MW} {a0 : Int64} {Q : Int32 → MW → Prop} (h : MdI w) (hQ : ∀ (r : Int32) (w' : MW), MdI w' → FR lan w w' → Q r w') : p_Mo_answer w a0 Q := by
  have hF : FR lan w (sI w 127 77 0) := FR.I (FR.refl _ w) rfl
  have h1 : MdI (sI w 127 77 0) := MdI_fr hF (wbd_127_77 h.1) rfl h
  have e59 : (sI w 127 77 0).1 127 59 = w.1 127 59 := (hF 127 59 rfl).1
  have no : ∀ w1 : MW, MdI w1 → FR lan w w1 → q_Mo_answer_22 a0 (-1) w1 Q := fun w1 h1 hF1 => Eq.mpr (q_Mo_answer_22.eq_1 _ _ _ _) ⟨fun c => absurd i_m1 c, fun _ => hQ _ w1 h1 hF1⟩
  refine Eq.mpr (p_Mo_answer.eq_1 _ _ _) ⟨fun _ => no _ h1 hF, fun c => ?_⟩
  have hr := h1.rn (Or.inl (by rw [e59]; exact Classical.not_not.mp c))
  have s1 := hr.2.2.2.2.1.1
  refine sa_all 510 1 0 _ _ hr.1 hr.2.2.2.1 (by decide) (by rw [i_0]; omega) (by decide) (fun r w' hI' hF' hS => ?_)
  have h2 := MdI_fr hF' hI' rfl h1
  have hG := hF.tr hF' rfl
  refine Eq.mpr (q_Mo_answer_22.eq_1 _ _ _ _) ⟨fun cr => ?_, fun _ => hQ _ w' h2 hG⟩
  have hS := hS.resolve_left cr
  have b60 := bd_127_60 hr.1
  have b12 := bd_129_12 hI'
  have b30 := bd_129_30 hI'
  have e60 : w'.1 127 60 = (sI w 127 77 0).1 127 60 := (hF' 127 60 rfl).1
  have e7 : ∀ j, w'.1 207 j = (sI w 127 77 0).1 207 j := fun j => (hF' 207 j rfl).1
  have e59' : w'.1 127 59 = (sI w 127 77 0).1 127 59 := (hF' 127 59 rfl).1
  have hr2 : RnX w' := h2.rn (Or.inl (by rw [e59', e59]; exact Classical.not_not.mp c))
  have s0 := hS.1
  have s3 := hS.2.1
  have ho : 0 ≤ (w'.1 207 r.toInt.toNat).toInt := by rw [e7]; exact hS.2.2.1
  have hx : 0 ≤ r.toInt ∧ r.toInt < 502 := by omega
  have hp := pl_of hr2 s0 (by rw [e60]; exact s3) ho
  have ew : Wn w' (w'.1 207 r.toInt.toNat) = 18 := by
    rw [← hS.2.2.2 (by decide)]
    unfold Wn nd1
    rw [e7, (hF' 129 12 rfl).1, (hF' 131 _ rfl).1]
  have hn := (hr2.2.2.1 _ ho hp.2).2.2.1 (Or.inr (Or.inr ew))
  have hF3 : FR lan w (sI w' 211 r.toInt.toNat (vp_nar .boolean (1 : Int32))) := FR.I hG rfl
  have h3 : MdI (sI w' 211 r.toInt.toNat (vp_nar .boolean (1 : Int32))) := MdI_fr (l := [(211, none)]) (FR.I (FR.refl _ w') rfl) (wbd_211 hI' _ (by decide) (by decide)) rfl h2
  refine ⟨hx, hx, Eq.mpr (p_Tx_node1.eq_1 _ _ _) ?_⟩
  have e12 : (sI w' 211 r.toInt.toNat (vp_nar .boolean (1 : Int32))).1 129 12 = w'.1 129 12 := sI_oth _ _ _ _ _ _ (by decide)
  have e132 : ∀ j, (sI w' 211 r.toInt.toNat (vp_nar .boolean (1 : Int32))).2.1 132 j = w'.2.1 132 j := fun j => rfl
  rw [e12]
  simp only [e132]
  have e := nd_ix hI' ho (by omega)
  have en : (((300 : Int32) * (w'.1 129 12)) + (w'.1 207 r.toInt.toNat)).toInt.toNat = nd1 w' (w'.1 207 r.toInt.toNat).toInt := by rw [e]; rfl
  refine ⟨⟨by omega, by omega⟩, ?_⟩
  rw [en]
  exact ⟨hn, hQ _ _ (MdI_fr (l := [(206, none)]) (FR.J (FR.refl _ _) rfl) (bnd_J h3.1) rfl h3) (FR.J hF3 rfl)⟩
