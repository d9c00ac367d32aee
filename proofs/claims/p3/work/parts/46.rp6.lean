def l_Mo_readPlant : Pl := [(127, some 4), (127, some 11), (127, some 21), (127, some 26), (127, some 59), (127, some 85), (127, some 86), (163, none), (164, none), (165, none), (166, none), (167, none), (168, none), (169, none), (170, none), (171, none), (172, none), (173, none), (174, none), (178, none), (179, none), (180, none)]
theorem h_Mo_readPlant {w : MW} {Q : Int32 → MW → Prop} (hI : BND w) (hf_FT : FT w) (hf_HW : HW w) (hf_RP : RP w) (hf_SZ : SZ w) (hQ : ∀ (r : Int32) (w' : MW), BND w' → FR l_Mo_readPlant w w' → FT w' → HW w' → RP w' → SZ w' → (-4023) ≤ r.toInt → r.toInt ≤ 20 → Q r w') : p_Mo_readPlant w Q := by
  refine Eq.mpr (p_Mo_readPlant.eq_1 _ _) ?_
  have hI1 : BND (sI (sI (sI w 127 21 0) 127 85 0) 127 86 0) := wbd_127_86 (wbd_127_85 (wbd_127_21 hI (by decide) (by decide)) (by decide) (by decide)) (by decide) (by decide)
  have hF1 : FR lr1 w (sI (sI (sI w 127 21 0) 127 85 0) 127 86 0) := FR.I (FR.I (FR.I (FR.refl _ w) rfl) rfl) rfl
  have a21 : (sI (sI (sI w 127 21 0) 127 85 0) 127 86 0).1 127 21 = 0 := rfl
  have a85 : (sI (sI (sI w 127 21 0) 127 85 0) 127 86 0).1 127 85 = 0 := rfl
  have a86 : (sI (sI (sI w 127 21 0) 127 85 0) 127 86 0).1 127 86 = 0 := rfl
  generalize (sI (sI (sI w 127 21 0) 127 85 0) 127 86 0) = w1 at *
  refine rp_15 (t := w1) (z := w) (G := ∃ m, TR m w1 0 0 0 (fun j => w1.1 179 j) (fun j => w1.1 180 j)) (fun w6 hI6 hF6 hA6 hG => ?_) (fun r w' hI' hF' q0 q1 => hQ r w' hI' ((FR.refl _ w).tr hF' rfl) (FT_fr hF' rfl hf_FT) (HW_fr hF' rfl hf_HW) (RP_fr hF' rfl hf_RP) (SZ_fr hF' rfl hf_SZ) q0 (by omega)) FU w1 hI1 hF1 (ag_refl w1) (fun h => by rw [a21, a85, a86] at h; exact h) (fu_lt (by rw [a21]; decide))
  have hI7 : BND (sI (sI (sI (sI (sI w6 127 4 0) 127 11 0) 127 26 0) 127 59 4) 127 21 0) := wbd_127_21 (wbd_127_59 (wbd_127_26 (wbd_127_11 (wbd_127_4 hI6 (by decide) (by decide)) (by decide) (by decide)) (by decide) (by decide)) (by decide) (by decide)) (by decide) (by decide)
  have hF7 : FR l_Mo_readPlant w (sI (sI (sI (sI (sI w6 127 4 0) 127 11 0) 127 26 0) 127 59 4) 127 21 0) := FR.I (FR.I (FR.I (FR.I (FR.I ((FR.refl _ w).tr hF6 rfl) rfl) rfl) rfl) rfl) rfl
  have c4 : (sI (sI (sI (sI (sI w6 127 4 0) 127 11 0) 127 26 0) 127 59 4) 127 21 0).1 127 4 = 0 := rfl
  have c11 : (sI (sI (sI (sI (sI w6 127 4 0) 127 11 0) 127 26 0) 127 59 4) 127 21 0).1 127 11 = 0 := rfl
  have c26 : (sI (sI (sI (sI (sI w6 127 4 0) 127 11 0) 127 26 0) 127 59 4) 127 21 0).1 127 26 = 0 := rfl
  have c21 : (sI (sI (sI (sI (sI w6 127 4 0) 127 11 0) 127 26 0) 127 59 4) 127 21 0).1 127 21 = 0 := rfl
  have c22 : (sI (sI (sI (sI (sI w6 127 4 0) 127 11 0) 127 26 0) 127 59 4) 127 21 0).1 127 22 = w6.1 127 22 := rfl
  have c128 : ∀ j, (sI (sI (sI (sI (sI w6 127 4 0) 127 11 0) 127 26 0) 127 59 4) 127 21 0).1 128 j = w6.1 128 j := fun _ => rfl
  generalize (sI (sI (sI (sI (sI w6 127 4 0) 127 11 0) 127 26 0) 127 59 4) 127 21 0) = w7 at *
  have z4 : (w7.1 127 4).toInt = 0 := by rw [c4]; exact i_0
  have z11 : (w7.1 127 11).toInt = 0 := by rw [c11]; exact i_0
  refine rp_90 (t := w1) (z := w7) (fun w10 hI10 hF10 hP10 => ?_) FU w7 hI7 (FR.refl _ w7) ⟨fun j => (c128 j).trans (hA6.1 j), c22.trans hA6.2⟩ ⟨fun j j0 j1 => by omega, fun e e0 e1 => by omega, fun e g e0 e1 => by omega, fun p p0 p1 => by omega⟩ ?_ (fu_lt (by rw [c21]; decide))
  · refine rp_126 (s := w10) (fun w14 hI14 hF14 => ?_) FU 0 w10 hI10 (FR.refl _ w10) (by decide) (by decide) (fu_lt (by decide))
    have hFF : FR l_Mo_readPlant w w14 := (hF7.tr hF10 rfl).tr hF14 rfl
    have e26 : w14.1 127 26 = 0 := ((hF14 127 26 rfl).1.trans (hF10 127 26 rfl).1).trans c26
    have z26 : (w14.1 127 26).toInt = 0 := by rw [e26]; exact i_0
    have b4 := bd_127_4 hI14
    exact hQ _ w14 hI14 hFF (fun k k0 k1 => by omega) ⟨fun k k0 k1 => by omega, fun k l k0 k1 => by omega⟩ (RP_fr hF14 rfl (pi_rp hP10)) (SZ_fr hF14 rfl (pi_sz hP10)) (by omega) b4.2
  · obtain ⟨m, hG⟩ := hG
    refine ⟨m, (fun j => w1.1 179 j), (fun j => w1.1 180 j), ?_, fun j j0 j1 => by omega⟩
    rw [c21, c4, c11]
    exact hG
