/-! the class's run: how a part begins -/
theorem cr_par {a : Int} {s : Int32} {L0 L : Int → Prop} {w0 w : MW} {Q : Int32 → MW → Prop} (h0 : RLz w0) (h : CrT a L0 w0 w L) (as : a ≤ s.toInt) (s1 : 1 ≤ s.toInt) (s2 : s.toInt < pts w0) (hL : L s.toInt) (k : kn w0 s.toInt = 16) (hQ : ∀ (r : Int32) (w' : MW) (L' : Int → Prop), r.toInt = 2 → CrT a L0 w0 w' L' → yG w' s.toInt = 1 → Q r w') : p_Ru_beginPar w s Q := by
  have p := crt_pq h s1 s2
  have sl := crt_sl h
  have g : 0 ≤ s.toInt ∧ s.toInt < 501 := ⟨by omega, p.2.1⟩
  have hf := p.1.2.1
  have b78 := bd_78 h.1.1 s.toInt.toNat
  have ef : (w.1 78 s.toInt.toNat).toInt = pFi w s.toInt := rfl
  refine Eq.mpr (p_Ru_beginPar.eq_1 _ _ _) ⟨g, lv_par9 (L0 := L) h.1.2.1.1 FU _ 0 w L h.1.1 (FR.refl _ w) h.1.2.2.2 (fun _ q => q) (by omega) s1 (by rw [ef]; exact hf) (fun _ _ _ => rfl) (by decide) (by decide) (by rw [i_0]; omega) (by decide) (fun w1 L1 hB hF hv hs hn hg => ?_)⟩
  have F2 : FR [(80, none), (81, none)] w w1 := (FR.refl _ w).tr hF rfl
  have eC : ∀ i, yC w1 i = yC w i := fun i => by unfold yC; rw [(hF 81 _ rfl).1]
  have h1 : CrT a L0 w0 w1 L1 := crt_lv h as F2 ⟨hB, hs, hv, fun i i0 i1 => ⟨hg i i0 (by omega), eC i⟩⟩
  refine cr_in h1 as s1 (hs _ hL) (Or.inl i_m1) (fun c => absurd c (by decide)) (by omega) (fun _ n => ?_) (fun c => by omega) hQ
  have e := hn n
  rw [ef, sl.2.2.1, nxI_eq sl.2.2.2.1] at e
  exact e
theorem crt_J {a : Int} {L0 L : Int → Prop} {w0 w : MW} {k j : Nat} {v : Int64} (h : CrT a L0 w0 w L) (hk : sub [(k, none)] l_Ru_walk = true) (ho : off [(k, none)] lcw = true) : CrT a L0 w0 (sJ w k j v) L := crt_fr h (FR.J (FR.refl [(k, none)] w) (by unfold hit; simp)) (bnd_J h.1.1) ho hk
theorem cr_plain {a : Int} {s b : Int32} {L0 L : Int → Prop} {w0 w : MW} {Q : Int32 → MW → Prop} (h0 : RLz w0) (h : CrT a L0 w0 w L) (as : a ≤ s.toInt) (s1 : 1 ≤ s.toInt) (s2 : s.toInt < pts w0) (hL : L s.toInt) (k35 : ¬ kn w0 s.toInt = 35) (hb : b.toInt = kn w0 s.toInt) (hQ : ∀ (r : Int32) (w' : MW) (L' : Int → Prop), (r.toInt = 2 → yG w' s.toInt = 1) → CrT a L0 w0 w' L' → Q r w') : p_Ru_beginPlain w s b Q := by
  have p := crt_pq h s1 s2
  have sl := crt_sl h
  have b62 := bd_62_1 h.1.1
  have g : 0 ≤ s.toInt ∧ s.toInt < 501 := ⟨by omega, p.2.1⟩
  have g2 : 0 ≤ (w.1 77 s.toInt.toNat).toInt ∧ (w.1 77 s.toInt.toNat).toInt < 301 := by
    have := p.1.1
    unfold pN at this
    omega
  have hI := h.1.1
  have ins : ¬ b.toInt = 16 → p_Ru_goInside w s (w.1 78 s.toInt.toNat) (fun r6 w6 => Q r6 w6) := fun c => cr_inF h0 h as s1 s2 hL k35 (by omega) (sl.2.2.1 s.toInt) (fun r w' L' r2 t g => hQ r w' L' (fun _ => g) t)
  refine Eq.mpr (p_Ru_beginPlain.eq_1 _ _ _ _) ⟨g, fun c => cr_par h0 h as s1 s2 hL (by omega) (fun r w' L' r2 t g => hQ r w' L' (fun _ => g) t), fun c => ⟨fun _ => ⟨g, ins c⟩, fun _ => ⟨fun _ => ⟨g, ins c⟩, fun _ => ⟨fun _ => ⟨g, ins c⟩, fun _ => ⟨fun _ => ⟨g, ins c⟩, fun _ => ⟨fun _ => ⟨g, ins c⟩, fun _ => ⟨fun c22 => ⟨g, ?_⟩, fun _ => ⟨fun _ => ⟨g, ins c⟩, fun _ => ⟨fun _ => ?_, fun _ => ⟨fun _ => ?_, fun _ => ⟨fun _ => ⟨h.1.2.1.2.2.2.2.2.2.2.2.1, g2, ?_⟩, fun _ => ⟨g, ins c⟩⟩⟩⟩⟩⟩⟩⟩⟩⟩⟩⟩
  · exact cr_stand (crt_J h rfl rfl) as hL (by omega) (by omega) (fun r w' L' r0 t => hQ r w' L' (fun q => by omega) t)
  · exact hQ _ _ L (fun q => absurd q (by decide)) (crt_fr (l := [(61, some 4)]) h (FR.I (FR.refl _ w) rfl) (wbd_61_4 hI (by decide) (by decide)) rfl rfl)
  · exact hQ _ _ L (fun q => absurd q (by decide)) (crt_fr (l := [(61, some 18)]) h (FR.I (FR.refl _ w) rfl) (wbd_61_18 hI (by decide) (by decide)) rfl rfl)
  · have S := h.1.2.1.2.2
    refine h_Ac_perform hI S.2.1 S.2.2.1 S.2.2.2.1 S.2.2.2.2.1 S.2.2.2.2.2.1 h.1.2.2.1 S.2.2.2.2.2.2.2.2 S.2.2.2.2.2.2.2.1 (fun r w' hB hF hW r0 r7 => ?_)
    have h2 := crt_perf h hF hB hW
    exact ⟨fun _ => hQ _ _ L (fun q => absurd q (by decide)) h2, fun _ => al_add hB (fun w3 hB3 hF3 => hQ _ _ L (fun q => absurd q (by decide)) (crt_fr h2 hF3 hB3 rfl rfl))⟩
theorem cr_set {a : Int} {n : Int32} {v : Int64} {L0 L : Int → Prop} {w0 w : MW} {Q : MW → Prop} (h : CrT a L0 w0 w L) (n0 : 0 ≤ n.toInt) (n1 : n.toInt < (w.1 62 1).toInt) (hk : (w.1 63 n.toInt.toNat).toInt = 11 ∨ (w.1 63 n.toInt.toNat).toInt = 14 ∨ (w.1 63 n.toInt.toNat).toInt = 22) (hQ : ∀ w', CrT a L0 w0 w' L → (∀ i, yG w' i = yG w i) → Q w') : p_Ru_setValue w n v Q := by
  have b62 := bd_62_1 h.1.1
  have r := h.1.2.1.2.2.2.2.2.2.2.2.1
  have q := h.1.2.1.2.1 n n0 n1 (by omega)
  exact Eq.mpr (p_Ru_setValue.eq_1 _ _ _ _) ⟨r, r, ⟨n0, by omega⟩, ⟨q.1, by omega⟩, hQ _ (crt_J h rfl rfl) (fun i => rfl)⟩
theorem cr_ramp {a : Int} {s : Int32} {v : Int64} {L0 L : Int → Prop} {w0 w : MW} {Q : Int32 → MW → Prop} (h : CrT a L0 w0 w L) (as : a ≤ s.toInt) (s1 : 1 ≤ s.toInt) (s2 : s.toInt < pts w0) (hL : L s.toInt) (k : kn w0 s.toInt = 14) (hQ : ∀ (r : Int32) (w' : MW) (L' : Int → Prop), ¬ r.toInt = 2 → CrT a L0 w0 w' L' → Q r w') : p_Ru_beginRamp w s v Q := by
  have p := crt_pq h s1 s2
  have b62 := bd_62_1 h.1.1
  have g : 0 ≤ s.toInt ∧ s.toInt < 501 := ⟨by omega, p.2.1⟩
  have pn := p.1.1
  have en : (w.1 77 s.toInt.toNat).toInt = pN w s.toInt := rfl
  have g2 : 0 ≤ (w.1 77 s.toInt.toNat).toInt ∧ (w.1 77 s.toInt.toNat).toInt < 301 := by omega
  have b66 := bd_66 h.1.1 ((w.1 77 s.toInt.toNat).toInt.toNat)
  refine Eq.mpr (p_Ru_beginRamp.eq_1 _ _ _ _) ⟨g, h.1.2.1.2.2.2.2.2.2.2.2.1, g2, cr_reckon h b66.1 b66.2 g2.1 (by omega) (fun r4 w4 h4 _ => ru_over (fun r5 _ => ⟨fun _ => ⟨fun _ => ?_, fun _ => ?_⟩, fun _ => hQ _ _ L (by decide) h4⟩))⟩
  · have p4 := crt_pq h4 s1 s2
    have e1 : (w4.1 62 1) = w.1 62 1 := ((crt_sl h4).2.2.2.2.2).trans (crt_sl h).2.2.2.2.2.symm
    have eN : (w4.1 77 s.toInt.toNat).toInt = (w.1 77 s.toInt.toNat).toInt := ((crt_sl h4).2.1 s.toInt).trans ((crt_sl h).2.1 s.toInt).symm
    have k4 : (w4.1 63 (w.1 77 s.toInt.toNat).toInt.toNat).toInt = 14 := by
      rw [← eN]
      exact p4.2.2.2.trans k
    have q := h4.1.2.1.2.1 (w.1 77 s.toInt.toNat) g2.1 (by rw [e1]; omega) (by omega)
    have r3 := h4.1.2.1.2.2.2.2.2.2.2.2.1
    exact ⟨g, g, r3, r3, g2, ⟨q.1, by omega⟩, g, g, cr_stand (crt_J (crt_J (crt_J (crt_J h4 rfl rfl) rfl rfl) rfl rfl) rfl rfl) as hL (by omega) (by omega) (fun r w' L' r0 t => hQ r w' L' (by omega) t)⟩
  · have p4 := crt_pq h4 s1 s2
    have e1 : (w4.1 62 1) = w.1 62 1 := ((crt_sl h4).2.2.2.2.2).trans (crt_sl h).2.2.2.2.2.symm
    have eN : (w4.1 77 s.toInt.toNat).toInt = (w.1 77 s.toInt.toNat).toInt := ((crt_sl h4).2.1 s.toInt).trans ((crt_sl h).2.1 s.toInt).symm
    have k4 : (w4.1 63 (w.1 77 s.toInt.toNat).toInt.toNat).toInt = 14 := by
      rw [← eN]
      exact p4.2.2.2.trans k
    exact cr_set h4 g2.1 (by rw [e1]; omega) (by omega) (fun w' t _ => hQ _ _ L (by decide) t)
theorem cr_247 {a : Int} {s : Int32} {v : Int64} {L0 L : Int → Prop} {w0 w : MW} {Q : Int32 → MW → Prop} (h0 : RLz w0) (h : CrT a L0 w0 w L) (as : a ≤ s.toInt) (s1 : 1 ≤ s.toInt) (s2 : s.toInt < pts w0) (hL : L s.toInt) (k : kn w0 s.toInt = 17 ∨ kn w0 s.toInt = 20) (hQ : ∀ (r : Int32) (w' : MW) (L' : Int → Prop), (r.toInt = 2 → yG w' s.toInt = 1) → CrT a L0 w0 w' L' → Q r w') : q_Ru_beginReckoned_247 s v w Q := by
  have p := crt_pq h s1 s2
  have sl := crt_sl h
  have g : 0 ≤ s.toInt ∧ s.toInt < 501 := ⟨by omega, p.2.1⟩
  have f1 := p.1.2.2.2.1 (by omega)
  have f2 := p.1.2.1
  have z := h.1.2.1.1.1.2
  have ef : (w.1 78 s.toInt.toNat).toInt = pFi w s.toInt := rfl
  refine Eq.mpr (q_Ru_beginReckoned_247.eq_1 _ _ _ _) ⟨fun _ => ⟨g, by omega, cr_inN h0 h as s1 s2 hL k ?_ (fun r w' L' _ t g => hQ r w' L' (fun _ => g) t)⟩, fun _ => ⟨g, cr_inF h0 h as s1 s2 hL (by omega) (by omega) (sl.2.2.1 _) (fun r w' L' _ t g => hQ r w' L' (fun _ => g) t)⟩⟩
  show pNx w (pFi w s.toInt) = _
  rw [sl.2.2.2.1, sl.2.2.1]
theorem cr_reckoned {a : Int} {s b : Int32} {L0 L : Int → Prop} {w0 w : MW} {Q : Int32 → MW → Prop} (h0 : RLz w0) (h : CrT a L0 w0 w L) (as : a ≤ s.toInt) (s1 : 1 ≤ s.toInt) (s2 : s.toInt < pts w0) (hL : L s.toInt) (hb : b.toInt = kn w0 s.toInt) (hk : (11 ≤ b.toInt ∧ b.toInt ≤ 14) ∨ b.toInt = 17 ∨ b.toInt = 19 ∨ b.toInt = 20) (hQ : ∀ (r : Int32) (w' : MW) (L' : Int → Prop), (r.toInt = 2 → yG w' s.toInt = 1) → CrT a L0 w0 w' L' → Q r w') : p_Ru_beginReckoned w s b Q := by
  have p := crt_pq h s1 s2
  have b62 := bd_62_1 h.1.1
  have g : 0 ≤ s.toInt ∧ s.toInt < 501 := ⟨by omega, p.2.1⟩
  have pn := p.1.1
  have en : (w.1 77 s.toInt.toNat).toInt = pN w s.toInt := rfl
  have g2 : 0 ≤ (w.1 77 s.toInt.toNat).toInt ∧ (w.1 77 s.toInt.toNat).toInt < 301 := by omega
  have b65 := bd_65 h.1.1 ((w.1 77 s.toInt.toNat).toInt.toNat)
  have b66 := bd_66 h.1.1 ((w.1 77 s.toInt.toNat).toInt.toNat)
  have r3 := h.1.2.1.2.2.2.2.2.2.2.2.1
  have t6 := (h.1.2.1.2.2.1 (w.1 77 s.toInt.toNat) g2.1 (by omega)).1
  refine Eq.mpr (p_Ru_beginReckoned.eq_1 _ _ _ _) ⟨g, r3, g2, r3, g2, cr_reckon h b65.1 b65.2 b66.1 t6 (fun r6 w6 h6 _ => ru_over (fun r7 _ => ⟨fun _ => ?_, fun _ => hQ _ _ L (fun q => absurd q (by decide)) h6⟩))⟩
  have sl := crt_sl h6
  have e1 : (w6.1 62 1) = w.1 62 1 := (sl.2.2.2.2.2).trans (crt_sl h).2.2.2.2.2.symm
  have eN : (w6.1 77 s.toInt.toNat).toInt = (w.1 77 s.toInt.toNat).toInt := (sl.2.1 s.toInt).trans ((crt_sl h).2.1 s.toInt).symm
  have k6 : (w6.1 63 (w.1 77 s.toInt.toNat).toInt.toNat).toInt = kn w0 s.toInt := by
    rw [← eN]
    exact sl.2.2.2.2.1 s.toInt
  have p6 := crt_pq h6 s1 s2
  have z := h6.1.2.1.1.1.2
  refine ⟨fun c => cr_set h6 g2.1 (by rw [e1]; omega) (by omega) (fun w' t _ => hQ _ _ L (fun q => absurd q (by decide)) t), fun _ => ⟨fun c => ⟨g, g, fun _ => cr_stand (crt_J h6 rfl rfl) as hL (by omega) (by omega) (fun r w' L' r0 t => hQ r w' L' (fun q => by omega) t), fun _ => hQ _ _ L (fun q => absurd q (by decide)) (crt_J h6 rfl rfl)⟩, fun _ => ⟨fun c => ⟨fun _ => cr_stand h6 as hL (by omega) (by omega) (fun r w' L' r0 t => hQ r w' L' (fun q => by omega) t), fun _ => hQ _ _ L (fun q => absurd q (by decide)) h6⟩, fun _ => ⟨fun c => cr_ramp h6 as s1 s2 hL (by omega) (fun r w' L' r0 t => hQ r w' L' (fun q => absurd q r0) t), fun _ => ⟨fun c => by omega, fun _ => ⟨fun c => by omega, fun _ => ⟨fun c => ?_, fun _ => ⟨fun c => by omega, fun _ => ⟨fun c => ?_, fun _ => ?_⟩⟩⟩⟩⟩⟩⟩⟩⟩
  · have f1 := p6.1.2.2.2.1 (by omega)
    have f2 := p6.1.2.1
    have ef : (w6.1 78 s.toInt.toNat).toInt = pFi w6 s.toInt := rfl
    refine ⟨fun _ => ⟨g, by omega, cr_inN h0 h6 as s1 s2 hL (by omega) ?_ (fun r w' L' _ t g => hQ r w' L' (fun _ => g) t)⟩, fun _ => ⟨g, cr_inF h0 h6 as s1 s2 hL (by omega) (by omega) (sl.2.2.1 _) (fun r w' L' _ t g => hQ r w' L' (fun _ => g) t)⟩⟩
    show pNx w6 (pFi w6 s.toInt) = _
    rw [sl.2.2.2.1, sl.2.2.1]
  · exact ⟨g, g, cr_inF h0 (crt_J h6 rfl rfl) as s1 s2 hL (by omega) (by omega) (sl.2.2.1 _) (fun r w' L' _ t g => hQ r w' L' (fun _ => g) t)⟩
  · refine ⟨fun _ => cr_247 h0 h6 as s1 s2 hL (by omega) hQ, fun _ => al_add h6.1.1 (fun w8 hB8 hF8 => cr_247 h0 (crt_fr h6 hF8 hB8 rfl rfl) as s1 s2 hL (by omega) hQ)⟩
theorem cr_rampOn {a : Int} {s : Int32} {v : Int64} {L0 L : Int → Prop} {w0 w : MW} {Q : Int32 → MW → Prop} (h : CrT a L0 w0 w L) (s1 : 1 ≤ s.toInt) (s2 : s.toInt < pts w0) (k : kn w0 s.toInt = 14) (hQ : ∀ (r : Int32) (w' : MW), ¬ r.toInt = 2 → CrT a L0 w0 w' L → Q r w') : p_Ru_rampOn w s v Q := by
  have p := crt_pq h s1 s2
  have g : 0 ≤ s.toInt ∧ s.toInt < 501 := ⟨by omega, p.2.1⟩
  have pn := p.1.1
  have en : (w.1 77 s.toInt.toNat).toInt = pN w s.toInt := rfl
  have k2 : (w.1 63 (w.1 77 s.toInt.toNat).toInt.toNat).toInt = 14 := p.2.2.2.trans k
  have set : ∀ (u : Int64) (r : Int32), ¬ r.toInt = 2 → p_Ru_setValue w (w.1 77 s.toInt.toNat) u (fun w5 => Q r w5) := fun u r hr => cr_set h (by omega) (by omega) (by omega) (fun w' t _ => hQ r w' hr t)
  refine Eq.mpr (p_Ru_rampOn.eq_1 _ _ _ _) ⟨g, fun _ => ⟨g, g, set _ 1 (by decide)⟩, fun _ => ⟨g, fun c => ⟨g, g, g, g, g, ?_⟩, fun _ => ⟨g, g, set _ 1 (by decide)⟩⟩⟩
  refine Eq.mpr (p_Ma_floorDiv.eq_1 _ _ _ _) ⟨?_, fun _ => set _ 0 (by decide), fun _ => ⟨fun _ => set _ 0 (by decide), fun _ => set _ 0 (by decide)⟩⟩
  intro z
  have q := nb_cmp (w.2.1 83 s.toInt.toNat) (1 : Int64)
  have e1 : (1 : Int64).toInt = 1 := by decide
  omega
theorem cr_again {a : Int} {s b : Int32} {L0 L : Int → Prop} {w0 w : MW} {Q : Int32 → MW → Prop} (h : CrT a L0 w0 w L) (s1 : 1 ≤ s.toInt) (s2 : s.toInt < pts w0) (hb : b.toInt = kn w0 s.toInt) (hQ : ∀ (r : Int32) (w' : MW), (r.toInt = 2 → w' = w) → CrT a L0 w0 w' L → Q r w') : p_Ru_lookAgain w s b Q := by
  have p := crt_pq h s1 s2
  have b62 := bd_62_1 h.1.1
  have g : 0 ≤ s.toInt ∧ s.toInt < 501 := ⟨by omega, p.2.1⟩
  have pn := p.1.1
  have en : (w.1 77 s.toInt.toNat).toInt = pN w s.toInt := rfl
  have g2 : 0 ≤ (w.1 77 s.toInt.toNat).toInt ∧ (w.1 77 s.toInt.toNat).toInt < 301 := by omega
  have b65 := bd_65 h.1.1 ((w.1 77 s.toInt.toNat).toInt.toNat)
  have b66 := bd_66 h.1.1 ((w.1 77 s.toInt.toNat).toInt.toNat)
  have r3 := h.1.2.1.2.2.2.2.2.2.2.2.1
  have t6 := (h.1.2.1.2.2.1 (w.1 77 s.toInt.toNat) g2.1 (by omega)).1
  have q0 : ∀ w', CrT a L0 w0 w' L → Q 0 w' := fun w' t => hQ 0 w' (fun q => absurd q (by decide)) t
  have q1 : ∀ w', CrT a L0 w0 w' L → Q 1 w' := fun w' t => hQ 1 w' (fun q => absurd q (by decide)) t
  exact Eq.mpr (p_Ru_lookAgain.eq_1 _ _ _ _) ⟨g, fun _ => ⟨g, fun _ => q0 w h, fun _ => q1 w h⟩, fun _ => ⟨fun _ => ⟨r3, g2, r3, g2, cr_reckon h b65.1 b65.2 b66.1 t6 (fun r6 w6 h6 _ => ⟨fun _ => q0 _ h6, fun _ => q1 _ h6⟩)⟩, fun _ => ⟨fun c => ⟨g, cr_rampOn h s1 s2 (by omega) (fun r w' hr t => hQ r w' (fun q => absurd q hr) t)⟩, fun _ => ⟨fun _ => ⟨g, fun _ => q0 w h, fun _ => q1 w h⟩, fun _ => hQ 2 w (fun _ => rfl) h⟩⟩⟩⟩
