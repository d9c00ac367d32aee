/-! the class's run: steps -/
def lcs : Pl := [(61, some 3), (61, some 5), (62, some 1), (63, none), (64, none), (65, none), (66, none), (77, none), (78, none), (79, none), (58, none), (59, none), (60, none), (8, some 0), (8, some 1), (13, none), (14, none), (15, none), (7, some 0), (47, some 3)]
def lcw : Pl := [(61, some 3), (61, some 5), (62, some 1), (63, none), (64, none), (65, none), (66, none), (77, none), (78, none), (79, none), (58, none), (59, none), (60, none), (8, some 0), (8, some 1), (13, none), (14, none), (15, none), (7, some 0), (47, some 3), (80, none), (81, none), (26, some 1), (32, none), (34, none), (35, none), (36, none)]
def CrS (w : MW) : Prop := RLz w ∧ PA w ∧ PT w ∧ AC w ∧ AZ w ∧ PE w ∧ PJ w ∧ PL w ∧ w.2.2 61 3 = some 62 ∧ w.2.2 7 0 = some 8 ∧ w.2.2 47 3 = some 48
theorem CrS.fr {l : Pl} {w w' : MW} (h : CrS w) (hF : FR l w w') (ho : off l lcs = true) : CrS w' :=
  ⟨h.1.sl (SLy.fr hF (off_mono ho (by decide))), PA_fr hF (off_mono ho (by decide)) h.2.1, PT_fr hF (off_mono ho (by decide)) h.2.2.1, AC_fr hF (off_mono ho (by decide)) h.2.2.2.1, AZ_fr hF (off_mono ho (by decide)) h.2.2.2.2.1, PE_fr hF (off_mono ho (by decide)) h.2.2.2.2.2.1, PJ_fr hF (off_mono ho (by decide)) h.2.2.2.2.2.2.1, PL_fr hF (off_mono ho (by decide)) h.2.2.2.2.2.2.2.1, ((hF 61 3 (off_hit ho rfl)).2.2).trans h.2.2.2.2.2.2.2.2.1, ((hF 7 0 (off_hit ho rfl)).2.2).trans h.2.2.2.2.2.2.2.2.2.1, ((hF 47 3 (off_hit ho rfl)).2.2).trans h.2.2.2.2.2.2.2.2.2.2⟩
def CrX (L : Int → Prop) (w : MW) : Prop := BND w ∧ CrS w ∧ WO w ∧ LvC L w
def CrT (a : Int) (L0 : Int → Prop) (w0 w : MW) (L : Int → Prop) : Prop := CrX L w ∧ FR l_Ru_walk w0 w ∧ (∀ i, L0 i → L i) ∧ (∀ i, 0 ≤ i → i < a → yG w i = yG w0 i)
theorem crt_0 {a : Int} {L : Int → Prop} {w : MW} (h : CrX L w) : CrT a L w w L := ⟨h, FR.refl _ w, fun _ q => q, fun _ _ _ => rfl⟩
theorem crt_sl {a : Int} {L0 L : Int → Prop} {w0 w : MW} (h : CrT a L0 w0 w L) : SLy w0 w := SLy.fr h.2.1 rfl
theorem crt_fr {a : Int} {l : Pl} {L0 L : Int → Prop} {w0 w w' : MW} (h : CrT a L0 w0 w L) (hF : FR l w w') (hB : BND w') (ho : off l lcw = true) (hs : sub l l_Ru_walk = true) : CrT a L0 w0 w' L := by
  refine ⟨⟨hB, h.1.2.1.fr hF (off_mono ho (by decide)), WO_fr hF (off_mono ho (by decide)) h.1.2.2.1, lv_fr h.1.2.2.2 hF (off_mono ho (by decide))⟩, h.2.1.tr hF hs, h.2.2.1, fun i i0 i1 => ?_⟩
  rw [← h.2.2.2 i i0 i1]
  unfold yG
  rw [(hF 80 _ (off_hit ho rfl)).1]
theorem crt_perf {a : Int} {L0 L : Int → Prop} {w0 w w' : MW} (h : CrT a L0 w0 w L) (hF : FR l_Ac_perform w w') (hB : BND w') (hW : WO w') : CrT a L0 w0 w' L := by
  refine ⟨⟨hB, h.1.2.1.fr hF rfl, hW, lv_fr h.1.2.2.2 hF rfl⟩, h.2.1.tr hF rfl, h.2.2.1, fun i i0 i1 => ?_⟩
  rw [← h.2.2.2 i i0 i1]
  unfold yG
  rw [(hF 80 _ rfl).1]
theorem crt_lv {a s : Int} {L0 L L' : Int → Prop} {w0 w w' : MW} (h : CrT a L0 w0 w L) (as : a ≤ s) (hF : FR [(80, none), (81, none)] w w') (t : LvS s L w w' L') : CrT a L0 w0 w' L' := by
  refine ⟨⟨t.1, h.1.2.1.fr hF rfl, WO_fr hF rfl h.1.2.2.1, t.2.2.1⟩, h.2.1.tr hF rfl, fun i q => t.2.1 i (h.2.2.1 i q), fun i i0 i1 => ?_⟩
  rw [← h.2.2.2 i i0 i1]
  exact (t.2.2.2 i i0 (by omega)).1
theorem crt_tr {a b : Int} {L0 L L' : Int → Prop} {w0 w w' : MW} (h : CrT a L0 w0 w L) (ab : a ≤ b) (t : CrT b L w w' L') : CrT a L0 w0 w' L' := by
  refine ⟨t.1, h.2.1.tr t.2.1 rfl, fun i q => t.2.2.1 i (h.2.2.1 i q), fun i i0 i1 => ?_⟩
  rw [← h.2.2.2 i i0 i1]
  exact t.2.2.2 i i0 (by omega)
theorem crt_le {a b : Int} {L0 L : Int → Prop} {w0 w : MW} (h : CrT a L0 w0 w L) (ab : b ≤ a) : CrT b L0 w0 w L := ⟨h.1, h.2.1, h.2.2.1, fun i i0 i1 => h.2.2.2 i i0 (by omega)⟩
def lal : Pl := [(3, some 0), (4, none), (5, none), (6, none)]
theorem al_add {w : MW} {a b c : Int32} {Q : MW → Prop} (hI : BND w) (hQ : ∀ w', BND w' → FR lal w w' → Q w') : p_Al_add w a b c Q := by
  refine Eq.mpr (p_Al_add.eq_1 _ _ _ _ _) ⟨fun _ => hQ w hI (FR.refl _ w), fun c2 => ?_⟩
  have b3 := bd_3_0 hI
  have g : 0 ≤ (w.1 3 0).toInt ∧ (w.1 3 0).toInt < 200 := by omega
  have e := ti_add2 (Eq.refl (w.1 3 0).toInt) i_1 (by omega) (by omega)
  exact ⟨g, g, g, hQ _ (wbd_3_0 (wbd_6 (wbd_5 (wbd_4 hI _) _) _) (by omega) (by omega)) (FR.I (FR.I (FR.I (FR.I (FR.refl _ w) rfl) rfl) rfl) rfl)⟩
theorem ru_fault {w : MW} {a b : Int32} {Q : MW → Prop} (hI : BND w) (hQ : ∀ w', BND w' → FR l_Ru_reckon w w' → Q w') : p_Ru_fault w a b Q := by
  refine Eq.mpr (p_Ru_fault.eq_1 _ _ _ _) (al_add hI (fun w' hB hF => hQ _ (wbd_61_4 hB (by decide) (by decide)) (FR.I ((FR.refl _ w).tr hF rfl) rfl)))
theorem ru_over {w : MW} {Q : Int32 → MW → Prop} (hQ : ∀ r : Int32, (r.toInt = 0 ∨ r.toInt = 1) → Q r w) : p_Ru_isOver w Q := Eq.mpr (p_Ru_isOver.eq_1 _ _) ⟨fun _ => hQ 0 (Or.inl i_0), fun _ => hQ 1 (Or.inr i_1)⟩
/-- what is known of a part -/
theorem crt_pq {a : Int} {L0 L : Int → Prop} {w0 w : MW} (h : CrT a L0 w0 w L) {s : Int} (s1 : 1 ≤ s) (s2 : s < pts w0) : PQx w s ∧ s < 501 ∧ pts w = pts w0 ∧ kn w s = kn w0 s := by
  have e := (crt_sl h).1
  have q := h.1.2.1.1
  exact ⟨q.2.2.2 s s1 (by omega), by have := q.1.2; omega, e, (crt_sl h).2.2.2.2.1 s⟩
theorem cr_may {a : Int} {s : Int32} {L0 L : Int → Prop} {w0 w : MW} {Q : Int32 → MW → Prop} (h : CrT a L0 w0 w L) (s1 : 1 ≤ s.toInt) (s2 : s.toInt < pts w0) (hQ : ∀ (r : Int32) (w' : MW), CrT a L0 w0 w' L → yG w' s.toInt = yG w s.toInt → Q r w') : p_Ru_mayBegin w s Q := by
  have p := crt_pq h s1 s2
  have b62 := bd_62_1 h.1.1
  have g : 0 ≤ s.toInt ∧ s.toInt < 501 := ⟨by omega, p.2.1⟩
  have g2 : 0 ≤ (w.1 77 s.toInt.toNat).toInt ∧ (w.1 77 s.toInt.toNat).toInt < 301 := by
    have := p.1.1
    unfold pN at this
    omega
  have hI := h.1.1
  have fin : ∀ (l : Pl) (r : Int32) (w' : MW), BND w' → FR l w w' → off l lcw = true → sub l l_Ru_walk = true → Q r w' := fun l r w' hB hF ho hs => hQ r w' (crt_fr h hF hB ho hs) (by unfold yG; rw [(hF 80 _ (off_hit ho rfl)).1])
  have flt : p_Ru_fault w 2 (w.1 77 s.toInt.toNat) (fun w7 => Q 0 w7) := ru_fault hI (fun w' hB hF => fin _ 0 w' hB hF rfl rfl)
  have b19 := bd_61_19 hI
  have b20 := bd_61_20 hI
  have go : ∀ y : Int32, (y.toInt = 0 ∨ (w.1 61 20).toInt < 10) → ¬ (1000 ≤ (w.1 61 19).toInt) → q_Ru_mayBegin_61 y w Q := fun y hy c => by
    have e19 := ti_add2 (Eq.refl (w.1 61 19).toInt) i_1 (by omega) (by omega)
    have e20 := ti_add2 (Eq.refl (w.1 61 20).toInt) i_0 (by omega) (by omega)
    have e21 := ti_add2 (Eq.refl (w.1 61 20).toInt) i_1 (by omega) (by omega)
    have B1 := wbd_61_19 hI (v := (w.1 61 19) + 1) (by omega) (by omega)
    refine Eq.mpr (q_Ru_mayBegin_61.eq_1 _ _ _) ⟨fun _ => fin [(61, some 19), (61, some 20)] 1 _ (wbd_61_20 B1 (by omega) (by omega)) (FR.I (FR.I (FR.refl _ w) rfl) rfl) rfl rfl, fun c2 => fin [(61, some 19), (61, some 20)] 1 _ (wbd_61_20 B1 (by omega) (by omega)) (FR.I (FR.I (FR.refl _ w) rfl) rfl) rfl rfl⟩
  have go24 : ∀ y : Int32, q_Ru_mayBegin_24 s y w Q := fun y => by
    refine Eq.mpr (q_Ru_mayBegin_24.eq_1 _ _ _ _) ⟨fun _ => ⟨g, flt⟩, fun c => ⟨fun y0 => go y (Or.inl y0) c, fun _ => ⟨fun c2 => go y (Or.inr c2) c, fun _ => ⟨g, flt⟩⟩⟩⟩
  exact Eq.mpr (p_Ru_mayBegin.eq_1 _ _ _) ⟨h.1.2.1.2.2.2.2.2.2.2.2.1, g, g2, fun _ => go24 0, fun _ => go24 1⟩
theorem cr_reckon {a : Int} {x y : Int32} {L0 L : Int → Prop} {w0 w : MW} {Q : Int64 → MW → Prop} (h : CrT a L0 w0 w L) (x0 : 0 ≤ x.toInt) (x1 : x.toInt ≤ 301) (y0 : 0 ≤ y.toInt) (y1 : y.toInt ≤ (w.1 62 1).toInt) (hQ : ∀ (r : Int64) (w' : MW), CrT a L0 w0 w' L → (∀ i, yG w' i = yG w i) → Q r w') : p_Ru_reckon w x y Q := by
  have b62 := bd_62_1 h.1.1
  exact h_Ru_reckon h.1.1 h.1.2.1.2.1 h.1.2.1.2.2.2.2.2.2.2.2.1 x0 x1 y0 (by omega) y1 (fun r w' hB hF => hQ r w' (crt_fr h hF hB rfl rfl) (fun i => by unfold yG; rw [(hF 80 _ rfl).1]))
theorem cr_in {a : Int} {s c : Int32} {L0 L : Int → Prop} {w0 w : MW} {Q : Int32 → MW → Prop} (h : CrT a L0 w0 w L) (as : a ≤ s.toInt) (s1 : 1 ≤ s.toInt) (hL : L s.toInt) (hc : c.toInt = -1 ∨ (s.toInt < c.toInt ∧ c.toInt < pts w0)) (hr : 0 ≤ c.toInt → kn w0 c.toInt = 35) (k35 : ¬ kn w0 s.toInt = 35) (hP : kn w0 s.toInt = 16 → ∀ n, nxI w0 n (pFi w0 s.toInt) = -1 ∨ L (nxI w0 n (pFi w0 s.toInt))) (h19 : kn w0 s.toInt = 19 → 0 ≤ c.toInt ∧ c.toInt = pFi w0 s.toInt) (hQ : ∀ (r : Int32) (w' : MW) (L' : Int → Prop), r.toInt = 2 → CrT a L0 w0 w' L' → yG w' s.toInt = 1 → Q r w') : p_Ru_goInside w s c Q := by
  have s' := crt_sl h
  refine lv_inside h.1.1 h.1.2.2.2 hL (by rw [s'.1]; exact hc) (fun c0 => ⟨fun q => ?_, fun _ _ => ?_⟩) (h.1.2.1.1.1.2) (fun _ k n => ?_) (fun _ k => ?_) (fun r w' L' r2 f t g => hQ r w' L' r2 (crt_lv h as f t) g)
  · rw [s'.2.2.2.2.1] at q
    omega
  · rw [s'.2.2.2.2.1]
    exact hr c0
  · rw [s'.2.2.2.2.1] at k
    rw [s'.2.2.1, nxI_eq s'.2.2.2.1]
    exact hP k n
  · rw [s'.2.2.2.2.1] at k
    rw [s'.2.2.1]
    exact h19 k
/-- goInside with the first block -/
theorem cr_inF {a : Int} {s c : Int32} {L0 L : Int → Prop} {w0 w : MW} {Q : Int32 → MW → Prop} (h0 : RLz w0) (h : CrT a L0 w0 w L) (as : a ≤ s.toInt) (s1 : 1 ≤ s.toInt) (s2 : s.toInt < pts w0) (hL : L s.toInt) (k35 : ¬ kn w0 s.toInt = 35) (k16 : ¬ kn w0 s.toInt = 16) (hc : c.toInt = pFi w0 s.toInt) (hQ : ∀ (r : Int32) (w' : MW) (L' : Int → Prop), r.toInt = 2 → CrT a L0 w0 w' L' → yG w' s.toInt = 1 → Q r w') : p_Ru_goInside w s c Q := by
  have q := h0.2.2.2 _ s1 s2
  refine cr_in h as s1 hL (by rw [hc]; exact q.2.1) (fun c0 => ?_) k35 (fun k => absurd k k16) (fun k => ?_) hQ
  · rw [hc] at c0 ⊢
    exact (q.2.2.2.2.1 c0).2 k35
  · have := q.2.2.2.1 (by omega)
    exact ⟨by omega, hc⟩
/-- goInside with the second block -/
theorem cr_inN {a : Int} {s c : Int32} {L0 L : Int → Prop} {w0 w : MW} {Q : Int32 → MW → Prop} (h0 : RLz w0) (h : CrT a L0 w0 w L) (as : a ≤ s.toInt) (s1 : 1 ≤ s.toInt) (s2 : s.toInt < pts w0) (hL : L s.toInt) (k : kn w0 s.toInt = 17 ∨ kn w0 s.toInt = 20) (hc : c.toInt = pNx w0 (pFi w0 s.toInt)) (hQ : ∀ (r : Int32) (w' : MW) (L' : Int → Prop), r.toInt = 2 → CrT a L0 w0 w' L' → yG w' s.toInt = 1 → Q r w') : p_Ru_goInside w s c Q := by
  have q := h0.2.2.2 _ s1 s2
  have f1 := q.2.2.2.1 (by omega)
  have f2 := q.2.1
  have qf := h0.2.2.2 _ f1 (by omega)
  have kf := (q.2.2.2.2.1 (by omega)).2 (by omega)
  have n2 := qf.2.2.1
  refine cr_in h as s1 hL (by rw [hc]; omega) (fun c0 => ?_) (by omega) (fun k2 => by omega) (fun k2 => by omega) hQ
  rw [hc] at c0 ⊢
  exact (qf.2.2.2.2.2 c0).2 kf
theorem cr_stand {a : Int} {s : Int32} {L0 L : Int → Prop} {w0 w : MW} {Q : Int32 → MW → Prop} (h : CrT a L0 w0 w L) (as : a ≤ s.toInt) (hL : L s.toInt) (k16 : ¬ kn w0 s.toInt = 16) (k19 : ¬ kn w0 s.toInt = 19) (hQ : ∀ (r : Int32) (w' : MW) (L' : Int → Prop), r.toInt = 0 → CrT a L0 w0 w' L' → Q r w') : p_Ru_stand w s Q := by
  have s' := crt_sl h
  exact lv_stand h.1.1 h.1.2.2.2 hL h.1.2.1.1.1.2 (by rw [s'.2.2.2.2.1]; exact k16) (by rw [s'.2.2.2.2.1]; exact k19) (fun r w' L' r0 f t => hQ r w' L' r0 (crt_lv h as f t))
