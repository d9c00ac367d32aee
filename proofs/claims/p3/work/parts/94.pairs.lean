/-! a call of the law on both sides -/
theorem tc_mono {d μ : Nat} {as : List Value} {w : MW} {Q Q' : Option Value → MW → Prop} (h : Tc d μ as w Q) (k : ∀ v w', Q v w' → Q' v w') : Tc d μ as w Q' := by
  obtain ⟨v, w', e, q⟩ := h
  exact ⟨v, w', e, k v w' q⟩
/-- both sides between two calls, with what they share -/
def LK (w : MW) : Prop := LI w ∧ w.1 1 1 = w.1 127 1 ∧ w.1 7 1 = w.1 127 78 ∧ MM w
theorem cv_second {w : MW} {Q : Int32 → MW → Prop} (h : CI w) (hQ : ∀ r w', CI w' → FR [] w w' → r = w.1 7 1 → Q r w') : p_Bh_second w Q := Eq.mpr (p_Bh_second.eq_1 _ _) (hQ _ w h (FR.refl _ w) rfl)
theorem mv_second {w : MW} {Q : Int32 → MW → Prop} (h : MdJ w) (hQ : ∀ r w', MdJ w' → FR [] w w' → r = w.1 127 78 → Q r w') : p_Mo_second w Q := Eq.mpr (p_Mo_second.eq_1 _ _) (hQ _ w h (FR.refl _ w) rfl)
theorem lk_of {l l' : Pl} {w w1 w2 : MW} (r1 : w.1 1 1 = w.1 127 1) (r2 : w.1 7 1 = w.1 127 78) (hm : MM w) (f : FX l w w1) (m : FR l' w1 w2) (hl : off l [(1, some 1), (7, some 1), (127, some 1), (127, some 78), (22, none), (175, none)] = true) (hl' : off l' [(1, some 1), (7, some 1), (127, some 1), (127, some 78), (22, none), (175, none)] = true) : w2.1 1 1 = w2.1 127 1 ∧ w2.1 7 1 = w2.1 127 78 ∧ MM w2 := by
  have g : ∀ k j, hit [(1, some 1), (7, some 1), (127, some 1), (127, some 78), (22, none), (175, none)] k j = true → sP k = k → sQ k = k → sN k = k → w2.1 k j = w.1 k j := fun k j hk s1 s2 s3 => ((m k j (off_hit hl' hk)).1).trans (f k j s1 s2 s3 (off_hit hl hk)).1
  rw [g 1 1 rfl rfl rfl rfl, g 7 1 rfl rfl rfl rfl, g 127 1 rfl rfl rfl rfl, g 127 78 rfl rfl rfl rfl]
  refine ⟨r1, r2, fun i j i1 i2 j1 j2 => ?_⟩
  rw [g 22 i rfl rfl rfl rfl, g 175 (16 * i + j) rfl rfl rfl rfl]
  exact hm i j i1 i2 j1 j2
theorem mm_of {l l' : Pl} {w w1 w2 : MW} (hm : MM w) (f : FX l w w1) (m : FR l' w1 w2) (hl : off l [(22, none), (175, none)] = true) (hl' : off l' [(22, none), (175, none)] = true) : MM w2 := by
  intro i j i1 i2 j1 j2
  rw [(m 22 i (off_hit hl' rfl)).1, (f 22 i rfl rfl rfl (off_hit hl rfl)).1, (m 175 (16 * i + j) (off_hit hl' rfl)).1, (f 175 (16 * i + j) rfl rfl rfl (off_hit hl rfl)).1]
  exact hm i j i1 i2 j1 j2
theorem pr_feed {w : MW} {a : Int32} {b : Int32} {c : Int32} {d : Int32} {g : Int32} (h : LK w) : Tc 2000 0 [.ref 0, .int a, .int b, .int c, .int d, .int g] w (RI fun r w1 => Tc 2000 36 [.ref 127, .int a, .int b, .int c, .int d, .int g] w1 (RI fun r' w2 => LK w2 ∧ r = r')) := by
  obtain ⟨⟨⟨x, y, z, hc⟩, hM⟩, r1, r2, hm⟩ := h
  refine tc_mono (tc_3 (a := x) (b := y) (c := z) (w := w) rfl rfl rfl ri_n (dm_Bh_feed (d := 1999) (w := S3 x y z w) (Q := fun r w' => CIs w' ∧ FR l_Bh_feed (S3 x y z w) w' ∧ FdV ((S3 x y z w).1 1 1) (w'.1 1 1) r) (cv_feed hc (fun r w' h' hF kk => ⟨Or.inl h', hF, kk⟩)))) (fun v w1 hv => ?_)
  obtain ⟨r, e, q1, q2, k1⟩ := hv
  have l1 : LI w1 := li_cls hM q1 q2 rfl
  have f1 := fx_of q2
  rw [(S3_at rfl rfl rfl).1, (S3_at rfl rfl rfl).1, r1, ← (f1 127 1 rfl rfl rfl rfl).1] at k1
  refine ⟨r, e, ?_⟩
  refine tc_mono (dm_Mo_feed (d := 2000) (w := w1) (Q := fun r' w2 => MdJ w2 ∧ FR l_Mo_feed w1 w2 ∧ FdV (w1.1 127 1) (w2.1 127 1) r') (mv_feed l1.2 (fun r' w2 h2 hF kk => ⟨h2, hF, kk⟩))) (fun v2 w2 hv2 => ?_)
  obtain ⟨r', e', m1, m2, k2⟩ := hv2
  exact ⟨r', e', ⟨li_ref l1.1 m1 m2 rfl, ⟨(((m2 1 1 rfl).1).trans (fd_eq k1 k2).1), (((m2 7 1 rfl).1).trans (f1 7 1 rfl rfl rfl rfl).1).trans (r2.trans (((m2 127 78 rfl).1).trans (f1 127 78 rfl rfl rfl rfl).1).symm), mm_of hm f1 m2 rfl rfl⟩⟩, (fd_eq k1 k2).2⟩
set_option maxRecDepth 20000 in
theorem pr_end {w : MW} {a : Int32} {b : Int32} (h : LK w) : Tc 2000 1 [.ref 0, .int a, .int b] w (RI fun r w1 => Tc 2000 37 [.ref 127, .int a, .int b] w1 (RI fun r' w2 => LK w2 ∧ True)) := by
  obtain ⟨⟨⟨x, y, z, hc⟩, hM⟩, r1, r2, hm⟩ := h
  refine tc_mono (tc_3 (a := x) (b := y) (c := z) (w := w) rfl rfl rfl ri_n (dm_Bh_end (d := 1195) (w := S3 x y z w) (Q := fun r w' => CIs w' ∧ FR ((1, some 1) :: lBE) (S3 x y z w) w' ∧ w'.1 1 1 = 0) (ci_end hc (fun r w' h' hF => ⟨h', FR.tr (FR.I (FR.refl _ _) rfl : FR ((1, some 1) :: lBE) (S3 x y z w) (sI (S3 x y z w) 1 1 0)) hF rfl, ((hF 1 1 rfl).1).trans (sI_same _ _ _ _)⟩)))) (fun v w1 hv => ?_)
  obtain ⟨r, e, q1, q2, k1⟩ := hv
  have l1 : LI w1 := li_cls hM q1 q2 rfl
  have f1 := fx_of q2
  rw [(S3_at rfl rfl rfl).1] at k1
  refine ⟨r, e, ?_⟩
  refine tc_mono (dm_Mo_end (d := 1192) (w := w1) (Q := fun r' w2 => MdJ w2 ∧ FR ((127, some 1) :: lme) w1 w2 ∧ w2.1 127 1 = 0) (mf_end l1.2 (fun r' w2 h2 hF => ⟨h2, FR.tr (FR.I (FR.refl _ _) rfl : FR ((127, some 1) :: lme) w1 (sI w1 127 1 0)) hF rfl, ((hF 127 1 rfl).1).trans (sI_same _ _ _ _)⟩))) (fun v2 w2 hv2 => ?_)
  obtain ⟨r', e', m1, m2, k2⟩ := hv2
  exact ⟨r', e', ⟨li_ref l1.1 m1 m2 rfl, ⟨((m2 1 1 rfl).1).trans (k1.trans k2.symm), (((m2 7 1 rfl).1).trans (f1 7 1 rfl rfl rfl rfl).1).trans (r2.trans (((m2 127 78 rfl).1).trans (f1 127 78 rfl rfl rfl rfl).1).symm), mm_of hm f1 m2 rfl rfl⟩⟩, trivial⟩
theorem pr_fill {w : MW} {a : Int32} {b : Int32} {c : Int64} (h : LK w) : Tc 2000 5 [.ref 0, .int a, .int b, .long c] w (RZ fun r w1 => Tc 2000 84 [.ref 127, .int a, .int b, .long c] w1 (RZ fun r' w2 => LK w2 ∧ True)) := by
  obtain ⟨⟨⟨x, y, z, hc⟩, hM⟩, r1, r2, hm⟩ := h
  refine tc_mono (tc_3 (a := x) (b := y) (c := z) (w := w) rfl rfl rfl rz_n (dm_Bh_fill (d := 1996) (w := S3 x y z w) (Q := fun r w' => CIs w' ∧ FR l_Bh_fill (S3 x y z w) w') (ci_fill hc (fun r w' h' hF => ⟨Or.inl h', hF⟩)))) (fun v w1 hv => ?_)
  obtain ⟨r, e, zz, q1, q2⟩ := hv
  have l1 : LI w1 := li_cls hM q1 q2 rfl
  have f1 := fx_of q2
  refine ⟨r, e, zz, ?_⟩
  refine tc_mono (dm_Mo_fill (d := 1996) (w := w1) (Q := fun r' w2 => MdJ w2 ∧ FR l_Mo_fill w1 w2) (mf_fill l1.2 (fun r' w2 h2 hF => ⟨h2, hF⟩))) (fun v2 w2 hv2 => ?_)
  obtain ⟨r', e', zz2, m1, m2⟩ := hv2
  exact ⟨r', e', zz2, ⟨li_ref l1.1 m1 m2 rfl, lk_of r1 r2 hm f1 m2 rfl rfl⟩, trivial⟩
theorem pr_may {w : MW} {a : Int32} {b : Int32} (h : LK w) : Tc 2000 7 [.ref 0, .int a, .int b] w (RZ fun r w1 => Tc 2000 85 [.ref 127, .int a, .int b] w1 (RZ fun r' w2 => LK w2 ∧ r = r')) := by
  obtain ⟨⟨⟨x, y, z, hc⟩, hM⟩, r1, r2, hm⟩ := h
  refine tc_mono (tc_3 (a := x) (b := y) (c := z) (w := w) rfl rfl rfl rz_n (dm_Bh_may (d := 1999) (w := S3 x y z w) (Q := fun r w' => CIs w' ∧ FR l_Bh_may (S3 x y z w) w' ∧ VL (CMy (S3 x y z w) a b) r ∧ ((¬ CMy (S3 x y z w) a b ∧ w' = S3 x y z w) ∨ (CMy (S3 x y z w) a b ∧ MyC (S3 x y z w) w' a b))) (cv_may hc (fun r w' h' hF kk kb => ⟨Or.inl h', hF, kk, kb⟩)))) (fun v w1 hv => ?_)
  obtain ⟨r, e, zz, q1, q2, k1, k1b⟩ := hv
  have l1 : LI w1 := li_cls hM q1 q2 rfl
  have f1 := fx_of q2
  have s22 : (S3 x y z w).1 22 = w.1 22 := (S3_at rfl rfl rfl).1
  have s22b : (S3 x y z w1).1 22 = w1.1 22 := (S3_at rfl rfl rfl).1
  have cE : CMy (S3 x y z w) a b = CMy w a b := by unfold CMy; rw [s22]
  have mE : MyC (S3 x y z w) (S3 x y z w1) a b = MyC w w1 a b := by unfold MyC; rw [s22, s22b]
  rw [cE] at k1
  rw [cE, mE] at k1b
  have e175 : w1.1 175 = w.1 175 := funext (fun j => (f1 175 j rfl rfl rfl rfl).1)
  have dE : CMm w1 a b = CMm w a b := by unfold CMm; rw [e175]
  have nE : ∀ w2, MyM w1 w2 a b = MyM w w2 a b := fun w2 => by unfold MyM; rw [e175]
  have h1 : (¬ CMy w a b ∧ w1.1 22 = w.1 22) ∨ (CMy w a b ∧ MyC w w1 a b) := by
    rcases k1b with ⟨n1, e⟩ | q
    · refine Or.inl ⟨n1, ?_⟩
      rw [← s22, ← s22b, e]
    · exact Or.inr q
  refine ⟨r, e, zz, ?_⟩
  refine tc_mono (dm_Mo_may (d := 2000) (w := w1) (Q := fun r' w2 => MdJ w2 ∧ FR l_Mo_may w1 w2 ∧ VL (CMm w1 a b) r' ∧ ((¬ CMm w1 a b ∧ w2 = w1) ∨ (CMm w1 a b ∧ MyM w1 w2 a b))) (mv_may l1.2 (fun r' w2 h2 hF kk kb => ⟨h2, hF, kk, kb⟩))) (fun v2 w2 hv2 => ?_)
  obtain ⟨r', e', zz2, m1, m2, k2, k2b⟩ := hv2
  rw [dE] at k2
  rw [dE, nE] at k2b
  have h2 : (¬ CMm w a b ∧ w2.1 175 = w.1 175) ∨ (CMm w a b ∧ MyM w w2 a b) := by
    rcases k2b with ⟨n1, e⟩ | q
    · refine Or.inl ⟨n1, ?_⟩
      rw [e, e175]
    · exact Or.inr q
  exact ⟨r', e', zz2, ⟨li_ref l1.1 m1 m2 rfl, ⟨(((m2 1 1 rfl).1).trans (f1 1 1 rfl rfl rfl rfl).1).trans (r1.trans (((m2 127 1 rfl).1).trans (f1 127 1 rfl rfl rfl rfl).1).symm), (((m2 7 1 rfl).1).trans (f1 7 1 rfl rfl rfl rfl).1).trans (r2.trans (((m2 127 78 rfl).1).trans (f1 127 78 rfl rfl rfl rfl).1).symm), mm_pair hm h1 h2 (funext (fun j => (m2 22 j rfl).1))⟩⟩, vl_eq k1 (by rw [propext (cm_iff hm a b)]; exact k2)⟩
theorem pr_need {w : MW} {a : Int32} {b : Int32} {c : Int32} (h : LK w) : Tc 2000 8 [.ref 0, .int a, .int b, .int c] w (RZ fun r w1 => Tc 2000 86 [.ref 127, .int a, .int b, .int c] w1 (RZ fun r' w2 => LK w2 ∧ r = r')) := by
  obtain ⟨⟨⟨x, y, z, hc⟩, hM⟩, r1, r2, hm⟩ := h
  refine tc_mono (tc_3 (a := x) (b := y) (c := z) (w := w) rfl rfl rfl rz_n (dm_Bh_need (d := 1999) (w := S3 x y z w) (Q := fun r w' => CIs w' ∧ FR l_Bh_need (S3 x y z w) w' ∧ VL (CN a b c) r) (cv_need hc (fun r w' h' hF kk => ⟨Or.inl h', hF, kk⟩)))) (fun v w1 hv => ?_)
  obtain ⟨r, e, zz, q1, q2, k1⟩ := hv
  have l1 : LI w1 := li_cls hM q1 q2 rfl
  have f1 := fx_of q2
  refine ⟨r, e, zz, ?_⟩
  refine tc_mono (dm_Mo_need (d := 2000) (w := w1) (Q := fun r' w2 => MdJ w2 ∧ FR l_Mo_need w1 w2 ∧ VL (CN a b c) r') (mv_need l1.2 (fun r' w2 h2 hF kk => ⟨h2, hF, kk⟩))) (fun v2 w2 hv2 => ?_)
  obtain ⟨r', e', zz2, m1, m2, k2⟩ := hv2
  exact ⟨r', e', zz2, ⟨li_ref l1.1 m1 m2 rfl, lk_of r1 r2 hm f1 m2 rfl rfl⟩, vl_eq k1 k2⟩
theorem pr_lasts {w : MW} {a : Int32} {b : Int32} (h : LK w) : Tc 2000 9 [.ref 0, .int a, .int b] w (RZ fun r w1 => Tc 2000 87 [.ref 127, .int a, .int b] w1 (RZ fun r' w2 => LK w2 ∧ r = r')) := by
  obtain ⟨⟨⟨x, y, z, hc⟩, hM⟩, r1, r2, hm⟩ := h
  refine tc_mono (tc_3 (a := x) (b := y) (c := z) (w := w) rfl rfl rfl rz_n (dm_Bh_lasts (d := 2000) (w := S3 x y z w) (Q := fun r w' => CIs w' ∧ FR l_Bh_lasts (S3 x y z w) w' ∧ VL (CLs a b) r) (cv_lasts hc (fun r w' h' hF kk => ⟨Or.inl h', hF, kk⟩)))) (fun v w1 hv => ?_)
  obtain ⟨r, e, zz, q1, q2, k1⟩ := hv
  have l1 : LI w1 := li_cls hM q1 q2 rfl
  have f1 := fx_of q2
  refine ⟨r, e, zz, ?_⟩
  refine tc_mono (dm_Mo_lasts (d := 2000) (w := w1) (Q := fun r' w2 => MdJ w2 ∧ FR l_Mo_lasts w1 w2 ∧ VL (CLs a b) r') (mv_lasts l1.2 (fun r' w2 h2 hF kk => ⟨h2, hF, kk⟩))) (fun v2 w2 hv2 => ?_)
  obtain ⟨r', e', zz2, m1, m2, k2⟩ := hv2
  exact ⟨r', e', zz2, ⟨li_ref l1.1 m1 m2 rfl, lk_of r1 r2 hm f1 m2 rfl rfl⟩, vl_eq k1 k2⟩
theorem pr_sense {w : MW} {a : Int32} {b : Int32} {c : Int32} (h : LK w) : Tc 2000 10 [.ref 0, .int a, .int b, .int c] w (RZ fun r w1 => Tc 2000 93 [.ref 127, .int a, .int b, .int c] w1 (RZ fun r' w2 => LK w2 ∧ True)) := by
  obtain ⟨⟨⟨x, y, z, hc⟩, hM⟩, r1, r2, hm⟩ := h
  refine tc_mono (tc_3 (a := x) (b := y) (c := z) (w := w) rfl rfl rfl rz_n (dm_Bh_sense (d := 1999) (w := S3 x y z w) (Q := fun r w' => CIs w' ∧ FR l_Bh_sense (S3 x y z w) w') (ci_sense hc (fun r w' h' hF => ⟨Or.inl h', hF⟩)))) (fun v w1 hv => ?_)
  obtain ⟨r, e, zz, q1, q2⟩ := hv
  have l1 : LI w1 := li_cls hM q1 q2 rfl
  have f1 := fx_of q2
  refine ⟨r, e, zz, ?_⟩
  refine tc_mono (dm_Mo_sense (d := 1999) (w := w1) (Q := fun r' w2 => MdJ w2 ∧ FR l_Mo_sense w1 w2) (mf_sense l1.2 (fun r' w2 h2 hF => ⟨h2, hF⟩))) (fun v2 w2 hv2 => ?_)
  obtain ⟨r', e', zz2, m1, m2⟩ := hv2
  exact ⟨r', e', zz2, ⟨li_ref l1.1 m1 m2 rfl, lk_of r1 r2 hm f1 m2 rfl rfl⟩, trivial⟩
theorem pr_watch {w : MW} {a : Int32} {b : Int32} {c : Int32} {d : Int64} (h : LK w) : Tc 2000 11 [.ref 0, .int a, .int b, .int c, .long d] w (RZ fun r w1 => Tc 2000 94 [.ref 127, .int a, .int b, .int c, .long d] w1 (RZ fun r' w2 => LK w2 ∧ r = r')) := by
  obtain ⟨⟨⟨x, y, z, hc⟩, hM⟩, r1, r2, hm⟩ := h
  refine tc_mono (tc_3 (a := x) (b := y) (c := z) (w := w) rfl rfl rfl rz_n (dm_Bh_watch (d := 2000) (w := S3 x y z w) (Q := fun r w' => CIs w' ∧ FR l_Bh_watch (S3 x y z w) w' ∧ VL (CWa a b) r) (cv_watch hc (fun r w' h' hF kk => ⟨Or.inl h', hF, kk⟩)))) (fun v w1 hv => ?_)
  obtain ⟨r, e, zz, q1, q2, k1⟩ := hv
  have l1 : LI w1 := li_cls hM q1 q2 rfl
  have f1 := fx_of q2
  refine ⟨r, e, zz, ?_⟩
  refine tc_mono (dm_Mo_watch (d := 2000) (w := w1) (Q := fun r' w2 => MdJ w2 ∧ FR l_Mo_watch w1 w2 ∧ VL (CWa a b) r') (mv_watch l1.2 (fun r' w2 h2 hF kk => ⟨h2, hF, kk⟩))) (fun v2 w2 hv2 => ?_)
  obtain ⟨r', e', zz2, m1, m2, k2⟩ := hv2
  exact ⟨r', e', zz2, ⟨li_ref l1.1 m1 m2 rfl, lk_of r1 r2 hm f1 m2 rfl rfl⟩, vl_eq k1 k2⟩
theorem pr_signal {w : MW} {a : Int32} {b : Int64} (h : LK w) : Tc 2000 12 [.ref 0, .int a, .long b] w (RZ fun r w1 => Tc 2000 95 [.ref 127, .int a, .long b] w1 (RZ fun r' w2 => LK w2 ∧ True)) := by
  obtain ⟨⟨⟨x, y, z, hc⟩, hM⟩, r1, r2, hm⟩ := h
  refine tc_mono (tc_3 (a := x) (b := y) (c := z) (w := w) rfl rfl rfl rz_n (dm_Bh_signal (d := 1999) (w := S3 x y z w) (Q := fun r w' => CIs w' ∧ FR l_Bh_signal (S3 x y z w) w') (ci_signal hc (fun r w' h' hF => ⟨Or.inl h', hF⟩)))) (fun v w1 hv => ?_)
  obtain ⟨r, e, zz, q1, q2⟩ := hv
  have l1 : LI w1 := li_cls hM q1 q2 rfl
  have f1 := fx_of q2
  refine ⟨r, e, zz, ?_⟩
  refine tc_mono (dm_Mo_signal (d := 1999) (w := w1) (Q := fun r' w2 => MdJ w2 ∧ FR l_Mo_signal w1 w2) (mf_signal l1.2 (fun r' w2 h2 hF => ⟨h2, hF⟩))) (fun v2 w2 hv2 => ?_)
  obtain ⟨r', e', zz2, m1, m2⟩ := hv2
  exact ⟨r', e', zz2, ⟨li_ref l1.1 m1 m2 rfl, lk_of r1 r2 hm f1 m2 rfl rfl⟩, trivial⟩
theorem pr_bind {w : MW} {a : Int32} {b : Int32} {c : Int32} {d : Int32} {g : Int32} (h : LK w) : Tc 2000 13 [.ref 0, .int a, .int b, .int c, .int d, .int g] w (RZ fun r w1 => Tc 2000 88 [.ref 127, .int a, .int b, .int c, .int d, .int g] w1 (RZ fun r' w2 => LK w2 ∧ r = r')) := by
  obtain ⟨⟨⟨x, y, z, hc⟩, hM⟩, r1, r2, hm⟩ := h
  refine tc_mono (tc_3 (a := x) (b := y) (c := z) (w := w) rfl rfl rfl rz_n (dm_Bh_bind (d := 1998) (w := S3 x y z w) (Q := fun r w' => CIs w' ∧ FR l_Ac_tie (S3 x y z w) w' ∧ VL (CBi a b d g) r) (cv_bind hc (fun r w' h' hF kk => ⟨Or.inl h', hF, kk⟩)))) (fun v w1 hv => ?_)
  obtain ⟨r, e, zz, q1, q2, k1⟩ := hv
  have l1 : LI w1 := li_cls hM q1 q2 rfl
  have f1 := fx_of q2
  refine ⟨r, e, zz, ?_⟩
  refine tc_mono (dm_Mo_bind (d := 2000) (w := w1) (Q := fun r' w2 => MdJ w2 ∧ FR [(197, none), (198, none), (199, none), (200, none)] w1 w2 ∧ VL (CBi a b d g) r') (mv_bind l1.2 (fun r' w2 h2 hF kk => ⟨h2, hF, kk⟩))) (fun v2 w2 hv2 => ?_)
  obtain ⟨r', e', zz2, m1, m2, k2⟩ := hv2
  exact ⟨r', e', zz2, ⟨li_ref l1.1 m1 m2 rfl, lk_of r1 r2 hm f1 m2 rfl rfl⟩, vl_eq k1 k2⟩
theorem pr_act {w : MW} {a : Int32} (h : LK w) : Tc 2000 14 [.ref 0, .int a] w (RI fun r w1 => Tc 2000 91 [.ref 127, .int a] w1 (RI fun r' w2 => LK w2 ∧ True)) := by
  obtain ⟨⟨⟨x, y, z, hc⟩, hM⟩, r1, r2, hm⟩ := h
  refine tc_mono (tc_3 (a := x) (b := y) (c := z) (w := w) rfl rfl rfl ri_n (dm_Bh_act (d := 1994) (w := S3 x y z w) (Q := fun r w' => CIs w' ∧ FR l_Bh_act (S3 x y z w) w') (ci_act hc (fun r w' h' hF => ⟨Or.inl h', hF⟩)))) (fun v w1 hv => ?_)
  obtain ⟨r, e, q1, q2⟩ := hv
  have l1 : LI w1 := li_cls hM q1 q2 rfl
  have f1 := fx_of q2
  refine ⟨r, e, ?_⟩
  refine tc_mono (dm_Mo_act (d := 1596) (w := w1) (Q := fun r' w2 => MdJ w2 ∧ FR l_Mo_act w1 w2) (mf_act l1.2 (fun r' w2 h2 hF => ⟨h2, hF⟩))) (fun v2 w2 hv2 => ?_)
  obtain ⟨r', e', m1, m2⟩ := hv2
  exact ⟨r', e', ⟨li_ref l1.1 m1 m2 rfl, lk_of r1 r2 hm f1 m2 rfl rfl⟩, trivial⟩
theorem pr_start {w : MW}  (h : LK w) : Tc 2000 15 [.ref 0] w (RZ fun r w1 => Tc 2000 107 [.ref 127] w1 (RZ fun r' w2 => LK w2 ∧ True)) := by
  obtain ⟨⟨⟨x, y, z, hc⟩, hM⟩, r1, r2, hm⟩ := h
  refine tc_mono (tc_3 (a := x) (b := y) (c := z) (w := w) rfl rfl rfl rz_n (dm_Bh_start (d := 1997) (w := S3 x y z w) (Q := fun r w' => CIs w' ∧ FR l_Bh_start (S3 x y z w) w') (ci_start hc (fun r w' h' hF => ⟨Or.inl h', hF⟩)))) (fun v w1 hv => ?_)
  obtain ⟨r, e, zz, q1, q2⟩ := hv
  have l1 : LI w1 := li_cls hM q1 q2 rfl
  have f1 := fx_of q2
  refine ⟨r, e, zz, ?_⟩
  refine tc_mono (dm_Mo_start (d := 1488) (w := w1) (Q := fun r' w2 => MdJ w2 ∧ FR lst w1 w2) (mf_start l1.2 (fun r' w2 h2 hF => ⟨h2, hF⟩))) (fun v2 w2 hv2 => ?_)
  obtain ⟨r', e', zz2, m1, m2⟩ := hv2
  exact ⟨r', e', zz2, ⟨li_ref l1.1 m1 m2 rfl, lk_of r1 r2 hm f1 m2 rfl rfl⟩, trivial⟩
theorem pr_tick {w : MW} {a : Int32} (h : LK w) : Tc 2000 16 [.ref 0, .int a] w (RI fun r w1 => Tc 2000 117 [.ref 127, .int a] w1 (RI fun r' w2 => LK w2 ∧ True)) := by
  obtain ⟨⟨⟨x, y, z, hc⟩, hM⟩, r1, r2, hm⟩ := h
  refine tc_mono (tc_3 (a := x) (b := y) (c := z) (w := w) rfl rfl rfl ri_n (dm_Bh_tick (d := 1592) (w := S3 x y z w) (Q := fun r w' => CIs w' ∧ FR l_Bh_tick (S3 x y z w) w' ∧ TkV ((S3 x y z w).1 7 1) (w'.1 7 1) a) (cv_tick hc (fun r w' h' hF kk => ⟨Or.inl h', hF, kk⟩)))) (fun v w1 hv => ?_)
  obtain ⟨r, e, q1, q2, k1⟩ := hv
  have l1 : LI w1 := li_cls hM q1 q2 rfl
  have f1 := fx_of q2
  rw [(S3_at rfl rfl rfl).1, (S3_at rfl rfl rfl).1, r2, ← (f1 127 78 rfl rfl rfl rfl).1] at k1
  refine ⟨r, e, ?_⟩
  refine tc_mono (dm_Mo_tick (d := 584) (w := w1) (Q := fun r' w2 => MdJ w2 ∧ FR ltk w1 w2 ∧ TkV (w1.1 127 78) (w2.1 127 78) a) (mv_tick l1.2 (fun r' w2 h2 hF kk => ⟨h2, hF, kk⟩))) (fun v2 w2 hv2 => ?_)
  obtain ⟨r', e', m1, m2, k2⟩ := hv2
  exact ⟨r', e', ⟨li_ref l1.1 m1 m2 rfl, ⟨(((m2 1 1 rfl).1).trans (f1 1 1 rfl rfl rfl rfl).1).trans (r1.trans (((m2 127 1 rfl).1).trans (f1 127 1 rfl rfl rfl rfl).1).symm), ((m2 7 1 rfl).1).trans (tk_eq k1 k2), mm_of hm f1 m2 rfl rfl⟩⟩, trivial⟩
theorem pr_answer {w : MW} {a : Int64} (h : LK w) : Tc 2000 19 [.ref 0, .long a] w (RZ fun r w1 => Tc 2000 119 [.ref 127, .long a] w1 (RZ fun r' w2 => LK w2 ∧ True)) := by
  obtain ⟨⟨⟨x, y, z, hc⟩, hM⟩, r1, r2, hm⟩ := h
  refine tc_mono (tc_3 (a := x) (b := y) (c := z) (w := w) rfl rfl rfl rz_n (dm_Bh_answer (d := 1598) (w := S3 x y z w) (Q := fun r w' => CIs w' ∧ FR l_Ru_giveAnswer (S3 x y z w) w') (ci_answer hc (fun r w' h' hF => ⟨Or.inl h', hF⟩)))) (fun v w1 hv => ?_)
  obtain ⟨r, e, zz, q1, q2⟩ := hv
  have l1 : LI w1 := li_cls hM q1 q2 rfl
  have f1 := fx_of q2
  refine ⟨r, e, zz, ?_⟩
  refine tc_mono (dm_Mo_answer (d := 1488) (w := w1) (Q := fun r' w2 => MdJ w2 ∧ FR lan w1 w2) (mf_answer l1.2 (fun r' w2 h2 hF => ⟨h2, hF⟩))) (fun v2 w2 hv2 => ?_)
  obtain ⟨r', e', zz2, m1, m2⟩ := hv2
  exact ⟨r', e', zz2, ⟨li_ref l1.1 m1 m2 rfl, lk_of r1 r2 hm f1 m2 rfl rfl⟩, trivial⟩
theorem pr_hold {w : MW} {a : Int32} (h : LK w) : Tc 2000 20 [.ref 0, .int a] w (RZ fun r w1 => Tc 2000 120 [.ref 127, .int a] w1 (RZ fun r' w2 => LK w2 ∧ True)) := by
  obtain ⟨⟨⟨x, y, z, hc⟩, hM⟩, r1, r2, hm⟩ := h
  refine tc_mono (tc_3 (a := x) (b := y) (c := z) (w := w) rfl rfl rfl rz_n (dm_Bh_hold (d := 1998) (w := S3 x y z w) (Q := fun r w' => CIs w' ∧ FR l_Bh_hold (S3 x y z w) w') (ci_hold hc (fun r w' h' hF => ⟨Or.inl h', hF⟩)))) (fun v w1 hv => ?_)
  obtain ⟨r, e, zz, q1, q2⟩ := hv
  have l1 : LI w1 := li_cls hM q1 q2 rfl
  have f1 := fx_of q2
  refine ⟨r, e, zz, ?_⟩
  refine tc_mono (dm_Mo_hold (d := 1997) (w := w1) (Q := fun r' w2 => MdJ w2 ∧ FR lhs w1 w2) (mf_hold l1.2 (fun r' w2 h2 hF => ⟨h2, hF⟩))) (fun v2 w2 hv2 => ?_)
  obtain ⟨r', e', zz2, m1, m2⟩ := hv2
  exact ⟨r', e', zz2, ⟨li_ref l1.1 m1 m2 rfl, lk_of r1 r2 hm f1 m2 rfl rfl⟩, trivial⟩
theorem pr_stop {w : MW}  (h : LK w) : Tc 2000 21 [.ref 0] w (RZ fun r w1 => Tc 2000 121 [.ref 127] w1 (RZ fun r' w2 => LK w2 ∧ True)) := by
  obtain ⟨⟨⟨x, y, z, hc⟩, hM⟩, r1, r2, hm⟩ := h
  refine tc_mono (tc_3 (a := x) (b := y) (c := z) (w := w) rfl rfl rfl rz_n (dm_Bh_stop (d := 1998) (w := S3 x y z w) (Q := fun r w' => CIs w' ∧ FR l_Bh_stop (S3 x y z w) w') (ci_stop hc (fun r w' h' hF => ⟨Or.inl h', hF⟩)))) (fun v w1 hv => ?_)
  obtain ⟨r, e, zz, q1, q2⟩ := hv
  have l1 : LI w1 := li_cls hM q1 q2 rfl
  have f1 := fx_of q2
  refine ⟨r, e, zz, ?_⟩
  refine tc_mono (dm_Mo_stop (d := 1997) (w := w1) (Q := fun r' w2 => MdJ w2 ∧ FR lhs w1 w2) (mf_stop l1.2 (fun r' w2 h2 hF => ⟨h2, hF⟩))) (fun v2 w2 hv2 => ?_)
  obtain ⟨r', e', zz2, m1, m2⟩ := hv2
  exact ⟨r', e', zz2, ⟨li_ref l1.1 m1 m2 rfl, lk_of r1 r2 hm f1 m2 rfl rfl⟩, trivial⟩
theorem pr_pass {w : MW} {a : Int32} {b : Int32} {c : Int32} {d : Int32} (h : LK w) : Tc 2000 22 [.ref 0, .int a, .int b, .int c, .int d] w (RI fun r w1 => Tc 2000 99 [.ref 127, .int a, .int b, .int c, .int d] w1 (RI fun r' w2 => LK w2 ∧ True)) := by
  obtain ⟨⟨⟨x, y, z, hc⟩, hM⟩, r1, r2, hm⟩ := h
  refine tc_mono (tc_3 (a := x) (b := y) (c := z) (w := w) rfl rfl rfl ri_n (dm_Bh_pass (d := 1999) (w := S3 x y z w) (Q := fun r w' => CIs w' ∧ FR l_Bh_pass (S3 x y z w) w') (ci_pass hc (fun r w' h' hF => ⟨Or.inl h', hF⟩)))) (fun v w1 hv => ?_)
  obtain ⟨r, e, q1, q2⟩ := hv
  have l1 : LI w1 := li_cls hM q1 q2 rfl
  have f1 := fx_of q2
  refine ⟨r, e, ?_⟩
  refine tc_mono (dm_Mo_pass (d := 1998) (w := w1) (Q := fun r' w2 => MdJ w2 ∧ FR l_Mr_pass w1 w2) (mf_pass l1.2 (fun r' w2 h2 hF => ⟨h2, hF⟩))) (fun v2 w2 hv2 => ?_)
  obtain ⟨r', e', m1, m2⟩ := hv2
  exact ⟨r', e', ⟨li_ref l1.1 m1 m2 rfl, lk_of r1 r2 hm f1 m2 rfl rfl⟩, trivial⟩
theorem pr_reset {w : MW} {a : Int32} (h : LK w) : Tc 2000 24 [.ref 0, .int a] w (RZ fun r w1 => Tc 2000 100 [.ref 127, .int a] w1 (RZ fun r' w2 => LK w2 ∧ True)) := by
  obtain ⟨⟨⟨x, y, z, hc⟩, hM⟩, r1, r2, hm⟩ := h
  refine tc_mono (tc_3 (a := x) (b := y) (c := z) (w := w) rfl rfl rfl rz_n (dm_Bh_reset (d := 1999) (w := S3 x y z w) (Q := fun r w' => CIs w' ∧ FR l_Bh_reset (S3 x y z w) w') (ci_reset hc (fun r w' h' hF => ⟨Or.inl h', hF⟩)))) (fun v w1 hv => ?_)
  obtain ⟨r, e, zz, q1, q2⟩ := hv
  have l1 : LI w1 := li_cls hM q1 q2 rfl
  have f1 := fx_of q2
  refine ⟨r, e, zz, ?_⟩
  refine tc_mono (dm_Mo_reset (d := 1597) (w := w1) (Q := fun r' w2 => MdJ w2 ∧ FR l_Mr_reset w1 w2) (mf_reset l1.2 (fun r' w2 h2 hF => ⟨h2, hF⟩))) (fun v2 w2 hv2 => ?_)
  obtain ⟨r', e', zz2, m1, m2⟩ := hv2
  exact ⟨r', e', zz2, ⟨li_ref l1.1 m1 m2 rfl, lk_of r1 r2 hm f1 m2 rfl rfl⟩, trivial⟩
theorem pr_bars {w : MW} {a : Int32} (h : LK w) : Tc 2000 25 [.ref 0, .int a] w (RI fun r w1 => Tc 2000 101 [.ref 127, .int a] w1 (RI fun r' w2 => LK w2 ∧ True)) := by
  obtain ⟨⟨⟨x, y, z, hc⟩, hM⟩, r1, r2, hm⟩ := h
  refine tc_mono (tc_3 (a := x) (b := y) (c := z) (w := w) rfl rfl rfl ri_n (dm_Bh_bars (d := 1998) (w := S3 x y z w) (Q := fun r w' => CIs w' ∧ FR l_Bh_bars (S3 x y z w) w') (ci_bars hc (fun r w' h' hF => ⟨Or.inl h', hF⟩)))) (fun v w1 hv => ?_)
  obtain ⟨r, e, q1, q2⟩ := hv
  have l1 : LI w1 := li_cls hM q1 q2 rfl
  have f1 := fx_of q2
  refine ⟨r, e, ?_⟩
  refine tc_mono (dm_Mo_bars (d := 1597) (w := w1) (Q := fun r' w2 => MdJ w2 ∧ FR l_Mr_act1 w1 w2) (mf_bars l1.2 (fun r' w2 h2 hF => ⟨h2, hF⟩))) (fun v2 w2 hv2 => ?_)
  obtain ⟨r', e', m1, m2⟩ := hv2
  exact ⟨r', e', ⟨li_ref l1.1 m1 m2 rfl, lk_of r1 r2 hm f1 m2 rfl rfl⟩, trivial⟩
theorem pr_row {w : MW} {a : Int32} {b : Int32} (h : LK w) : Tc 2000 26 [.ref 0, .int a, .int b] w (RI fun r w1 => Tc 2000 102 [.ref 127, .int a, .int b] w1 (RI fun r' w2 => LK w2 ∧ True)) := by
  obtain ⟨⟨⟨x, y, z, hc⟩, hM⟩, r1, r2, hm⟩ := h
  refine tc_mono (tc_3 (a := x) (b := y) (c := z) (w := w) rfl rfl rfl ri_n (dm_Bh_row (d := 1999) (w := S3 x y z w) (Q := fun r w' => CIs w' ∧ FR l_Bh_row (S3 x y z w) w') (ci_row hc (fun r w' h' hF => ⟨Or.inl h', hF⟩)))) (fun v w1 hv => ?_)
  obtain ⟨r, e, q1, q2⟩ := hv
  have l1 : LI w1 := li_cls hM q1 q2 rfl
  have f1 := fx_of q2
  refine ⟨r, e, ?_⟩
  refine tc_mono (dm_Mo_row (d := 1598) (w := w1) (Q := fun r' w2 => MdJ w2 ∧ FR l_Mo_row w1 w2) (mf_row l1.2 (fun r' w2 h2 hF => ⟨h2, hF⟩))) (fun v2 w2 hv2 => ?_)
  obtain ⟨r', e', m1, m2⟩ := hv2
  exact ⟨r', e', ⟨li_ref l1.1 m1 m2 rfl, lk_of r1 r2 hm f1 m2 rfl rfl⟩, trivial⟩
theorem pr_state {w : MW}  (h : LK w) : Tc 2000 27 [.ref 0] w (RI fun r w1 => Tc 2000 122 [.ref 127] w1 (RI fun r' w2 => LK w2 ∧ True)) := by
  obtain ⟨⟨⟨x, y, z, hc⟩, hM⟩, r1, r2, hm⟩ := h
  refine tc_mono (tc_3 (a := x) (b := y) (c := z) (w := w) rfl rfl rfl ri_n (dm_Bh_state (d := 2000) (w := S3 x y z w) (Q := fun r w' => CIs w' ∧ FR [] (S3 x y z w) w') (ci_state hc (fun r w' h' hF => ⟨Or.inl h', hF⟩)))) (fun v w1 hv => ?_)
  obtain ⟨r, e, q1, q2⟩ := hv
  have l1 : LI w1 := li_cls hM q1 q2 rfl
  have f1 := fx_of q2
  refine ⟨r, e, ?_⟩
  refine tc_mono (dm_Mo_state (d := 2000) (w := w1) (Q := fun r' w2 => MdJ w2 ∧ FR [] w1 w2) (mf_state l1.2 (fun r' w2 h2 hF => ⟨h2, hF⟩))) (fun v2 w2 hv2 => ?_)
  obtain ⟨r', e', m1, m2⟩ := hv2
  exact ⟨r', e', ⟨li_ref l1.1 m1 m2 rfl, lk_of r1 r2 hm f1 m2 rfl rfl⟩, trivial⟩
theorem pr_value {w : MW} {a : Int32} (h : LK w) : Tc 2000 28 [.ref 0, .int a] w (RJ fun r w1 => Tc 2000 96 [.ref 127, .int a] w1 (RJ fun r' w2 => LK w2 ∧ True)) := by
  obtain ⟨⟨⟨x, y, z, hc⟩, hM⟩, r1, r2, hm⟩ := h
  refine tc_mono (tc_3 (a := x) (b := y) (c := z) (w := w) rfl rfl rfl rj_n (dm_Bh_value (d := 1999) (w := S3 x y z w) (Q := fun r w' => CIs w' ∧ FR [] (S3 x y z w) w') (ci_value hc (fun r w' h' hF => ⟨Or.inl h', hF⟩)))) (fun v w1 hv => ?_)
  obtain ⟨r, e, q1, q2⟩ := hv
  have l1 : LI w1 := li_cls hM q1 q2 rfl
  have f1 := fx_of q2
  refine ⟨r, e, ?_⟩
  refine tc_mono (dm_Mo_value (d := 1999) (w := w1) (Q := fun r' w2 => MdJ w2 ∧ FR l_Mo_value w1 w2) (mf_value l1.2 (fun r' w2 h2 hF => ⟨h2, hF⟩))) (fun v2 w2 hv2 => ?_)
  obtain ⟨r', e', m1, m2⟩ := hv2
  exact ⟨r', e', ⟨li_ref l1.1 m1 m2 rfl, lk_of r1 r2 hm f1 m2 rfl rfl⟩, trivial⟩
theorem pr_still {w : MW} {a : Int32} (h : LK w) : Tc 2000 29 [.ref 0, .int a] w (RI fun r w1 => Tc 2000 123 [.ref 127, .int a] w1 (RI fun r' w2 => LK w2 ∧ True)) := by
  obtain ⟨⟨⟨x, y, z, hc⟩, hM⟩, r1, r2, hm⟩ := h
  refine tc_mono (tc_3 (a := x) (b := y) (c := z) (w := w) rfl rfl rfl ri_n (dm_Bh_still (d := 1598) (w := S3 x y z w) (Q := fun r w' => CIs w' ∧ FR l_Ru_seek (S3 x y z w) w') (ci_still hc (fun r w' h' hF => ⟨Or.inl h', hF⟩)))) (fun v w1 hv => ?_)
  obtain ⟨r, e, q1, q2⟩ := hv
  have l1 : LI w1 := li_cls hM q1 q2 rfl
  have f1 := fx_of q2
  refine ⟨r, e, ?_⟩
  refine tc_mono (dm_Mo_still (d := 1488) (w := w1) (Q := fun r' w2 => MdJ w2 ∧ FR lsa w1 w2) (mf_still l1.2 (fun r' w2 h2 hF => ⟨h2, hF⟩))) (fun v2 w2 hv2 => ?_)
  obtain ⟨r', e', m1, m2⟩ := hv2
  exact ⟨r', e', ⟨li_ref l1.1 m1 m2 rfl, lk_of r1 r2 hm f1 m2 rfl rfl⟩, trivial⟩
theorem pr_alarm {w : MW} {a : Int32} {b : Int32} (h : LK w) : Tc 2000 30 [.ref 0, .int a, .int b] w (RI fun r w1 => Tc 2000 124 [.ref 127, .int a, .int b] w1 (RI fun r' w2 => LK w2 ∧ True)) := by
  obtain ⟨⟨⟨x, y, z, hc⟩, hM⟩, r1, r2, hm⟩ := h
  refine tc_mono (tc_3 (a := x) (b := y) (c := z) (w := w) rfl rfl rfl ri_n (dm_Bh_alarm (d := 1999) (w := S3 x y z w) (Q := fun r w' => CIs w' ∧ FR [] (S3 x y z w) w') (ci_alarm hc (fun r w' h' hF => ⟨Or.inl h', hF⟩)))) (fun v w1 hv => ?_)
  obtain ⟨r, e, q1, q2⟩ := hv
  have l1 : LI w1 := li_cls hM q1 q2 rfl
  have f1 := fx_of q2
  refine ⟨r, e, ?_⟩
  refine tc_mono (dm_Mo_alarm (d := 2000) (w := w1) (Q := fun r' w2 => MdJ w2 ∧ FR [] w1 w2) (mf_alarm l1.2 (fun r' w2 h2 hF => ⟨h2, hF⟩))) (fun v2 w2 hv2 => ?_)
  obtain ⟨r', e', m1, m2⟩ := hv2
  exact ⟨r', e', ⟨li_ref l1.1 m1 m2 rfl, lk_of r1 r2 hm f1 m2 rfl rfl⟩, trivial⟩
theorem pr_way {w : MW} {a : Int32} {b : Int32} (h : LK w) : Tc 2000 31 [.ref 0, .int a, .int b] w (RI fun r w1 => Tc 2000 82 [.ref 127, .int a, .int b] w1 (RI fun r' w2 => LK w2 ∧ True)) := by
  obtain ⟨⟨⟨x, y, z, hc⟩, hM⟩, r1, r2, hm⟩ := h
  refine tc_mono (tc_3 (a := x) (b := y) (c := z) (w := w) rfl rfl rfl ri_n (dm_Bh_way (d := 1999) (w := S3 x y z w) (Q := fun r w' => CIs w' ∧ FR l_Wa_get (S3 x y z w) w') (ci_way hc (fun r w' h' hF => ⟨Or.inl h', hF⟩)))) (fun v w1 hv => ?_)
  obtain ⟨r, e, q1, q2⟩ := hv
  have l1 : LI w1 := li_cls hM q1 q2 rfl
  have f1 := fx_of q2
  refine ⟨r, e, ?_⟩
  refine tc_mono (dm_Mo_way (d := 2000) (w := w1) (Q := fun r' w2 => MdJ w2 ∧ FR [] w1 w2) (mf_way l1.2 (fun r' w2 h2 hF => ⟨h2, hF⟩))) (fun v2 w2 hv2 => ?_)
  obtain ⟨r', e', m1, m2⟩ := hv2
  exact ⟨r', e', ⟨li_ref l1.1 m1 m2 rfl, lk_of r1 r2 hm f1 m2 rfl rfl⟩, trivial⟩
theorem pr_space {w : MW} {a : Int32} {b : Int32} (h : LK w) : Tc 2000 32 [.ref 0, .int a, .int b] w (RI fun r w1 => Tc 2000 83 [.ref 127, .int a, .int b] w1 (RI fun r' w2 => LK w2 ∧ True)) := by
  obtain ⟨⟨⟨x, y, z, hc⟩, hM⟩, r1, r2, hm⟩ := h
  refine tc_mono (tc_3 (a := x) (b := y) (c := z) (w := w) rfl rfl rfl ri_n (dm_Bh_space (d := 1997) (w := S3 x y z w) (Q := fun r w' => CIs w' ∧ FR l_Bh_space (S3 x y z w) w') (ci_space hc (fun r w' h' hF => ⟨Or.inl h', hF⟩)))) (fun v w1 hv => ?_)
  obtain ⟨r, e, q1, q2⟩ := hv
  have l1 : LI w1 := li_cls hM q1 q2 rfl
  have f1 := fx_of q2
  refine ⟨r, e, ?_⟩
  refine tc_mono (dm_Mo_space (d := 1997) (w := w1) (Q := fun r' w2 => MdJ w2 ∧ FR l_Mo_space w1 w2) (mf_space l1.2 (fun r' w2 h2 hF => ⟨h2, hF⟩))) (fun v2 w2 hv2 => ?_)
  obtain ⟨r', e', m1, m2⟩ := hv2
  exact ⟨r', e', ⟨li_ref l1.1 m1 m2 rfl, lk_of r1 r2 hm f1 m2 rfl rfl⟩, trivial⟩
theorem pr_danger {w : MW} {a : Int32} (h : LK w) : Tc 2000 33 [.ref 0, .int a] w (RI fun r w1 => Tc 2000 70 [.ref 127, .int a] w1 (RI fun r' w2 => LK w2 ∧ True)) := by
  obtain ⟨⟨⟨x, y, z, hc⟩, hM⟩, r1, r2, hm⟩ := h
  refine tc_mono (tc_3 (a := x) (b := y) (c := z) (w := w) rfl rfl rfl ri_n (dm_Bh_danger (d := 1996) (w := S3 x y z w) (Q := fun r w' => CIs w' ∧ FR l_Bh_danger (S3 x y z w) w') (ci_danger hc (fun r w' h' hF => ⟨Or.inl h', hF⟩)))) (fun v w1 hv => ?_)
  obtain ⟨r, e, q1, q2⟩ := hv
  have l1 : LI w1 := li_cls hM q1 q2 rfl
  have f1 := fx_of q2
  refine ⟨r, e, ?_⟩
  refine tc_mono (dm_Mo_danger (d := 1996) (w := w1) (Q := fun r' w2 => MdJ w2 ∧ FR l_Mo_danger w1 w2) (mf_danger l1.2 (fun r' w2 h2 hF => ⟨h2, hF⟩))) (fun v2 w2 hv2 => ?_)
  obtain ⟨r', e', m1, m2⟩ := hv2
  exact ⟨r', e', ⟨li_ref l1.1 m1 m2 rfl, lk_of r1 r2 hm f1 m2 rfl rfl⟩, trivial⟩
theorem pr_write {w : MW} {a : Int32} (h : LK w) : Tc 2000 34 [.ref 0, .int a] w (RI fun r w1 => Tc 2000 49 [.ref 127, .int a] w1 (RI fun r' w2 => LK w2 ∧ True)) := by
  obtain ⟨⟨⟨x, y, z, hc⟩, hM⟩, r1, r2, hm⟩ := h
  refine tc_mono (tc_3 (a := x) (b := y) (c := z) (w := w) rfl rfl rfl ri_n (dm_Bh_write (d := 2000) (w := S3 x y z w) (Q := fun r w' => CIs w' ∧ FR [] (S3 x y z w) w') (ci_write hc (fun r w' h' hF => ⟨Or.inl h', hF⟩)))) (fun v w1 hv => ?_)
  obtain ⟨r, e, q1, q2⟩ := hv
  have l1 : LI w1 := li_cls hM q1 q2 rfl
  have f1 := fx_of q2
  refine ⟨r, e, ?_⟩
  refine tc_mono (dm_Mo_write (d := 1998) (w := w1) (Q := fun r' w2 => MdJ w2 ∧ FR l_Mo_write w1 w2) (mf_write l1.2 (fun r' w2 h2 hF => ⟨h2, hF⟩))) (fun v2 w2 hv2 => ?_)
  obtain ⟨r', e', m1, m2⟩ := hv2
  exact ⟨r', e', ⟨li_ref l1.1 m1 m2 rfl, lk_of r1 r2 hm f1 m2 rfl rfl⟩, trivial⟩
theorem pr_second {w : MW}  (h : LK w) : Tc 2000 35 [.ref 0] w (RI fun r w1 => Tc 2000 125 [.ref 127] w1 (RI fun r' w2 => LK w2 ∧ r = r')) := by
  obtain ⟨⟨⟨x, y, z, hc⟩, hM⟩, r1, r2, hm⟩ := h
  refine tc_mono (tc_3 (a := x) (b := y) (c := z) (w := w) rfl rfl rfl ri_n (dm_Bh_second (d := 2000) (w := S3 x y z w) (Q := fun r w' => CIs w' ∧ FR [] (S3 x y z w) w' ∧ r = (S3 x y z w).1 7 1) (cv_second hc (fun r w' h' hF kk => ⟨Or.inl h', hF, kk⟩)))) (fun v w1 hv => ?_)
  obtain ⟨r, e, q1, q2, k1⟩ := hv
  have l1 : LI w1 := li_cls hM q1 q2 rfl
  have f1 := fx_of q2
  refine ⟨r, e, ?_⟩
  refine tc_mono (dm_Mo_second (d := 2000) (w := w1) (Q := fun r' w2 => MdJ w2 ∧ FR [] w1 w2 ∧ r' = w1.1 127 78) (mv_second l1.2 (fun r' w2 h2 hF kk => ⟨h2, hF, kk⟩))) (fun v2 w2 hv2 => ?_)
  obtain ⟨r', e', m1, m2, k2⟩ := hv2
  exact ⟨r', e', ⟨li_ref l1.1 m1 m2 rfl, lk_of r1 r2 hm f1 m2 rfl rfl⟩, by rw [k1, k2, (S3_at rfl rfl rfl).1, (f1 127 78 rfl rfl rfl rfl).1, r2]⟩
