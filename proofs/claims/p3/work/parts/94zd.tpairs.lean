/-! the pairs: what end leans on stays -/
theorem kt_feed {w : MW} {a : Int32} {b : Int32} {c : Int32} {d : Int32} {g : Int32} (h : LQr w) (hk : KTx w) : Tc 2000 0 [.ref 0, .int a, .int b, .int c, .int d, .int g] w (RI fun r w1 => Tc 2000 36 [.ref 127, .int a, .int b, .int c, .int d, .int g] w1 (RI fun r' w2 => KTx w2 ∧ True)) := by
  obtain ⟨x, y, z, hc, hM, hr⟩ := h
  refine tc_mono (tc_3 (a := x) (b := y) (c := z) (w := w) rfl rfl rfl ri_n (dm_Bh_feed (d := 1999) (w := S3 x y z w) (Q := fun r w' => CI w' ∧ FR l_Bh_feed (S3 x y z w) w') (cv_feed hc (fun r w' h' hF kk => ⟨h', hF⟩)))) (fun v w1 hv => ?_)
  obtain ⟨r, e, q1, q2⟩ := hv
  have hM1 := mdj_cls hM q1.1 q2 rfl
  refine ⟨r, e, ?_⟩
  refine tc_mono (dm_Mo_feed (d := 2000) (w := w1) (Q := fun r' w2 => MdJ w2 ∧ FR l_Mo_feed w1 w2) (mv_feed hM1 (fun r' w2 h2 hF kk => ⟨h2, hF⟩))) (fun v2 w2 hv2 => ?_)
  obtain ⟨r', e', m1, m2⟩ := hv2
  exact ⟨r', e', kt_of hk (fx_of q2) m2 rfl rfl, trivial⟩
theorem pt_feed {w : MW} {a : Int32} {b : Int32} {c : Int32} {d : Int32} {g : Int32} (h : LKt w) : Tc 2000 0 [.ref 0, .int a, .int b, .int c, .int d, .int g] w (RI fun r w1 => Tc 2000 36 [.ref 127, .int a, .int b, .int c, .int d, .int g] w1 (RI fun r' w2 => LKt w2 ∧ r = r')) := by
  refine tc_mono (pair_ri (A := LKq) (B := KTx) (C := LKt) (E := fun (r r' : Int32) => r = r') (D := fun _ _ => True) (pq_feed h.1) (kt_feed h.1.2 h.2) (fun _ a b => ⟨a, b⟩)) (fun v w1 hv => ?_)
  obtain ⟨r, e, q1⟩ := hv
  refine ⟨r, e, tc_mono q1 (fun v2 w2 hv2 => ?_)⟩
  obtain ⟨r', e', q⟩ := hv2
  exact ⟨r', e', q.1, q.2.1⟩
theorem kt_fill {w : MW} {a : Int32} {b : Int32} {c : Int64} (h : LQr w) (hk : KTx w) : Tc 2000 5 [.ref 0, .int a, .int b, .long c] w (RZ fun r w1 => Tc 2000 84 [.ref 127, .int a, .int b, .long c] w1 (RZ fun r' w2 => KTx w2 ∧ True)) := by
  obtain ⟨x, y, z, hc, hM, hr⟩ := h
  refine tc_mono (tc_3 (a := x) (b := y) (c := z) (w := w) rfl rfl rfl rz_n (dm_Bh_fill (d := 1996) (w := S3 x y z w) (Q := fun r w' => CI w' ∧ FR l_Bh_fill (S3 x y z w) w') (ci_fill hc (fun r w' h' hF => ⟨h', hF⟩)))) (fun v w1 hv => ?_)
  obtain ⟨r, e, zz, q1, q2⟩ := hv
  have hM1 := mdj_cls hM q1.1 q2 rfl
  refine ⟨r, e, zz, ?_⟩
  refine tc_mono (dm_Mo_fill (d := 1996) (w := w1) (Q := fun r' w2 => MdJ w2 ∧ FR l_Mo_fill w1 w2) (mf_fill hM1 (fun r' w2 h2 hF => ⟨h2, hF⟩))) (fun v2 w2 hv2 => ?_)
  obtain ⟨r', e', zz2, m1, m2⟩ := hv2
  exact ⟨r', e', zz2, kt_of hk (fx_of q2) m2 rfl rfl, trivial⟩
theorem pt_fill {w : MW} {a : Int32} {b : Int32} {c : Int64} (h : LKt w) : Tc 2000 5 [.ref 0, .int a, .int b, .long c] w (RZ fun r w1 => Tc 2000 84 [.ref 127, .int a, .int b, .long c] w1 (RZ fun r' w2 => LKt w2 ∧ True)) := by
  refine tc_mono (pair_rz (A := LKq) (B := KTx) (C := LKt) (E := fun (r r' : Int32) => True) (D := fun _ _ => True) (pq_fill h.1) (kt_fill h.1.2 h.2) (fun _ a b => ⟨a, b⟩)) (fun v w1 hv => ?_)
  obtain ⟨r, e, zz, q1⟩ := hv
  refine ⟨r, e, zz, tc_mono q1 (fun v2 w2 hv2 => ?_)⟩
  obtain ⟨r', e', zz2, q⟩ := hv2
  exact ⟨r', e', zz2, q.1, q.2.1⟩
theorem kt_may {w : MW} {a : Int32} {b : Int32} (h : LQr w) (hk : KTx w) : Tc 2000 7 [.ref 0, .int a, .int b] w (RZ fun r w1 => Tc 2000 85 [.ref 127, .int a, .int b] w1 (RZ fun r' w2 => KTx w2 ∧ True)) := by
  obtain ⟨x, y, z, hc, hM, hr⟩ := h
  refine tc_mono (tc_3 (a := x) (b := y) (c := z) (w := w) rfl rfl rfl rz_n (dm_Bh_may (d := 1999) (w := S3 x y z w) (Q := fun r w' => CI w' ∧ FR l_Bh_may (S3 x y z w) w') (cv_may hc (fun r w' h' hF kk kb => ⟨h', hF⟩)))) (fun v w1 hv => ?_)
  obtain ⟨r, e, zz, q1, q2⟩ := hv
  have hM1 := mdj_cls hM q1.1 q2 rfl
  refine ⟨r, e, zz, ?_⟩
  refine tc_mono (dm_Mo_may (d := 2000) (w := w1) (Q := fun r' w2 => MdJ w2 ∧ FR l_Mo_may w1 w2) (mv_may hM1 (fun r' w2 h2 hF kk kb => ⟨h2, hF⟩))) (fun v2 w2 hv2 => ?_)
  obtain ⟨r', e', zz2, m1, m2⟩ := hv2
  exact ⟨r', e', zz2, kt_of hk (fx_of q2) m2 rfl rfl, trivial⟩
theorem pt_may {w : MW} {a : Int32} {b : Int32} (h : LKt w) : Tc 2000 7 [.ref 0, .int a, .int b] w (RZ fun r w1 => Tc 2000 85 [.ref 127, .int a, .int b] w1 (RZ fun r' w2 => LKt w2 ∧ r = r')) := by
  refine tc_mono (pair_rz (A := LKq) (B := KTx) (C := LKt) (E := fun (r r' : Int32) => r = r') (D := fun _ _ => True) (pq_may h.1) (kt_may h.1.2 h.2) (fun _ a b => ⟨a, b⟩)) (fun v w1 hv => ?_)
  obtain ⟨r, e, zz, q1⟩ := hv
  refine ⟨r, e, zz, tc_mono q1 (fun v2 w2 hv2 => ?_)⟩
  obtain ⟨r', e', zz2, q⟩ := hv2
  exact ⟨r', e', zz2, q.1, q.2.1⟩
theorem kt_need {w : MW} {a : Int32} {b : Int32} {c : Int32} (h : LQr w) (hk : KTx w) : Tc 2000 8 [.ref 0, .int a, .int b, .int c] w (RZ fun r w1 => Tc 2000 86 [.ref 127, .int a, .int b, .int c] w1 (RZ fun r' w2 => KTx w2 ∧ True)) := by
  obtain ⟨x, y, z, hc, hM, hr⟩ := h
  refine tc_mono (tc_3 (a := x) (b := y) (c := z) (w := w) rfl rfl rfl rz_n (dm_Bh_need (d := 1999) (w := S3 x y z w) (Q := fun r w' => CI w' ∧ FR l_Bh_need (S3 x y z w) w') (cv_need hc (fun r w' h' hF kk => ⟨h', hF⟩)))) (fun v w1 hv => ?_)
  obtain ⟨r, e, zz, q1, q2⟩ := hv
  have hM1 := mdj_cls hM q1.1 q2 rfl
  refine ⟨r, e, zz, ?_⟩
  refine tc_mono (dm_Mo_need (d := 2000) (w := w1) (Q := fun r' w2 => MdJ w2 ∧ FR l_Mo_need w1 w2) (mv_need hM1 (fun r' w2 h2 hF kk => ⟨h2, hF⟩))) (fun v2 w2 hv2 => ?_)
  obtain ⟨r', e', zz2, m1, m2⟩ := hv2
  exact ⟨r', e', zz2, kt_of hk (fx_of q2) m2 rfl rfl, trivial⟩
theorem pt_need {w : MW} {a : Int32} {b : Int32} {c : Int32} (h : LKt w) : Tc 2000 8 [.ref 0, .int a, .int b, .int c] w (RZ fun r w1 => Tc 2000 86 [.ref 127, .int a, .int b, .int c] w1 (RZ fun r' w2 => LKt w2 ∧ r = r')) := by
  refine tc_mono (pair_rz (A := LKq) (B := KTx) (C := LKt) (E := fun (r r' : Int32) => r = r') (D := fun _ _ => True) (pq_need h.1) (kt_need h.1.2 h.2) (fun _ a b => ⟨a, b⟩)) (fun v w1 hv => ?_)
  obtain ⟨r, e, zz, q1⟩ := hv
  refine ⟨r, e, zz, tc_mono q1 (fun v2 w2 hv2 => ?_)⟩
  obtain ⟨r', e', zz2, q⟩ := hv2
  exact ⟨r', e', zz2, q.1, q.2.1⟩
theorem kt_lasts {w : MW} {a : Int32} {b : Int32} (h : LQr w) (hk : KTx w) : Tc 2000 9 [.ref 0, .int a, .int b] w (RZ fun r w1 => Tc 2000 87 [.ref 127, .int a, .int b] w1 (RZ fun r' w2 => KTx w2 ∧ True)) := by
  obtain ⟨x, y, z, hc, hM, hr⟩ := h
  refine tc_mono (tc_3 (a := x) (b := y) (c := z) (w := w) rfl rfl rfl rz_n (dm_Bh_lasts (d := 2000) (w := S3 x y z w) (Q := fun r w' => CI w' ∧ FR l_Bh_lasts (S3 x y z w) w') (cv_lasts hc (fun r w' h' hF kk => ⟨h', hF⟩)))) (fun v w1 hv => ?_)
  obtain ⟨r, e, zz, q1, q2⟩ := hv
  have hM1 := mdj_cls hM q1.1 q2 rfl
  refine ⟨r, e, zz, ?_⟩
  refine tc_mono (dm_Mo_lasts (d := 2000) (w := w1) (Q := fun r' w2 => MdJ w2 ∧ FR l_Mo_lasts w1 w2) (mv_lasts hM1 (fun r' w2 h2 hF kk => ⟨h2, hF⟩))) (fun v2 w2 hv2 => ?_)
  obtain ⟨r', e', zz2, m1, m2⟩ := hv2
  exact ⟨r', e', zz2, kt_of hk (fx_of q2) m2 rfl rfl, trivial⟩
theorem pt_lasts {w : MW} {a : Int32} {b : Int32} (h : LKt w) : Tc 2000 9 [.ref 0, .int a, .int b] w (RZ fun r w1 => Tc 2000 87 [.ref 127, .int a, .int b] w1 (RZ fun r' w2 => LKt w2 ∧ r = r')) := by
  refine tc_mono (pair_rz (A := LKq) (B := KTx) (C := LKt) (E := fun (r r' : Int32) => r = r') (D := fun _ _ => True) (pq_lasts h.1) (kt_lasts h.1.2 h.2) (fun _ a b => ⟨a, b⟩)) (fun v w1 hv => ?_)
  obtain ⟨r, e, zz, q1⟩ := hv
  refine ⟨r, e, zz, tc_mono q1 (fun v2 w2 hv2 => ?_)⟩
  obtain ⟨r', e', zz2, q⟩ := hv2
  exact ⟨r', e', zz2, q.1, q.2.1⟩
theorem kt_sense {w : MW} {a : Int32} {b : Int32} {c : Int32} (h : LQr w) (hk : KTx w) : Tc 2000 10 [.ref 0, .int a, .int b, .int c] w (RZ fun r w1 => Tc 2000 93 [.ref 127, .int a, .int b, .int c] w1 (RZ fun r' w2 => KTx w2 ∧ True)) := by
  obtain ⟨x, y, z, hc, hM, hr⟩ := h
  refine tc_mono (tc_3 (a := x) (b := y) (c := z) (w := w) rfl rfl rfl rz_n (dm_Bh_sense (d := 1999) (w := S3 x y z w) (Q := fun r w' => CI w' ∧ FR l_Bh_sense (S3 x y z w) w') (ci_sense hc (fun r w' h' hF => ⟨h', hF⟩)))) (fun v w1 hv => ?_)
  obtain ⟨r, e, zz, q1, q2⟩ := hv
  have hM1 := mdj_cls hM q1.1 q2 rfl
  refine ⟨r, e, zz, ?_⟩
  refine tc_mono (dm_Mo_sense (d := 1999) (w := w1) (Q := fun r' w2 => MdJ w2 ∧ FR l_Mo_sense w1 w2) (mf_sense hM1 (fun r' w2 h2 hF => ⟨h2, hF⟩))) (fun v2 w2 hv2 => ?_)
  obtain ⟨r', e', zz2, m1, m2⟩ := hv2
  exact ⟨r', e', zz2, kt_of hk (fx_of q2) m2 rfl rfl, trivial⟩
theorem pt_sense {w : MW} {a : Int32} {b : Int32} {c : Int32} (h : LKt w) : Tc 2000 10 [.ref 0, .int a, .int b, .int c] w (RZ fun r w1 => Tc 2000 93 [.ref 127, .int a, .int b, .int c] w1 (RZ fun r' w2 => LKt w2 ∧ True)) := by
  refine tc_mono (pair_rz (A := LKq) (B := KTx) (C := LKt) (E := fun (r r' : Int32) => True) (D := fun _ _ => True) (pq_sense h.1) (kt_sense h.1.2 h.2) (fun _ a b => ⟨a, b⟩)) (fun v w1 hv => ?_)
  obtain ⟨r, e, zz, q1⟩ := hv
  refine ⟨r, e, zz, tc_mono q1 (fun v2 w2 hv2 => ?_)⟩
  obtain ⟨r', e', zz2, q⟩ := hv2
  exact ⟨r', e', zz2, q.1, q.2.1⟩
theorem kt_watch {w : MW} {a : Int32} {b : Int32} {c : Int32} {d : Int64} (h : LQr w) (hk : KTx w) : Tc 2000 11 [.ref 0, .int a, .int b, .int c, .long d] w (RZ fun r w1 => Tc 2000 94 [.ref 127, .int a, .int b, .int c, .long d] w1 (RZ fun r' w2 => KTx w2 ∧ True)) := by
  obtain ⟨x, y, z, hc, hM, hr⟩ := h
  refine tc_mono (tc_3 (a := x) (b := y) (c := z) (w := w) rfl rfl rfl rz_n (dm_Bh_watch (d := 2000) (w := S3 x y z w) (Q := fun r w' => CI w' ∧ FR l_Bh_watch (S3 x y z w) w') (cv_watch hc (fun r w' h' hF kk => ⟨h', hF⟩)))) (fun v w1 hv => ?_)
  obtain ⟨r, e, zz, q1, q2⟩ := hv
  have hM1 := mdj_cls hM q1.1 q2 rfl
  refine ⟨r, e, zz, ?_⟩
  refine tc_mono (dm_Mo_watch (d := 2000) (w := w1) (Q := fun r' w2 => MdJ w2 ∧ FR l_Mo_watch w1 w2) (mv_watch hM1 (fun r' w2 h2 hF kk => ⟨h2, hF⟩))) (fun v2 w2 hv2 => ?_)
  obtain ⟨r', e', zz2, m1, m2⟩ := hv2
  exact ⟨r', e', zz2, kt_of hk (fx_of q2) m2 rfl rfl, trivial⟩
theorem pt_watch {w : MW} {a : Int32} {b : Int32} {c : Int32} {d : Int64} (h : LKt w) : Tc 2000 11 [.ref 0, .int a, .int b, .int c, .long d] w (RZ fun r w1 => Tc 2000 94 [.ref 127, .int a, .int b, .int c, .long d] w1 (RZ fun r' w2 => LKt w2 ∧ r = r')) := by
  refine tc_mono (pair_rz (A := LKq) (B := KTx) (C := LKt) (E := fun (r r' : Int32) => r = r') (D := fun _ _ => True) (pq_watch h.1) (kt_watch h.1.2 h.2) (fun _ a b => ⟨a, b⟩)) (fun v w1 hv => ?_)
  obtain ⟨r, e, zz, q1⟩ := hv
  refine ⟨r, e, zz, tc_mono q1 (fun v2 w2 hv2 => ?_)⟩
  obtain ⟨r', e', zz2, q⟩ := hv2
  exact ⟨r', e', zz2, q.1, q.2.1⟩
theorem kt_signal {w : MW} {a : Int32} {b : Int64} (h : LQr w) (hk : KTx w) : Tc 2000 12 [.ref 0, .int a, .long b] w (RZ fun r w1 => Tc 2000 95 [.ref 127, .int a, .long b] w1 (RZ fun r' w2 => KTx w2 ∧ True)) := by
  obtain ⟨x, y, z, hc, hM, hr⟩ := h
  refine tc_mono (tc_3 (a := x) (b := y) (c := z) (w := w) rfl rfl rfl rz_n (dm_Bh_signal (d := 1999) (w := S3 x y z w) (Q := fun r w' => CI w' ∧ FR l_Bh_signal (S3 x y z w) w') (ci_signal hc (fun r w' h' hF => ⟨h', hF⟩)))) (fun v w1 hv => ?_)
  obtain ⟨r, e, zz, q1, q2⟩ := hv
  have hM1 := mdj_cls hM q1.1 q2 rfl
  refine ⟨r, e, zz, ?_⟩
  refine tc_mono (dm_Mo_signal (d := 1999) (w := w1) (Q := fun r' w2 => MdJ w2 ∧ FR l_Mo_signal w1 w2) (mf_signal hM1 (fun r' w2 h2 hF => ⟨h2, hF⟩))) (fun v2 w2 hv2 => ?_)
  obtain ⟨r', e', zz2, m1, m2⟩ := hv2
  exact ⟨r', e', zz2, kt_of hk (fx_of q2) m2 rfl rfl, trivial⟩
theorem pt_signal {w : MW} {a : Int32} {b : Int64} (h : LKt w) : Tc 2000 12 [.ref 0, .int a, .long b] w (RZ fun r w1 => Tc 2000 95 [.ref 127, .int a, .long b] w1 (RZ fun r' w2 => LKt w2 ∧ True)) := by
  refine tc_mono (pair_rz (A := LKq) (B := KTx) (C := LKt) (E := fun (r r' : Int32) => True) (D := fun _ _ => True) (pq_signal h.1) (kt_signal h.1.2 h.2) (fun _ a b => ⟨a, b⟩)) (fun v w1 hv => ?_)
  obtain ⟨r, e, zz, q1⟩ := hv
  refine ⟨r, e, zz, tc_mono q1 (fun v2 w2 hv2 => ?_)⟩
  obtain ⟨r', e', zz2, q⟩ := hv2
  exact ⟨r', e', zz2, q.1, q.2.1⟩
theorem kt_bind {w : MW} {a : Int32} {b : Int32} {c : Int32} {d : Int32} {g : Int32} (h : LQr w) (hk : KTx w) : Tc 2000 13 [.ref 0, .int a, .int b, .int c, .int d, .int g] w (RZ fun r w1 => Tc 2000 88 [.ref 127, .int a, .int b, .int c, .int d, .int g] w1 (RZ fun r' w2 => KTx w2 ∧ True)) := by
  obtain ⟨x, y, z, hc, hM, hr⟩ := h
  refine tc_mono (tc_3 (a := x) (b := y) (c := z) (w := w) rfl rfl rfl rz_n (dm_Bh_bind (d := 1998) (w := S3 x y z w) (Q := fun r w' => CI w' ∧ FR l_Ac_tie (S3 x y z w) w') (cv_bind hc (fun r w' h' hF kk => ⟨h', hF⟩)))) (fun v w1 hv => ?_)
  obtain ⟨r, e, zz, q1, q2⟩ := hv
  have hM1 := mdj_cls hM q1.1 q2 rfl
  refine ⟨r, e, zz, ?_⟩
  refine tc_mono (dm_Mo_bind (d := 2000) (w := w1) (Q := fun r' w2 => MdJ w2 ∧ FR [(197, none), (198, none), (199, none), (200, none)] w1 w2) (mv_bind hM1 (fun r' w2 h2 hF kk => ⟨h2, hF⟩))) (fun v2 w2 hv2 => ?_)
  obtain ⟨r', e', zz2, m1, m2⟩ := hv2
  exact ⟨r', e', zz2, kt_of hk (fx_of q2) m2 rfl rfl, trivial⟩
theorem pt_bind {w : MW} {a : Int32} {b : Int32} {c : Int32} {d : Int32} {g : Int32} (h : LKt w) : Tc 2000 13 [.ref 0, .int a, .int b, .int c, .int d, .int g] w (RZ fun r w1 => Tc 2000 88 [.ref 127, .int a, .int b, .int c, .int d, .int g] w1 (RZ fun r' w2 => LKt w2 ∧ r = r')) := by
  refine tc_mono (pair_rz (A := LKq) (B := KTx) (C := LKt) (E := fun (r r' : Int32) => r = r') (D := fun _ _ => True) (pq_bind h.1) (kt_bind h.1.2 h.2) (fun _ a b => ⟨a, b⟩)) (fun v w1 hv => ?_)
  obtain ⟨r, e, zz, q1⟩ := hv
  refine ⟨r, e, zz, tc_mono q1 (fun v2 w2 hv2 => ?_)⟩
  obtain ⟨r', e', zz2, q⟩ := hv2
  exact ⟨r', e', zz2, q.1, q.2.1⟩
theorem kt_act {w : MW} {a : Int32} (h : LQr w) (hk : KTx w) : Tc 2000 14 [.ref 0, .int a] w (RI fun r w1 => Tc 2000 91 [.ref 127, .int a] w1 (RI fun r' w2 => KTx w2 ∧ True)) := by
  obtain ⟨x, y, z, hc, hM, hr⟩ := h
  refine tc_mono (tc_3 (a := x) (b := y) (c := z) (w := w) rfl rfl rfl ri_n (dm_Bh_act (d := 1994) (w := S3 x y z w) (Q := fun r w' => CI w' ∧ FR l_Bh_act (S3 x y z w) w') (ci_act hc (fun r w' h' hF => ⟨h', hF⟩)))) (fun v w1 hv => ?_)
  obtain ⟨r, e, q1, q2⟩ := hv
  have hM1 := mdj_cls hM q1.1 q2 rfl
  refine ⟨r, e, ?_⟩
  refine tc_mono (dm_Mo_act (d := 1596) (w := w1) (Q := fun r' w2 => MdJ w2 ∧ FR l_Mo_act w1 w2) (mf_act hM1 (fun r' w2 h2 hF => ⟨h2, hF⟩))) (fun v2 w2 hv2 => ?_)
  obtain ⟨r', e', m1, m2⟩ := hv2
  exact ⟨r', e', kt_of hk (fx_of q2) m2 rfl rfl, trivial⟩
theorem pt_act {w : MW} {a : Int32} (h : LKt w) : Tc 2000 14 [.ref 0, .int a] w (RI fun r w1 => Tc 2000 91 [.ref 127, .int a] w1 (RI fun r' w2 => LKt w2 ∧ True)) := by
  refine tc_mono (pair_ri (A := LKq) (B := KTx) (C := LKt) (E := fun (r r' : Int32) => True) (D := fun _ _ => True) (pq_act h.1) (kt_act h.1.2 h.2) (fun _ a b => ⟨a, b⟩)) (fun v w1 hv => ?_)
  obtain ⟨r, e, q1⟩ := hv
  refine ⟨r, e, tc_mono q1 (fun v2 w2 hv2 => ?_)⟩
  obtain ⟨r', e', q⟩ := hv2
  exact ⟨r', e', q.1, q.2.1⟩
theorem kt_start {w : MW}  (h : LQr w) (hk : KTx w) : Tc 2000 15 [.ref 0] w (RZ fun r w1 => Tc 2000 107 [.ref 127] w1 (RZ fun r' w2 => KTx w2 ∧ True)) := by
  obtain ⟨x, y, z, hc, hM, hr⟩ := h
  refine tc_mono (tc_3 (a := x) (b := y) (c := z) (w := w) rfl rfl rfl rz_n (dm_Bh_start (d := 1997) (w := S3 x y z w) (Q := fun r w' => CI w' ∧ FR l_Bh_start (S3 x y z w) w') (ci_start hc (fun r w' h' hF => ⟨h', hF⟩)))) (fun v w1 hv => ?_)
  obtain ⟨r, e, zz, q1, q2⟩ := hv
  have hM1 := mdj_cls hM q1.1 q2 rfl
  refine ⟨r, e, zz, ?_⟩
  refine tc_mono (dm_Mo_start (d := 1488) (w := w1) (Q := fun r' w2 => MdJ w2 ∧ FR lst w1 w2) (mf_start hM1 (fun r' w2 h2 hF => ⟨h2, hF⟩))) (fun v2 w2 hv2 => ?_)
  obtain ⟨r', e', zz2, m1, m2⟩ := hv2
  exact ⟨r', e', zz2, kt_of hk (fx_of q2) m2 rfl rfl, trivial⟩
theorem pt_start {w : MW}  (h : LKt w) : Tc 2000 15 [.ref 0] w (RZ fun r w1 => Tc 2000 107 [.ref 127] w1 (RZ fun r' w2 => LKt w2 ∧ True)) := by
  refine tc_mono (pair_rz (A := LKq) (B := KTx) (C := LKt) (E := fun (r r' : Int32) => True) (D := fun _ _ => True) (pq_start h.1) (kt_start h.1.2 h.2) (fun _ a b => ⟨a, b⟩)) (fun v w1 hv => ?_)
  obtain ⟨r, e, zz, q1⟩ := hv
  refine ⟨r, e, zz, tc_mono q1 (fun v2 w2 hv2 => ?_)⟩
  obtain ⟨r', e', zz2, q⟩ := hv2
  exact ⟨r', e', zz2, q.1, q.2.1⟩
theorem kt_tick {w : MW} {a : Int32} (h : LQr w) (hk : KTx w) : Tc 2000 16 [.ref 0, .int a] w (RI fun r w1 => Tc 2000 117 [.ref 127, .int a] w1 (RI fun r' w2 => KTx w2 ∧ True)) := by
  obtain ⟨x, y, z, hc, hM, hr⟩ := h
  refine tc_mono (tc_3 (a := x) (b := y) (c := z) (w := w) rfl rfl rfl ri_n (dm_Bh_tick (d := 1592) (w := S3 x y z w) (Q := fun r w' => CI w' ∧ FR l_Bh_tick (S3 x y z w) w') (cv_tick hc (fun r w' h' hF kk => ⟨h', hF⟩)))) (fun v w1 hv => ?_)
  obtain ⟨r, e, q1, q2⟩ := hv
  have hM1 := mdj_cls hM q1.1 q2 rfl
  refine ⟨r, e, ?_⟩
  refine tc_mono (dm_Mo_tick (d := 584) (w := w1) (Q := fun r' w2 => MdJ w2 ∧ FR ltk w1 w2) (mv_tick hM1 (fun r' w2 h2 hF kk => ⟨h2, hF⟩))) (fun v2 w2 hv2 => ?_)
  obtain ⟨r', e', m1, m2⟩ := hv2
  exact ⟨r', e', kt_of hk (fx_of q2) m2 rfl rfl, trivial⟩
theorem pt_tick {w : MW} {a : Int32} (h : LKt w) : Tc 2000 16 [.ref 0, .int a] w (RI fun r w1 => Tc 2000 117 [.ref 127, .int a] w1 (RI fun r' w2 => LKt w2 ∧ True)) := by
  refine tc_mono (pair_ri (A := LKq) (B := KTx) (C := LKt) (E := fun (r r' : Int32) => True) (D := fun _ _ => True) (pq_tick h.1) (kt_tick h.1.2 h.2) (fun _ a b => ⟨a, b⟩)) (fun v w1 hv => ?_)
  obtain ⟨r, e, q1⟩ := hv
  refine ⟨r, e, tc_mono q1 (fun v2 w2 hv2 => ?_)⟩
  obtain ⟨r', e', q⟩ := hv2
  exact ⟨r', e', q.1, q.2.1⟩
theorem kt_answer {w : MW} {a : Int64} (h : LQr w) (hk : KTx w) : Tc 2000 19 [.ref 0, .long a] w (RZ fun r w1 => Tc 2000 119 [.ref 127, .long a] w1 (RZ fun r' w2 => KTx w2 ∧ True)) := by
  obtain ⟨x, y, z, hc, hM, hr⟩ := h
  refine tc_mono (tc_3 (a := x) (b := y) (c := z) (w := w) rfl rfl rfl rz_n (dm_Bh_answer (d := 1598) (w := S3 x y z w) (Q := fun r w' => CI w' ∧ FR l_Ru_giveAnswer (S3 x y z w) w') (ci_answer hc (fun r w' h' hF => ⟨h', hF⟩)))) (fun v w1 hv => ?_)
  obtain ⟨r, e, zz, q1, q2⟩ := hv
  have hM1 := mdj_cls hM q1.1 q2 rfl
  refine ⟨r, e, zz, ?_⟩
  refine tc_mono (dm_Mo_answer (d := 1488) (w := w1) (Q := fun r' w2 => MdJ w2 ∧ FR lan w1 w2) (mf_answer hM1 (fun r' w2 h2 hF => ⟨h2, hF⟩))) (fun v2 w2 hv2 => ?_)
  obtain ⟨r', e', zz2, m1, m2⟩ := hv2
  exact ⟨r', e', zz2, kt_of hk (fx_of q2) m2 rfl rfl, trivial⟩
theorem pt_answer {w : MW} {a : Int64} (h : LKt w) : Tc 2000 19 [.ref 0, .long a] w (RZ fun r w1 => Tc 2000 119 [.ref 127, .long a] w1 (RZ fun r' w2 => LKt w2 ∧ True)) := by
  refine tc_mono (pair_rz (A := LKq) (B := KTx) (C := LKt) (E := fun (r r' : Int32) => True) (D := fun _ _ => True) (pq_answer h.1) (kt_answer h.1.2 h.2) (fun _ a b => ⟨a, b⟩)) (fun v w1 hv => ?_)
  obtain ⟨r, e, zz, q1⟩ := hv
  refine ⟨r, e, zz, tc_mono q1 (fun v2 w2 hv2 => ?_)⟩
  obtain ⟨r', e', zz2, q⟩ := hv2
  exact ⟨r', e', zz2, q.1, q.2.1⟩
theorem kt_hold {w : MW} {a : Int32} (h : LQr w) (hk : KTx w) : Tc 2000 20 [.ref 0, .int a] w (RZ fun r w1 => Tc 2000 120 [.ref 127, .int a] w1 (RZ fun r' w2 => KTx w2 ∧ True)) := by
  obtain ⟨x, y, z, hc, hM, hr⟩ := h
  refine tc_mono (tc_3 (a := x) (b := y) (c := z) (w := w) rfl rfl rfl rz_n (dm_Bh_hold (d := 1998) (w := S3 x y z w) (Q := fun r w' => CI w' ∧ FR l_Bh_hold (S3 x y z w) w') (ci_hold hc (fun r w' h' hF => ⟨h', hF⟩)))) (fun v w1 hv => ?_)
  obtain ⟨r, e, zz, q1, q2⟩ := hv
  have hM1 := mdj_cls hM q1.1 q2 rfl
  refine ⟨r, e, zz, ?_⟩
  refine tc_mono (dm_Mo_hold (d := 1997) (w := w1) (Q := fun r' w2 => MdJ w2 ∧ FR lhs w1 w2) (mf_hold hM1 (fun r' w2 h2 hF => ⟨h2, hF⟩))) (fun v2 w2 hv2 => ?_)
  obtain ⟨r', e', zz2, m1, m2⟩ := hv2
  exact ⟨r', e', zz2, kt_of hk (fx_of q2) m2 rfl rfl, trivial⟩
theorem pt_hold {w : MW} {a : Int32} (h : LKt w) : Tc 2000 20 [.ref 0, .int a] w (RZ fun r w1 => Tc 2000 120 [.ref 127, .int a] w1 (RZ fun r' w2 => LKt w2 ∧ True)) := by
  refine tc_mono (pair_rz (A := LKq) (B := KTx) (C := LKt) (E := fun (r r' : Int32) => True) (D := fun _ _ => True) (pq_hold h.1) (kt_hold h.1.2 h.2) (fun _ a b => ⟨a, b⟩)) (fun v w1 hv => ?_)
  obtain ⟨r, e, zz, q1⟩ := hv
  refine ⟨r, e, zz, tc_mono q1 (fun v2 w2 hv2 => ?_)⟩
  obtain ⟨r', e', zz2, q⟩ := hv2
  exact ⟨r', e', zz2, q.1, q.2.1⟩
theorem kt_stop {w : MW}  (h : LQr w) (hk : KTx w) : Tc 2000 21 [.ref 0] w (RZ fun r w1 => Tc 2000 121 [.ref 127] w1 (RZ fun r' w2 => KTx w2 ∧ True)) := by
  obtain ⟨x, y, z, hc, hM, hr⟩ := h
  refine tc_mono (tc_3 (a := x) (b := y) (c := z) (w := w) rfl rfl rfl rz_n (dm_Bh_stop (d := 1998) (w := S3 x y z w) (Q := fun r w' => CI w' ∧ FR l_Bh_stop (S3 x y z w) w') (ci_stop hc (fun r w' h' hF => ⟨h', hF⟩)))) (fun v w1 hv => ?_)
  obtain ⟨r, e, zz, q1, q2⟩ := hv
  have hM1 := mdj_cls hM q1.1 q2 rfl
  refine ⟨r, e, zz, ?_⟩
  refine tc_mono (dm_Mo_stop (d := 1997) (w := w1) (Q := fun r' w2 => MdJ w2 ∧ FR lhs w1 w2) (mf_stop hM1 (fun r' w2 h2 hF => ⟨h2, hF⟩))) (fun v2 w2 hv2 => ?_)
  obtain ⟨r', e', zz2, m1, m2⟩ := hv2
  exact ⟨r', e', zz2, kt_of hk (fx_of q2) m2 rfl rfl, trivial⟩
theorem pt_stop {w : MW}  (h : LKt w) : Tc 2000 21 [.ref 0] w (RZ fun r w1 => Tc 2000 121 [.ref 127] w1 (RZ fun r' w2 => LKt w2 ∧ True)) := by
  refine tc_mono (pair_rz (A := LKq) (B := KTx) (C := LKt) (E := fun (r r' : Int32) => True) (D := fun _ _ => True) (pq_stop h.1) (kt_stop h.1.2 h.2) (fun _ a b => ⟨a, b⟩)) (fun v w1 hv => ?_)
  obtain ⟨r, e, zz, q1⟩ := hv
  refine ⟨r, e, zz, tc_mono q1 (fun v2 w2 hv2 => ?_)⟩
  obtain ⟨r', e', zz2, q⟩ := hv2
  exact ⟨r', e', zz2, q.1, q.2.1⟩
theorem kt_pass {w : MW} {a : Int32} {b : Int32} {c : Int32} {d : Int32} (h : LQr w) (hk : KTx w) : Tc 2000 22 [.ref 0, .int a, .int b, .int c, .int d] w (RI fun r w1 => Tc 2000 99 [.ref 127, .int a, .int b, .int c, .int d] w1 (RI fun r' w2 => KTx w2 ∧ True)) := by
  obtain ⟨x, y, z, hc, hM, hr⟩ := h
  refine tc_mono (tc_3 (a := x) (b := y) (c := z) (w := w) rfl rfl rfl ri_n (dm_Bh_pass (d := 1999) (w := S3 x y z w) (Q := fun r w' => CI w' ∧ FR l_Bh_pass (S3 x y z w) w') (ci_pass hc (fun r w' h' hF => ⟨h', hF⟩)))) (fun v w1 hv => ?_)
  obtain ⟨r, e, q1, q2⟩ := hv
  have hM1 := mdj_cls hM q1.1 q2 rfl
  refine ⟨r, e, ?_⟩
  refine tc_mono (dm_Mo_pass (d := 1998) (w := w1) (Q := fun r' w2 => MdJ w2 ∧ FR l_Mr_pass w1 w2) (mf_pass hM1 (fun r' w2 h2 hF => ⟨h2, hF⟩))) (fun v2 w2 hv2 => ?_)
  obtain ⟨r', e', m1, m2⟩ := hv2
  exact ⟨r', e', kt_of hk (fx_of q2) m2 rfl rfl, trivial⟩
theorem pt_pass {w : MW} {a : Int32} {b : Int32} {c : Int32} {d : Int32} (h : LKt w) : Tc 2000 22 [.ref 0, .int a, .int b, .int c, .int d] w (RI fun r w1 => Tc 2000 99 [.ref 127, .int a, .int b, .int c, .int d] w1 (RI fun r' w2 => LKt w2 ∧ r = r')) := by
  refine tc_mono (pair_ri (A := LKq) (B := KTx) (C := LKt) (E := fun (r r' : Int32) => r = r') (D := fun _ _ => True) (pq_pass h.1) (kt_pass h.1.2 h.2) (fun _ a b => ⟨a, b⟩)) (fun v w1 hv => ?_)
  obtain ⟨r, e, q1⟩ := hv
  refine ⟨r, e, tc_mono q1 (fun v2 w2 hv2 => ?_)⟩
  obtain ⟨r', e', q⟩ := hv2
  exact ⟨r', e', q.1, q.2.1⟩
theorem kt_reset {w : MW} {a : Int32} (h : LQr w) (hk : KTx w) : Tc 2000 24 [.ref 0, .int a] w (RZ fun r w1 => Tc 2000 100 [.ref 127, .int a] w1 (RZ fun r' w2 => KTx w2 ∧ True)) := by
  obtain ⟨x, y, z, hc, hM, hr⟩ := h
  refine tc_mono (tc_3 (a := x) (b := y) (c := z) (w := w) rfl rfl rfl rz_n (dm_Bh_reset (d := 1999) (w := S3 x y z w) (Q := fun r w' => CI w' ∧ FR l_Bh_reset (S3 x y z w) w') (ci_reset hc (fun r w' h' hF => ⟨h', hF⟩)))) (fun v w1 hv => ?_)
  obtain ⟨r, e, zz, q1, q2⟩ := hv
  have hM1 := mdj_cls hM q1.1 q2 rfl
  refine ⟨r, e, zz, ?_⟩
  refine tc_mono (dm_Mo_reset (d := 1597) (w := w1) (Q := fun r' w2 => MdJ w2 ∧ FR l_Mr_reset w1 w2) (mf_reset hM1 (fun r' w2 h2 hF => ⟨h2, hF⟩))) (fun v2 w2 hv2 => ?_)
  obtain ⟨r', e', zz2, m1, m2⟩ := hv2
  exact ⟨r', e', zz2, kt_of hk (fx_of q2) m2 rfl rfl, trivial⟩
theorem pt_reset {w : MW} {a : Int32} (h : LKt w) : Tc 2000 24 [.ref 0, .int a] w (RZ fun r w1 => Tc 2000 100 [.ref 127, .int a] w1 (RZ fun r' w2 => LKt w2 ∧ True)) := by
  refine tc_mono (pair_rz (A := LKq) (B := KTx) (C := LKt) (E := fun (r r' : Int32) => True) (D := fun _ _ => True) (pq_reset h.1) (kt_reset h.1.2 h.2) (fun _ a b => ⟨a, b⟩)) (fun v w1 hv => ?_)
  obtain ⟨r, e, zz, q1⟩ := hv
  refine ⟨r, e, zz, tc_mono q1 (fun v2 w2 hv2 => ?_)⟩
  obtain ⟨r', e', zz2, q⟩ := hv2
  exact ⟨r', e', zz2, q.1, q.2.1⟩
theorem kt_bars {w : MW} {a : Int32} (h : LQr w) (hk : KTx w) : Tc 2000 25 [.ref 0, .int a] w (RI fun r w1 => Tc 2000 101 [.ref 127, .int a] w1 (RI fun r' w2 => KTx w2 ∧ True)) := by
  obtain ⟨x, y, z, hc, hM, hr⟩ := h
  refine tc_mono (tc_3 (a := x) (b := y) (c := z) (w := w) rfl rfl rfl ri_n (dm_Bh_bars (d := 1998) (w := S3 x y z w) (Q := fun r w' => CI w' ∧ FR l_Bh_bars (S3 x y z w) w') (ci_bars hc (fun r w' h' hF => ⟨h', hF⟩)))) (fun v w1 hv => ?_)
  obtain ⟨r, e, q1, q2⟩ := hv
  have hM1 := mdj_cls hM q1.1 q2 rfl
  refine ⟨r, e, ?_⟩
  refine tc_mono (dm_Mo_bars (d := 1597) (w := w1) (Q := fun r' w2 => MdJ w2 ∧ FR l_Mr_act1 w1 w2) (mf_bars hM1 (fun r' w2 h2 hF => ⟨h2, hF⟩))) (fun v2 w2 hv2 => ?_)
  obtain ⟨r', e', m1, m2⟩ := hv2
  exact ⟨r', e', kt_of hk (fx_of q2) m2 rfl rfl, trivial⟩
theorem pt_bars {w : MW} {a : Int32} (h : LKt w) : Tc 2000 25 [.ref 0, .int a] w (RI fun r w1 => Tc 2000 101 [.ref 127, .int a] w1 (RI fun r' w2 => LKt w2 ∧ True)) := by
  refine tc_mono (pair_ri (A := LKq) (B := KTx) (C := LKt) (E := fun (r r' : Int32) => True) (D := fun _ _ => True) (pq_bars h.1) (kt_bars h.1.2 h.2) (fun _ a b => ⟨a, b⟩)) (fun v w1 hv => ?_)
  obtain ⟨r, e, q1⟩ := hv
  refine ⟨r, e, tc_mono q1 (fun v2 w2 hv2 => ?_)⟩
  obtain ⟨r', e', q⟩ := hv2
  exact ⟨r', e', q.1, q.2.1⟩
theorem kt_row {w : MW} {a : Int32} {b : Int32} (h : LQr w) (hk : KTx w) : Tc 2000 26 [.ref 0, .int a, .int b] w (RI fun r w1 => Tc 2000 102 [.ref 127, .int a, .int b] w1 (RI fun r' w2 => KTx w2 ∧ True)) := by
  obtain ⟨x, y, z, hc, hM, hr⟩ := h
  refine tc_mono (tc_3 (a := x) (b := y) (c := z) (w := w) rfl rfl rfl ri_n (dm_Bh_row (d := 1999) (w := S3 x y z w) (Q := fun r w' => CI w' ∧ FR l_Bh_row (S3 x y z w) w') (ci_row hc (fun r w' h' hF => ⟨h', hF⟩)))) (fun v w1 hv => ?_)
  obtain ⟨r, e, q1, q2⟩ := hv
  have hM1 := mdj_cls hM q1.1 q2 rfl
  refine ⟨r, e, ?_⟩
  refine tc_mono (dm_Mo_row (d := 1598) (w := w1) (Q := fun r' w2 => MdJ w2 ∧ FR l_Mo_row w1 w2) (mf_row hM1 (fun r' w2 h2 hF => ⟨h2, hF⟩))) (fun v2 w2 hv2 => ?_)
  obtain ⟨r', e', m1, m2⟩ := hv2
  exact ⟨r', e', kt_of hk (fx_of q2) m2 rfl rfl, trivial⟩
theorem pt_row {w : MW} {a : Int32} {b : Int32} (h : LKt w) : Tc 2000 26 [.ref 0, .int a, .int b] w (RI fun r w1 => Tc 2000 102 [.ref 127, .int a, .int b] w1 (RI fun r' w2 => LKt w2 ∧ True)) := by
  refine tc_mono (pair_ri (A := LKq) (B := KTx) (C := LKt) (E := fun (r r' : Int32) => True) (D := fun _ _ => True) (pq_row h.1) (kt_row h.1.2 h.2) (fun _ a b => ⟨a, b⟩)) (fun v w1 hv => ?_)
  obtain ⟨r, e, q1⟩ := hv
  refine ⟨r, e, tc_mono q1 (fun v2 w2 hv2 => ?_)⟩
  obtain ⟨r', e', q⟩ := hv2
  exact ⟨r', e', q.1, q.2.1⟩
theorem kt_state {w : MW}  (h : LQr w) (hk : KTx w) : Tc 2000 27 [.ref 0] w (RI fun r w1 => Tc 2000 122 [.ref 127] w1 (RI fun r' w2 => KTx w2 ∧ True)) := by
  obtain ⟨x, y, z, hc, hM, hr⟩ := h
  refine tc_mono (tc_3 (a := x) (b := y) (c := z) (w := w) rfl rfl rfl ri_n (dm_Bh_state (d := 2000) (w := S3 x y z w) (Q := fun r w' => CI w' ∧ FR [] (S3 x y z w) w') (ci_state hc (fun r w' h' hF => ⟨h', hF⟩)))) (fun v w1 hv => ?_)
  obtain ⟨r, e, q1, q2⟩ := hv
  have hM1 := mdj_cls hM q1.1 q2 rfl
  refine ⟨r, e, ?_⟩
  refine tc_mono (dm_Mo_state (d := 2000) (w := w1) (Q := fun r' w2 => MdJ w2 ∧ FR [] w1 w2) (mf_state hM1 (fun r' w2 h2 hF => ⟨h2, hF⟩))) (fun v2 w2 hv2 => ?_)
  obtain ⟨r', e', m1, m2⟩ := hv2
  exact ⟨r', e', kt_of hk (fx_of q2) m2 rfl rfl, trivial⟩
theorem pt_state {w : MW}  (h : LKt w) : Tc 2000 27 [.ref 0] w (RI fun r w1 => Tc 2000 122 [.ref 127] w1 (RI fun r' w2 => LKt w2 ∧ True)) := by
  refine tc_mono (pair_ri (A := LKq) (B := KTx) (C := LKt) (E := fun (r r' : Int32) => True) (D := fun _ _ => True) (pq_state h.1) (kt_state h.1.2 h.2) (fun _ a b => ⟨a, b⟩)) (fun v w1 hv => ?_)
  obtain ⟨r, e, q1⟩ := hv
  refine ⟨r, e, tc_mono q1 (fun v2 w2 hv2 => ?_)⟩
  obtain ⟨r', e', q⟩ := hv2
  exact ⟨r', e', q.1, q.2.1⟩
theorem kt_value {w : MW} {a : Int32} (h : LQr w) (hk : KTx w) : Tc 2000 28 [.ref 0, .int a] w (RJ fun r w1 => Tc 2000 96 [.ref 127, .int a] w1 (RJ fun r' w2 => KTx w2 ∧ True)) := by
  obtain ⟨x, y, z, hc, hM, hr⟩ := h
  refine tc_mono (tc_3 (a := x) (b := y) (c := z) (w := w) rfl rfl rfl rj_n (dm_Bh_value (d := 1999) (w := S3 x y z w) (Q := fun r w' => CI w' ∧ FR [] (S3 x y z w) w') (ci_value hc (fun r w' h' hF => ⟨h', hF⟩)))) (fun v w1 hv => ?_)
  obtain ⟨r, e, q1, q2⟩ := hv
  have hM1 := mdj_cls hM q1.1 q2 rfl
  refine ⟨r, e, ?_⟩
  refine tc_mono (dm_Mo_value (d := 1999) (w := w1) (Q := fun r' w2 => MdJ w2 ∧ FR l_Mo_value w1 w2) (mf_value hM1 (fun r' w2 h2 hF => ⟨h2, hF⟩))) (fun v2 w2 hv2 => ?_)
  obtain ⟨r', e', m1, m2⟩ := hv2
  exact ⟨r', e', kt_of hk (fx_of q2) m2 rfl rfl, trivial⟩
theorem pt_value {w : MW} {a : Int32} (h : LKt w) : Tc 2000 28 [.ref 0, .int a] w (RJ fun r w1 => Tc 2000 96 [.ref 127, .int a] w1 (RJ fun r' w2 => LKt w2 ∧ True)) := by
  refine tc_mono (pair_rj (A := LKq) (B := KTx) (C := LKt) (E := fun (r r' : Int64) => True) (D := fun _ _ => True) (pq_value h.1) (kt_value h.1.2 h.2) (fun _ a b => ⟨a, b⟩)) (fun v w1 hv => ?_)
  obtain ⟨r, e, q1⟩ := hv
  refine ⟨r, e, tc_mono q1 (fun v2 w2 hv2 => ?_)⟩
  obtain ⟨r', e', q⟩ := hv2
  exact ⟨r', e', q.1, q.2.1⟩
theorem kt_still {w : MW} {a : Int32} (h : LQr w) (hk : KTx w) : Tc 2000 29 [.ref 0, .int a] w (RI fun r w1 => Tc 2000 123 [.ref 127, .int a] w1 (RI fun r' w2 => KTx w2 ∧ True)) := by
  obtain ⟨x, y, z, hc, hM, hr⟩ := h
  refine tc_mono (tc_3 (a := x) (b := y) (c := z) (w := w) rfl rfl rfl ri_n (dm_Bh_still (d := 1598) (w := S3 x y z w) (Q := fun r w' => CI w' ∧ FR l_Ru_seek (S3 x y z w) w') (ci_still hc (fun r w' h' hF => ⟨h', hF⟩)))) (fun v w1 hv => ?_)
  obtain ⟨r, e, q1, q2⟩ := hv
  have hM1 := mdj_cls hM q1.1 q2 rfl
  refine ⟨r, e, ?_⟩
  refine tc_mono (dm_Mo_still (d := 1488) (w := w1) (Q := fun r' w2 => MdJ w2 ∧ FR lsa w1 w2) (mf_still hM1 (fun r' w2 h2 hF => ⟨h2, hF⟩))) (fun v2 w2 hv2 => ?_)
  obtain ⟨r', e', m1, m2⟩ := hv2
  exact ⟨r', e', kt_of hk (fx_of q2) m2 rfl rfl, trivial⟩
theorem pt_still {w : MW} {a : Int32} (h : LKt w) : Tc 2000 29 [.ref 0, .int a] w (RI fun r w1 => Tc 2000 123 [.ref 127, .int a] w1 (RI fun r' w2 => LKt w2 ∧ True)) := by
  refine tc_mono (pair_ri (A := LKq) (B := KTx) (C := LKt) (E := fun (r r' : Int32) => True) (D := fun _ _ => True) (pq_still h.1) (kt_still h.1.2 h.2) (fun _ a b => ⟨a, b⟩)) (fun v w1 hv => ?_)
  obtain ⟨r, e, q1⟩ := hv
  refine ⟨r, e, tc_mono q1 (fun v2 w2 hv2 => ?_)⟩
  obtain ⟨r', e', q⟩ := hv2
  exact ⟨r', e', q.1, q.2.1⟩
theorem kt_alarm {w : MW} {a : Int32} {b : Int32} (h : LQr w) (hk : KTx w) : Tc 2000 30 [.ref 0, .int a, .int b] w (RI fun r w1 => Tc 2000 124 [.ref 127, .int a, .int b] w1 (RI fun r' w2 => KTx w2 ∧ True)) := by
  obtain ⟨x, y, z, hc, hM, hr⟩ := h
  refine tc_mono (tc_3 (a := x) (b := y) (c := z) (w := w) rfl rfl rfl ri_n (dm_Bh_alarm (d := 1999) (w := S3 x y z w) (Q := fun r w' => CI w' ∧ FR [] (S3 x y z w) w') (ci_alarm hc (fun r w' h' hF => ⟨h', hF⟩)))) (fun v w1 hv => ?_)
  obtain ⟨r, e, q1, q2⟩ := hv
  have hM1 := mdj_cls hM q1.1 q2 rfl
  refine ⟨r, e, ?_⟩
  refine tc_mono (dm_Mo_alarm (d := 2000) (w := w1) (Q := fun r' w2 => MdJ w2 ∧ FR [] w1 w2) (mf_alarm hM1 (fun r' w2 h2 hF => ⟨h2, hF⟩))) (fun v2 w2 hv2 => ?_)
  obtain ⟨r', e', m1, m2⟩ := hv2
  exact ⟨r', e', kt_of hk (fx_of q2) m2 rfl rfl, trivial⟩
theorem pt_alarm {w : MW} {a : Int32} {b : Int32} (h : LKt w) : Tc 2000 30 [.ref 0, .int a, .int b] w (RI fun r w1 => Tc 2000 124 [.ref 127, .int a, .int b] w1 (RI fun r' w2 => LKt w2 ∧ True)) := by
  refine tc_mono (pair_ri (A := LKq) (B := KTx) (C := LKt) (E := fun (r r' : Int32) => True) (D := fun _ _ => True) (pq_alarm h.1) (kt_alarm h.1.2 h.2) (fun _ a b => ⟨a, b⟩)) (fun v w1 hv => ?_)
  obtain ⟨r, e, q1⟩ := hv
  refine ⟨r, e, tc_mono q1 (fun v2 w2 hv2 => ?_)⟩
  obtain ⟨r', e', q⟩ := hv2
  exact ⟨r', e', q.1, q.2.1⟩
theorem kt_way {w : MW} {a : Int32} {b : Int32} (h : LQr w) (hk : KTx w) : Tc 2000 31 [.ref 0, .int a, .int b] w (RI fun r w1 => Tc 2000 82 [.ref 127, .int a, .int b] w1 (RI fun r' w2 => KTx w2 ∧ True)) := by
  obtain ⟨x, y, z, hc, hM, hr⟩ := h
  refine tc_mono (tc_3 (a := x) (b := y) (c := z) (w := w) rfl rfl rfl ri_n (dm_Bh_way (d := 1999) (w := S3 x y z w) (Q := fun r w' => CI w' ∧ FR l_Wa_get (S3 x y z w) w') (ci_way hc (fun r w' h' hF => ⟨h', hF⟩)))) (fun v w1 hv => ?_)
  obtain ⟨r, e, q1, q2⟩ := hv
  have hM1 := mdj_cls hM q1.1 q2 rfl
  refine ⟨r, e, ?_⟩
  refine tc_mono (dm_Mo_way (d := 2000) (w := w1) (Q := fun r' w2 => MdJ w2 ∧ FR [] w1 w2) (mf_way hM1 (fun r' w2 h2 hF => ⟨h2, hF⟩))) (fun v2 w2 hv2 => ?_)
  obtain ⟨r', e', m1, m2⟩ := hv2
  exact ⟨r', e', kt_of hk (fx_of q2) m2 rfl rfl, trivial⟩
theorem pt_way {w : MW} {a : Int32} {b : Int32} (h : LKt w) : Tc 2000 31 [.ref 0, .int a, .int b] w (RI fun r w1 => Tc 2000 82 [.ref 127, .int a, .int b] w1 (RI fun r' w2 => LKt w2 ∧ True)) := by
  refine tc_mono (pair_ri (A := LKq) (B := KTx) (C := LKt) (E := fun (r r' : Int32) => True) (D := fun _ _ => True) (pq_way h.1) (kt_way h.1.2 h.2) (fun _ a b => ⟨a, b⟩)) (fun v w1 hv => ?_)
  obtain ⟨r, e, q1⟩ := hv
  refine ⟨r, e, tc_mono q1 (fun v2 w2 hv2 => ?_)⟩
  obtain ⟨r', e', q⟩ := hv2
  exact ⟨r', e', q.1, q.2.1⟩
theorem kt_space {w : MW} {a : Int32} {b : Int32} (h : LQr w) (hk : KTx w) : Tc 2000 32 [.ref 0, .int a, .int b] w (RI fun r w1 => Tc 2000 83 [.ref 127, .int a, .int b] w1 (RI fun r' w2 => KTx w2 ∧ True)) := by
  obtain ⟨x, y, z, hc, hM, hr⟩ := h
  refine tc_mono (tc_3 (a := x) (b := y) (c := z) (w := w) rfl rfl rfl ri_n (dm_Bh_space (d := 1997) (w := S3 x y z w) (Q := fun r w' => CI w' ∧ FR l_Bh_space (S3 x y z w) w') (ci_space hc (fun r w' h' hF => ⟨h', hF⟩)))) (fun v w1 hv => ?_)
  obtain ⟨r, e, q1, q2⟩ := hv
  have hM1 := mdj_cls hM q1.1 q2 rfl
  refine ⟨r, e, ?_⟩
  refine tc_mono (dm_Mo_space (d := 1997) (w := w1) (Q := fun r' w2 => MdJ w2 ∧ FR l_Mo_space w1 w2) (mf_space hM1 (fun r' w2 h2 hF => ⟨h2, hF⟩))) (fun v2 w2 hv2 => ?_)
  obtain ⟨r', e', m1, m2⟩ := hv2
  exact ⟨r', e', kt_of hk (fx_of q2) m2 rfl rfl, trivial⟩
theorem pt_space {w : MW} {a : Int32} {b : Int32} (h : LKt w) : Tc 2000 32 [.ref 0, .int a, .int b] w (RI fun r w1 => Tc 2000 83 [.ref 127, .int a, .int b] w1 (RI fun r' w2 => LKt w2 ∧ True)) := by
  refine tc_mono (pair_ri (A := LKq) (B := KTx) (C := LKt) (E := fun (r r' : Int32) => True) (D := fun _ _ => True) (pq_space h.1) (kt_space h.1.2 h.2) (fun _ a b => ⟨a, b⟩)) (fun v w1 hv => ?_)
  obtain ⟨r, e, q1⟩ := hv
  refine ⟨r, e, tc_mono q1 (fun v2 w2 hv2 => ?_)⟩
  obtain ⟨r', e', q⟩ := hv2
  exact ⟨r', e', q.1, q.2.1⟩
theorem kt_danger {w : MW} {a : Int32} (h : LQr w) (hk : KTx w) : Tc 2000 33 [.ref 0, .int a] w (RI fun r w1 => Tc 2000 70 [.ref 127, .int a] w1 (RI fun r' w2 => KTx w2 ∧ True)) := by
  obtain ⟨x, y, z, hc, hM, hr⟩ := h
  refine tc_mono (tc_3 (a := x) (b := y) (c := z) (w := w) rfl rfl rfl ri_n (dm_Bh_danger (d := 1996) (w := S3 x y z w) (Q := fun r w' => CI w' ∧ FR l_Bh_danger (S3 x y z w) w') (ci_danger hc (fun r w' h' hF => ⟨h', hF⟩)))) (fun v w1 hv => ?_)
  obtain ⟨r, e, q1, q2⟩ := hv
  have hM1 := mdj_cls hM q1.1 q2 rfl
  refine ⟨r, e, ?_⟩
  refine tc_mono (dm_Mo_danger (d := 1996) (w := w1) (Q := fun r' w2 => MdJ w2 ∧ FR l_Mo_danger w1 w2) (mf_danger hM1 (fun r' w2 h2 hF => ⟨h2, hF⟩))) (fun v2 w2 hv2 => ?_)
  obtain ⟨r', e', m1, m2⟩ := hv2
  exact ⟨r', e', kt_of hk (fx_of q2) m2 rfl rfl, trivial⟩
theorem pt_danger {w : MW} {a : Int32} (h : LKt w) : Tc 2000 33 [.ref 0, .int a] w (RI fun r w1 => Tc 2000 70 [.ref 127, .int a] w1 (RI fun r' w2 => LKt w2 ∧ True)) := by
  refine tc_mono (pair_ri (A := LKq) (B := KTx) (C := LKt) (E := fun (r r' : Int32) => True) (D := fun _ _ => True) (pq_danger h.1) (kt_danger h.1.2 h.2) (fun _ a b => ⟨a, b⟩)) (fun v w1 hv => ?_)
  obtain ⟨r, e, q1⟩ := hv
  refine ⟨r, e, tc_mono q1 (fun v2 w2 hv2 => ?_)⟩
  obtain ⟨r', e', q⟩ := hv2
  exact ⟨r', e', q.1, q.2.1⟩
theorem kt_write {w : MW} {a : Int32} (h : LQr w) (hk : KTx w) : Tc 2000 34 [.ref 0, .int a] w (RI fun r w1 => Tc 2000 49 [.ref 127, .int a] w1 (RI fun r' w2 => KTx w2 ∧ True)) := by
  obtain ⟨x, y, z, hc, hM, hr⟩ := h
  refine tc_mono (tc_3 (a := x) (b := y) (c := z) (w := w) rfl rfl rfl ri_n (dm_Bh_write (d := 2000) (w := S3 x y z w) (Q := fun r w' => CI w' ∧ FR [] (S3 x y z w) w') (ci_write hc (fun r w' h' hF => ⟨h', hF⟩)))) (fun v w1 hv => ?_)
  obtain ⟨r, e, q1, q2⟩ := hv
  have hM1 := mdj_cls hM q1.1 q2 rfl
  refine ⟨r, e, ?_⟩
  refine tc_mono (dm_Mo_write (d := 1998) (w := w1) (Q := fun r' w2 => MdJ w2 ∧ FR l_Mo_write w1 w2) (mf_write hM1 (fun r' w2 h2 hF => ⟨h2, hF⟩))) (fun v2 w2 hv2 => ?_)
  obtain ⟨r', e', m1, m2⟩ := hv2
  exact ⟨r', e', kt_of hk (fx_of q2) m2 rfl rfl, trivial⟩
theorem pt_write {w : MW} {a : Int32} (h : LKt w) : Tc 2000 34 [.ref 0, .int a] w (RI fun r w1 => Tc 2000 49 [.ref 127, .int a] w1 (RI fun r' w2 => LKt w2 ∧ r = r')) := by
  refine tc_mono (pair_ri (A := LKq) (B := KTx) (C := LKt) (E := fun (r r' : Int32) => r = r') (D := fun _ _ => True) (pq_write h.1) (kt_write h.1.2 h.2) (fun _ a b => ⟨a, b⟩)) (fun v w1 hv => ?_)
  obtain ⟨r, e, q1⟩ := hv
  refine ⟨r, e, tc_mono q1 (fun v2 w2 hv2 => ?_)⟩
  obtain ⟨r', e', q⟩ := hv2
  exact ⟨r', e', q.1, q.2.1⟩
theorem kt_second {w : MW}  (h : LQr w) (hk : KTx w) : Tc 2000 35 [.ref 0] w (RI fun r w1 => Tc 2000 125 [.ref 127] w1 (RI fun r' w2 => KTx w2 ∧ True)) := by
  obtain ⟨x, y, z, hc, hM, hr⟩ := h
  refine tc_mono (tc_3 (a := x) (b := y) (c := z) (w := w) rfl rfl rfl ri_n (dm_Bh_second (d := 2000) (w := S3 x y z w) (Q := fun r w' => CI w' ∧ FR [] (S3 x y z w) w') (cv_second hc (fun r w' h' hF kk => ⟨h', hF⟩)))) (fun v w1 hv => ?_)
  obtain ⟨r, e, q1, q2⟩ := hv
  have hM1 := mdj_cls hM q1.1 q2 rfl
  refine ⟨r, e, ?_⟩
  refine tc_mono (dm_Mo_second (d := 2000) (w := w1) (Q := fun r' w2 => MdJ w2 ∧ FR [] w1 w2) (mv_second hM1 (fun r' w2 h2 hF kk => ⟨h2, hF⟩))) (fun v2 w2 hv2 => ?_)
  obtain ⟨r', e', m1, m2⟩ := hv2
  exact ⟨r', e', kt_of hk (fx_of q2) m2 rfl rfl, trivial⟩
theorem pt_second {w : MW}  (h : LKt w) : Tc 2000 35 [.ref 0] w (RI fun r w1 => Tc 2000 125 [.ref 127] w1 (RI fun r' w2 => LKt w2 ∧ r = r')) := by
  refine tc_mono (pair_ri (A := LKq) (B := KTx) (C := LKt) (E := fun (r r' : Int32) => r = r') (D := fun _ _ => True) (pq_second h.1) (kt_second h.1.2 h.2) (fun _ a b => ⟨a, b⟩)) (fun v w1 hv => ?_)
  obtain ⟨r, e, q1⟩ := hv
  refine ⟨r, e, tc_mono q1 (fun v2 w2 hv2 => ?_)⟩
  obtain ⟨r', e', q⟩ := hv2
  exact ⟨r', e', q.1, q.2.1⟩
