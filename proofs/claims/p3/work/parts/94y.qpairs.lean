/-! the pairs: the rows' relation -/
theorem qr_feed {w : MW} {a : Int32} {b : Int32} {c : Int32} {d : Int32} {g : Int32} (h : LQr w) : Tc 2000 0 [.ref 0, .int a, .int b, .int c, .int d, .int g] w (RI fun r w1 => Tc 2000 36 [.ref 127, .int a, .int b, .int c, .int d, .int g] w1 (RI fun r' w2 => LQr w2 ∧ True)) := by
  obtain ⟨x, y, z, hc, hM, hr⟩ := h
  refine tc_mono (tc_3 (a := x) (b := y) (c := z) (w := w) rfl rfl rfl ri_n (dm_Bh_feed (d := 1999) (w := S3 x y z w) (Q := fun r w' => CI w' ∧ FR l_Bh_feed (S3 x y z w) w') (cv_feed hc (fun r w' h' hF kk => ⟨h', hF⟩)))) (fun v w1 hv => ?_)
  obtain ⟨r, e, q1, q2⟩ := hv
  have hM1 := mdj_cls hM q1.1 q2 rfl
  have hr1 := rr_c hr q2 rfl rfl
  refine ⟨r, e, ?_⟩
  refine tc_mono (dm_Mo_feed (d := 2000) (w := w1) (Q := fun r' w2 => MdJ w2 ∧ FR l_Mo_feed w1 w2) (mv_feed hM1 (fun r' w2 h2 hF kk => ⟨h2, hF⟩))) (fun v2 w2 hv2 => ?_)
  obtain ⟨r', e', m1, m2⟩ := hv2
  exact ⟨r', e', ⟨x, y, z, ci_ref q1 m1 m2 rfl, m1, rr_m hr1 m2 rfl rfl⟩, trivial⟩
theorem pq_feed {w : MW} {a : Int32} {b : Int32} {c : Int32} {d : Int32} {g : Int32} (h : LKq w) : Tc 2000 0 [.ref 0, .int a, .int b, .int c, .int d, .int g] w (RI fun r w1 => Tc 2000 36 [.ref 127, .int a, .int b, .int c, .int d, .int g] w1 (RI fun r' w2 => LKq w2 ∧ r = r')) := by
  refine tc_mono (pair_ri (A := LKw) (B := LQr) (C := LKq) (E := fun (r r' : Int32) => r = r') (D := fun _ _ => True) (pw_feed h.1) (qr_feed h.2) (fun _ a b => kq a b)) (fun v w1 hv => ?_)
  obtain ⟨r, e, q1⟩ := hv
  refine ⟨r, e, tc_mono q1 (fun v2 w2 hv2 => ?_)⟩
  obtain ⟨r', e', q⟩ := hv2
  exact ⟨r', e', q.1, q.2.1⟩
theorem pq_end {w : MW} {a : Int32} {b : Int32} (h : LKq w) : Tc 2000 1 [.ref 0, .int a, .int b] w (RI fun r w1 => Tc 2000 37 [.ref 127, .int a, .int b] w1 (RI fun r' w2 => LKq w2 ∧ True)) := by
  refine tc_mono (pair_ri (A := LKw) (B := LQr) (C := LKq) (E := fun (r r' : Int32) => True) (D := fun r r' => (((fitE (w.1 1 1).toInt a b ∧ txO (CTx w b.toInt) b.toInt) ∧ a.toInt = 1) → r = r')) (pw_end h.1) (qr_end h.2 h.1.2.1 h.1.1.2.1) (fun _ a b => kq a b)) (fun v w1 hv => ?_)
  obtain ⟨r, e, q1⟩ := hv
  refine ⟨r, e, tc_mono q1 (fun v2 w2 hv2 => ?_)⟩
  obtain ⟨r', e', q⟩ := hv2
  exact ⟨r', e', q.1, q.2.1⟩
theorem qr_fill {w : MW} {a : Int32} {b : Int32} {c : Int64} (h : LQr w) : Tc 2000 5 [.ref 0, .int a, .int b, .long c] w (RZ fun r w1 => Tc 2000 84 [.ref 127, .int a, .int b, .long c] w1 (RZ fun r' w2 => LQr w2 ∧ True)) := by
  obtain ⟨x, y, z, hc, hM, hr⟩ := h
  refine tc_mono (tc_3 (a := x) (b := y) (c := z) (w := w) rfl rfl rfl rz_n (dm_Bh_fill (d := 1996) (w := S3 x y z w) (Q := fun r w' => CI w' ∧ FR l_Bh_fill (S3 x y z w) w') (ci_fill hc (fun r w' h' hF => ⟨h', hF⟩)))) (fun v w1 hv => ?_)
  obtain ⟨r, e, zz, q1, q2⟩ := hv
  have hM1 := mdj_cls hM q1.1 q2 rfl
  have hr1 := rr_c hr q2 rfl rfl
  refine ⟨r, e, zz, ?_⟩
  refine tc_mono (dm_Mo_fill (d := 1996) (w := w1) (Q := fun r' w2 => MdJ w2 ∧ FR l_Mo_fill w1 w2) (mf_fill hM1 (fun r' w2 h2 hF => ⟨h2, hF⟩))) (fun v2 w2 hv2 => ?_)
  obtain ⟨r', e', zz2, m1, m2⟩ := hv2
  exact ⟨r', e', zz2, ⟨x, y, z, ci_ref q1 m1 m2 rfl, m1, rr_m hr1 m2 rfl rfl⟩, trivial⟩
theorem pq_fill {w : MW} {a : Int32} {b : Int32} {c : Int64} (h : LKq w) : Tc 2000 5 [.ref 0, .int a, .int b, .long c] w (RZ fun r w1 => Tc 2000 84 [.ref 127, .int a, .int b, .long c] w1 (RZ fun r' w2 => LKq w2 ∧ True)) := by
  refine tc_mono (pair_rz (A := LKw) (B := LQr) (C := LKq) (E := fun (r r' : Int32) => True) (D := fun _ _ => True) (pw_fill h.1) (qr_fill h.2) (fun _ a b => kq a b)) (fun v w1 hv => ?_)
  obtain ⟨r, e, zz, q1⟩ := hv
  refine ⟨r, e, zz, tc_mono q1 (fun v2 w2 hv2 => ?_)⟩
  obtain ⟨r', e', zz2, q⟩ := hv2
  exact ⟨r', e', zz2, q.1, q.2.1⟩
theorem qr_may {w : MW} {a : Int32} {b : Int32} (h : LQr w) : Tc 2000 7 [.ref 0, .int a, .int b] w (RZ fun r w1 => Tc 2000 85 [.ref 127, .int a, .int b] w1 (RZ fun r' w2 => LQr w2 ∧ True)) := by
  obtain ⟨x, y, z, hc, hM, hr⟩ := h
  refine tc_mono (tc_3 (a := x) (b := y) (c := z) (w := w) rfl rfl rfl rz_n (dm_Bh_may (d := 1999) (w := S3 x y z w) (Q := fun r w' => CI w' ∧ FR l_Bh_may (S3 x y z w) w') (cv_may hc (fun r w' h' hF kk kb => ⟨h', hF⟩)))) (fun v w1 hv => ?_)
  obtain ⟨r, e, zz, q1, q2⟩ := hv
  have hM1 := mdj_cls hM q1.1 q2 rfl
  have hr1 := rr_c hr q2 rfl rfl
  refine ⟨r, e, zz, ?_⟩
  refine tc_mono (dm_Mo_may (d := 2000) (w := w1) (Q := fun r' w2 => MdJ w2 ∧ FR l_Mo_may w1 w2) (mv_may hM1 (fun r' w2 h2 hF kk kb => ⟨h2, hF⟩))) (fun v2 w2 hv2 => ?_)
  obtain ⟨r', e', zz2, m1, m2⟩ := hv2
  exact ⟨r', e', zz2, ⟨x, y, z, ci_ref q1 m1 m2 rfl, m1, rr_m hr1 m2 rfl rfl⟩, trivial⟩
theorem pq_may {w : MW} {a : Int32} {b : Int32} (h : LKq w) : Tc 2000 7 [.ref 0, .int a, .int b] w (RZ fun r w1 => Tc 2000 85 [.ref 127, .int a, .int b] w1 (RZ fun r' w2 => LKq w2 ∧ r = r')) := by
  refine tc_mono (pair_rz (A := LKw) (B := LQr) (C := LKq) (E := fun (r r' : Int32) => r = r') (D := fun _ _ => True) (pw_may h.1) (qr_may h.2) (fun _ a b => kq a b)) (fun v w1 hv => ?_)
  obtain ⟨r, e, zz, q1⟩ := hv
  refine ⟨r, e, zz, tc_mono q1 (fun v2 w2 hv2 => ?_)⟩
  obtain ⟨r', e', zz2, q⟩ := hv2
  exact ⟨r', e', zz2, q.1, q.2.1⟩
theorem qr_need {w : MW} {a : Int32} {b : Int32} {c : Int32} (h : LQr w) : Tc 2000 8 [.ref 0, .int a, .int b, .int c] w (RZ fun r w1 => Tc 2000 86 [.ref 127, .int a, .int b, .int c] w1 (RZ fun r' w2 => LQr w2 ∧ True)) := by
  obtain ⟨x, y, z, hc, hM, hr⟩ := h
  refine tc_mono (tc_3 (a := x) (b := y) (c := z) (w := w) rfl rfl rfl rz_n (dm_Bh_need (d := 1999) (w := S3 x y z w) (Q := fun r w' => CI w' ∧ FR l_Bh_need (S3 x y z w) w') (cv_need hc (fun r w' h' hF kk => ⟨h', hF⟩)))) (fun v w1 hv => ?_)
  obtain ⟨r, e, zz, q1, q2⟩ := hv
  have hM1 := mdj_cls hM q1.1 q2 rfl
  have hr1 := rr_c hr q2 rfl rfl
  refine ⟨r, e, zz, ?_⟩
  refine tc_mono (dm_Mo_need (d := 2000) (w := w1) (Q := fun r' w2 => MdJ w2 ∧ FR l_Mo_need w1 w2) (mv_need hM1 (fun r' w2 h2 hF kk => ⟨h2, hF⟩))) (fun v2 w2 hv2 => ?_)
  obtain ⟨r', e', zz2, m1, m2⟩ := hv2
  exact ⟨r', e', zz2, ⟨x, y, z, ci_ref q1 m1 m2 rfl, m1, rr_m hr1 m2 rfl rfl⟩, trivial⟩
theorem pq_need {w : MW} {a : Int32} {b : Int32} {c : Int32} (h : LKq w) : Tc 2000 8 [.ref 0, .int a, .int b, .int c] w (RZ fun r w1 => Tc 2000 86 [.ref 127, .int a, .int b, .int c] w1 (RZ fun r' w2 => LKq w2 ∧ r = r')) := by
  refine tc_mono (pair_rz (A := LKw) (B := LQr) (C := LKq) (E := fun (r r' : Int32) => r = r') (D := fun _ _ => True) (pw_need h.1) (qr_need h.2) (fun _ a b => kq a b)) (fun v w1 hv => ?_)
  obtain ⟨r, e, zz, q1⟩ := hv
  refine ⟨r, e, zz, tc_mono q1 (fun v2 w2 hv2 => ?_)⟩
  obtain ⟨r', e', zz2, q⟩ := hv2
  exact ⟨r', e', zz2, q.1, q.2.1⟩
theorem qr_lasts {w : MW} {a : Int32} {b : Int32} (h : LQr w) : Tc 2000 9 [.ref 0, .int a, .int b] w (RZ fun r w1 => Tc 2000 87 [.ref 127, .int a, .int b] w1 (RZ fun r' w2 => LQr w2 ∧ True)) := by
  obtain ⟨x, y, z, hc, hM, hr⟩ := h
  refine tc_mono (tc_3 (a := x) (b := y) (c := z) (w := w) rfl rfl rfl rz_n (dm_Bh_lasts (d := 2000) (w := S3 x y z w) (Q := fun r w' => CI w' ∧ FR l_Bh_lasts (S3 x y z w) w') (cv_lasts hc (fun r w' h' hF kk => ⟨h', hF⟩)))) (fun v w1 hv => ?_)
  obtain ⟨r, e, zz, q1, q2⟩ := hv
  have hM1 := mdj_cls hM q1.1 q2 rfl
  have hr1 := rr_c hr q2 rfl rfl
  refine ⟨r, e, zz, ?_⟩
  refine tc_mono (dm_Mo_lasts (d := 2000) (w := w1) (Q := fun r' w2 => MdJ w2 ∧ FR l_Mo_lasts w1 w2) (mv_lasts hM1 (fun r' w2 h2 hF kk => ⟨h2, hF⟩))) (fun v2 w2 hv2 => ?_)
  obtain ⟨r', e', zz2, m1, m2⟩ := hv2
  exact ⟨r', e', zz2, ⟨x, y, z, ci_ref q1 m1 m2 rfl, m1, rr_m hr1 m2 rfl rfl⟩, trivial⟩
theorem pq_lasts {w : MW} {a : Int32} {b : Int32} (h : LKq w) : Tc 2000 9 [.ref 0, .int a, .int b] w (RZ fun r w1 => Tc 2000 87 [.ref 127, .int a, .int b] w1 (RZ fun r' w2 => LKq w2 ∧ r = r')) := by
  refine tc_mono (pair_rz (A := LKw) (B := LQr) (C := LKq) (E := fun (r r' : Int32) => r = r') (D := fun _ _ => True) (pw_lasts h.1) (qr_lasts h.2) (fun _ a b => kq a b)) (fun v w1 hv => ?_)
  obtain ⟨r, e, zz, q1⟩ := hv
  refine ⟨r, e, zz, tc_mono q1 (fun v2 w2 hv2 => ?_)⟩
  obtain ⟨r', e', zz2, q⟩ := hv2
  exact ⟨r', e', zz2, q.1, q.2.1⟩
theorem qr_sense {w : MW} {a : Int32} {b : Int32} {c : Int32} (h : LQr w) : Tc 2000 10 [.ref 0, .int a, .int b, .int c] w (RZ fun r w1 => Tc 2000 93 [.ref 127, .int a, .int b, .int c] w1 (RZ fun r' w2 => LQr w2 ∧ True)) := by
  obtain ⟨x, y, z, hc, hM, hr⟩ := h
  refine tc_mono (tc_3 (a := x) (b := y) (c := z) (w := w) rfl rfl rfl rz_n (dm_Bh_sense (d := 1999) (w := S3 x y z w) (Q := fun r w' => CI w' ∧ FR l_Bh_sense (S3 x y z w) w') (ci_sense hc (fun r w' h' hF => ⟨h', hF⟩)))) (fun v w1 hv => ?_)
  obtain ⟨r, e, zz, q1, q2⟩ := hv
  have hM1 := mdj_cls hM q1.1 q2 rfl
  have hr1 := rr_c hr q2 rfl rfl
  refine ⟨r, e, zz, ?_⟩
  refine tc_mono (dm_Mo_sense (d := 1999) (w := w1) (Q := fun r' w2 => MdJ w2 ∧ FR l_Mo_sense w1 w2) (mf_sense hM1 (fun r' w2 h2 hF => ⟨h2, hF⟩))) (fun v2 w2 hv2 => ?_)
  obtain ⟨r', e', zz2, m1, m2⟩ := hv2
  exact ⟨r', e', zz2, ⟨x, y, z, ci_ref q1 m1 m2 rfl, m1, rr_m hr1 m2 rfl rfl⟩, trivial⟩
theorem pq_sense {w : MW} {a : Int32} {b : Int32} {c : Int32} (h : LKq w) : Tc 2000 10 [.ref 0, .int a, .int b, .int c] w (RZ fun r w1 => Tc 2000 93 [.ref 127, .int a, .int b, .int c] w1 (RZ fun r' w2 => LKq w2 ∧ True)) := by
  refine tc_mono (pair_rz (A := LKw) (B := LQr) (C := LKq) (E := fun (r r' : Int32) => True) (D := fun _ _ => True) (pw_sense h.1) (qr_sense h.2) (fun _ a b => kq a b)) (fun v w1 hv => ?_)
  obtain ⟨r, e, zz, q1⟩ := hv
  refine ⟨r, e, zz, tc_mono q1 (fun v2 w2 hv2 => ?_)⟩
  obtain ⟨r', e', zz2, q⟩ := hv2
  exact ⟨r', e', zz2, q.1, q.2.1⟩
theorem qr_watch {w : MW} {a : Int32} {b : Int32} {c : Int32} {d : Int64} (h : LQr w) : Tc 2000 11 [.ref 0, .int a, .int b, .int c, .long d] w (RZ fun r w1 => Tc 2000 94 [.ref 127, .int a, .int b, .int c, .long d] w1 (RZ fun r' w2 => LQr w2 ∧ True)) := by
  obtain ⟨x, y, z, hc, hM, hr⟩ := h
  refine tc_mono (tc_3 (a := x) (b := y) (c := z) (w := w) rfl rfl rfl rz_n (dm_Bh_watch (d := 2000) (w := S3 x y z w) (Q := fun r w' => CI w' ∧ FR l_Bh_watch (S3 x y z w) w') (cv_watch hc (fun r w' h' hF kk => ⟨h', hF⟩)))) (fun v w1 hv => ?_)
  obtain ⟨r, e, zz, q1, q2⟩ := hv
  have hM1 := mdj_cls hM q1.1 q2 rfl
  have hr1 := rr_c hr q2 rfl rfl
  refine ⟨r, e, zz, ?_⟩
  refine tc_mono (dm_Mo_watch (d := 2000) (w := w1) (Q := fun r' w2 => MdJ w2 ∧ FR l_Mo_watch w1 w2) (mv_watch hM1 (fun r' w2 h2 hF kk => ⟨h2, hF⟩))) (fun v2 w2 hv2 => ?_)
  obtain ⟨r', e', zz2, m1, m2⟩ := hv2
  exact ⟨r', e', zz2, ⟨x, y, z, ci_ref q1 m1 m2 rfl, m1, rr_m hr1 m2 rfl rfl⟩, trivial⟩
theorem pq_watch {w : MW} {a : Int32} {b : Int32} {c : Int32} {d : Int64} (h : LKq w) : Tc 2000 11 [.ref 0, .int a, .int b, .int c, .long d] w (RZ fun r w1 => Tc 2000 94 [.ref 127, .int a, .int b, .int c, .long d] w1 (RZ fun r' w2 => LKq w2 ∧ r = r')) := by
  refine tc_mono (pair_rz (A := LKw) (B := LQr) (C := LKq) (E := fun (r r' : Int32) => r = r') (D := fun _ _ => True) (pw_watch h.1) (qr_watch h.2) (fun _ a b => kq a b)) (fun v w1 hv => ?_)
  obtain ⟨r, e, zz, q1⟩ := hv
  refine ⟨r, e, zz, tc_mono q1 (fun v2 w2 hv2 => ?_)⟩
  obtain ⟨r', e', zz2, q⟩ := hv2
  exact ⟨r', e', zz2, q.1, q.2.1⟩
theorem qr_signal {w : MW} {a : Int32} {b : Int64} (h : LQr w) : Tc 2000 12 [.ref 0, .int a, .long b] w (RZ fun r w1 => Tc 2000 95 [.ref 127, .int a, .long b] w1 (RZ fun r' w2 => LQr w2 ∧ True)) := by
  obtain ⟨x, y, z, hc, hM, hr⟩ := h
  refine tc_mono (tc_3 (a := x) (b := y) (c := z) (w := w) rfl rfl rfl rz_n (dm_Bh_signal (d := 1999) (w := S3 x y z w) (Q := fun r w' => CI w' ∧ FR l_Bh_signal (S3 x y z w) w') (ci_signal hc (fun r w' h' hF => ⟨h', hF⟩)))) (fun v w1 hv => ?_)
  obtain ⟨r, e, zz, q1, q2⟩ := hv
  have hM1 := mdj_cls hM q1.1 q2 rfl
  have hr1 := rr_c hr q2 rfl rfl
  refine ⟨r, e, zz, ?_⟩
  refine tc_mono (dm_Mo_signal (d := 1999) (w := w1) (Q := fun r' w2 => MdJ w2 ∧ FR l_Mo_signal w1 w2) (mf_signal hM1 (fun r' w2 h2 hF => ⟨h2, hF⟩))) (fun v2 w2 hv2 => ?_)
  obtain ⟨r', e', zz2, m1, m2⟩ := hv2
  exact ⟨r', e', zz2, ⟨x, y, z, ci_ref q1 m1 m2 rfl, m1, rr_m hr1 m2 rfl rfl⟩, trivial⟩
theorem pq_signal {w : MW} {a : Int32} {b : Int64} (h : LKq w) : Tc 2000 12 [.ref 0, .int a, .long b] w (RZ fun r w1 => Tc 2000 95 [.ref 127, .int a, .long b] w1 (RZ fun r' w2 => LKq w2 ∧ True)) := by
  refine tc_mono (pair_rz (A := LKw) (B := LQr) (C := LKq) (E := fun (r r' : Int32) => True) (D := fun _ _ => True) (pw_signal h.1) (qr_signal h.2) (fun _ a b => kq a b)) (fun v w1 hv => ?_)
  obtain ⟨r, e, zz, q1⟩ := hv
  refine ⟨r, e, zz, tc_mono q1 (fun v2 w2 hv2 => ?_)⟩
  obtain ⟨r', e', zz2, q⟩ := hv2
  exact ⟨r', e', zz2, q.1, q.2.1⟩
theorem qr_bind {w : MW} {a : Int32} {b : Int32} {c : Int32} {d : Int32} {g : Int32} (h : LQr w) : Tc 2000 13 [.ref 0, .int a, .int b, .int c, .int d, .int g] w (RZ fun r w1 => Tc 2000 88 [.ref 127, .int a, .int b, .int c, .int d, .int g] w1 (RZ fun r' w2 => LQr w2 ∧ True)) := by
  obtain ⟨x, y, z, hc, hM, hr⟩ := h
  refine tc_mono (tc_3 (a := x) (b := y) (c := z) (w := w) rfl rfl rfl rz_n (dm_Bh_bind (d := 1998) (w := S3 x y z w) (Q := fun r w' => CI w' ∧ FR l_Ac_tie (S3 x y z w) w') (cv_bind hc (fun r w' h' hF kk => ⟨h', hF⟩)))) (fun v w1 hv => ?_)
  obtain ⟨r, e, zz, q1, q2⟩ := hv
  have hM1 := mdj_cls hM q1.1 q2 rfl
  have hr1 := rr_c hr q2 rfl rfl
  refine ⟨r, e, zz, ?_⟩
  refine tc_mono (dm_Mo_bind (d := 2000) (w := w1) (Q := fun r' w2 => MdJ w2 ∧ FR [(197, none), (198, none), (199, none), (200, none)] w1 w2) (mv_bind hM1 (fun r' w2 h2 hF kk => ⟨h2, hF⟩))) (fun v2 w2 hv2 => ?_)
  obtain ⟨r', e', zz2, m1, m2⟩ := hv2
  exact ⟨r', e', zz2, ⟨x, y, z, ci_ref q1 m1 m2 rfl, m1, rr_m hr1 m2 rfl rfl⟩, trivial⟩
theorem pq_bind {w : MW} {a : Int32} {b : Int32} {c : Int32} {d : Int32} {g : Int32} (h : LKq w) : Tc 2000 13 [.ref 0, .int a, .int b, .int c, .int d, .int g] w (RZ fun r w1 => Tc 2000 88 [.ref 127, .int a, .int b, .int c, .int d, .int g] w1 (RZ fun r' w2 => LKq w2 ∧ r = r')) := by
  refine tc_mono (pair_rz (A := LKw) (B := LQr) (C := LKq) (E := fun (r r' : Int32) => r = r') (D := fun _ _ => True) (pw_bind h.1) (qr_bind h.2) (fun _ a b => kq a b)) (fun v w1 hv => ?_)
  obtain ⟨r, e, zz, q1⟩ := hv
  refine ⟨r, e, zz, tc_mono q1 (fun v2 w2 hv2 => ?_)⟩
  obtain ⟨r', e', zz2, q⟩ := hv2
  exact ⟨r', e', zz2, q.1, q.2.1⟩
theorem qr_act {w : MW} {a : Int32} (h : LQr w) : Tc 2000 14 [.ref 0, .int a] w (RI fun r w1 => Tc 2000 91 [.ref 127, .int a] w1 (RI fun r' w2 => LQr w2 ∧ True)) := by
  obtain ⟨x, y, z, hc, hM, hr⟩ := h
  refine tc_mono (tc_3 (a := x) (b := y) (c := z) (w := w) rfl rfl rfl ri_n (dm_Bh_act (d := 1994) (w := S3 x y z w) (Q := fun r w' => CI w' ∧ FR l_Bh_act (S3 x y z w) w') (ci_act hc (fun r w' h' hF => ⟨h', hF⟩)))) (fun v w1 hv => ?_)
  obtain ⟨r, e, q1, q2⟩ := hv
  have hM1 := mdj_cls hM q1.1 q2 rfl
  have hr1 := rr_c hr q2 rfl rfl
  refine ⟨r, e, ?_⟩
  refine tc_mono (dm_Mo_act (d := 1596) (w := w1) (Q := fun r' w2 => MdJ w2 ∧ FR l_Mo_act w1 w2) (mf_act hM1 (fun r' w2 h2 hF => ⟨h2, hF⟩))) (fun v2 w2 hv2 => ?_)
  obtain ⟨r', e', m1, m2⟩ := hv2
  exact ⟨r', e', ⟨x, y, z, ci_ref q1 m1 m2 rfl, m1, rr_m hr1 m2 rfl rfl⟩, trivial⟩
theorem pq_act {w : MW} {a : Int32} (h : LKq w) : Tc 2000 14 [.ref 0, .int a] w (RI fun r w1 => Tc 2000 91 [.ref 127, .int a] w1 (RI fun r' w2 => LKq w2 ∧ True)) := by
  refine tc_mono (pair_ri (A := LKw) (B := LQr) (C := LKq) (E := fun (r r' : Int32) => True) (D := fun _ _ => True) (pw_act h.1) (qr_act h.2) (fun _ a b => kq a b)) (fun v w1 hv => ?_)
  obtain ⟨r, e, q1⟩ := hv
  refine ⟨r, e, tc_mono q1 (fun v2 w2 hv2 => ?_)⟩
  obtain ⟨r', e', q⟩ := hv2
  exact ⟨r', e', q.1, q.2.1⟩
theorem qr_start {w : MW}  (h : LQr w) : Tc 2000 15 [.ref 0] w (RZ fun r w1 => Tc 2000 107 [.ref 127] w1 (RZ fun r' w2 => LQr w2 ∧ True)) := by
  obtain ⟨x, y, z, hc, hM, hr⟩ := h
  refine tc_mono (tc_3 (a := x) (b := y) (c := z) (w := w) rfl rfl rfl rz_n (dm_Bh_start (d := 1997) (w := S3 x y z w) (Q := fun r w' => CI w' ∧ FR l_Bh_start (S3 x y z w) w') (ci_start hc (fun r w' h' hF => ⟨h', hF⟩)))) (fun v w1 hv => ?_)
  obtain ⟨r, e, zz, q1, q2⟩ := hv
  have hM1 := mdj_cls hM q1.1 q2 rfl
  have hr1 := rr_c hr q2 rfl rfl
  refine ⟨r, e, zz, ?_⟩
  refine tc_mono (dm_Mo_start (d := 1488) (w := w1) (Q := fun r' w2 => MdJ w2 ∧ FR lst w1 w2) (mf_start hM1 (fun r' w2 h2 hF => ⟨h2, hF⟩))) (fun v2 w2 hv2 => ?_)
  obtain ⟨r', e', zz2, m1, m2⟩ := hv2
  exact ⟨r', e', zz2, ⟨x, y, z, ci_ref q1 m1 m2 rfl, m1, rr_m hr1 m2 rfl rfl⟩, trivial⟩
theorem pq_start {w : MW}  (h : LKq w) : Tc 2000 15 [.ref 0] w (RZ fun r w1 => Tc 2000 107 [.ref 127] w1 (RZ fun r' w2 => LKq w2 ∧ True)) := by
  refine tc_mono (pair_rz (A := LKw) (B := LQr) (C := LKq) (E := fun (r r' : Int32) => True) (D := fun _ _ => True) (pw_start h.1) (qr_start h.2) (fun _ a b => kq a b)) (fun v w1 hv => ?_)
  obtain ⟨r, e, zz, q1⟩ := hv
  refine ⟨r, e, zz, tc_mono q1 (fun v2 w2 hv2 => ?_)⟩
  obtain ⟨r', e', zz2, q⟩ := hv2
  exact ⟨r', e', zz2, q.1, q.2.1⟩
theorem pq_tick {w : MW} {a : Int32} (h : LKq w) : Tc 2000 16 [.ref 0, .int a] w (RI fun r w1 => Tc 2000 117 [.ref 127, .int a] w1 (RI fun r' w2 => LKq w2 ∧ True)) := by
  refine tc_mono (pair_ri (A := LKw) (B := LQr) (C := LKq) (E := fun (r r' : Int32) => True) (D := fun _ _ => True) (pw_tick h.1) (qr_tick h.2) (fun _ a b => kq a b)) (fun v w1 hv => ?_)
  obtain ⟨r, e, q1⟩ := hv
  refine ⟨r, e, tc_mono q1 (fun v2 w2 hv2 => ?_)⟩
  obtain ⟨r', e', q⟩ := hv2
  exact ⟨r', e', q.1, q.2.1⟩
theorem qr_answer {w : MW} {a : Int64} (h : LQr w) : Tc 2000 19 [.ref 0, .long a] w (RZ fun r w1 => Tc 2000 119 [.ref 127, .long a] w1 (RZ fun r' w2 => LQr w2 ∧ True)) := by
  obtain ⟨x, y, z, hc, hM, hr⟩ := h
  refine tc_mono (tc_3 (a := x) (b := y) (c := z) (w := w) rfl rfl rfl rz_n (dm_Bh_answer (d := 1598) (w := S3 x y z w) (Q := fun r w' => CI w' ∧ FR l_Ru_giveAnswer (S3 x y z w) w') (ci_answer hc (fun r w' h' hF => ⟨h', hF⟩)))) (fun v w1 hv => ?_)
  obtain ⟨r, e, zz, q1, q2⟩ := hv
  have hM1 := mdj_cls hM q1.1 q2 rfl
  have hr1 := rr_c hr q2 rfl rfl
  refine ⟨r, e, zz, ?_⟩
  refine tc_mono (dm_Mo_answer (d := 1488) (w := w1) (Q := fun r' w2 => MdJ w2 ∧ FR lan w1 w2) (mf_answer hM1 (fun r' w2 h2 hF => ⟨h2, hF⟩))) (fun v2 w2 hv2 => ?_)
  obtain ⟨r', e', zz2, m1, m2⟩ := hv2
  exact ⟨r', e', zz2, ⟨x, y, z, ci_ref q1 m1 m2 rfl, m1, rr_m hr1 m2 rfl rfl⟩, trivial⟩
theorem pq_answer {w : MW} {a : Int64} (h : LKq w) : Tc 2000 19 [.ref 0, .long a] w (RZ fun r w1 => Tc 2000 119 [.ref 127, .long a] w1 (RZ fun r' w2 => LKq w2 ∧ True)) := by
  refine tc_mono (pair_rz (A := LKw) (B := LQr) (C := LKq) (E := fun (r r' : Int32) => True) (D := fun _ _ => True) (pw_answer h.1) (qr_answer h.2) (fun _ a b => kq a b)) (fun v w1 hv => ?_)
  obtain ⟨r, e, zz, q1⟩ := hv
  refine ⟨r, e, zz, tc_mono q1 (fun v2 w2 hv2 => ?_)⟩
  obtain ⟨r', e', zz2, q⟩ := hv2
  exact ⟨r', e', zz2, q.1, q.2.1⟩
theorem qr_hold {w : MW} {a : Int32} (h : LQr w) : Tc 2000 20 [.ref 0, .int a] w (RZ fun r w1 => Tc 2000 120 [.ref 127, .int a] w1 (RZ fun r' w2 => LQr w2 ∧ True)) := by
  obtain ⟨x, y, z, hc, hM, hr⟩ := h
  refine tc_mono (tc_3 (a := x) (b := y) (c := z) (w := w) rfl rfl rfl rz_n (dm_Bh_hold (d := 1998) (w := S3 x y z w) (Q := fun r w' => CI w' ∧ FR l_Bh_hold (S3 x y z w) w') (ci_hold hc (fun r w' h' hF => ⟨h', hF⟩)))) (fun v w1 hv => ?_)
  obtain ⟨r, e, zz, q1, q2⟩ := hv
  have hM1 := mdj_cls hM q1.1 q2 rfl
  have hr1 := rr_c hr q2 rfl rfl
  refine ⟨r, e, zz, ?_⟩
  refine tc_mono (dm_Mo_hold (d := 1997) (w := w1) (Q := fun r' w2 => MdJ w2 ∧ FR lhs w1 w2) (mf_hold hM1 (fun r' w2 h2 hF => ⟨h2, hF⟩))) (fun v2 w2 hv2 => ?_)
  obtain ⟨r', e', zz2, m1, m2⟩ := hv2
  exact ⟨r', e', zz2, ⟨x, y, z, ci_ref q1 m1 m2 rfl, m1, rr_m hr1 m2 rfl rfl⟩, trivial⟩
theorem pq_hold {w : MW} {a : Int32} (h : LKq w) : Tc 2000 20 [.ref 0, .int a] w (RZ fun r w1 => Tc 2000 120 [.ref 127, .int a] w1 (RZ fun r' w2 => LKq w2 ∧ True)) := by
  refine tc_mono (pair_rz (A := LKw) (B := LQr) (C := LKq) (E := fun (r r' : Int32) => True) (D := fun _ _ => True) (pw_hold h.1) (qr_hold h.2) (fun _ a b => kq a b)) (fun v w1 hv => ?_)
  obtain ⟨r, e, zz, q1⟩ := hv
  refine ⟨r, e, zz, tc_mono q1 (fun v2 w2 hv2 => ?_)⟩
  obtain ⟨r', e', zz2, q⟩ := hv2
  exact ⟨r', e', zz2, q.1, q.2.1⟩
theorem qr_stop {w : MW}  (h : LQr w) : Tc 2000 21 [.ref 0] w (RZ fun r w1 => Tc 2000 121 [.ref 127] w1 (RZ fun r' w2 => LQr w2 ∧ True)) := by
  obtain ⟨x, y, z, hc, hM, hr⟩ := h
  refine tc_mono (tc_3 (a := x) (b := y) (c := z) (w := w) rfl rfl rfl rz_n (dm_Bh_stop (d := 1998) (w := S3 x y z w) (Q := fun r w' => CI w' ∧ FR l_Bh_stop (S3 x y z w) w') (ci_stop hc (fun r w' h' hF => ⟨h', hF⟩)))) (fun v w1 hv => ?_)
  obtain ⟨r, e, zz, q1, q2⟩ := hv
  have hM1 := mdj_cls hM q1.1 q2 rfl
  have hr1 := rr_c hr q2 rfl rfl
  refine ⟨r, e, zz, ?_⟩
  refine tc_mono (dm_Mo_stop (d := 1997) (w := w1) (Q := fun r' w2 => MdJ w2 ∧ FR lhs w1 w2) (mf_stop hM1 (fun r' w2 h2 hF => ⟨h2, hF⟩))) (fun v2 w2 hv2 => ?_)
  obtain ⟨r', e', zz2, m1, m2⟩ := hv2
  exact ⟨r', e', zz2, ⟨x, y, z, ci_ref q1 m1 m2 rfl, m1, rr_m hr1 m2 rfl rfl⟩, trivial⟩
theorem pq_stop {w : MW}  (h : LKq w) : Tc 2000 21 [.ref 0] w (RZ fun r w1 => Tc 2000 121 [.ref 127] w1 (RZ fun r' w2 => LKq w2 ∧ True)) := by
  refine tc_mono (pair_rz (A := LKw) (B := LQr) (C := LKq) (E := fun (r r' : Int32) => True) (D := fun _ _ => True) (pw_stop h.1) (qr_stop h.2) (fun _ a b => kq a b)) (fun v w1 hv => ?_)
  obtain ⟨r, e, zz, q1⟩ := hv
  refine ⟨r, e, zz, tc_mono q1 (fun v2 w2 hv2 => ?_)⟩
  obtain ⟨r', e', zz2, q⟩ := hv2
  exact ⟨r', e', zz2, q.1, q.2.1⟩
theorem pq_pass {w : MW} {a : Int32} {b : Int32} {c : Int32} {d : Int32} (h : LKq w) : Tc 2000 22 [.ref 0, .int a, .int b, .int c, .int d] w (RI fun r w1 => Tc 2000 99 [.ref 127, .int a, .int b, .int c, .int d] w1 (RI fun r' w2 => LKq w2 ∧ r = r')) := by
  refine tc_mono (pair_ri (A := LKw) (B := LQr) (C := LKq) (E := fun (r r' : Int32) => True) (D := fun r r' => r = r') (pw_pass h.1) (qr_pass h.2) (fun _ a b => kq a b)) (fun v w1 hv => ?_)
  obtain ⟨r, e, q1⟩ := hv
  refine ⟨r, e, tc_mono q1 (fun v2 w2 hv2 => ?_)⟩
  obtain ⟨r', e', q⟩ := hv2
  exact ⟨r', e', q.1, q.2.2⟩
theorem qr_reset {w : MW} {a : Int32} (h : LQr w) : Tc 2000 24 [.ref 0, .int a] w (RZ fun r w1 => Tc 2000 100 [.ref 127, .int a] w1 (RZ fun r' w2 => LQr w2 ∧ True)) := by
  obtain ⟨x, y, z, hc, hM, hr⟩ := h
  refine tc_mono (tc_3 (a := x) (b := y) (c := z) (w := w) rfl rfl rfl rz_n (dm_Bh_reset (d := 1999) (w := S3 x y z w) (Q := fun r w' => CI w' ∧ FR l_Bh_reset (S3 x y z w) w') (ci_reset hc (fun r w' h' hF => ⟨h', hF⟩)))) (fun v w1 hv => ?_)
  obtain ⟨r, e, zz, q1, q2⟩ := hv
  have hM1 := mdj_cls hM q1.1 q2 rfl
  have hr1 := rr_c hr q2 rfl rfl
  refine ⟨r, e, zz, ?_⟩
  refine tc_mono (dm_Mo_reset (d := 1597) (w := w1) (Q := fun r' w2 => MdJ w2 ∧ FR l_Mr_reset w1 w2) (mf_reset hM1 (fun r' w2 h2 hF => ⟨h2, hF⟩))) (fun v2 w2 hv2 => ?_)
  obtain ⟨r', e', zz2, m1, m2⟩ := hv2
  exact ⟨r', e', zz2, ⟨x, y, z, ci_ref q1 m1 m2 rfl, m1, rr_m hr1 m2 rfl rfl⟩, trivial⟩
theorem pq_reset {w : MW} {a : Int32} (h : LKq w) : Tc 2000 24 [.ref 0, .int a] w (RZ fun r w1 => Tc 2000 100 [.ref 127, .int a] w1 (RZ fun r' w2 => LKq w2 ∧ True)) := by
  refine tc_mono (pair_rz (A := LKw) (B := LQr) (C := LKq) (E := fun (r r' : Int32) => True) (D := fun _ _ => True) (pw_reset h.1) (qr_reset h.2) (fun _ a b => kq a b)) (fun v w1 hv => ?_)
  obtain ⟨r, e, zz, q1⟩ := hv
  refine ⟨r, e, zz, tc_mono q1 (fun v2 w2 hv2 => ?_)⟩
  obtain ⟨r', e', zz2, q⟩ := hv2
  exact ⟨r', e', zz2, q.1, q.2.1⟩
theorem qr_bars {w : MW} {a : Int32} (h : LQr w) : Tc 2000 25 [.ref 0, .int a] w (RI fun r w1 => Tc 2000 101 [.ref 127, .int a] w1 (RI fun r' w2 => LQr w2 ∧ True)) := by
  obtain ⟨x, y, z, hc, hM, hr⟩ := h
  refine tc_mono (tc_3 (a := x) (b := y) (c := z) (w := w) rfl rfl rfl ri_n (dm_Bh_bars (d := 1998) (w := S3 x y z w) (Q := fun r w' => CI w' ∧ FR l_Bh_bars (S3 x y z w) w') (ci_bars hc (fun r w' h' hF => ⟨h', hF⟩)))) (fun v w1 hv => ?_)
  obtain ⟨r, e, q1, q2⟩ := hv
  have hM1 := mdj_cls hM q1.1 q2 rfl
  have hr1 := rr_c hr q2 rfl rfl
  refine ⟨r, e, ?_⟩
  refine tc_mono (dm_Mo_bars (d := 1597) (w := w1) (Q := fun r' w2 => MdJ w2 ∧ FR l_Mr_act1 w1 w2) (mf_bars hM1 (fun r' w2 h2 hF => ⟨h2, hF⟩))) (fun v2 w2 hv2 => ?_)
  obtain ⟨r', e', m1, m2⟩ := hv2
  exact ⟨r', e', ⟨x, y, z, ci_ref q1 m1 m2 rfl, m1, rr_m hr1 m2 rfl rfl⟩, trivial⟩
theorem pq_bars {w : MW} {a : Int32} (h : LKq w) : Tc 2000 25 [.ref 0, .int a] w (RI fun r w1 => Tc 2000 101 [.ref 127, .int a] w1 (RI fun r' w2 => LKq w2 ∧ True)) := by
  refine tc_mono (pair_ri (A := LKw) (B := LQr) (C := LKq) (E := fun (r r' : Int32) => True) (D := fun _ _ => True) (pw_bars h.1) (qr_bars h.2) (fun _ a b => kq a b)) (fun v w1 hv => ?_)
  obtain ⟨r, e, q1⟩ := hv
  refine ⟨r, e, tc_mono q1 (fun v2 w2 hv2 => ?_)⟩
  obtain ⟨r', e', q⟩ := hv2
  exact ⟨r', e', q.1, q.2.1⟩
theorem qr_row {w : MW} {a : Int32} {b : Int32} (h : LQr w) : Tc 2000 26 [.ref 0, .int a, .int b] w (RI fun r w1 => Tc 2000 102 [.ref 127, .int a, .int b] w1 (RI fun r' w2 => LQr w2 ∧ True)) := by
  obtain ⟨x, y, z, hc, hM, hr⟩ := h
  refine tc_mono (tc_3 (a := x) (b := y) (c := z) (w := w) rfl rfl rfl ri_n (dm_Bh_row (d := 1999) (w := S3 x y z w) (Q := fun r w' => CI w' ∧ FR l_Bh_row (S3 x y z w) w') (ci_row hc (fun r w' h' hF => ⟨h', hF⟩)))) (fun v w1 hv => ?_)
  obtain ⟨r, e, q1, q2⟩ := hv
  have hM1 := mdj_cls hM q1.1 q2 rfl
  have hr1 := rr_c hr q2 rfl rfl
  refine ⟨r, e, ?_⟩
  refine tc_mono (dm_Mo_row (d := 1598) (w := w1) (Q := fun r' w2 => MdJ w2 ∧ FR l_Mo_row w1 w2) (mf_row hM1 (fun r' w2 h2 hF => ⟨h2, hF⟩))) (fun v2 w2 hv2 => ?_)
  obtain ⟨r', e', m1, m2⟩ := hv2
  exact ⟨r', e', ⟨x, y, z, ci_ref q1 m1 m2 rfl, m1, rr_m hr1 m2 rfl rfl⟩, trivial⟩
theorem pq_row {w : MW} {a : Int32} {b : Int32} (h : LKq w) : Tc 2000 26 [.ref 0, .int a, .int b] w (RI fun r w1 => Tc 2000 102 [.ref 127, .int a, .int b] w1 (RI fun r' w2 => LKq w2 ∧ True)) := by
  refine tc_mono (pair_ri (A := LKw) (B := LQr) (C := LKq) (E := fun (r r' : Int32) => True) (D := fun _ _ => True) (pw_row h.1) (qr_row h.2) (fun _ a b => kq a b)) (fun v w1 hv => ?_)
  obtain ⟨r, e, q1⟩ := hv
  refine ⟨r, e, tc_mono q1 (fun v2 w2 hv2 => ?_)⟩
  obtain ⟨r', e', q⟩ := hv2
  exact ⟨r', e', q.1, q.2.1⟩
theorem qr_state {w : MW}  (h : LQr w) : Tc 2000 27 [.ref 0] w (RI fun r w1 => Tc 2000 122 [.ref 127] w1 (RI fun r' w2 => LQr w2 ∧ True)) := by
  obtain ⟨x, y, z, hc, hM, hr⟩ := h
  refine tc_mono (tc_3 (a := x) (b := y) (c := z) (w := w) rfl rfl rfl ri_n (dm_Bh_state (d := 2000) (w := S3 x y z w) (Q := fun r w' => CI w' ∧ FR [] (S3 x y z w) w') (ci_state hc (fun r w' h' hF => ⟨h', hF⟩)))) (fun v w1 hv => ?_)
  obtain ⟨r, e, q1, q2⟩ := hv
  have hM1 := mdj_cls hM q1.1 q2 rfl
  have hr1 := rr_c hr q2 rfl rfl
  refine ⟨r, e, ?_⟩
  refine tc_mono (dm_Mo_state (d := 2000) (w := w1) (Q := fun r' w2 => MdJ w2 ∧ FR [] w1 w2) (mf_state hM1 (fun r' w2 h2 hF => ⟨h2, hF⟩))) (fun v2 w2 hv2 => ?_)
  obtain ⟨r', e', m1, m2⟩ := hv2
  exact ⟨r', e', ⟨x, y, z, ci_ref q1 m1 m2 rfl, m1, rr_m hr1 m2 rfl rfl⟩, trivial⟩
theorem pq_state {w : MW}  (h : LKq w) : Tc 2000 27 [.ref 0] w (RI fun r w1 => Tc 2000 122 [.ref 127] w1 (RI fun r' w2 => LKq w2 ∧ True)) := by
  refine tc_mono (pair_ri (A := LKw) (B := LQr) (C := LKq) (E := fun (r r' : Int32) => True) (D := fun _ _ => True) (pw_state h.1) (qr_state h.2) (fun _ a b => kq a b)) (fun v w1 hv => ?_)
  obtain ⟨r, e, q1⟩ := hv
  refine ⟨r, e, tc_mono q1 (fun v2 w2 hv2 => ?_)⟩
  obtain ⟨r', e', q⟩ := hv2
  exact ⟨r', e', q.1, q.2.1⟩
theorem qr_value {w : MW} {a : Int32} (h : LQr w) : Tc 2000 28 [.ref 0, .int a] w (RJ fun r w1 => Tc 2000 96 [.ref 127, .int a] w1 (RJ fun r' w2 => LQr w2 ∧ True)) := by
  obtain ⟨x, y, z, hc, hM, hr⟩ := h
  refine tc_mono (tc_3 (a := x) (b := y) (c := z) (w := w) rfl rfl rfl rj_n (dm_Bh_value (d := 1999) (w := S3 x y z w) (Q := fun r w' => CI w' ∧ FR [] (S3 x y z w) w') (ci_value hc (fun r w' h' hF => ⟨h', hF⟩)))) (fun v w1 hv => ?_)
  obtain ⟨r, e, q1, q2⟩ := hv
  have hM1 := mdj_cls hM q1.1 q2 rfl
  have hr1 := rr_c hr q2 rfl rfl
  refine ⟨r, e, ?_⟩
  refine tc_mono (dm_Mo_value (d := 1999) (w := w1) (Q := fun r' w2 => MdJ w2 ∧ FR l_Mo_value w1 w2) (mf_value hM1 (fun r' w2 h2 hF => ⟨h2, hF⟩))) (fun v2 w2 hv2 => ?_)
  obtain ⟨r', e', m1, m2⟩ := hv2
  exact ⟨r', e', ⟨x, y, z, ci_ref q1 m1 m2 rfl, m1, rr_m hr1 m2 rfl rfl⟩, trivial⟩
theorem pq_value {w : MW} {a : Int32} (h : LKq w) : Tc 2000 28 [.ref 0, .int a] w (RJ fun r w1 => Tc 2000 96 [.ref 127, .int a] w1 (RJ fun r' w2 => LKq w2 ∧ True)) := by
  refine tc_mono (pair_rj (A := LKw) (B := LQr) (C := LKq) (E := fun (r r' : Int64) => True) (D := fun _ _ => True) (pw_value h.1) (qr_value h.2) (fun _ a b => kq a b)) (fun v w1 hv => ?_)
  obtain ⟨r, e, q1⟩ := hv
  refine ⟨r, e, tc_mono q1 (fun v2 w2 hv2 => ?_)⟩
  obtain ⟨r', e', q⟩ := hv2
  exact ⟨r', e', q.1, q.2.1⟩
theorem qr_still {w : MW} {a : Int32} (h : LQr w) : Tc 2000 29 [.ref 0, .int a] w (RI fun r w1 => Tc 2000 123 [.ref 127, .int a] w1 (RI fun r' w2 => LQr w2 ∧ True)) := by
  obtain ⟨x, y, z, hc, hM, hr⟩ := h
  refine tc_mono (tc_3 (a := x) (b := y) (c := z) (w := w) rfl rfl rfl ri_n (dm_Bh_still (d := 1598) (w := S3 x y z w) (Q := fun r w' => CI w' ∧ FR l_Ru_seek (S3 x y z w) w') (ci_still hc (fun r w' h' hF => ⟨h', hF⟩)))) (fun v w1 hv => ?_)
  obtain ⟨r, e, q1, q2⟩ := hv
  have hM1 := mdj_cls hM q1.1 q2 rfl
  have hr1 := rr_c hr q2 rfl rfl
  refine ⟨r, e, ?_⟩
  refine tc_mono (dm_Mo_still (d := 1488) (w := w1) (Q := fun r' w2 => MdJ w2 ∧ FR lsa w1 w2) (mf_still hM1 (fun r' w2 h2 hF => ⟨h2, hF⟩))) (fun v2 w2 hv2 => ?_)
  obtain ⟨r', e', m1, m2⟩ := hv2
  exact ⟨r', e', ⟨x, y, z, ci_ref q1 m1 m2 rfl, m1, rr_m hr1 m2 rfl rfl⟩, trivial⟩
theorem pq_still {w : MW} {a : Int32} (h : LKq w) : Tc 2000 29 [.ref 0, .int a] w (RI fun r w1 => Tc 2000 123 [.ref 127, .int a] w1 (RI fun r' w2 => LKq w2 ∧ True)) := by
  refine tc_mono (pair_ri (A := LKw) (B := LQr) (C := LKq) (E := fun (r r' : Int32) => True) (D := fun _ _ => True) (pw_still h.1) (qr_still h.2) (fun _ a b => kq a b)) (fun v w1 hv => ?_)
  obtain ⟨r, e, q1⟩ := hv
  refine ⟨r, e, tc_mono q1 (fun v2 w2 hv2 => ?_)⟩
  obtain ⟨r', e', q⟩ := hv2
  exact ⟨r', e', q.1, q.2.1⟩
theorem qr_alarm {w : MW} {a : Int32} {b : Int32} (h : LQr w) : Tc 2000 30 [.ref 0, .int a, .int b] w (RI fun r w1 => Tc 2000 124 [.ref 127, .int a, .int b] w1 (RI fun r' w2 => LQr w2 ∧ True)) := by
  obtain ⟨x, y, z, hc, hM, hr⟩ := h
  refine tc_mono (tc_3 (a := x) (b := y) (c := z) (w := w) rfl rfl rfl ri_n (dm_Bh_alarm (d := 1999) (w := S3 x y z w) (Q := fun r w' => CI w' ∧ FR [] (S3 x y z w) w') (ci_alarm hc (fun r w' h' hF => ⟨h', hF⟩)))) (fun v w1 hv => ?_)
  obtain ⟨r, e, q1, q2⟩ := hv
  have hM1 := mdj_cls hM q1.1 q2 rfl
  have hr1 := rr_c hr q2 rfl rfl
  refine ⟨r, e, ?_⟩
  refine tc_mono (dm_Mo_alarm (d := 2000) (w := w1) (Q := fun r' w2 => MdJ w2 ∧ FR [] w1 w2) (mf_alarm hM1 (fun r' w2 h2 hF => ⟨h2, hF⟩))) (fun v2 w2 hv2 => ?_)
  obtain ⟨r', e', m1, m2⟩ := hv2
  exact ⟨r', e', ⟨x, y, z, ci_ref q1 m1 m2 rfl, m1, rr_m hr1 m2 rfl rfl⟩, trivial⟩
theorem pq_alarm {w : MW} {a : Int32} {b : Int32} (h : LKq w) : Tc 2000 30 [.ref 0, .int a, .int b] w (RI fun r w1 => Tc 2000 124 [.ref 127, .int a, .int b] w1 (RI fun r' w2 => LKq w2 ∧ True)) := by
  refine tc_mono (pair_ri (A := LKw) (B := LQr) (C := LKq) (E := fun (r r' : Int32) => True) (D := fun _ _ => True) (pw_alarm h.1) (qr_alarm h.2) (fun _ a b => kq a b)) (fun v w1 hv => ?_)
  obtain ⟨r, e, q1⟩ := hv
  refine ⟨r, e, tc_mono q1 (fun v2 w2 hv2 => ?_)⟩
  obtain ⟨r', e', q⟩ := hv2
  exact ⟨r', e', q.1, q.2.1⟩
theorem qr_way {w : MW} {a : Int32} {b : Int32} (h : LQr w) : Tc 2000 31 [.ref 0, .int a, .int b] w (RI fun r w1 => Tc 2000 82 [.ref 127, .int a, .int b] w1 (RI fun r' w2 => LQr w2 ∧ True)) := by
  obtain ⟨x, y, z, hc, hM, hr⟩ := h
  refine tc_mono (tc_3 (a := x) (b := y) (c := z) (w := w) rfl rfl rfl ri_n (dm_Bh_way (d := 1999) (w := S3 x y z w) (Q := fun r w' => CI w' ∧ FR l_Wa_get (S3 x y z w) w') (ci_way hc (fun r w' h' hF => ⟨h', hF⟩)))) (fun v w1 hv => ?_)
  obtain ⟨r, e, q1, q2⟩ := hv
  have hM1 := mdj_cls hM q1.1 q2 rfl
  have hr1 := rr_c hr q2 rfl rfl
  refine ⟨r, e, ?_⟩
  refine tc_mono (dm_Mo_way (d := 2000) (w := w1) (Q := fun r' w2 => MdJ w2 ∧ FR [] w1 w2) (mf_way hM1 (fun r' w2 h2 hF => ⟨h2, hF⟩))) (fun v2 w2 hv2 => ?_)
  obtain ⟨r', e', m1, m2⟩ := hv2
  exact ⟨r', e', ⟨x, y, z, ci_ref q1 m1 m2 rfl, m1, rr_m hr1 m2 rfl rfl⟩, trivial⟩
theorem pq_way {w : MW} {a : Int32} {b : Int32} (h : LKq w) : Tc 2000 31 [.ref 0, .int a, .int b] w (RI fun r w1 => Tc 2000 82 [.ref 127, .int a, .int b] w1 (RI fun r' w2 => LKq w2 ∧ True)) := by
  refine tc_mono (pair_ri (A := LKw) (B := LQr) (C := LKq) (E := fun (r r' : Int32) => True) (D := fun _ _ => True) (pw_way h.1) (qr_way h.2) (fun _ a b => kq a b)) (fun v w1 hv => ?_)
  obtain ⟨r, e, q1⟩ := hv
  refine ⟨r, e, tc_mono q1 (fun v2 w2 hv2 => ?_)⟩
  obtain ⟨r', e', q⟩ := hv2
  exact ⟨r', e', q.1, q.2.1⟩
theorem qr_space {w : MW} {a : Int32} {b : Int32} (h : LQr w) : Tc 2000 32 [.ref 0, .int a, .int b] w (RI fun r w1 => Tc 2000 83 [.ref 127, .int a, .int b] w1 (RI fun r' w2 => LQr w2 ∧ True)) := by
  obtain ⟨x, y, z, hc, hM, hr⟩ := h
  refine tc_mono (tc_3 (a := x) (b := y) (c := z) (w := w) rfl rfl rfl ri_n (dm_Bh_space (d := 1997) (w := S3 x y z w) (Q := fun r w' => CI w' ∧ FR l_Bh_space (S3 x y z w) w') (ci_space hc (fun r w' h' hF => ⟨h', hF⟩)))) (fun v w1 hv => ?_)
  obtain ⟨r, e, q1, q2⟩ := hv
  have hM1 := mdj_cls hM q1.1 q2 rfl
  have hr1 := rr_c hr q2 rfl rfl
  refine ⟨r, e, ?_⟩
  refine tc_mono (dm_Mo_space (d := 1997) (w := w1) (Q := fun r' w2 => MdJ w2 ∧ FR l_Mo_space w1 w2) (mf_space hM1 (fun r' w2 h2 hF => ⟨h2, hF⟩))) (fun v2 w2 hv2 => ?_)
  obtain ⟨r', e', m1, m2⟩ := hv2
  exact ⟨r', e', ⟨x, y, z, ci_ref q1 m1 m2 rfl, m1, rr_m hr1 m2 rfl rfl⟩, trivial⟩
theorem pq_space {w : MW} {a : Int32} {b : Int32} (h : LKq w) : Tc 2000 32 [.ref 0, .int a, .int b] w (RI fun r w1 => Tc 2000 83 [.ref 127, .int a, .int b] w1 (RI fun r' w2 => LKq w2 ∧ True)) := by
  refine tc_mono (pair_ri (A := LKw) (B := LQr) (C := LKq) (E := fun (r r' : Int32) => True) (D := fun _ _ => True) (pw_space h.1) (qr_space h.2) (fun _ a b => kq a b)) (fun v w1 hv => ?_)
  obtain ⟨r, e, q1⟩ := hv
  refine ⟨r, e, tc_mono q1 (fun v2 w2 hv2 => ?_)⟩
  obtain ⟨r', e', q⟩ := hv2
  exact ⟨r', e', q.1, q.2.1⟩
theorem qr_danger {w : MW} {a : Int32} (h : LQr w) : Tc 2000 33 [.ref 0, .int a] w (RI fun r w1 => Tc 2000 70 [.ref 127, .int a] w1 (RI fun r' w2 => LQr w2 ∧ True)) := by
  obtain ⟨x, y, z, hc, hM, hr⟩ := h
  refine tc_mono (tc_3 (a := x) (b := y) (c := z) (w := w) rfl rfl rfl ri_n (dm_Bh_danger (d := 1996) (w := S3 x y z w) (Q := fun r w' => CI w' ∧ FR l_Bh_danger (S3 x y z w) w') (ci_danger hc (fun r w' h' hF => ⟨h', hF⟩)))) (fun v w1 hv => ?_)
  obtain ⟨r, e, q1, q2⟩ := hv
  have hM1 := mdj_cls hM q1.1 q2 rfl
  have hr1 := rr_c hr q2 rfl rfl
  refine ⟨r, e, ?_⟩
  refine tc_mono (dm_Mo_danger (d := 1996) (w := w1) (Q := fun r' w2 => MdJ w2 ∧ FR l_Mo_danger w1 w2) (mf_danger hM1 (fun r' w2 h2 hF => ⟨h2, hF⟩))) (fun v2 w2 hv2 => ?_)
  obtain ⟨r', e', m1, m2⟩ := hv2
  exact ⟨r', e', ⟨x, y, z, ci_ref q1 m1 m2 rfl, m1, rr_m hr1 m2 rfl rfl⟩, trivial⟩
theorem pq_danger {w : MW} {a : Int32} (h : LKq w) : Tc 2000 33 [.ref 0, .int a] w (RI fun r w1 => Tc 2000 70 [.ref 127, .int a] w1 (RI fun r' w2 => LKq w2 ∧ True)) := by
  refine tc_mono (pair_ri (A := LKw) (B := LQr) (C := LKq) (E := fun (r r' : Int32) => True) (D := fun _ _ => True) (pw_danger h.1) (qr_danger h.2) (fun _ a b => kq a b)) (fun v w1 hv => ?_)
  obtain ⟨r, e, q1⟩ := hv
  refine ⟨r, e, tc_mono q1 (fun v2 w2 hv2 => ?_)⟩
  obtain ⟨r', e', q⟩ := hv2
  exact ⟨r', e', q.1, q.2.1⟩
theorem qr_write {w : MW} {a : Int32} (h : LQr w) : Tc 2000 34 [.ref 0, .int a] w (RI fun r w1 => Tc 2000 49 [.ref 127, .int a] w1 (RI fun r' w2 => LQr w2 ∧ True)) := by
  obtain ⟨x, y, z, hc, hM, hr⟩ := h
  refine tc_mono (tc_3 (a := x) (b := y) (c := z) (w := w) rfl rfl rfl ri_n (dm_Bh_write (d := 2000) (w := S3 x y z w) (Q := fun r w' => CI w' ∧ FR [] (S3 x y z w) w') (ci_write hc (fun r w' h' hF => ⟨h', hF⟩)))) (fun v w1 hv => ?_)
  obtain ⟨r, e, q1, q2⟩ := hv
  have hM1 := mdj_cls hM q1.1 q2 rfl
  have hr1 := rr_c hr q2 rfl rfl
  refine ⟨r, e, ?_⟩
  refine tc_mono (dm_Mo_write (d := 1998) (w := w1) (Q := fun r' w2 => MdJ w2 ∧ FR l_Mo_write w1 w2) (mf_write hM1 (fun r' w2 h2 hF => ⟨h2, hF⟩))) (fun v2 w2 hv2 => ?_)
  obtain ⟨r', e', m1, m2⟩ := hv2
  exact ⟨r', e', ⟨x, y, z, ci_ref q1 m1 m2 rfl, m1, rr_m hr1 m2 rfl rfl⟩, trivial⟩
theorem pq_write {w : MW} {a : Int32} (h : LKq w) : Tc 2000 34 [.ref 0, .int a] w (RI fun r w1 => Tc 2000 49 [.ref 127, .int a] w1 (RI fun r' w2 => LKq w2 ∧ r = r')) := by
  refine tc_mono (pair_ri (A := LKw) (B := LQr) (C := LKq) (E := fun (r r' : Int32) => r = r') (D := fun _ _ => True) (pw_write h.1) (qr_write h.2) (fun _ a b => kq a b)) (fun v w1 hv => ?_)
  obtain ⟨r, e, q1⟩ := hv
  refine ⟨r, e, tc_mono q1 (fun v2 w2 hv2 => ?_)⟩
  obtain ⟨r', e', q⟩ := hv2
  exact ⟨r', e', q.1, q.2.1⟩
theorem qr_second {w : MW}  (h : LQr w) : Tc 2000 35 [.ref 0] w (RI fun r w1 => Tc 2000 125 [.ref 127] w1 (RI fun r' w2 => LQr w2 ∧ True)) := by
  obtain ⟨x, y, z, hc, hM, hr⟩ := h
  refine tc_mono (tc_3 (a := x) (b := y) (c := z) (w := w) rfl rfl rfl ri_n (dm_Bh_second (d := 2000) (w := S3 x y z w) (Q := fun r w' => CI w' ∧ FR [] (S3 x y z w) w') (cv_second hc (fun r w' h' hF kk => ⟨h', hF⟩)))) (fun v w1 hv => ?_)
  obtain ⟨r, e, q1, q2⟩ := hv
  have hM1 := mdj_cls hM q1.1 q2 rfl
  have hr1 := rr_c hr q2 rfl rfl
  refine ⟨r, e, ?_⟩
  refine tc_mono (dm_Mo_second (d := 2000) (w := w1) (Q := fun r' w2 => MdJ w2 ∧ FR [] w1 w2) (mv_second hM1 (fun r' w2 h2 hF kk => ⟨h2, hF⟩))) (fun v2 w2 hv2 => ?_)
  obtain ⟨r', e', m1, m2⟩ := hv2
  exact ⟨r', e', ⟨x, y, z, ci_ref q1 m1 m2 rfl, m1, rr_m hr1 m2 rfl rfl⟩, trivial⟩
theorem pq_second {w : MW}  (h : LKq w) : Tc 2000 35 [.ref 0] w (RI fun r w1 => Tc 2000 125 [.ref 127] w1 (RI fun r' w2 => LKq w2 ∧ r = r')) := by
  refine tc_mono (pair_ri (A := LKw) (B := LQr) (C := LKq) (E := fun (r r' : Int32) => r = r') (D := fun _ _ => True) (pw_second h.1) (qr_second h.2) (fun _ a b => kq a b)) (fun v w1 hv => ?_)
  obtain ⟨r, e, q1⟩ := hv
  refine ⟨r, e, tc_mono q1 (fun v2 w2 hv2 => ?_)⟩
  obtain ⟨r', e', q⟩ := hv2
  exact ⟨r', e', q.1, q.2.1⟩
