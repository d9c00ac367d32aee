/-! the pairs: all relations -/
theorem zq_m {T T' : Int} {w : MW} (h : T ≤ T') (z : Zq T w) : Zq T' w := by
  obtain ⟨x, y, z, hc, hM, ns, nm, ks, gw, BB, vl, al, st, bad, nw, wk, rn⟩ := z
  exact ⟨x, y, z, hc, hM, ns, nm, ks, gw, BB, vl, al, st, bad, ⟨nw.1, Int.le_trans nw.2 h⟩, wk, rn⟩
def LKz (T : Int) (w : MW) : Prop := LKn w ∧ Zq T w
theorem pz_feed {T : Int} {w : MW} {a : Int32} {b : Int32} {c : Int32} {d : Int32} {g : Int32} (hT : T + 600 ≤ 999999) (h : LKz T w) : Tc 2000 0 [.ref 0, .int a, .int b, .int c, .int d, .int g] w (RI fun r w1 => Tc 2000 36 [.ref 127, .int a, .int b, .int c, .int d, .int g] w1 (RI fun r' w2 => LKz (T + 600) w2 ∧ r = r')) := by
  refine tc_mono (pair_ri (A := LKn) (B := Zq (T + 600)) (C := LKz (T + 600)) (E := fun (r r' : Int32) => r = r') (D := fun (r r' : Int32) => True) (pn_feed h.1) (zq_feed (T := T + 600) (zq_m (by omega) h.2)) (fun _ a b => ⟨a, b⟩)) (fun v w1 hv => ?_)
  obtain ⟨r, e, q1⟩ := hv
  refine ⟨r, e, tc_mono q1 (fun v2 w2 hv2 => ?_)⟩
  obtain ⟨r', e', q⟩ := hv2
  exact ⟨r', e', q.1, q.2.1⟩
theorem pz_fill {T : Int} {w : MW} {a : Int32} {b : Int32} {c : Int64} (hT : T + 600 ≤ 999999) (h : LKz T w) : Tc 2000 5 [.ref 0, .int a, .int b, .long c] w (RZ fun r w1 => Tc 2000 84 [.ref 127, .int a, .int b, .long c] w1 (RZ fun r' w2 => LKz (T + 600) w2 ∧ r = r')) := by
  refine tc_mono (pair_rz (A := LKn) (B := Zq (T + 600)) (C := LKz (T + 600)) (E := fun (r r' : Int32) => True) (D := fun (r r' : Int32) => r = r') (pn_fill h.1) (zq_fill (T := T + 600) (zq_m (by omega) h.2)) (fun _ a b => ⟨a, b⟩)) (fun v w1 hv => ?_)
  obtain ⟨r, e, zz, q1⟩ := hv
  refine ⟨r, e, zz, tc_mono q1 (fun v2 w2 hv2 => ?_)⟩
  obtain ⟨r', e', zz2, q⟩ := hv2
  exact ⟨r', e', zz2, q.1, q.2.2⟩
theorem pz_may {T : Int} {w : MW} {a : Int32} {b : Int32} (hT : T + 600 ≤ 999999) (h : LKz T w) : Tc 2000 7 [.ref 0, .int a, .int b] w (RZ fun r w1 => Tc 2000 85 [.ref 127, .int a, .int b] w1 (RZ fun r' w2 => LKz (T + 600) w2 ∧ r = r')) := by
  refine tc_mono (pair_rz (A := LKn) (B := Zq (T + 600)) (C := LKz (T + 600)) (E := fun (r r' : Int32) => r = r') (D := fun (r r' : Int32) => r = r') (pn_may h.1) (zq_may (T := T + 600) (zq_m (by omega) h.2)) (fun _ a b => ⟨a, b⟩)) (fun v w1 hv => ?_)
  obtain ⟨r, e, zz, q1⟩ := hv
  refine ⟨r, e, zz, tc_mono q1 (fun v2 w2 hv2 => ?_)⟩
  obtain ⟨r', e', zz2, q⟩ := hv2
  exact ⟨r', e', zz2, q.1, q.2.2⟩
theorem pz_need {T : Int} {w : MW} {a : Int32} {b : Int32} {c : Int32} (hT : T + 600 ≤ 999999) (h : LKz T w) : Tc 2000 8 [.ref 0, .int a, .int b, .int c] w (RZ fun r w1 => Tc 2000 86 [.ref 127, .int a, .int b, .int c] w1 (RZ fun r' w2 => LKz (T + 600) w2 ∧ r = r')) := by
  refine tc_mono (pair_rz (A := LKn) (B := Zq (T + 600)) (C := LKz (T + 600)) (E := fun (r r' : Int32) => r = r') (D := fun (r r' : Int32) => r = r') (pn_need h.1) (zq_need (T := T + 600) (zq_m (by omega) h.2)) (fun _ a b => ⟨a, b⟩)) (fun v w1 hv => ?_)
  obtain ⟨r, e, zz, q1⟩ := hv
  refine ⟨r, e, zz, tc_mono q1 (fun v2 w2 hv2 => ?_)⟩
  obtain ⟨r', e', zz2, q⟩ := hv2
  exact ⟨r', e', zz2, q.1, q.2.2⟩
theorem pz_lasts {T : Int} {w : MW} {a : Int32} {b : Int32} (hT : T + 600 ≤ 999999) (h : LKz T w) : Tc 2000 9 [.ref 0, .int a, .int b] w (RZ fun r w1 => Tc 2000 87 [.ref 127, .int a, .int b] w1 (RZ fun r' w2 => LKz (T + 600) w2 ∧ r = r')) := by
  refine tc_mono (pair_rz (A := LKn) (B := Zq (T + 600)) (C := LKz (T + 600)) (E := fun (r r' : Int32) => r = r') (D := fun (r r' : Int32) => r = r') (pn_lasts h.1) (zq_lasts (T := T + 600) (zq_m (by omega) h.2)) (fun _ a b => ⟨a, b⟩)) (fun v w1 hv => ?_)
  obtain ⟨r, e, zz, q1⟩ := hv
  refine ⟨r, e, zz, tc_mono q1 (fun v2 w2 hv2 => ?_)⟩
  obtain ⟨r', e', zz2, q⟩ := hv2
  exact ⟨r', e', zz2, q.1, q.2.2⟩
theorem pz_sense {T : Int} {w : MW} {a : Int32} {b : Int32} {c : Int32} (hT : T + 600 ≤ 999999) (h : LKz T w) : Tc 2000 10 [.ref 0, .int a, .int b, .int c] w (RZ fun r w1 => Tc 2000 93 [.ref 127, .int a, .int b, .int c] w1 (RZ fun r' w2 => LKz (T + 600) w2 ∧ r = r')) := by
  refine tc_mono (pair_rz (A := LKn) (B := Zq (T + 600)) (C := LKz (T + 600)) (E := fun (r r' : Int32) => r = r') (D := fun (r r' : Int32) => r = r') (pn_sense h.1) (zq_sense (T := T + 600) (zq_m (by omega) h.2)) (fun _ a b => ⟨a, b⟩)) (fun v w1 hv => ?_)
  obtain ⟨r, e, zz, q1⟩ := hv
  refine ⟨r, e, zz, tc_mono q1 (fun v2 w2 hv2 => ?_)⟩
  obtain ⟨r', e', zz2, q⟩ := hv2
  exact ⟨r', e', zz2, q.1, q.2.2⟩
theorem pz_watch {T : Int} {w : MW} {a : Int32} {b : Int32} {c : Int32} {d : Int64} (hT : T + 600 ≤ 999999) (h : LKz T w) : Tc 2000 11 [.ref 0, .int a, .int b, .int c, .long d] w (RZ fun r w1 => Tc 2000 94 [.ref 127, .int a, .int b, .int c, .long d] w1 (RZ fun r' w2 => LKz (T + 600) w2 ∧ r = r')) := by
  refine tc_mono (pair_rz (A := LKn) (B := Zq (T + 600)) (C := LKz (T + 600)) (E := fun (r r' : Int32) => r = r') (D := fun (r r' : Int32) => r = r') (pn_watch h.1) (zq_watch (T := T + 600) (zq_m (by omega) h.2)) (fun _ a b => ⟨a, b⟩)) (fun v w1 hv => ?_)
  obtain ⟨r, e, zz, q1⟩ := hv
  refine ⟨r, e, zz, tc_mono q1 (fun v2 w2 hv2 => ?_)⟩
  obtain ⟨r', e', zz2, q⟩ := hv2
  exact ⟨r', e', zz2, q.1, q.2.2⟩
theorem pz_signal {T : Int} {w : MW} {a : Int32} {b : Int64} (hT : T + 600 ≤ 999999) (h : LKz T w) : Tc 2000 12 [.ref 0, .int a, .long b] w (RZ fun r w1 => Tc 2000 95 [.ref 127, .int a, .long b] w1 (RZ fun r' w2 => LKz (T + 600) w2 ∧ r = r')) := by
  refine tc_mono (pair_rz (A := LKn) (B := Zq (T + 600)) (C := LKz (T + 600)) (E := fun (r r' : Int32) => r = r') (D := fun (r r' : Int32) => r = r') (pn_signal h.1) (zq_signal (T := T + 600) (zq_m (by omega) h.2)) (fun _ a b => ⟨a, b⟩)) (fun v w1 hv => ?_)
  obtain ⟨r, e, zz, q1⟩ := hv
  refine ⟨r, e, zz, tc_mono q1 (fun v2 w2 hv2 => ?_)⟩
  obtain ⟨r', e', zz2, q⟩ := hv2
  exact ⟨r', e', zz2, q.1, q.2.2⟩
theorem pz_bind {T : Int} {w : MW} {a : Int32} {b : Int32} {c : Int32} {d : Int32} {g : Int32} (hT : T + 600 ≤ 999999) (h : LKz T w) : Tc 2000 13 [.ref 0, .int a, .int b, .int c, .int d, .int g] w (RZ fun r w1 => Tc 2000 88 [.ref 127, .int a, .int b, .int c, .int d, .int g] w1 (RZ fun r' w2 => LKz (T + 600) w2 ∧ r = r')) := by
  refine tc_mono (pair_rz (A := LKn) (B := Zq (T + 600)) (C := LKz (T + 600)) (E := fun (r r' : Int32) => r = r') (D := fun (r r' : Int32) => r = r') (pn_bind h.1) (zq_bind (T := T + 600) (zq_m (by omega) h.2)) (fun _ a b => ⟨a, b⟩)) (fun v w1 hv => ?_)
  obtain ⟨r, e, zz, q1⟩ := hv
  refine ⟨r, e, zz, tc_mono q1 (fun v2 w2 hv2 => ?_)⟩
  obtain ⟨r', e', zz2, q⟩ := hv2
  exact ⟨r', e', zz2, q.1, q.2.2⟩
theorem pz_act {T : Int} {w : MW} {a : Int32} (hT : T + 600 ≤ 999999) (h : LKz T w) : Tc 2000 14 [.ref 0, .int a] w (RI fun r w1 => Tc 2000 91 [.ref 127, .int a] w1 (RI fun r' w2 => LKz (T + 600) w2 ∧ r = r')) := by
  refine tc_mono (pair_ri (A := LKn) (B := Zq (T + 600)) (C := LKz (T + 600)) (E := fun (r r' : Int32) => True) (D := fun (r r' : Int32) => r = r') (pn_act h.1) (zq_act (T := T + 600) (zq_m (by omega) h.2)) (fun _ a b => ⟨a, b⟩)) (fun v w1 hv => ?_)
  obtain ⟨r, e, q1⟩ := hv
  refine ⟨r, e, tc_mono q1 (fun v2 w2 hv2 => ?_)⟩
  obtain ⟨r', e', q⟩ := hv2
  exact ⟨r', e', q.1, q.2.2⟩
theorem pz_start {T : Int} {w : MW}  (hT : T + 600 ≤ 999999) (h : LKz T w) : Tc 2000 15 [.ref 0] w (RZ fun r w1 => Tc 2000 107 [.ref 127] w1 (RZ fun r' w2 => LKz (T + 600) w2 ∧ r = r')) := by
  refine tc_mono (pair_rz (A := LKn) (B := Zq (T + 600)) (C := LKz (T + 600)) (E := fun (r r' : Int32) => r = r') (D := fun (r r' : Int32) => r = r') (pn_start h.1) (zq_start (T := T + 600) (zq_m (by omega) h.2)) (fun _ a b => ⟨a, b⟩)) (fun v w1 hv => ?_)
  obtain ⟨r, e, zz, q1⟩ := hv
  refine ⟨r, e, zz, tc_mono q1 (fun v2 w2 hv2 => ?_)⟩
  obtain ⟨r', e', zz2, q⟩ := hv2
  exact ⟨r', e', zz2, q.1, q.2.2⟩
theorem pz_tick {T : Int} {w : MW} {a : Int32} (hT : T + 600 ≤ 999999) (h : LKz T w) : Tc 2000 16 [.ref 0, .int a] w (RI fun r w1 => Tc 2000 117 [.ref 127, .int a] w1 (RI fun r' w2 => LKz (T + 600) w2 ∧ r = r')) := by
  refine tc_mono (pair_ri (A := LKn) (B := Zq (T + 600)) (C := LKz (T + 600)) (E := fun (r r' : Int32) => True) (D := fun (r r' : Int32) => r = r') (pn_tick h.1) (zq_tick hT h.2) (fun _ a b => ⟨a, b⟩)) (fun v w1 hv => ?_)
  obtain ⟨r, e, q1⟩ := hv
  refine ⟨r, e, tc_mono q1 (fun v2 w2 hv2 => ?_)⟩
  obtain ⟨r', e', q⟩ := hv2
  exact ⟨r', e', q.1, q.2.2⟩
theorem pz_answer {T : Int} {w : MW} {a : Int64} (hT : T + 600 ≤ 999999) (h : LKz T w) : Tc 2000 19 [.ref 0, .long a] w (RZ fun r w1 => Tc 2000 119 [.ref 127, .long a] w1 (RZ fun r' w2 => LKz (T + 600) w2 ∧ r = r')) := by
  refine tc_mono (pair_rz (A := LKn) (B := Zq (T + 600)) (C := LKz (T + 600)) (E := fun (r r' : Int32) => True) (D := fun (r r' : Int32) => r = r') (pn_answer h.1) (zq_answer (T := T + 600) (zq_m (by omega) h.2)) (fun _ a b => ⟨a, b⟩)) (fun v w1 hv => ?_)
  obtain ⟨r, e, zz, q1⟩ := hv
  refine ⟨r, e, zz, tc_mono q1 (fun v2 w2 hv2 => ?_)⟩
  obtain ⟨r', e', zz2, q⟩ := hv2
  exact ⟨r', e', zz2, q.1, q.2.2⟩
theorem pz_hold {T : Int} {w : MW} {a : Int32} (hT : T + 600 ≤ 999999) (h : LKz T w) : Tc 2000 20 [.ref 0, .int a] w (RZ fun r w1 => Tc 2000 120 [.ref 127, .int a] w1 (RZ fun r' w2 => LKz (T + 600) w2 ∧ r = r')) := by
  refine tc_mono (pair_rz (A := LKn) (B := Zq (T + 600)) (C := LKz (T + 600)) (E := fun (r r' : Int32) => True) (D := fun (r r' : Int32) => r = r') (pn_hold h.1) (zq_hold (T := T + 600) (zq_m (by omega) h.2)) (fun _ a b => ⟨a, b⟩)) (fun v w1 hv => ?_)
  obtain ⟨r, e, zz, q1⟩ := hv
  refine ⟨r, e, zz, tc_mono q1 (fun v2 w2 hv2 => ?_)⟩
  obtain ⟨r', e', zz2, q⟩ := hv2
  exact ⟨r', e', zz2, q.1, q.2.2⟩
theorem pz_stop {T : Int} {w : MW}  (hT : T + 600 ≤ 999999) (h : LKz T w) : Tc 2000 21 [.ref 0] w (RZ fun r w1 => Tc 2000 121 [.ref 127] w1 (RZ fun r' w2 => LKz (T + 600) w2 ∧ r = r')) := by
  refine tc_mono (pair_rz (A := LKn) (B := Zq (T + 600)) (C := LKz (T + 600)) (E := fun (r r' : Int32) => True) (D := fun (r r' : Int32) => r = r') (pn_stop h.1) (zq_stop (T := T + 600) (zq_m (by omega) h.2)) (fun _ a b => ⟨a, b⟩)) (fun v w1 hv => ?_)
  obtain ⟨r, e, zz, q1⟩ := hv
  refine ⟨r, e, zz, tc_mono q1 (fun v2 w2 hv2 => ?_)⟩
  obtain ⟨r', e', zz2, q⟩ := hv2
  exact ⟨r', e', zz2, q.1, q.2.2⟩
theorem pz_pass {T : Int} {w : MW} {a : Int32} {b : Int32} {c : Int32} {d : Int32} (hT : T + 600 ≤ 999999) (h : LKz T w) : Tc 2000 22 [.ref 0, .int a, .int b, .int c, .int d] w (RI fun r w1 => Tc 2000 99 [.ref 127, .int a, .int b, .int c, .int d] w1 (RI fun r' w2 => LKz (T + 600) w2 ∧ r = r')) := by
  refine tc_mono (pair_ri (A := LKn) (B := Zq (T + 600)) (C := LKz (T + 600)) (E := fun (r r' : Int32) => r = r') (D := fun (r r' : Int32) => r = r') (pn_pass h.1) (zq_pass (T := T + 600) (zq_m (by omega) h.2)) (fun _ a b => ⟨a, b⟩)) (fun v w1 hv => ?_)
  obtain ⟨r, e, q1⟩ := hv
  refine ⟨r, e, tc_mono q1 (fun v2 w2 hv2 => ?_)⟩
  obtain ⟨r', e', q⟩ := hv2
  exact ⟨r', e', q.1, q.2.2⟩
theorem pz_reset {T : Int} {w : MW} {a : Int32} (hT : T + 600 ≤ 999999) (h : LKz T w) : Tc 2000 24 [.ref 0, .int a] w (RZ fun r w1 => Tc 2000 100 [.ref 127, .int a] w1 (RZ fun r' w2 => LKz (T + 600) w2 ∧ r = r')) := by
  refine tc_mono (pair_rz (A := LKn) (B := Zq (T + 600)) (C := LKz (T + 600)) (E := fun (r r' : Int32) => True) (D := fun (r r' : Int32) => r = r') (pn_reset h.1) (zq_reset (T := T + 600) (zq_m (by omega) h.2)) (fun _ a b => ⟨a, b⟩)) (fun v w1 hv => ?_)
  obtain ⟨r, e, zz, q1⟩ := hv
  refine ⟨r, e, zz, tc_mono q1 (fun v2 w2 hv2 => ?_)⟩
  obtain ⟨r', e', zz2, q⟩ := hv2
  exact ⟨r', e', zz2, q.1, q.2.2⟩
theorem pz_bars {T : Int} {w : MW} {a : Int32} (hT : T + 600 ≤ 999999) (h : LKz T w) : Tc 2000 25 [.ref 0, .int a] w (RI fun r w1 => Tc 2000 101 [.ref 127, .int a] w1 (RI fun r' w2 => LKz (T + 600) w2 ∧ r = r')) := by
  refine tc_mono (pair_ri (A := LKn) (B := Zq (T + 600)) (C := LKz (T + 600)) (E := fun (r r' : Int32) => True) (D := fun (r r' : Int32) => r = r') (pn_bars h.1) (zq_bars (T := T + 600) (zq_m (by omega) h.2)) (fun _ a b => ⟨a, b⟩)) (fun v w1 hv => ?_)
  obtain ⟨r, e, q1⟩ := hv
  refine ⟨r, e, tc_mono q1 (fun v2 w2 hv2 => ?_)⟩
  obtain ⟨r', e', q⟩ := hv2
  exact ⟨r', e', q.1, q.2.2⟩
theorem pz_row {T : Int} {w : MW} {a : Int32} {b : Int32} (hT : T + 600 ≤ 999999) (h : LKz T w) : Tc 2000 26 [.ref 0, .int a, .int b] w (RI fun r w1 => Tc 2000 102 [.ref 127, .int a, .int b] w1 (RI fun r' w2 => LKz (T + 600) w2 ∧ r = r')) := by
  refine tc_mono (pair_ri (A := LKn) (B := Zq (T + 600)) (C := LKz (T + 600)) (E := fun (r r' : Int32) => True) (D := fun (r r' : Int32) => r = r') (pn_row h.1) (zq_row (T := T + 600) (zq_m (by omega) h.2)) (fun _ a b => ⟨a, b⟩)) (fun v w1 hv => ?_)
  obtain ⟨r, e, q1⟩ := hv
  refine ⟨r, e, tc_mono q1 (fun v2 w2 hv2 => ?_)⟩
  obtain ⟨r', e', q⟩ := hv2
  exact ⟨r', e', q.1, q.2.2⟩
theorem pz_state {T : Int} {w : MW}  (hT : T + 600 ≤ 999999) (h : LKz T w) : Tc 2000 27 [.ref 0] w (RI fun r w1 => Tc 2000 122 [.ref 127] w1 (RI fun r' w2 => LKz (T + 600) w2 ∧ r = r')) := by
  refine tc_mono (pair_ri (A := LKn) (B := Zq (T + 600)) (C := LKz (T + 600)) (E := fun (r r' : Int32) => True) (D := fun (r r' : Int32) => r = r') (pn_state h.1) (zq_state (T := T + 600) (zq_m (by omega) h.2)) (fun _ a b => ⟨a, b⟩)) (fun v w1 hv => ?_)
  obtain ⟨r, e, q1⟩ := hv
  refine ⟨r, e, tc_mono q1 (fun v2 w2 hv2 => ?_)⟩
  obtain ⟨r', e', q⟩ := hv2
  exact ⟨r', e', q.1, q.2.2⟩
theorem pz_value {T : Int} {w : MW} {a : Int32} (hT : T + 600 ≤ 999999) (h : LKz T w) : Tc 2000 28 [.ref 0, .int a] w (RJ fun r w1 => Tc 2000 96 [.ref 127, .int a] w1 (RJ fun r' w2 => LKz (T + 600) w2 ∧ r = r')) := by
  refine tc_mono (pair_rj (A := LKn) (B := Zq (T + 600)) (C := LKz (T + 600)) (E := fun (r r' : Int64) => True) (D := fun (r r' : Int64) => r = r') (pn_value h.1) (zq_value (T := T + 600) (zq_m (by omega) h.2)) (fun _ a b => ⟨a, b⟩)) (fun v w1 hv => ?_)
  obtain ⟨r, e, q1⟩ := hv
  refine ⟨r, e, tc_mono q1 (fun v2 w2 hv2 => ?_)⟩
  obtain ⟨r', e', q⟩ := hv2
  exact ⟨r', e', q.1, q.2.2⟩
theorem pz_still {T : Int} {w : MW} {a : Int32} (hT : T + 600 ≤ 999999) (h : LKz T w) : Tc 2000 29 [.ref 0, .int a] w (RI fun r w1 => Tc 2000 123 [.ref 127, .int a] w1 (RI fun r' w2 => LKz (T + 600) w2 ∧ r = r')) := by
  refine tc_mono (pair_ri (A := LKn) (B := Zq (T + 600)) (C := LKz (T + 600)) (E := fun (r r' : Int32) => True) (D := fun (r r' : Int32) => r = r') (pn_still h.1) (zq_still (T := T + 600) (zq_m (by omega) h.2)) (fun _ a b => ⟨a, b⟩)) (fun v w1 hv => ?_)
  obtain ⟨r, e, q1⟩ := hv
  refine ⟨r, e, tc_mono q1 (fun v2 w2 hv2 => ?_)⟩
  obtain ⟨r', e', q⟩ := hv2
  exact ⟨r', e', q.1, q.2.2⟩
theorem pz_alarm {T : Int} {w : MW} {a : Int32} {b : Int32} (hT : T + 600 ≤ 999999) (h : LKz T w) : Tc 2000 30 [.ref 0, .int a, .int b] w (RI fun r w1 => Tc 2000 124 [.ref 127, .int a, .int b] w1 (RI fun r' w2 => LKz (T + 600) w2 ∧ r = r')) := by
  refine tc_mono (pair_ri (A := LKn) (B := Zq (T + 600)) (C := LKz (T + 600)) (E := fun (r r' : Int32) => True) (D := fun (r r' : Int32) => r = r') (pn_alarm h.1) (zq_alarm (T := T + 600) (zq_m (by omega) h.2)) (fun _ a b => ⟨a, b⟩)) (fun v w1 hv => ?_)
  obtain ⟨r, e, q1⟩ := hv
  refine ⟨r, e, tc_mono q1 (fun v2 w2 hv2 => ?_)⟩
  obtain ⟨r', e', q⟩ := hv2
  exact ⟨r', e', q.1, q.2.2⟩
theorem pz_way {T : Int} {w : MW} {a : Int32} {b : Int32} (hT : T + 600 ≤ 999999) (h : LKz T w) : Tc 2000 31 [.ref 0, .int a, .int b] w (RI fun r w1 => Tc 2000 82 [.ref 127, .int a, .int b] w1 (RI fun r' w2 => LKz (T + 600) w2 ∧ r = r')) := by
  refine tc_mono (pair_ri (A := LKn) (B := Zq (T + 600)) (C := LKz (T + 600)) (E := fun (r r' : Int32) => True) (D := fun (r r' : Int32) => r = r') (pn_way h.1) (zq_way (T := T + 600) (zq_m (by omega) h.2)) (fun _ a b => ⟨a, b⟩)) (fun v w1 hv => ?_)
  obtain ⟨r, e, q1⟩ := hv
  refine ⟨r, e, tc_mono q1 (fun v2 w2 hv2 => ?_)⟩
  obtain ⟨r', e', q⟩ := hv2
  exact ⟨r', e', q.1, q.2.2⟩
theorem pz_space {T : Int} {w : MW} {a : Int32} {b : Int32} (hT : T + 600 ≤ 999999) (h : LKz T w) : Tc 2000 32 [.ref 0, .int a, .int b] w (RI fun r w1 => Tc 2000 83 [.ref 127, .int a, .int b] w1 (RI fun r' w2 => LKz (T + 600) w2 ∧ r = r')) := by
  refine tc_mono (pair_ri (A := LKn) (B := Zq (T + 600)) (C := LKz (T + 600)) (E := fun (r r' : Int32) => True) (D := fun (r r' : Int32) => r = r') (pn_space h.1) (zq_space (T := T + 600) (zq_m (by omega) h.2)) (fun _ a b => ⟨a, b⟩)) (fun v w1 hv => ?_)
  obtain ⟨r, e, q1⟩ := hv
  refine ⟨r, e, tc_mono q1 (fun v2 w2 hv2 => ?_)⟩
  obtain ⟨r', e', q⟩ := hv2
  exact ⟨r', e', q.1, q.2.2⟩
theorem pz_danger {T : Int} {w : MW} {a : Int32} (hT : T + 600 ≤ 999999) (h : LKz T w) : Tc 2000 33 [.ref 0, .int a] w (RI fun r w1 => Tc 2000 70 [.ref 127, .int a] w1 (RI fun r' w2 => LKz (T + 600) w2 ∧ r = r')) := by
  refine tc_mono (pair_ri (A := LKn) (B := Zq (T + 600)) (C := LKz (T + 600)) (E := fun (r r' : Int32) => True) (D := fun (r r' : Int32) => r = r') (pn_danger h.1) (zq_danger (T := T + 600) (zq_m (by omega) h.2)) (fun _ a b => ⟨a, b⟩)) (fun v w1 hv => ?_)
  obtain ⟨r, e, q1⟩ := hv
  refine ⟨r, e, tc_mono q1 (fun v2 w2 hv2 => ?_)⟩
  obtain ⟨r', e', q⟩ := hv2
  exact ⟨r', e', q.1, q.2.2⟩
theorem pz_write {T : Int} {w : MW} {a : Int32} (hT : T + 600 ≤ 999999) (h : LKz T w) : Tc 2000 34 [.ref 0, .int a] w (RI fun r w1 => Tc 2000 49 [.ref 127, .int a] w1 (RI fun r' w2 => LKz (T + 600) w2 ∧ r = r')) := by
  refine tc_mono (pair_ri (A := LKn) (B := Zq (T + 600)) (C := LKz (T + 600)) (E := fun (r r' : Int32) => r = r') (D := fun (r r' : Int32) => True) (pn_write h.1) (zq_write (T := T + 600) (zq_m (by omega) h.2)) (fun _ a b => ⟨a, b⟩)) (fun v w1 hv => ?_)
  obtain ⟨r, e, q1⟩ := hv
  refine ⟨r, e, tc_mono q1 (fun v2 w2 hv2 => ?_)⟩
  obtain ⟨r', e', q⟩ := hv2
  exact ⟨r', e', q.1, q.2.1⟩
theorem pz_second {T : Int} {w : MW}  (hT : T + 600 ≤ 999999) (h : LKz T w) : Tc 2000 35 [.ref 0] w (RI fun r w1 => Tc 2000 125 [.ref 127] w1 (RI fun r' w2 => LKz (T + 600) w2 ∧ r = r')) := by
  refine tc_mono (pair_ri (A := LKn) (B := Zq (T + 600)) (C := LKz (T + 600)) (E := fun (r r' : Int32) => r = r') (D := fun (r r' : Int32) => True) (pn_second h.1) (zq_second (T := T + 600) (zq_m (by omega) h.2)) (fun _ a b => ⟨a, b⟩)) (fun v w1 hv => ?_)
  obtain ⟨r, e, q1⟩ := hv
  refine ⟨r, e, tc_mono q1 (fun v2 w2 hv2 => ?_)⟩
  obtain ⟨r', e', q⟩ := hv2
  exact ⟨r', e', q.1, q.2.1⟩
set_option maxRecDepth 20000 in
theorem pz_end {T : Int} {w : MW} {a : Int32} {b : Int32} (hT : T + 600 ≤ 999999) (h : LKz T w) : Tc 2000 1 [.ref 0, .int a, .int b] w (RI fun r w1 => Tc 2000 37 [.ref 127, .int a, .int b] w1 (RI fun r' w2 => LKz (T + 600) w2 ∧ r = r')) := by
  refine tc_mono (pair_ri (A := LKn) (B := Zq (T + 600)) (C := LKz (T + 600)) (E := fun (r r' : Int32) => r = r') (D := fun (r r' : Int32) => True) (pn_end h.1) (zq_end (T := T + 600) (zq_m (by omega) h.2) h.1.1.2 (by obtain ⟨_, _, _, _, _, _, _, _, _, _, q, _⟩ := h.1.1.1.2; exact q) h.1.1.1.1.2.1 h.1.1.1.1.1.2.1) (fun _ a b => ⟨a, b⟩)) (fun v w1 hv => ?_)
  obtain ⟨r, e, q1⟩ := hv
  refine ⟨r, e, tc_mono q1 (fun v2 w2 hv2 => ?_)⟩
  obtain ⟨r', e', q⟩ := hv2
  exact ⟨r', e', q.1, q.2.1⟩
