/-! a second on both sides: what is sensed, rows, ways -/
theorem q67_q {y1 y2 : Int32} {E : MW → Prop} {Q Q' : Int32 → MW → Prop} : ∀ (m : Nat) (x : Int32) (w : MW), q_Mo_tick_67 y1 y2 E Q m x w → q_Mo_tick_67 y1 y2 E Q' m x w := by
  intro m
  induction m with
  | zero => exact fun _ _ h => False.elim h
  | succ m ih =>
    intro x w h
    rw [q_Mo_tick_67.eq_2] at h ⊢
    exact ⟨h.1, fun c => al_p_Mo_flow (I := Unit) () (fun _ => h.2 c) (fun u hu => ih _ _ (hu ()))⟩
theorem ex_67 {y1 y2 : Int32} {E : MW → Prop} {Q Q' : Int32 → MW → Prop} {m : Nat} {x : Int32} {w : MW} (h : q_Mo_tick_67 y1 y2 E Q m x w) : ∃ u, E u ∧ q_Mo_tick_67 y1 y2 (fun z => z = u) Q' m x w := by
  obtain ⟨i, hi⟩ := dj_q_Mo_tick_67 (I := {u : MW // E u}) (E1 := E) (E3 := fun i u => u = i.1) (Q1 := fun _ _ => False) (Q3 := fun _ _ _ => False) (fun u q => ⟨⟨u, q⟩, rfl⟩) (fun _ _ f => False.elim f) m x w (q67_q m x w h)
  exact ⟨i.1, i.2, q67_q m x w hi⟩
theorem jt_67 {y1 y2 : Int32} {E E' : MW → Prop} {Q Q' Q2 : Int32 → MW → Prop} {m : Nat} {x : Int32} {w : MW} (h : q_Mo_tick_67 y1 y2 E Q m x w) (h' : q_Mo_tick_67 y1 y2 E' Q' m x w) : ∃ u, E u ∧ E' u ∧ q_Mo_tick_67 y1 y2 (fun z => z = u) Q2 m x w := by
  have t : q_Mo_tick_67 y1 y2 (fun u => E u ∧ E' u) (fun _ _ => False) m x w := al_q_Mo_tick_67 true (E1 := fun b => bif b then E else E') (Q1 := fun _ _ _ => False) (fun u hu => ⟨hu true, hu false⟩) (fun _ _ f => f true) m x w (fun i => by
    cases i
    · exact q67_q m x w h'
    · exact q67_q m x w h)
  obtain ⟨u, q, e⟩ := ex_67 (Q' := Q2) t
  exact ⟨u, q.1, q.2, e⟩
theorem fl_67 {a b : Int32} {E : MW → Prop} {Q : Int32 → MW → Prop} {z : MW} (hE : ∀ w, BND w → FT w → FR l_Mo_flow z w → E w) (n : Nat) : ∀ (k : Int32) (w : MW), BND w → FT w → FR l_Mo_flow z w → 0 ≤ k.toInt → k.toInt ≤ 24 → (24 - k.toInt).toNat < n → q_Mo_tick_67 a b E Q n k w := by
  induction n with
  | zero => intros; omega
  | succ n ih =>
    intro k w h hT hF k0 k1 hm
    rw [q_Mo_tick_67.eq_2]
    refine ⟨fun _ => hE w h hT hF, fun c => ?_⟩
    have b26 := bd_127_26 h
    have e : (k + (1 : Int32)).toInt = k.toInt + 1 := ti_add2 rfl (by decide) (by omega) (by omega)
    exact h_Mo_flow h hT k0 (by omega) (by omega) (fun w' hI' hF' => ih _ w' hI' (FT_fr hF' rfl hT) (hF.tr hF' rfl) (by omega) (by omega) (by omega))
/-- all ways move -/
theorem mv_d {ns : List Nod} {nm : List Nm} {ks : List Nat} {v w : MW} {y1 y2 : Int32} {Qc Em : MW → Prop} {Qm : Int32 → MW → Prop} (h : GwR ns nm ks v w) (B : BND v) (B' : BND w) (hc : p_Wa_move v Qc) (hm : q_Mo_tick_67 y1 y2 Em Qm FU 0 w) : ∃ v' w', Qc v' ∧ Em w' ∧ GwR ns nm ks v' w' ∧ (BND v' ∧ BND w') ∧ FR l_Wa_move v v' ∧ FR l_Mo_flow w w' := by
  obtain ⟨hr, ha, rq, sc, sm, ss, wt, pg⟩ := h
  obtain ⟨v1, q1, s1, e1⟩ := jt_1 (pX := fun Q => p_Wa_move v Q) (fun Q q => ex_p_Wa_move q) (fun Q1 Q3 q k => al_p_Wa_move true q k) hc (h_Wa_move (Q := fun v' => BND v' ∧ FR l_Wa_move v v') B sc.2.2.2.2.2.2.2 (fun v' b f => ⟨b, f⟩))
  have fu : (1000 : Nat) < FU := fu_lt (by decide)
  obtain ⟨w1, q2, s2, e2⟩ := jt_67 (Q2 := fun _ _ => False) hm (fl_67 (E := fun w' => BND w' ∧ FR l_Mo_flow w w') (Q := fun _ _ => False) (fun w' b _ f => ⟨b, f⟩) FU 0 w B' sm.2.1 (FR.refl _ w) (by decide) (by decide) (by rw [i_0]; omega))
  have t := mv_all (Q' := fun v' => HRq (mx v' w1) ∧ v' = v1) B sc.2.2.2.2.2.2.2 e1 (fun v' P e => by
    have q := P w B' hr y1 y2 (fun z => z = w1) (fun z => z = w1 ∧ HRq (mx v' z)) (fun _ _ => False) (fun _ _ => False) FU e2 (fun w' _ z1 z2 => ⟨z2, z1⟩)
    obtain ⟨u, ⟨z1, z2⟩, _⟩ := ex_67 (Q' := fun _ _ => False) q
    rw [z1] at z2
    exact ⟨z2, e⟩)
  obtain ⟨v', ⟨z1, z2⟩, _⟩ := ex_p_Wa_move t
  rw [z2] at z1
  have F := s1.2
  have G := s2.2
  exact ⟨v1, w1, q1, q2, ⟨z1, hac_f ha F G rfl rfl, rwq_f rq F G rfl rfl, svc_f F sc (WO_fr F rfl sc.2.2.2.2.2.1) rfl, svm_f G sm (FT_fr G rfl sm.2.1) (HW_fr G rfl sm.2.2.1) rfl, ssr_f ss F G rfl rfl, wtr_f wt F G rfl rfl, pgq_f pg F G rfl rfl⟩, ⟨s1.1, s2.1⟩, F, G⟩
/-- all ways are closed -/
theorem cl_d {ns : List Nod} {nm : List Nm} {ks : List Nat} {v w : MW} {Qc Qm : MW → Prop} (h : GwR ns nm ks v w) (B : BND v) (B' : BND w) (hc : p_Wa_closeAll v Qc) (hm : p_Mo_closeAll w Qm) : ∃ v' w', Qc v' ∧ Qm w' ∧ GwR ns nm ks v' w' ∧ (BND v' ∧ BND w') ∧ FR l_Wa_closeAll v v' ∧ FR l_Mo_closeAll w w' := by
  obtain ⟨hr, ha, rq, sc, sm, ss, wt, pg⟩ := h
  obtain ⟨v1, q1, s1, e1⟩ := jt_1 (pX := fun Q => p_Wa_closeAll v Q) (fun Q q => ex_p_Wa_closeAll q) (fun Q1 Q3 q k => al_p_Wa_closeAll true q k) hc (h_Wa_closeAll (Q := fun v' => BND v' ∧ FR l_Wa_closeAll v v' ∧ WO v') B sc.2.2.2.2.1 sc.2.2.2.2.2.1 sc.2.2.2.2.2.2.2 (fun v' b f o => ⟨b, f, o⟩))
  obtain ⟨w1, q2, s2, e2⟩ := jt_1 (pX := fun Q => p_Mo_closeAll w Q) (fun Q q => ex_p_Mo_closeAll q) (fun Q1 Q3 q k => al_p_Mo_closeAll true q k) hm (h_Mo_closeAll (Q := fun w' => BND w' ∧ FR l_Mo_closeAll w w' ∧ FT w' ∧ HW w') B' sm.2.1 sm.2.2.1 (fun w' b f o1 o2 => ⟨b, f, o1, o2⟩))
  have T : 0 ≤ tM w ∧ tM w ≤ 20 := bd_127_4 B'
  have P : 0 ≤ pM w ∧ pM w ≤ 24 := bd_127_11 B'
  have b26 := bd_26_1 B
  have t := ca_u (Q' := fun v' => HRq (mx v' w1) ∧ v' = v1) b26.1 b26.2 e1 (fun v' PP e => by
    have q := PP w T P hr (fun z => z = w1) (fun z => z = w1 ∧ HRq (mx v' z)) e2 (fun w' z1 z2 => ⟨z2, z1⟩)
    obtain ⟨u, ⟨z1, z2⟩, _⟩ := ex_p_Mo_closeAll q
    rw [z1] at z2
    exact ⟨z2, e⟩)
  obtain ⟨v', ⟨z1, z2⟩, _⟩ := ex_p_Wa_closeAll t
  rw [z2] at z1
  have F := s1.2.1
  have G := s2.2.1
  exact ⟨v1, w1, q1, q2, ⟨z1, hac_f ha F G rfl rfl, rwq_f rq F G rfl rfl, svc_f F sc s1.2.2 rfl, svm_f G sm s2.2.2.1 s2.2.2.2 rfl, ssr_f ss F G rfl rfl, wtr_f wt F G rfl rfl, pgq_f pg F G rfl rfl⟩, ⟨s1.1, s2.1⟩, F, G⟩
/-- what is sensed -/
theorem sa_d {ns : List Nod} {nm : List Nm} {ks : List Nat} {v w : MW} {Qc Qm : MW → Prop} (h : GwR ns nm ks v w) (B : BND v) (B' : BND w) (vl : VlR v w) (n0 : 0 ≤ (w.1 127 78).toInt) (hc : p_Bh_senseAll v Qc) (hm : p_Mo_senseAll w Qm) : ∃ v' w', Qc v' ∧ Qm w' ∧ GwR ns nm ks v' w' ∧ (BND v' ∧ BND w') ∧ VlR v' w' ∧ FR l_Bh_senseAll v v' ∧ FR l_Mo_senseAll w w' := by
  obtain ⟨hr, ha, ⟨g, rs, h1, h2, h3, h4, h5⟩, sc, sm, ss, wt, pg⟩ := h
  obtain ⟨v1, ⟨sa, q1⟩, s1, _⟩ := jt_1 (pX := fun Q => p_Bh_senseAll v Q) (fun Q q => ex_p_Bh_senseAll q) (fun Q1 Q3 q k => al_p_Bh_senseAll true q k) (csa_x (Q' := fun v' => SaC v w v' ∧ Qc v') B B' hr n0 hc (fun v' a b => ⟨a, b⟩)) (h_Bh_senseAll (Q := fun v' => BND v' ∧ FR l_Bh_senseAll v v') B sc.2.2.2.2.2.2.1 pg.1 sc.2.2.2.2.2.2.2 (fun v' b f => ⟨b, f⟩))
  obtain ⟨w1, ⟨sb, q2⟩, s2, _⟩ := jt_1 (pX := fun Q => p_Mo_senseAll w Q) (fun Q q => ex_p_Mo_senseAll q) (fun Q1 Q3 q k => al_p_Mo_senseAll true q k) (msa_x (v := v) (Q' := fun w' => SaM v w w' ∧ Qm w') B B' hr n0 hm (fun w' a b => ⟨a, b⟩)) (h_Mo_senseAll (Q := fun w' => BND w' ∧ FR l_Mo_senseAll w w') B' (fun w' b f => ⟨b, f⟩))
  obtain ⟨t1, t2, t3, t4⟩ := sa_two hr ss vl wt sa sb
  have F := s1.2
  have G := s2.2
  refine ⟨v1, w1, q1, q2, ⟨t1, hac_f ha F G rfl rfl, ⟨g, rs, rsc_fr h1 F rfl, h2, rom_k h3 (G 147 12 rfl).1 (G 147 20 rfl).1 (KR.fr G rfl), fun r hr => ?_, t3⟩, svc_f F sc (WO_fr F rfl sc.2.2.2.2.2.1) rfl, svm_f G sm (FT_fr G rfl sm.2.1) (HW_fr G rfl sm.2.2.1) rfl, ssr_f ss F G rfl rfl, t4, pgq_f pg F G rfl rfl⟩, ⟨s1.1, s2.1⟩, t2, F, G⟩
  rw [(F 49 r rfl).1, (F 50 r rfl).1, (F 51 r rfl).1, (G 160 r rfl).1, (G 161 r rfl).1, (G 162 r rfl).1]
  exact h4 r hr
/-- rows count a second -/
theorem rc_d {ns : List Nod} {nm : List Nm} {ks : List Nat} {v w : MW} {Qc : MW → Prop} {Qm : Int32 → MW → Prop} (h : GwR ns nm ks v w) (B : BND v) (B' : BND w) (hc : p_Ro_countSecond v Qc) (hm : p_Mr_tick w 1 Qm) : ∃ v' w', Qc v' ∧ Qm 1 w' ∧ GwR ns nm ks v' w' ∧ (BND v' ∧ BND w') ∧ FR lcc v v' ∧ FR lcm w w' := by
  obtain ⟨hr, ha, ⟨g, rs, h1, h2, h3, h4, h5⟩, sc, sm, ss, wt, pg⟩ := h
  obtain ⟨v1, q1, s1, _⟩ := jt_1 (pX := fun Q => p_Ro_countSecond v Q) (fun Q q => ex_p_Ro_countSecond q) (fun Q1 Q3 q k => al_p_Ro_countSecond true q k) hc (cc_count (Q := fun v' => BND v' ∧ FR lcc v v' ∧ CsE 49 50 51 (sbt (v.1 48 1)) rs v v') B h1 h2 (fun v' b f c => ⟨b, f, c⟩))
  obtain ⟨r2, w1, q2, s2, _⟩ := jt_2 (pX := fun Q => p_Mr_tick w 1 Q) (fun Q q => ex_p_Mr_tick q) (fun Q1 Q3 q k => al_p_Mr_tick true q k) hm (cm_count (Q := fun r w' => r = 1 ∧ BND w' ∧ FR lcm w w' ∧ CsE 160 161 162 (sbt (w.1 147 24)) rs w w') B' sm.1 h3 (fun w' b f c => ⟨rfl, b, f, c⟩))
  obtain ⟨er, b2, G, c2⟩ := s2
  obtain ⟨b1, F, c1⟩ := s1
  rw [er] at q2
  refine ⟨v1, w1, q1, q2, ⟨hr_f hr F G rfl rfl, hac_f ha F G rfl rfl, ⟨g, rs, rsc_fr h1 F rfl, h2, rom_k h3 (G 147 12 rfl).1 (G 147 20 rfl).1 (KR.fr G rfl), fun r hr => ?_, by rw [(F 48 1 rfl).1, (G 147 24 rfl).1]; exact h5⟩, svc_f F sc (WO_fr F rfl sc.2.2.2.2.2.1) rfl, svm_f G sm (FT_fr G rfl sm.2.1) (HW_fr G rfl sm.2.2.1) rfl, ssr_f ss F G rfl rfl, wtr_f wt F G rfl rfl, pgq_f pg F G rfl rfl⟩, ⟨b1, b2⟩, F, G⟩
  have x1 := c1 r _ (List.getElem?_eq_getElem hr)
  have x2 := c2 r _ (List.getElem?_eq_getElem hr)
  have e := h4 r hr
  unfold CsR at x1 x2
  rw [e.1, e.2.1, e.2.2, h5] at x1
  exact ⟨Int32.toInt_inj.mp (x1.1.trans x2.1.symm), Int32.toInt_inj.mp (x1.2.1.trans x2.2.1.symm), Int32.toInt_inj.mp (x1.2.2.trans x2.2.2.symm)⟩
/-- both sides between two calls: T seconds at most have gone -/
def ZRr (T : Int) (ns : List Nod) (nm : List Nm) (ks : List Nat) (v w : MW) : Prop := GwR ns nm ks v w ∧ (BND v ∧ BND w) ∧ VlR v w ∧ AlR v w ∧ v.1 61 4 = w.1 127 59 ∧ (w.1 127 76).toInt = -1 ∧ (0 ≤ (v.1 7 1).toInt ∧ (v.1 7 1).toInt ≤ T) ∧ (0 ≤ (v.2.1 61 17).toInt ∧ (v.2.1 61 17).toInt ≤ (v.1 7 1).toInt) ∧ (((v.1 61 4).toInt = 0 ∨ (v.1 61 4).toInt = 2) → ¬ ks = [] ∧ LyQ v w ∧ ∃ off : Int, (v.2.1 61 17).toInt = (w.1 127 74).toInt + off ∧ 0 ≤ (w.1 127 74).toInt ∧ 0 ≤ off ∧ RnR ns off ks v w)
theorem sta_of {ns : List Nod} {nm : List Nm} {ks : List Nat} {v w : MW} (p : PgQ ns nm ks v w) (k : ¬ ks = []) (l : LyQ v w) : STa ns nm ks v w := ⟨p.1, p.2.1, p.2.2.1, p.2.2.2.1, p.2.2.2.2.1, l, (p.2.2.2.2.2.2.2.2.2.2.2.2 k).2.2, p.2.2.2.2.2.1⟩
theorem lyq_f {l l' : Pl} {v w v' w' : MW} (h : LyQ v w) (F : FR l v v') (G : FR l' w w') (ho : off l [(61, some 5), (77, none), (78, none), (79, none)] = true) (ho' : off l' [(127, some 60), (207, none), (208, none), (209, none)] = true) : LyQ v' w' := by
  have e5 : v'.1 61 5 = v.1 61 5 := (F 61 5 (off_hit ho rfl)).1
  refine ⟨by rw [e5, (G 127 60 (off_hit ho' rfl)).1]; exact h.1, by rw [e5]; exact h.2.1, fun j hj => ?_⟩
  rw [e5] at hj
  rw [(F 77 j (off_hit ho rfl)).1, (F 78 j (off_hit ho rfl)).1, (F 79 j (off_hit ho rfl)).1, (G 207 j (off_hit ho' rfl)).1, (G 208 j (off_hit ho' rfl)).1, (G 209 j (off_hit ho' rfl)).1]
  exact h.2.2 j hj
theorem rnr_f {l l' : Pl} {ns : List Nod} {off1 : Int} {ks : List Nat} {v w v' w' : MW} (h : RnR ns off1 ks v w) (hL : Lz ns v ks 1 (fiC v 0) (v.1 61 5).toInt.toNat) (p5 : 1 ≤ (v.1 61 5).toInt) (F : FR l v v') (G : FR l' w w') (ho : off l [(61, some 5), (78, none), (79, none), (80, none), (81, none), (82, none), (83, none), (84, none), (85, none)] = true) (p6 : (v.1 61 5).toInt ≤ 501) (ho' : off l' [(127, some 74), (210, none), (211, none), (212, none), (213, none), (214, none), (215, none), (216, none), (217, none)] = true) : RnR ns off1 ks v' w' := by
  have A : ∀ a b, AgR a b v v' w w' := fun a b => agr_f F G (off_mono ho (by decide)) (off_mono ho' (by decide)) a b
  refine ⟨blkr_f hL (by omega) (A _ _) h.1, fun j h0 hj hb => ?_⟩
  rw [(F 61 5 (off_hit ho rfl)).1] at hj
  have t := agr_i (A 0 501) (Nat.zero_le j) (by omega)
  rw [t.2.2.2.2.1] at hb
  rw [t.2.2.2.2.2.2.2.2, (G 127 74 (off_hit ho' rfl)).1]
  exact h.2 j h0 hj hb
/-- what a run rests on does not change where neither side writes it -/
theorem run_f {l l' : Pl} {ns : List Nod} {nm : List Nm} {ks : List Nat} {v w v' w' : MW} (pg : PgQ ns nm ks v w) (h : ((v.1 61 4).toInt = 0 ∨ (v.1 61 4).toInt = 2) → ¬ ks = [] ∧ LyQ v w ∧ ∃ off : Int, (v.2.1 61 17).toInt = (w.1 127 74).toInt + off ∧ 0 ≤ (w.1 127 74).toInt ∧ 0 ≤ off ∧ RnR ns off ks v w) (F : FR l v v') (G : FR l' w w') (ho : off l [(61, some 5), (61, some 17), (77, none), (78, none), (79, none), (80, none), (81, none), (82, none), (83, none), (84, none), (85, none)] = true) (ho' : off l' [(127, some 60), (127, some 74), (207, none), (208, none), (209, none), (210, none), (211, none), (212, none), (213, none), (214, none), (215, none), (216, none), (217, none)] = true) (z : (v.1 61 4).toInt = 0 ∨ (v.1 61 4).toInt = 2) : ¬ ks = [] ∧ LyQ v' w' ∧ ∃ off : Int, (v'.2.1 61 17).toInt = (w'.1 127 74).toInt + off ∧ 0 ≤ (w'.1 127 74).toInt ∧ 0 ≤ off ∧ RnR ns off ks v' w' := by
  obtain ⟨h1, h2, o, h3, h4, h5, h6⟩ := h z
  have q := pg.2.2.2.2.2.2.2.2.2.2.2.2 h1
  refine ⟨h1, lyq_f h2 F G (off_mono ho (by decide)) (off_mono ho' (by decide)), o, ?_, ?_, h5, rnr_f h6 q.2.2 q.2.1.1 F G (off_mono ho (by decide)) q.2.1.2 (off_mono ho' (by decide))⟩
  · rw [(F 61 17 (off_hit ho rfl)).2.1, (G 127 74 (off_hit ho' rfl)).1]
    exact h3
  · rw [(G 127 74 (off_hit ho' rfl)).1]
    exact h4
