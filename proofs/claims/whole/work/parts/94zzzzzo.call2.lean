/-! calls on both sides: tables, acts, what is watched, rows -/
def lhtC : Pl := [(7, some 1), (8, some 0), (8, some 1), (9, none), (10, none), (11, none), (12, none), (13, none), (14, none), (15, none), (16, none), (17, none), (18, none), (19, none), (20, none), (21, none), (23, none), (26, some 1), (27, none), (28, none), (29, none), (30, none), (31, none), (32, none), (33, none), (34, none), (35, none), (36, none), (37, none), (41, none)]
def lhtM : Pl := [(127, some 4), (127, some 11), (127, some 26), (127, some 78), (163, none), (164, none), (165, none), (166, none), (167, none), (169, none), (170, none), (171, none), (172, none), (173, none), (174, none), (181, none), (182, none), (183, none), (184, none), (185, none), (186, none), (187, none)]
theorem hr_tb {l l' : Pl} {v w v' w' : MW} (h : HRq (mx v w)) (F : FR l v v') (G : FR l' w w') (ho : off l lhtC = true) (ho' : off l' lhtM = true) (ht : HTb (mx v' w')) : HRq (mx v' w') := ⟨HPl_ag (ag_mx F G ho ho' lPL (by decide)) h.1, ht, HSk_ag (ag_mx F G ho ho' lPL (by decide)) (ag_mx F G ho ho' lSk (by decide)) (fun j => by
  show v'.2.1 20 j = v.2.1 20 j
  exact (F 20 j (off_hit ho rfl)).2.1) h.2.2.1, HWy_ag (ag_mx F G ho ho' lPL (by decide)) (ag_mx F G ho ho' lWy (by decide)) (fun p => ag_mx F G ho ho' lSk (by decide) 17 _ rfl) h.2.2.2⟩
theorem gw_tb {l l' : Pl} {ns : List Nod} {nm : List Nm} {ks : List Nat} {v w v' w' : MW} (h : GwR ns nm ks v w) (F : FR l v v') (G : FR l' w w') (hl : l = [(22, none), (24, none), (25, none)]) (hl' : l' = [(175, none), (176, none), (177, none)]) (ht : HTb (mx v' w')) : GwR ns nm ks v' w' := by
  subst hl
  subst hl'
  obtain ⟨hr, ha, rq, sc, sm, ss, wt, pg⟩ := h
  exact ⟨hr_tb hr F G rfl rfl ht, hac_f ha F G rfl rfl, rwq_f rq F G rfl rfl, svc_f F sc (WO_fr F rfl sc.2.2.2.2.2.1) rfl, svm_f G sm (FT_fr G rfl sm.2.1) (HW_fr G rfl sm.2.2.1) rfl, ssr_f ss F G rfl rfl, wtr_f wt F G rfl rfl, pgq_f pg F G rfl rfl⟩
/-- need -/
theorem d_need {T : Int} {ns : List Nod} {nm : List Nm} {ks : List Nat} {v w : MW} {a b c : Int32} {Qc Qm : Int32 → MW → Prop} (h : ZRr T ns nm ks v w) (hc : p_Bh_need v a b c Qc) (hm : p_Mo_need w a b c Qm) : ∃ r v' w', Qc r v' ∧ Qm r w' ∧ ZRr T ns nm ks v' w' := by
  obtain ⟨r1, v1, q1, s1, _⟩ := jt_2 (pX := fun Q => p_Bh_need v a b c Q) (fun Q q => ex_p_Bh_need q) (fun Q1 Q3 q k => al_p_Bh_need true q k) hc (tn_need (Q := fun y w' => (CN a b c ∧ y = 1 ∧ w' = sI v 24 (15 * a.toInt.toNat + b.toInt.toNat) c) ∨ (¬ CN a b c ∧ y = 0 ∧ w' = v)) (fun y w' z => z))
  obtain ⟨r2, w1, q2, s2, _⟩ := jt_2 (pX := fun Q => p_Mo_need w a b c Q) (fun Q q => ex_p_Mo_need q) (fun Q1 Q3 q k => al_p_Mo_need true q k) hm (tm_need (Q := fun y w' => (CN a b c ∧ y = 1 ∧ w' = sI w 176 (16 * a.toInt.toNat + b.toInt.toNat) c) ∨ (¬ CN a b c ∧ y = 0 ∧ w' = w)) (fun y w' z => z))
  rcases s1 with ⟨n1, e1, f1⟩ | ⟨n1, e1, f1⟩
  · rcases s2 with ⟨n2, e2, f2⟩ | ⟨n2, e2, f2⟩
    · rw [e1, f1] at q1
      rw [e2, f2] at q2
      obtain ⟨na, nb, nc⟩ := n1
      have F : FR [(22, none), (24, none), (25, none)] v (sI v 24 (15 * a.toInt.toNat + b.toInt.toNat) c) := FR.I (FR.refl _ v) rfl
      have G : FR [(175, none), (176, none), (177, none)] w (sI w 176 (16 * a.toInt.toNat + b.toInt.toNat) c) := FR.I (FR.refl _ w) rfl
      have ht := h.1.1.2.1
      refine ⟨1, _, _, q1, q2, zr_k h (gw_tb h.1 F G rfl rfl ⟨ht.1, ht.2.1, ht.2.2.1, fun i j i1 i2 j1 j2 => ?_, ht.2.2.2.2⟩) (wbd_24 h.2.1.1 _ nc.1 nc.2) (wbd_176 h.2.1.2 _ nc.1 nc.2) F G rfl rfl⟩
      show (sI v 24 (15 * a.toInt.toNat + b.toInt.toNat) c).1 24 (15 * i + j) = (sI w 176 (16 * a.toInt.toNat + b.toInt.toNat) c).1 176 (16 * i + j)
      rw [sI_at, sI_at]
      have t : v.1 24 (15 * i + j) = w.1 176 (16 * i + j) := ht.2.2.2.1 i j i1 i2 j1 j2
      by_cases z : i = a.toInt.toNat ∧ j = b.toInt.toNat
      · rw [if_pos ⟨rfl, by rw [z.1, z.2]⟩, if_pos ⟨rfl, by rw [z.1, z.2]⟩]
      · rw [if_neg (fun y => z (by have := y.2; omega)), if_neg (fun y => z (by have := y.2; omega))]
        exact t
    · exact absurd n1 n2
  · rcases s2 with ⟨n2, e2, f2⟩ | ⟨n2, e2, f2⟩
    · exact absurd n2 n1
    · rw [e1, f1] at q1
      rw [e2, f2] at q2
      exact ⟨0, v, w, q1, q2, h⟩
/-- lasts -/
theorem d_lasts {T : Int} {ns : List Nod} {nm : List Nm} {ks : List Nat} {v w : MW} {a b : Int32} {Qc Qm : Int32 → MW → Prop} (h : ZRr T ns nm ks v w) (hc : p_Bh_lasts v a b Qc) (hm : p_Mo_lasts w a b Qm) : ∃ r v' w', Qc r v' ∧ Qm r w' ∧ ZRr T ns nm ks v' w' := by
  obtain ⟨r1, v1, q1, s1, _⟩ := jt_2 (pX := fun Q => p_Bh_lasts v a b Q) (fun Q q => ex_p_Bh_lasts q) (fun Q1 Q3 q k => al_p_Bh_lasts true q k) hc (tn_lasts (Q := fun y w' => (CLs a b ∧ y = 1 ∧ w' = sI v 25 a.toInt.toNat b) ∨ (¬ CLs a b ∧ y = 0 ∧ w' = v)) (fun y w' z => z))
  obtain ⟨r2, w1, q2, s2, _⟩ := jt_2 (pX := fun Q => p_Mo_lasts w a b Q) (fun Q q => ex_p_Mo_lasts q) (fun Q1 Q3 q k => al_p_Mo_lasts true q k) hm (tm_lasts (Q := fun y w' => (CLs a b ∧ y = 1 ∧ w' = sI w 177 a.toInt.toNat b) ∨ (¬ CLs a b ∧ y = 0 ∧ w' = w)) (fun y w' z => z))
  rcases s1 with ⟨n1, e1, f1⟩ | ⟨n1, e1, f1⟩
  · rcases s2 with ⟨n2, e2, f2⟩ | ⟨n2, e2, f2⟩
    · rw [e1, f1] at q1
      rw [e2, f2] at q2
      have F : FR [(22, none), (24, none), (25, none)] v (sI v 25 a.toInt.toNat b) := FR.I (FR.refl _ v) rfl
      have G : FR [(175, none), (176, none), (177, none)] w (sI w 177 a.toInt.toNat b) := FR.I (FR.refl _ w) rfl
      have ht := h.1.1.2.1
      refine ⟨1, _, _, q1, q2, zr_k h (gw_tb h.1 F G rfl rfl ⟨ht.1, ht.2.1, ht.2.2.1, ht.2.2.2.1, fun l l1 l5 => ?_⟩) (wbd_25 h.2.1.1 _ n1.2.1 n1.2.2) (wbd_177 h.2.1.2 _ n1.2.1 n1.2.2) F G rfl rfl⟩
      show (sI v 25 a.toInt.toNat b).1 25 l = (sI w 177 a.toInt.toNat b).1 177 l
      rw [sI_at, sI_at]
      have t : v.1 25 l = w.1 177 l := ht.2.2.2.2 l l1 l5
      by_cases z : l = a.toInt.toNat
      · rw [if_pos ⟨rfl, z⟩, if_pos ⟨rfl, z⟩]
      · rw [if_neg (fun y => z y.2), if_neg (fun y => z y.2)]
        exact t
    · exact absurd n1 n2
  · rcases s2 with ⟨n2, e2, f2⟩ | ⟨n2, e2, f2⟩
    · exact absurd n2 n1
    · rw [e1, f1] at q1
      rw [e2, f2] at q2
      exact ⟨0, v, w, q1, q2, h⟩
/-- watch -/
theorem d_watch {T : Int} {ns : List Nod} {nm : List Nm} {ks : List Nat} {v w : MW} {a b c : Int32} {d : Int64} {Qc Qm : Int32 → MW → Prop} (h : ZRr T ns nm ks v w) (hc : p_Bh_watch v a b c d Qc) (hm : p_Mo_watch w a b c d Qm) : ∃ r v' w', Qc r v' ∧ Qm r w' ∧ ZRr T ns nm ks v' w' := by
  rw [p_Bh_watch.eq_1] at hc
  rw [p_Mo_watch.eq_1] at hm
  by_cases a0 : a.toInt < 0
  · exact ⟨0, v, w, hc.1 a0, hm.1 a0, h⟩
  · have c1 := hc.2 a0
    have m1 := hm.2 a0
    by_cases a1 : 15 < a.toInt
    · exact ⟨0, v, w, c1.1 a1, m1.1 a1, h⟩
    · have c2 := c1.2 a1
      have m2 := m1.2 a1
      by_cases b0 : b.toInt < 0
      · exact ⟨0, v, w, c2.1 b0, m2.1 b0, h⟩
      · have c3 := c2.2 b0
        have m3 := m2.2 b0
        by_cases b5 : b.toInt ≤ 5
        · have c4 := (c3.1 b5).2.2.2
          have m4 := (m3.1 b5).2.2.2
          have F : FR [(124, none), (125, none), (126, none)] v (sJ (sI (sI v 126 a.toInt.toNat b) 124 a.toInt.toNat c) 125 a.toInt.toNat d) := FR.J (FR.I (FR.I (FR.refl _ v) rfl) rfl) rfl
          have G : FR [(203, none), (204, none), (205, none)] w (sJ (sI (sI w 203 a.toInt.toNat b) 204 a.toInt.toNat c) 205 a.toInt.toNat d) := FR.J (FR.I (FR.I (FR.refl _ w) rfl) rfl) rfl
          obtain ⟨hr, ha, rq, sc, sm, ss, wt, pg⟩ := h.1
          have wt' : WtR (sJ (sI (sI v 126 a.toInt.toNat b) 124 a.toInt.toNat c) 125 a.toInt.toNat d) (sJ (sI (sI w 203 a.toInt.toNat b) 204 a.toInt.toNat c) 205 a.toInt.toNat d) := by
            refine ⟨fun x hx => ?_, fun x x1 x2 => by rw [(G 147 24 rfl).1]; exact wt.2 x x1 x2⟩
            have r126 : (sJ (sI (sI v 126 a.toInt.toNat b) 124 a.toInt.toNat c) 125 a.toInt.toNat d).1 126 x = if x = a.toInt.toNat then b else v.1 126 x := by
              rw [sJ_I, sI_oth _ _ _ _ _ _ (by decide), sI_at]
              by_cases z : x = a.toInt.toNat
              · rw [if_pos ⟨rfl, z⟩, if_pos z]
              · rw [if_neg (fun y => z y.2), if_neg z]
            have r124 : (sJ (sI (sI v 126 a.toInt.toNat b) 124 a.toInt.toNat c) 125 a.toInt.toNat d).1 124 x = if x = a.toInt.toNat then c else v.1 124 x := by
              rw [sJ_I, sI_at]
              by_cases z : x = a.toInt.toNat
              · rw [if_pos ⟨rfl, z⟩, if_pos z]
              · rw [if_neg (fun y => z y.2), if_neg z, sI_oth _ _ _ _ _ _ (by decide)]
            have r125 : (sJ (sI (sI v 126 a.toInt.toNat b) 124 a.toInt.toNat c) 125 a.toInt.toNat d).2.1 125 x = if x = a.toInt.toNat then d else v.2.1 125 x := by
              rw [sJ_at, sI_J, sI_J]
              by_cases z : x = a.toInt.toNat
              · rw [if_pos ⟨rfl, z⟩, if_pos z]
              · rw [if_neg (fun y => z y.2), if_neg z]
            have r203 : (sJ (sI (sI w 203 a.toInt.toNat b) 204 a.toInt.toNat c) 205 a.toInt.toNat d).1 203 x = if x = a.toInt.toNat then b else w.1 203 x := by
              rw [sJ_I, sI_oth _ _ _ _ _ _ (by decide), sI_at]
              by_cases z : x = a.toInt.toNat
              · rw [if_pos ⟨rfl, z⟩, if_pos z]
              · rw [if_neg (fun y => z y.2), if_neg z]
            have r204 : (sJ (sI (sI w 203 a.toInt.toNat b) 204 a.toInt.toNat c) 205 a.toInt.toNat d).1 204 x = if x = a.toInt.toNat then c else w.1 204 x := by
              rw [sJ_I, sI_at]
              by_cases z : x = a.toInt.toNat
              · rw [if_pos ⟨rfl, z⟩, if_pos z]
              · rw [if_neg (fun y => z y.2), if_neg z, sI_oth _ _ _ _ _ _ (by decide)]
            have r205 : (sJ (sI (sI w 203 a.toInt.toNat b) 204 a.toInt.toNat c) 205 a.toInt.toNat d).2.1 205 x = if x = a.toInt.toNat then d else w.2.1 205 x := by
              rw [sJ_at, sI_J, sI_J]
              by_cases z : x = a.toInt.toNat
              · rw [if_pos ⟨rfl, z⟩, if_pos z]
              · rw [if_neg (fun y => z y.2), if_neg z]
            rw [(G 147 24 rfl).1, r126, r124, r125, r203, r204, r205]
            by_cases z : x = a.toInt.toNat
            · right
              rw [if_pos z, if_pos z, if_pos z, if_pos z, if_pos z, if_pos z]
              exact ⟨by omega, rfl, rfl, rfl⟩
            · rw [if_neg z, if_neg z, if_neg z, if_neg z, if_neg z, if_neg z]
              exact wt.1 x hx
          refine ⟨1, _, _, c4, m4, zr_k h ⟨hr_f hr F G rfl rfl, hac_f ha F G rfl rfl, rwq_f rq F G rfl rfl, svc_f F sc (WO_fr F rfl sc.2.2.2.2.2.1) rfl, svm_f G sm (FT_fr G rfl sm.2.1) (HW_fr G rfl sm.2.2.1) rfl, ssr_f ss F G rfl rfl, wt', pgq_f pg F G rfl rfl⟩ (bnd_e (wbd_124 (wbd_126 h.2.1.1 _ (by omega) (by omega)) _) rfl) (bnd_e (wbd_204 (wbd_203 h.2.1.2 _ (by omega) (by omega)) _) rfl) F G rfl rfl⟩
        · exact ⟨0, v, w, c3.2 b5, m3.2 b5, h⟩
/-- rows: bars, row, reset, pass -/
theorem d_bars {T : Int} {ns : List Nod} {nm : List Nm} {ks : List Nat} {v w : MW} {a : Int32} {Qc Qm : Int32 → MW → Prop} (h : ZRr T ns nm ks v w) (hc : p_Bh_bars v a Qc) (hm : p_Mo_bars w a Qm) : ∃ r v' w', Qc r v' ∧ Qm r w' ∧ ZRr T ns nm ks v' w' := by
  obtain ⟨g, rs, h1, h2, h3, h4, h5⟩ := h.1.2.2.1
  have sc := h.1.2.2.2.1
  have sm := h.1.2.2.2.2.1
  obtain ⟨r1, v1, q1, ⟨e1, s1⟩, _⟩ := jt_2 (pX := fun Q => p_Bh_bars v a Q) (fun Q q => ex_p_Bh_bars q) (fun Q1 Q3 q k => al_p_Bh_bars true q k) hc (cb_bars (Q := fun y v' => v' = v ∧ (((a.toInt < 0 ∨ 32 ≤ a.toInt) ∧ y = -1) ∨ ((0 ≤ a.toInt ∧ a.toInt < 32) ∧ FsB (BrW 49 50 51 (sbt (v.1 48 1)) a.toInt v) rs y.toInt))) sc.2.2.2.2.2.2.1 h1 h2 (fun z => ⟨rfl, Or.inl ⟨z, rfl⟩⟩) (fun z1 z2 y hy => ⟨rfl, Or.inr ⟨⟨z1, z2⟩, hy⟩⟩))
  rw [p_Mo_bars.eq_1] at hm
  obtain ⟨r2, w1, q2, ⟨e2, s2⟩, _⟩ := jt_2 (pX := fun Q => p_Mr_act1 w a Q) (fun Q q => ex_p_Mr_act1 q) (fun Q1 Q3 q k => al_p_Mr_act1 true q k) hm (mb_bars (Q := fun y w' => w' = w ∧ (((a.toInt < 0 ∨ 32 ≤ a.toInt) ∧ y = -1) ∨ ((0 ≤ a.toInt ∧ a.toInt < 32) ∧ FsB (BrW 160 161 162 (sbt (w.1 147 24)) a.toInt w) rs y.toInt))) h.2.1.2 sm.1 h3 (fun z => ⟨rfl, Or.inl ⟨z, rfl⟩⟩) (fun z1 z2 y hy => ⟨rfl, Or.inr ⟨⟨z1, z2⟩, hy⟩⟩))
  rw [e1] at q1
  rw [e2] at q2
  have er : r1 = r2 := by
    rcases s1 with ⟨z1, z2⟩ | ⟨z1, z2⟩
    · rcases s2 with ⟨_, y2⟩ | ⟨y1, _⟩
      · rw [z2, y2]
      · omega
    · rcases s2 with ⟨y1, _⟩ | ⟨_, y2⟩
      · omega
      · exact Int32.toInt_inj.mp (br_eq (g := g) h4 h5 z2 y2)
  rw [← er] at q2
  exact ⟨r1, v, w, q1, q2, h⟩
theorem rwv_eq {v w : MW} {rs : List Rw} {a b y y' : Int} (h4 : ∀ r : Nat, r < rs.length → v.1 49 r = w.1 160 r ∧ v.1 50 r = w.1 161 r ∧ v.1 51 r = w.1 162 r) (h5 : v.1 48 1 = w.1 147 24) (h : RwV 49 50 51 (sbt (v.1 48 1)) rs v a b y) (h' : RwV 160 161 162 (sbt (w.1 147 24)) rs w a b y') : y = y' := by
  rcases h with ⟨r, x, e, hx, hy⟩ | ⟨z, hy⟩
  · have rl := (List.getElem?_eq_some_iff.mp hx).1
    rcases h' with ⟨r', x', e', hx', hy'⟩ | ⟨z', _⟩
    · have er : r' = r := by omega
      rw [er] at hx' hy'
      rw [hx] at hx'
      have ex := Option.some.inj hx'
      have q := h4 r rl
      rw [hy, hy', q.1, q.2.1, q.2.2, h5, ex]
    · omega
  · rcases h' with ⟨r', x', e', hx', _⟩ | ⟨_, hy'⟩
    · have rl := (List.getElem?_eq_some_iff.mp hx').1
      omega
    · rw [hy, hy']
theorem d_row {T : Int} {ns : List Nod} {nm : List Nm} {ks : List Nat} {v w : MW} {a b : Int32} {Qc Qm : Int32 → MW → Prop} (h : ZRr T ns nm ks v w) (hc : p_Bh_row v a b Qc) (hm : p_Mo_row w a b Qm) : ∃ r v' w', Qc r v' ∧ Qm r w' ∧ ZRr T ns nm ks v' w' := by
  obtain ⟨g, rs, h1, h2, h3, h4, h5⟩ := h.1.2.2.1
  have sc := h.1.2.2.2.1
  have sm := h.1.2.2.2.2.1
  obtain ⟨r1, v1, q1, ⟨e1, s1⟩, _⟩ := jt_2 (pX := fun Q => p_Bh_row v a b Q) (fun Q q => ex_p_Bh_row q) (fun Q1 Q3 q k => al_p_Bh_row true q k) hc (cb_row (Q := fun y v' => v' = v ∧ RwV 49 50 51 (sbt (v.1 48 1)) rs v a.toInt b.toInt y.toInt) sc.2.2.2.2.2.2.1 h1 h2 (fun y hy => ⟨rfl, hy⟩))
  obtain ⟨r2, w1, q2, ⟨e2, s2⟩, _⟩ := jt_2 (pX := fun Q => p_Mo_row w a b Q) (fun Q q => ex_p_Mo_row q) (fun Q1 Q3 q k => al_p_Mo_row true q k) hm (mb_row (Q := fun y w' => w' = w ∧ RwV 160 161 162 (sbt (w.1 147 24)) rs w a.toInt b.toInt y.toInt) h.2.1.2 sm.1 h3 (fun y hy => ⟨rfl, hy⟩))
  rw [e1] at q1
  rw [e2] at q2
  have er : r1 = r2 := Int32.toInt_inj.mp (rwv_eq h4 h5 s1 s2)
  rw [← er] at q2
  exact ⟨r1, v, w, q1, q2, h⟩
/-- one cell of the rows' changes on both sides -/
theorem zr_row {T : Int} {ns : List Nod} {nm : List Nm} {ks : List Nat} {v w : MW} {k k' i : Nat} {x : Int32} (h : ZRr T ns nm ks v w) (hk : (k = 50 ∧ k' = 161 ∧ 0 ≤ x.toInt ∧ x.toInt ≤ 1) ∨ (k = 51 ∧ k' = 162 ∧ 0 ≤ x.toInt ∧ x.toInt ≤ 3600)) : ZRr T ns nm ks (sI v k i x) (sI w k' i x) := by
  have F : FR [(50, none), (51, none)] v (sI v k i x) := by
    rcases hk with ⟨e, _⟩ | ⟨e, _⟩
    · rw [e]; exact FR.I (FR.refl _ v) rfl
    · rw [e]; exact FR.I (FR.refl _ v) rfl
  have G : FR [(161, none), (162, none)] w (sI w k' i x) := by
    rcases hk with ⟨_, e, _⟩ | ⟨_, e, _⟩
    · rw [e]; exact FR.I (FR.refl _ w) rfl
    · rw [e]; exact FR.I (FR.refl _ w) rfl
  have B : BND (sI v k i x) := by
    rcases hk with ⟨e, _, x0, x1⟩ | ⟨e, _, x0, x1⟩
    · rw [e]; exact wbd_50 h.2.1.1 i x0 x1
    · rw [e]; exact wbd_51 h.2.1.1 i x0 x1
  have B' : BND (sI w k' i x) := by
    rcases hk with ⟨_, e, x0, x1⟩ | ⟨_, e, x0, x1⟩
    · rw [e]; exact wbd_161 h.2.1.2 i x0 x1
    · rw [e]; exact wbd_162 h.2.1.2 i x0 x1
  obtain ⟨hr, ha, ⟨g, rs, h1, h2, h3, h4, h5⟩, sc, sm, ss, wt, pg⟩ := h.1
  refine zr_k h ⟨hr_f hr F G rfl rfl, hac_f ha F G rfl rfl, ⟨g, rs, rsc_fr h1 F rfl, h2, rom_k h3 (G 147 12 rfl).1 (G 147 20 rfl).1 (KR.fr G rfl), fun r hr => ?_, by rw [(F 48 1 rfl).1, (G 147 24 rfl).1]; exact h5⟩, svc_f F sc (WO_fr F rfl sc.2.2.2.2.2.1) rfl, svm_f G sm (FT_fr G rfl sm.2.1) (HW_fr G rfl sm.2.2.1) rfl, ssr_f ss F G rfl rfl, wtr_f wt F G rfl rfl, pgq_f pg F G rfl rfl⟩ B B' F G rfl rfl
  have q := h4 r hr
  rw [(F 49 r rfl).1, (G 160 r rfl).1]
  refine ⟨q.1, ?_⟩
  rcases hk with ⟨e, e', _⟩ | ⟨e, e', _⟩
  · rw [e, e', sI_at, sI_at, sI_oth _ _ _ _ _ _ (by decide), sI_oth _ _ _ _ _ _ (by decide)]
    by_cases z : r = i
    · rw [if_pos ⟨rfl, z⟩, if_pos ⟨rfl, z⟩]
      exact ⟨rfl, q.2.2⟩
    · rw [if_neg (fun y => z y.2), if_neg (fun y => z y.2)]
      exact q.2
  · rw [e, e', sI_oth _ _ _ _ _ _ (by decide), sI_oth _ _ _ _ _ _ (by decide), sI_at, sI_at]
    by_cases z : r = i
    · rw [if_pos ⟨rfl, z⟩, if_pos ⟨rfl, z⟩]
      exact ⟨q.2.1, rfl⟩
    · rw [if_neg (fun y => z y.2), if_neg (fun y => z y.2)]
      exact q.2
/-- reset -/
theorem d_reset {T : Int} {ns : List Nod} {nm : List Nm} {ks : List Nat} {v w : MW} {a : Int32} {Qc Qm : Int32 → MW → Prop} (h : ZRr T ns nm ks v w) (hc : p_Bh_reset v a Qc) (hm : p_Mo_reset w a Qm) : ∃ r v' w', Qc r v' ∧ Qm r w' ∧ ZRr T ns nm ks v' w' := by
  obtain ⟨g, rs, h1, h2, h3, h4, h5⟩ := h.1.2.2.1
  have sc := h.1.2.2.2.1
  have sm := h.1.2.2.2.2.1
  obtain ⟨r1, v1, q1, s1, _⟩ := jt_2 (pX := fun Q => p_Bh_reset v a Q) (fun Q q => ex_p_Bh_reset q) (fun Q1 Q3 q k => al_p_Bh_reset true q k) hc (cb_reset (Q := fun y v' => RsP 50 (sbt (v.1 48 1)) rs v a y v') sc.2.2.2.2.2.2.1 h1 h2 (fun y v' z => z))
  obtain ⟨r2, w1, q2, s2, _⟩ := jt_2 (pX := fun Q => p_Mo_reset w a Q) (fun Q q => ex_p_Mo_reset q) (fun Q1 Q3 q k => al_p_Mo_reset true q k) hm (mb_reset (Q := fun y w' => RsP 161 (sbt (w.1 147 24)) rs w a y w') h.2.1.2 sm.1 h3 (fun y w' z => z))
  have eq : RsT 50 (sbt (v.1 48 1)) rs v a.toInt ↔ RsT 161 (sbt (w.1 147 24)) rs w a.toInt := by
    unfold RsT
    rw [h5]
    refine ⟨fun ⟨r, x, e, hx, z1, z2⟩ => ⟨r, x, e, hx, ?_, z2⟩, fun ⟨r, x, e, hx, z1, z2⟩ => ⟨r, x, e, hx, ?_, z2⟩⟩
    · rw [← (h4 r (List.getElem?_eq_some_iff.mp hx).1).2.1]
      exact z1
    · rw [(h4 r (List.getElem?_eq_some_iff.mp hx).1).2.1]
      exact z1
  rcases s1 with ⟨n1, e1, f1⟩ | ⟨n1, e1, f1⟩
  · rcases s2 with ⟨n2, e2, f2⟩ | ⟨n2, e2, f2⟩
    · rw [e1, f1] at q1
      rw [e2, f2] at q2
      exact ⟨1, _, _, q1, q2, zr_row h (Or.inl ⟨rfl, rfl, by decide, by decide⟩)⟩
    · exact absurd (eq.mp n1) n2
  · rcases s2 with ⟨n2, e2, f2⟩ | ⟨n2, e2, f2⟩
    · exact absurd (eq.mpr n2) n1
    · rw [e1, f1] at q1
      rw [e2, f2] at q2
      exact ⟨0, v, w, q1, q2, h⟩
/-- pass -/
theorem d_pass {T : Int} {ns : List Nod} {nm : List Nm} {ks : List Nat} {v w : MW} {a b c d : Int32} {Qc Qm : Int32 → MW → Prop} (h : ZRr T ns nm ks v w) (hc : p_Bh_pass v a b c d Qc) (hm : p_Mo_pass w a b c d Qm) : ∃ r v' w', Qc r v' ∧ Qm r w' ∧ ZRr T ns nm ks v' w' := by
  obtain ⟨g, rs, h1, h2, h3, h4, h5⟩ := h.1.2.2.1
  have sc := h.1.2.2.2.1
  have l4 := h2.1
  obtain ⟨r1, v1, q1, s1, _⟩ := jt_2 (pX := fun Q => p_Bh_pass v a b c d Q) (fun Q q => ex_p_Bh_pass q) (fun Q1 Q3 q k => al_p_Bh_pass true q k) hc (cs_pass (Q := fun y v' => PsE 51 (v.1 48 0).toInt v a b c d y v') sc.2.2.2.2.2.2.1 (by rw [h1.1]; omega) (fun y v' z => z))
  obtain ⟨r2, w1, q2, s2, _⟩ := jt_2 (pX := fun Q => p_Mo_pass w a b c d Q) (fun Q q => ex_p_Mo_pass q) (fun Q1 Q3 q k => al_p_Mo_pass true q k) hm (ms_pass (Q := fun y w' => PsE 162 (w.1 147 20).toInt w a b c d y w') (by rw [h3.2.2.1]; omega) (fun y w' z => z))
  rw [h1.1] at s1
  rw [h3.2.2.1] at s2
  have er : r1 = r2 := by
    rw [s1.1, s2.1]
    by_cases z : 1 ≤ a.toInt ∧ a.toInt ≤ (rs.length : Int)
    · have s := ti_sub2 (Eq.refl a.toInt) i_1 (by omega) (by omega)
      rw [(h4 (a - (1 : Int32)).toInt.toNat (by omega)).2.2]
    · unfold psv
      rw [if_pos (by omega), if_pos (by omega)]
  rcases s1.2 with ⟨e1, n1, n2, f1⟩ | ⟨e1, f1⟩
  · rcases s2.2 with ⟨e2, _, _, f2⟩ | ⟨e2, f2⟩
    · rw [f1] at q1
      rw [f2, ← er] at q2
      exact ⟨r1, _, _, q1, q2, zr_row h (Or.inr ⟨rfl, rfl, by omega, by omega⟩)⟩
    · exact absurd (er.symm.trans e1) e2
  · rcases s2.2 with ⟨e2, _, _, f2⟩ | ⟨e2, f2⟩
    · exact absurd (er.trans e2) e1
    · rw [f1] at q1
      rw [f2, ← er] at q2
      exact ⟨r1, v, w, q1, q2, h⟩
/-- way, space, danger -/
theorem d_way {T : Int} {ns : List Nod} {nm : List Nm} {ks : List Nat} {v w : MW} {a b : Int32} {Qc Qm : Int32 → MW → Prop} (h : ZRr T ns nm ks v w) (hc : p_Bh_way v a b Qc) (hm : p_Mo_way w a b Qm) : ∃ r v' w', Qc r v' ∧ Qm r w' ∧ ZRr T ns nm ks v' w' := by
  obtain ⟨r2, w2, q2, e2⟩ := ex_p_Mo_way hm
  have t := wa_pair (Q' := fun r v' => (v' = v ∧ Qc r v') ∧ (r = r2 ∧ w2 = w)) h.2.1.2 h.1.1 hc (fun r P q => by
    have z := P (fun y x => y = r2 ∧ x = w2) (fun y x => (y = r2 ∧ x = w2) ∧ y = r ∧ x = w) e2 (fun y => ⟨y, rfl, rfl⟩)
    obtain ⟨y, x, ⟨⟨z1, z2⟩, z3, z4⟩, _⟩ := ex_p_Mo_way z
    exact ⟨⟨rfl, q⟩, z3.symm.trans z1, z2.symm.trans z4⟩)
  obtain ⟨r, v', ⟨⟨z1, z2⟩, z3, z4⟩, _⟩ := ex_p_Bh_way t
  rw [z1] at z2
  rw [z4, ← z3] at q2
  exact ⟨r, v, w, z2, q2, h⟩
theorem d_space {T : Int} {ns : List Nod} {nm : List Nm} {ks : List Nat} {v w : MW} {a b : Int32} {Qc Qm : Int32 → MW → Prop} (h : ZRr T ns nm ks v w) (hc : p_Bh_space v a b Qc) (hm : p_Mo_space w a b Qm) : ∃ r v' w', Qc r v' ∧ Qm r w' ∧ ZRr T ns nm ks v' w' := by
  obtain ⟨r1, v1, ⟨e1, s1, q1⟩, _⟩ := ex_p_Bh_space (cs_x (Q' := fun r v' => v' = v ∧ SpS v w a.toInt b r ∧ Qc r v') h.2.1.1 h.2.1.2 h.1.1 hc (fun r s q => ⟨rfl, s, q⟩))
  obtain ⟨r2, w1, ⟨e2, s2, q2⟩, _⟩ := ex_p_Mo_space (ms_x (v := v) (Q' := fun r w' => w' = w ∧ SpS v w a.toInt b r ∧ Qm r w') h.2.1.1 h.2.1.2 h.1.1 hm (fun r s q => ⟨rfl, s, q⟩))
  rw [e1] at q1
  rw [e2, ← sps_u s1 s2] at q2
  exact ⟨r1, v, w, q1, q2, h⟩
