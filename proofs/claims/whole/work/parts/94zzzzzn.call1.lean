/-! calls on both sides: those that change little -/
def lzC : Pl := [(3, some 0), (4, none), (5, none), (6, none), (7, some 1), (61, some 4), (61, some 5), (61, some 17), (62, some 10), (74, none), (77, none), (78, none), (79, none), (80, none), (81, none), (82, none), (83, none), (84, none), (85, none)]
def lzM : Pl := [(127, some 59), (127, some 60), (127, some 74), (127, some 76), (127, some 78), (127, some 79), (206, none), (207, none), (208, none), (209, none), (210, none), (211, none), (212, none), (213, none), (214, none), (215, none), (216, none), (217, none), (218, none), (219, none), (220, none)]
theorem zr_k {l l' : Pl} {T : Int} {ns : List Nod} {nm : List Nm} {ks : List Nat} {v w v' w' : MW} (h : ZRr T ns nm ks v w) (gw : GwR ns nm ks v' w') (B : BND v') (B' : BND w') (F : FR l v v') (G : FR l' w w') (ho : off l lzC = true) (ho' : off l' lzM = true) : ZRr T ns nm ks v' w' := by
  obtain ⟨g0, _, vl, al, st, bad, nw, wk, rn⟩ := h
  refine ⟨gw, ⟨B, B'⟩, vlr_f vl F G (off_mono ho (by decide)) (off_mono ho' (by decide)), alr_f al F G (off_mono ho (by decide)) (off_mono ho' (by decide)), ?_, ?_, ?_, ?_, fun z => ?_⟩
  · rw [(F 61 4 (off_hit ho rfl)).1, (G 127 59 (off_hit ho' rfl)).1]
    exact st
  · rw [(G 127 76 (off_hit ho' rfl)).1]
    exact bad
  · rw [(F 7 1 (off_hit ho rfl)).1]
    exact nw
  · rw [(F 7 1 (off_hit ho rfl)).1, (F 61 17 (off_hit ho rfl)).2.1]
    exact wk
  · rw [(F 61 4 (off_hit ho rfl)).1] at z
    exact run_f g0.2.2.2.2.2.2.2 rn F G (off_mono ho (by decide)) (off_mono ho' (by decide)) z
/-- state -/
theorem d_state {T : Int} {ns : List Nod} {nm : List Nm} {ks : List Nat} {v w : MW} {Qc Qm : Int32 → MW → Prop} (h : ZRr T ns nm ks v w) (hc : p_Bh_state v Qc) (hm : p_Mo_state w Qm) : ∃ r v' w', Qc r v' ∧ Qm r w' ∧ ZRr T ns nm ks v' w' := by
  rw [p_Bh_state.eq_1] at hc
  rw [p_Mo_state.eq_1, ← h.2.2.2.2.1] at hm
  exact ⟨_, v, w, hc, hm, h⟩
/-- alarm -/
theorem d_alarm {T : Int} {ns : List Nod} {nm : List Nm} {ks : List Nat} {v w : MW} {a b : Int32} {Qc Qm : Int32 → MW → Prop} (h : ZRr T ns nm ks v w) (hc : p_Bh_alarm v a b Qc) (hm : p_Mo_alarm w a b Qm) : ∃ r v' w', Qc r v' ∧ Qm r w' ∧ ZRr T ns nm ks v' w' := by
  have al := h.2.2.2.1
  rw [p_Bh_alarm.eq_1, p_Al_get.eq_1, al.2.1] at hc
  rw [p_Mo_alarm.eq_1] at hm
  have b79 := al.2.2.2.1
  rw [al.2.1] at b79
  by_cases a0 : a.toInt < 0
  · exact ⟨-1, v, w, hc.1 a0, hm.1 a0, h⟩
  · have c1 := hc.2 a0
    have m1 := hm.2 a0
    by_cases a1 : (w.1 127 79).toInt ≤ a.toInt
    · exact ⟨-1, v, w, c1.1 a1, m1.2 (by omega), h⟩
    · have c2 := c1.2 a1
      have m2 := m1.1 (by omega)
      have q := al.2.2.2.2 a.toInt.toNat (by omega)
      by_cases b0 : b.toInt < 0
      · exact ⟨-1, v, w, c2.1 b0, ((m2.1 (by omega)).1 (by omega)).1 (by omega), h⟩
      · have c3 := c2.2 b0
        by_cases b2 : b.toInt ≤ 2
        · have c4 := c3.1 b2
          by_cases z0 : b.toInt = 0
          · have x1 := (c4.2 (fun y => y z0)).2
            have x2 := (m2.2 (fun y => y z0)).2
            rw [← q.1] at x2
            exact ⟨_, v, w, x1, x2, h⟩
          · have c5 := c4.1 z0
            have m5 := m2.1 z0
            by_cases z1 : b.toInt = 1
            · have x1 := (c5.2 (fun y => y z1)).2
              have x2 := (m5.2 (fun y => y z1)).2
              rw [← q.2.1] at x2
              exact ⟨_, v, w, x1, x2, h⟩
            · have x1 := (c5.1 z1).2
              have x2 := ((m5.1 z1).2 (fun y => y (by omega))).2
              rw [← q.2.2] at x2
              exact ⟨_, v, w, x1, x2, h⟩
        · exact ⟨-1, v, w, c3.2 b2, ((m2.1 (by omega)).1 (by omega)).1 (by omega), h⟩
/-- names and roles of both sides -/
theorem rl_y {nm : List Nm} {w : MW} {a b : Int32} {Q : Int32 → MW → Prop} (b12 : 0 ≤ (w.1 129 12).toInt ∧ (w.1 129 12).toInt ≤ 1) (hR : RlM w nm) (h : p_Mo_isRole w a b Q) : ((∃ x, nm[a.toInt.toNat]? = some x ∧ 0 ≤ a.toInt ∧ mrl x.2.1 = b.toInt) → Q 1 w) ∧ (¬ (∃ x, nm[a.toInt.toNat]? = some x ∧ 0 ≤ a.toInt ∧ mrl x.2.1 = b.toInt) → Q 0 w) := by
  rw [p_Mo_isRole.eq_1] at h
  refine ⟨fun ⟨x, hx, a0, e⟩ => ?_, fun n => ?_⟩
  · have al := (List.getElem?_eq_some_iff.mp hx).1
    have l4 := hR.2.1
    have h1 := (h.2 (by omega)).2 (by rw [hR.1]; omega)
    have m := ti_mul2 (by decide : ((40 : Int32)).toInt = 40) (Eq.refl (w.1 129 12).toInt) (by omega) (by omega)
    have s := ti_add2 m (Eq.refl a.toInt) (by omega) (by omega)
    have ei : (((40 : Int32) * (w.1 129 12)) + a).toInt.toNat = (40 * (w.1 129 12).toInt + ((a.toInt.toNat : Nat) : Int)).toNat := by
      rw [s]
      congr 1
      omega
    have t := (hR.2.2 _ x hx).1
    rw [← ei] at t
    exact h1.2.2 (fun y => y (t.trans e))
  · by_cases a0 : a.toInt < 0
    · exact h.1 a0
    · have h1 := h.2 a0
      by_cases a1 : (w.1 129 32).toInt ≤ a.toInt
      · exact h1.1 a1
      · have h2 := (h1.2 a1).2
        rw [hR.1] at a1
        have l4 := hR.2.1
        obtain ⟨x, hx⟩ : ∃ x, nm[a.toInt.toNat]? = some x := ⟨nm[a.toInt.toNat]'(by omega), List.getElem?_eq_getElem (by omega)⟩
        have m := ti_mul2 (by decide : ((40 : Int32)).toInt = 40) (Eq.refl (w.1 129 12).toInt) (by omega) (by omega)
        have s := ti_add2 m (Eq.refl a.toInt) (by omega) (by omega)
        have ei : (((40 : Int32) * (w.1 129 12)) + a).toInt.toNat = (40 * (w.1 129 12).toInt + ((a.toInt.toNat : Nat) : Int)).toNat := by
          rw [s]
          congr 1
          omega
        have t := (hR.2.2 _ x hx).1
        rw [← ei] at t
        exact h2.1 (fun y => n ⟨x, hx, by omega, t.symm.trans y⟩)
theorem rl_x {nm : List Nm} {w : MW} {a b : Int32} {Q : Int32 → MW → Prop} (hB : BND w) (hR : RlM w nm) (h : p_Mo_isRole w a b Q) : ((∃ x, nm[a.toInt.toNat]? = some x ∧ 0 ≤ a.toInt ∧ mrl x.2.1 = b.toInt) → Q 1 w) ∧ (¬ (∃ x, nm[a.toInt.toNat]? = some x ∧ 0 ≤ a.toInt ∧ mrl x.2.1 = b.toInt) → Q 0 w) := rl_y (bd_129_12 hB) hR h
/-- value -/
theorem d_value {T : Int} {ns : List Nod} {nm : List Nm} {ks : List Nat} {v w : MW} {a : Int32} {Qc Qm : Int64 → MW → Prop} (h : ZRr T ns nm ks v w) (hc : p_Bh_value v a Qc) (hm : p_Mo_value w a Qm) : ∃ r v' w', Qc r v' ∧ Qm r w' ∧ ZRr T ns nm ks v' w' := by
  have pg := h.1.2.2.2.2.2.2.2
  have hR := pg.2.2.2.2.2.2.2.2.1
  have hN := pg.2.2.2.2.2.2.2.1
  have hn := pg.2.2.2.2.1
  have vl := h.2.2.1
  rw [p_Bh_value.eq_1, p_Pr_hasValue.eq_1] at hc
  rw [p_Mo_value.eq_1] at hm
  have c0 := hc.2
  have M := rl_x h.2.1.2 hR hm
  have none : (∀ x, nm[a.toInt.toNat]? = some x → 0 ≤ a.toInt → x.2.1 = 10) → Qm 0 w := fun n => by
    have m1 := (M.2 (fun ⟨x, hx, a0, e⟩ => by
      rw [n x hx a0] at e
      exact absurd e (by decide))).2 (fun y => y (by decide))
    exact ((rl_x h.2.1.2 hR m1).2 (fun ⟨x, hx, a0, e⟩ => by
      rw [n x hx a0] at e
      exact absurd e (by decide))).1 (by decide)
  by_cases a0 : a.toInt < 0
  · exact ⟨0, v, w, (c0.1 a0).1 (by decide), none (fun x hx z => by omega), h⟩
  · have c1 := c0.2 a0
    by_cases a1 : (v.1 62 10).toInt ≤ a.toInt
    · exact ⟨0, v, w, (c1.1 a1).1 (by decide), none (fun x hx z => by
        have := (List.getElem?_eq_some_iff.mp hx).1
        omega), h⟩
    · have c2 := (c1.2 a1).2
      obtain ⟨x, hx⟩ : ∃ x, nm[a.toInt.toNat]? = some x := ⟨nm[a.toInt.toNat]'(by omega), List.getElem?_eq_getElem (by omega)⟩
      have e71 := hN _ x hx
      by_cases k10 : x.2.1 = 10
      · exact ⟨0, v, w, (c2.1 (e71.trans k10)).1 (by decide), none (fun y hy _ => by
          rw [hx] at hy
          rw [← Option.some.inj hy]
          exact k10), h⟩
      · have c3 := ((c2.2 (by rw [e71]; exact k10)).2 (by decide)).2.2
        have ev : v.2.1 74 a.toInt.toNat = w.2.1 206 a.toInt.toNat := vl _ (by omega)
        refine ⟨_, v, w, c3, ?_, h⟩
        rw [ev]
        rcases (hR.2.2 _ x hx).2 with z | z | z
        · exact ((M.1 ⟨x, hx, by omega, by rw [z]; decide⟩).1 (by decide)).2
        · have m1 := (M.2 (fun ⟨y, hy, _, e⟩ => by
            rw [hx] at hy
            rw [← Option.some.inj hy, z] at e
            exact absurd e (by decide))).2 (fun y => y (by decide))
          exact ((rl_x h.2.1.2 hR m1).1 ⟨x, hx, by omega, by rw [z]; decide⟩).2 (by decide) |>.2
        · exact absurd z k10
/-- a signal on both sides -/
theorem sgn_x {T : Int} {ns : List Nod} {nm : List Nm} {ks : List Nat} {v w : MW} {a : Int32} (h : ZRr T ns nm ks v w) {Q Q' : Int32 → MW → Prop} (hc : p_Pr_isSignal v a Q) (hm : p_Mo_isRole w a 30 Q') : ((0 ≤ a.toInt ∧ a.toInt < (v.1 62 10).toInt ∧ (v.1 71 a.toInt.toNat).toInt = 8) ∧ Q 1 v ∧ Q' 1 w) ∨ (Q 0 v ∧ Q' 0 w) := by
  have pg := h.1.2.2.2.2.2.2.2
  have hR := pg.2.2.2.2.2.2.2.2.1
  have hN := pg.2.2.2.2.2.2.2.1
  have hn := pg.2.2.2.2.1
  have M := rl_x h.2.1.2 hR hm
  rw [p_Pr_isSignal.eq_1] at hc
  by_cases a0 : a.toInt < 0
  · exact Or.inr ⟨hc.1 a0, M.2 (fun ⟨x, hx, z, e⟩ => by omega)⟩
  · have c1 := hc.2 a0
    by_cases a1 : (v.1 62 10).toInt ≤ a.toInt
    · exact Or.inr ⟨c1.1 a1, M.2 (fun ⟨x, hx, z, e⟩ => by
        have := (List.getElem?_eq_some_iff.mp hx).1
        omega)⟩
    · have c2 := (c1.2 a1).2
      obtain ⟨x, hx⟩ : ∃ x, nm[a.toInt.toNat]? = some x := ⟨nm[a.toInt.toNat]'(by omega), List.getElem?_eq_getElem (by omega)⟩
      have e71 := hN _ x hx
      by_cases k8 : x.2.1 = 8
      · exact Or.inl ⟨⟨by omega, by omega, e71.trans k8⟩, c2.2 (fun y => y (e71.trans k8)), M.1 ⟨x, hx, by omega, by rw [k8]; decide⟩⟩
      · refine Or.inr ⟨c2.1 (by rw [e71]; exact k8), M.2 (fun ⟨y, hy, _, e⟩ => ?_)⟩
        rw [hx] at hy
        rw [← Option.some.inj hy] at e
        rcases (hR.2.2 _ x hx).2 with z | z | z
        · exact k8 z
        · rw [z] at e
          exact absurd e (by decide)
        · rw [z] at e
          exact absurd e (by decide)
/-- sense -/
theorem d_sense {T : Int} {ns : List Nod} {nm : List Nm} {ks : List Nat} {v w : MW} {a b c : Int32} {Qc Qm : Int32 → MW → Prop} (h : ZRr T ns nm ks v w) (hc : p_Bh_sense v a b c Qc) (hm : p_Mo_sense w a b c Qm) : ∃ r v' w', Qc r v' ∧ Qm r w' ∧ ZRr T ns nm ks v' w' := by
  rw [p_Bh_sense.eq_1] at hc
  rw [p_Mo_sense.eq_1] at hm
  rcases sgn_x h hc.2 hm with ⟨⟨a0, a1, k8⟩, c1, m1⟩ | ⟨c1, m1⟩
  · have c2 := c1.2 (by decide)
    have m2 := m1.2 (by decide)
    by_cases b0 : b.toInt < 0
    · exact ⟨0, v, w, c2.1 b0, m2.1 b0, h⟩
    · have c3 := c2.2 b0
      have m3 := m2.2 b0
      by_cases b5 : b.toInt ≤ 5
      · have c4 := (c3.1 b5).2.2.2.2
        have m4 := (m3.1 b5).2.2
        have F : FR [(75, none), (76, none)] v (sI (sI v 75 a.toInt.toNat b) 76 a.toInt.toNat c) := FR.I (FR.I (FR.refl _ v) rfl) rfl
        have G : FR [(201, none), (202, none)] w (sI (sI w 201 a.toInt.toNat b) 202 a.toInt.toNat c) := FR.I (FR.I (FR.refl _ w) rfl) rfl
        obtain ⟨hr, ha, rq, sc, sm, ss, wt, pg⟩ := h.1
        have ss' : SsR (sI (sI v 75 a.toInt.toNat b) 76 a.toInt.toNat c) (sI (sI w 201 a.toInt.toNat b) 202 a.toInt.toNat c) := by
          refine ⟨by rw [(F 62 10 rfl).1, (G 129 32 rfl).1]; exact ss.1, by rw [(F 62 10 rfl).1]; exact ss.2.1, fun n hn => ?_⟩
          rw [(F 62 10 rfl).1] at hn
          have t := ss.2.2 n hn
          unfold SnsC SnsM at *
          have r75 : (sI (sI v 75 a.toInt.toNat b) 76 a.toInt.toNat c).1 75 n = if n = a.toInt.toNat then b else v.1 75 n := by
            rw [sI_oth _ _ _ _ _ _ (by decide), sI_at]
            by_cases z : n = a.toInt.toNat
            · rw [if_pos ⟨rfl, z⟩, if_pos z]
            · rw [if_neg (fun y => z y.2), if_neg z]
          have r76 : (sI (sI v 75 a.toInt.toNat b) 76 a.toInt.toNat c).1 76 n = if n = a.toInt.toNat then c else v.1 76 n := by
            rw [sI_at]
            by_cases z : n = a.toInt.toNat
            · rw [if_pos ⟨rfl, z⟩, if_pos z]
            · rw [if_neg (fun y => z y.2), if_neg z, sI_oth _ _ _ _ _ _ (by decide)]
          have r201 : (sI (sI w 201 a.toInt.toNat b) 202 a.toInt.toNat c).1 201 n = if n = a.toInt.toNat then b else w.1 201 n := by
            rw [sI_oth _ _ _ _ _ _ (by decide), sI_at]
            by_cases z : n = a.toInt.toNat
            · rw [if_pos ⟨rfl, z⟩, if_pos z]
            · rw [if_neg (fun y => z y.2), if_neg z]
          have r202 : (sI (sI w 201 a.toInt.toNat b) 202 a.toInt.toNat c).1 202 n = if n = a.toInt.toNat then c else w.1 202 n := by
            rw [sI_at]
            by_cases z : n = a.toInt.toNat
            · rw [if_pos ⟨rfl, z⟩, if_pos z]
            · rw [if_neg (fun y => z y.2), if_neg z, sI_oth _ _ _ _ _ _ (by decide)]
          rw [(F 71 n rfl).1, r75, r76, r201, r202]
          by_cases z : n = a.toInt.toNat
          · rw [if_pos z, if_pos z, if_pos z, if_pos z, z]
            exact ⟨⟨fun y => ⟨by omega, y.2⟩, fun y => ⟨k8, y.2⟩⟩, fun _ => ⟨rfl, rfl⟩⟩
          · rw [if_neg z, if_neg z, if_neg z, if_neg z]
            exact t
        refine ⟨1, _, _, c4, m4, zr_k h ⟨hr_f hr F G rfl rfl, hac_f ha F G rfl rfl, rwq_f rq F G rfl rfl, svc_f F sc (WO_fr F rfl sc.2.2.2.2.2.1) rfl, svm_f G sm (FT_fr G rfl sm.2.1) (HW_fr G rfl sm.2.2.1) rfl, ss', wtr_f wt F G rfl rfl, pgq_f pg F G rfl rfl⟩ (wbd_76 (wbd_75 h.2.1.1 _ (by omega) (by omega)) _) (wbd_202 (wbd_201 h.2.1.2 _ (by omega) (by omega)) _) F G rfl rfl⟩
      · exact ⟨0, v, w, c3.2 b5, m3.2 b5, h⟩
  · exact ⟨0, v, w, c1.1 (by decide), m1.1 (by decide), h⟩
/-- signal -/
theorem d_signal {T : Int} {ns : List Nod} {nm : List Nm} {ks : List Nat} {v w : MW} {a : Int32} {b : Int64} {Qc Qm : Int32 → MW → Prop} (h : ZRr T ns nm ks v w) (hc : p_Bh_signal v a b Qc) (hm : p_Mo_signal w a b Qm) : ∃ r v' w', Qc r v' ∧ Qm r w' ∧ ZRr T ns nm ks v' w' := by
  rw [p_Bh_signal.eq_1] at hc
  rw [p_Mo_signal.eq_1] at hm
  rcases sgn_x h hc.2 hm with ⟨⟨a0, a1, k8⟩, c1, m1⟩ | ⟨c1, m1⟩
  · have c4 := (c1.1 (by decide)).2.2
    have m4 := (m1.1 (by decide)).2
    have F : FR [(74, none)] v (sJ v 74 a.toInt.toNat b) := FR.J (FR.refl _ v) rfl
    have G : FR [(206, none)] w (sJ w 206 a.toInt.toNat b) := FR.J (FR.refl _ w) rfl
    obtain ⟨gw, BB, vl, al, st, bad, nw, wk, rn⟩ := h
    refine ⟨1, _, _, c4, m4, gw_j ns nm ks v w _ _ gw (bnd_e BB.1 rfl) (bnd_e BB.2 rfl) ((FR.refl lrC2 v).tr F rfl) ((FR.refl lrM2 w).tr G rfl), ⟨bnd_e BB.1 rfl, bnd_e BB.2 rfl⟩, vlr_s vl, alr_f al F G rfl rfl, st, bad, nw, wk, fun z => run_f gw.2.2.2.2.2.2.2 rn F G rfl rfl z⟩
  · exact ⟨0, v, w, c1.2 (fun y => y (by decide)), m1.2 (fun y => y (by decide)), h⟩
/-- act -/
theorem d_act {T : Int} {ns : List Nod} {nm : List Nm} {ks : List Nat} {v w : MW} {a : Int32} {Qc Qm : Int32 → MW → Prop} (h : ZRr T ns nm ks v w) (hc : p_Bh_act v a Qc) (hm : p_Mo_act w a Qm) : ∃ r v' w', Qc r v' ∧ Qm r w' ∧ ZRr T ns nm ks v' w' := by
  rw [p_Bh_act.eq_1, p_Ac_isAct.eq_1] at hc
  rw [p_Mo_act.eq_1] at hm
  by_cases a0 : a.toInt < 0
  · exact ⟨-1, v, w, (hc.1 a0).2 (fun y => y (by decide)), hm.1 a0, h⟩
  · by_cases a1 : 32 ≤ a.toInt
    · exact ⟨-1, v, w, ((hc.2 a0).1 a1).2 (fun y => y (by decide)), (hm.2 a0).2 (by omega), h⟩
    · have c1 := ((hc.2 a0).2 a1).1 (by decide)
      have m1 := (hm.2 a0).1 (by omega)
      obtain ⟨r, v1, w1, q1, q2, gw1, B1, B1', F, G⟩ := gw_p ns nm ks v w a _ _ h.1 h.2.1.1 h.2.1.2 c1 m1
      have Z1 := zr_k h gw1 B1 B1' F G rfl rfl
      by_cases r0 : r.toInt ≤ 0
      · exact ⟨r, v1, w1, q1.1 r0, q2.1 r0, Z1⟩
      · have x1 := al_c (q1.2 r0)
        have x2 := al_m (q2.2 r0)
        obtain ⟨gw, BB, vl, al, st, bad, nw, wk, rn⟩ := Z1
        have FA : FR lalC v1 (alC v1 (v1.1 7 1) (-1) ((10 : Int32) + r)) := alc_l _ _ _ _
        have GA : FR lalM w1 (alM w1 (-1) ((10 : Int32) + r)) := alm_l _ _ _
        have FB : FR [(3, some 0), (4, none), (5, none), (6, none)] v1 (alC v1 (v1.1 7 1) (-1) ((10 : Int32) + r)) := by
          unfold alC
          by_cases q : 200 ≤ (v1.1 3 0).toInt
          · rw [if_pos q]
            exact FR.refl _ _
          · rw [if_neg q]
            exact FR.I (FR.I (FR.I (FR.I (FR.refl _ v1) rfl) rfl) rfl) rfl
        have GB : FR [(127, some 79), (218, none), (219, none), (220, none)] w1 (alM w1 (-1) ((10 : Int32) + r)) := by
          unfold alM
          by_cases q : 200 ≤ (w1.1 127 79).toInt
          · rw [if_pos q]
            exact FR.refl _ _
          · rw [if_neg q]
            exact FR.I (FR.I (FR.I (FR.I (FR.refl _ w1) rfl) rfl) rfl) rfl
        refine ⟨r, _, _, x1, x2, gw_j ns nm ks v1 w1 _ _ gw (alc_b BB.1 _ _ _) (alm_b BB.2 _ _) ((FR.refl lrC2 v1).tr FB rfl) ((FR.refl lrM2 w1).tr GB rfl), ⟨alc_b BB.1 _ _ _, alm_b BB.2 _ _⟩, vlr_f vl FB GB rfl rfl, alr_a al, ?_, ?_, ?_, ?_, fun z => ?_⟩
        · rw [(FB 61 4 rfl).1, (GB 127 59 rfl).1]
          exact st
        · rw [(GB 127 76 rfl).1]
          exact bad
        · rw [(FB 7 1 rfl).1]
          exact nw
        · rw [(FB 7 1 rfl).1, (FB 61 17 rfl).2.1]
          exact wk
        · rw [(FB 61 4 rfl).1] at z
          exact run_f gw.2.2.2.2.2.2.2 rn FB GB rfl rfl z
/-- the run's state changes, and what it rests on stays -/
theorem zr_st {T : Int} {ns : List Nod} {nm : List Nm} {ks : List Nat} {v w : MW} {x : Int32} (h : ZRr T ns nm ks v w) (x0 : 0 ≤ x.toInt) (x4 : x.toInt ≤ 4) (hr : (x.toInt = 0 ∨ x.toInt = 2) → ((v.1 61 4).toInt = 0 ∨ (v.1 61 4).toInt = 2)) : ZRr T ns nm ks (sI v 61 4 x) (sI w 127 59 x) := by
  have F : FR [(61, some 4)] v (sI v 61 4 x) := FR.I (FR.refl _ v) rfl
  have G : FR [(127, some 59)] w (sI w 127 59 x) := FR.I (FR.refl _ w) rfl
  obtain ⟨gw, BB, vl, al, st, bad, nw, wk, rn⟩ := h
  refine ⟨gw_j ns nm ks v w _ _ gw (wbd_61_4 BB.1 x0 x4) (wbd_127_59 BB.2 x0 x4) ((FR.refl lrC2 v).tr F rfl) ((FR.refl lrM2 w).tr G rfl), ⟨wbd_61_4 BB.1 x0 x4, wbd_127_59 BB.2 x0 x4⟩, vlr_f vl F G rfl rfl, alr_f al F G rfl rfl, by rw [sI_same, sI_same], by rw [(G 127 76 rfl).1]; exact bad, by rw [(F 7 1 rfl).1]; exact nw, by rw [(F 7 1 rfl).1, (F 61 17 rfl).2.1]; exact wk, fun z => ?_⟩
  rw [sI_same] at z
  exact run_f gw.2.2.2.2.2.2.2 rn F G rfl rfl (hr z)
/-- all ways are closed between calls -/
theorem zr_cl {T : Int} {ns : List Nod} {nm : List Nm} {ks : List Nat} {v w : MW} {Qc Qm : MW → Prop} (h : ZRr T ns nm ks v w) (hc : p_Wa_closeAll v Qc) (hm : p_Mo_closeAll w Qm) : ∃ v' w', Qc v' ∧ Qm w' ∧ ZRr T ns nm ks v' w' ∧ FR l_Wa_closeAll v v' ∧ FR l_Mo_closeAll w w' := by
  obtain ⟨v1, w1, q1, q2, gw1, ⟨B1, B1'⟩, F, G⟩ := cl_d h.1 h.2.1.1 h.2.1.2 hc hm
  exact ⟨v1, w1, q1, q2, zr_k h gw1 B1 B1' F G rfl rfl, F, G⟩
/-- hold -/
theorem d_hold {T : Int} {ns : List Nod} {nm : List Nm} {ks : List Nat} {v w : MW} {a : Int32} {Qc Qm : Int32 → MW → Prop} (h : ZRr T ns nm ks v w) (hc : p_Bh_hold v a Qc) (hm : p_Mo_hold w a Qm) : ∃ r v' w', Qc r v' ∧ Qm r w' ∧ ZRr T ns nm ks v' w' := by
  have st := h.2.2.2.2.1
  rw [p_Bh_hold.eq_1] at hc
  rw [p_Mo_hold.eq_1, ← st] at hm
  have e2 : (2 : Int32).toInt = 2 := by decide
  by_cases a0 : a.toInt = 0
  · have c1 := hc.1 a0
    have m1 := hm.1 a0
    rw [q_Bh_hold_16.eq_1, e2] at c1
    by_cases s : (v.1 61 4).toInt = 2
    · have m2 := m1.1 s
      rw [q_Mo_hold_24.eq_1] at m2
      exact ⟨1, _, _, (c1.1 s).1 a0, m2.1 a0, zr_st h (by decide) (by decide) (fun _ => Or.inr s)⟩
    · exact ⟨0, v, w, c1.2 s, m1.2 s, h⟩
  · have c1 := hc.2 a0
    have m1 := hm.2 a0
    rw [q_Bh_hold_16.eq_1, i_0] at c1
    by_cases s : (v.1 61 4).toInt = 0
    · have m2 := m1.1 s
      rw [q_Mo_hold_24.eq_1] at m2
      have Z := zr_st (x := 2) h (by decide) (by decide) (fun _ => Or.inl s)
      obtain ⟨v1, w1, q1, q2, Z1, _, _⟩ := zr_cl Z ((c1.1 s).2 a0) (m2.2 a0)
      exact ⟨1, v1, w1, q1, q2, Z1⟩
    · exact ⟨0, v, w, c1.2 s, m1.2 s, h⟩
/-- stop -/
theorem d_stop {T : Int} {ns : List Nod} {nm : List Nm} {ks : List Nat} {v w : MW} {Qc Qm : Int32 → MW → Prop} (h : ZRr T ns nm ks v w) (hc : p_Bh_stop v Qc) (hm : p_Mo_stop w Qm) : ∃ r v' w', Qc r v' ∧ Qm r w' ∧ ZRr T ns nm ks v' w' := by
  have st := h.2.2.2.2.1
  rw [p_Bh_stop.eq_1, p_Ru_isAlive.eq_1] at hc
  rw [p_Mo_stop.eq_1, ← st] at hm
  have Z := zr_st (x := 3) h (by decide) (by decide) (fun z => absurd z (by decide))
  by_cases s : (v.1 61 4).toInt = 0
  · obtain ⟨v1, w1, q1, q2, Z1, _, _⟩ := zr_cl Z ((hc.1 s).1 (by decide)) (hm.1 s)
    exact ⟨1, v1, w1, q1, q2, Z1⟩
  · have c1 := hc.2 s
    have m1 := hm.2 s
    by_cases s2 : (v.1 61 4).toInt = 2
    · obtain ⟨v1, w1, q1, q2, Z1, _, _⟩ := zr_cl Z ((c1.2 (fun y => y s2)).1 (by decide)) (m1.1 s2)
      exact ⟨1, v1, w1, q1, q2, Z1⟩
    · exact ⟨0, v, w, (c1.1 s2).2 (fun y => y (by decide)), m1.2 s2, h⟩
