/-! start on both sides: all of it -/
theorem kpl_f {w w' : MW} (k : KpL w w') : FR [(127, some 60), (207, none), (208, none), (209, none), (210, none)] w w' := fun c j hc => by
  have n1 : ¬ (c = 207 ∨ c = 208 ∨ c = 209 ∨ c = 210) := fun q => by
    rcases q with q | q | q | q <;> (rw [q] at hc; exact absurd hc (by simp [hit]))
  have n2 : ¬ (c = 127 ∧ j = 60) := fun q => by
    rw [q.1, q.2] at hc
    exact absurd hc (by decide)
  exact ⟨k.2.2 c j n1 n2, by rw [k.1], by rw [k.2.1]⟩
def lsC : Pl := [(3, some 0), (61, some 4), (74, none), (80, none), (81, none)]
def lsM : Pl := [(127, some 59), (127, some 60), (127, some 74), (127, some 79), (206, none), (207, none), (208, none), (209, none), (210, none), (213, none)]
theorem g_start {T : Int} {ns : List Nod} {nm : List Nm} {ks : List Nat} {v w v1 w1 : MW} {r1 r2 : Int32} (hv : CI v) (hw : MdJ w) (h : ZRr T ns nm ks v w) (c1 : CI v1) (F : FR l_Bh_start v v1) (n1 : MdJ w1) (G : FR lst w w1) (e1 : p_Bh_start v (fun y x => y = r1 ∧ x = v1)) (e2 : p_Mo_start w (fun y x => y = r2 ∧ x = w1)) : r1 = r2 ∧ ∃ ns' nm' ks', ZRr T ns' nm' ks' v1 w1 := by
  have st := h.2.2.2.2.1
  have pg := h.1.2.2.2.2.2.2.2
  obtain ⟨ts, tp⟩ := pg.2.2.2.2.2.2.2.2.2.1
  have op := pg.2.2.2.2.2.2.2.2.2.2.2.1
  rw [p_Bh_start.eq_1] at e1
  rw [p_Mo_start.eq_1] at e2
  have x4 := x4_st hw.1.1 tp FU 0 0 e2 (Nat.zero_le _) (Or.inl ⟨rfl, Nat.zero_le _⟩)
  by_cases k0 : ks = []
  · have a := e1.2.2 (by
      have := op.mpr k0
      omega)
    rcases x4 with ⟨k, _⟩ | ⟨_, b⟩
    · exact absurd k0 k
    · have b2 := b.2 (fun q => q (by decide))
      rw [← a.1, ← b2.1, ← a.2, ← b2.2]
      exact ⟨rfl, ns, nm, ks, h⟩
  · have o0 : 0 ≤ (v.1 62 2).toInt := by
      have t : ¬ (v.1 62 2).toInt < 0 := fun z => k0 (op.mp z)
      omega
    have a := e1.2.1 o0
    rcases x4 with ⟨_, b⟩ | ⟨k, _⟩
    case inr => exact absurd k k0
    have b2 := b.1 (by decide)
    rw [← st] at b2
    rw [p_Ru_isAlive.eq_1] at a
    -- the ways are closed if a run was on
    have mid : ∃ v3 w3, HRq (mx v3 w3) ∧ FR l_Wa_closeAll v v3 ∧ FR l_Mo_closeAll w w3 ∧ p_Pr_clearValues (sI v3 3 0 0) (fun w6 => p_Ru_begin w6 (fun w7 => 1 = r1 ∧ w7 = v1)) ∧ q_Mo_start_97 w3 (fun y x => y = r2 ∧ x = w1) := by
      by_cases al : (v.1 61 4).toInt = 0 ∨ (v.1 61 4).toInt = 2
      · have ca : p_Wa_closeAll v (fun w8 => ((w8.2.2 61 3 = some 62) ∧ (p_Pr_clearValues (sI w8 3 0 0) (fun w10 => (p_Ru_begin w10 (fun w11 => (1 = r1 ∧ w11 = v1))))))) := by
          rcases al with z | z
          · exact (a.1 z).2 (by decide)
          · exact ((a.2 (by omega)).2 (fun q => q z)).2 (by decide)
        have cm : p_Mo_closeAll w (fun w10 => q_Mo_start_97 w10 (fun y x => y = r2 ∧ x = w1)) := by
          rcases al with z | z
          · exact b2.1 z
          · exact (b2.2 (by omega)).2 (fun q => q z)
        obtain ⟨v3, w3, q1, q2, gw, _, F3, G3⟩ := cl_d h.1 h.2.1.1 h.2.1.2 ca cm
        exact ⟨v3, w3, gw.1, F3, G3, q1.2, q2⟩
      · have ca := ((a.2 (by omega)).1 (by omega)).1 (by decide)
        have cm := (b2.2 (by omega)).1 (by omega)
        exact ⟨v, w, h.1.1, FR.refl _ v, FR.refl _ w, ca.2, cm⟩
    obtain ⟨v3, w3, hr3, F3, G3, ca, cm⟩ := mid
    clear a b b2 e1 e2
    -- the class: values, the first statement
    have s10 : (sI v3 3 0 0).1 62 10 = v.1 62 10 := by rw [sI_oth _ _ _ _ _ _ (by decide)]; exact (F3 62 10 rfl).1
    have n10 := pg.2.2.2.2.1
    rw [p_Pr_clearValues.eq_1] at ca
    obtain ⟨v4, ca4, F4, _, val4⟩ := cv_x FU 0 (sI v3 3 0 0) ca (by rw [s10]; omega) (by rw [s10]; omega)
    rw [p_Ru_begin.eq_1] at ca4
    obtain ⟨er1, ev1⟩ := en_x ca4
    -- the reference: layout, values
    rw [q_Mo_start_97.eq_1] at cm
    have stm3 := stm_f pg.2.2.1 G3 rfl
    have stn3 := stn_f pg.2.2.2.2.2.2.2.2.2.2.1 G3 rfl
    have tp3 := tpw_fr tp G3 rfl
    have b31 := bd_129_31 hw.1.1
    have tl := tp.1
    obtain ⟨w4, cm4, K4, l7, l9, lb0, lp, lbz, LM⟩ := lay_st pg.2.2.2.1 pg.2.2.2.2.2.1 k0 (by omega) stm3 stn3 tp3 cm
    have G4 := kpl_f K4
    have G5 : FR [(213, none)] w4 (sI w4 213 0 (w4.1 208 0)) := FR.I (FR.refl _ w4) rfl
    have rl3 : RlM w3 nm := rlm_fr pg.2.2.2.2.2.2.2.2.1 G3 rfl
    have rl5 : RlM (sI w4 213 0 (w4.1 208 0)) nm := rlm_fr (rlm_fr rl3 G4 rfl) G5 rfl
    have b12 : 0 ≤ ((sI w4 213 0 (w4.1 208 0)).1 129 12).toInt ∧ ((sI w4 213 0 (w4.1 208 0)).1 129 12).toInt ≤ 1 := by
      rw [(G5 129 12 rfl).1, (G4 129 12 rfl).1]
      exact stm3.2.1
    obtain ⟨w5, ⟨er2, ew1⟩, G6, _, val5⟩ := mv_x FU 0 _ cm4 (by decide) b12 rl5
    -- what changed
    have bs3 := bd_78 c1.1 0
    have Fe : FR lsC (sI v3 3 0 0) v1 := by
      rw [← ev1]
      have f1 : FR lsC (sI v3 3 0 0) (sI (sI v4 61 4 0) 80 (0 : Int32).toInt.toNat 1) := FR.I (FR.I ((FR.refl lsC _).tr F4 rfl) rfl) rfl
      unfold chW
      by_cases q : ((sI v4 61 4 0).1 78 (0 : Int32).toInt.toNat).toInt < 0
      · rw [if_pos q]
        exact FR.I f1 rfl
      · rw [if_neg q]
        exact FR.I (FR.I f1 rfl) rfl
    have F' : FR lsC v3 v1 := (FR.I (FR.refl lsC v3) rfl).tr Fe rfl
    have G' : FR lsM w3 w1 := by
      rw [← ew1]
      exact FR.I (FR.I (FR.I ((((FR.refl lsM w3).tr G4 rfl).tr G5 rfl).tr G6 rfl) rfl) rfl) rfl
    have f78 : (sI v4 61 4 0).1 78 (0 : Int32).toInt.toNat = v.1 78 0 := by
      rw [show (0 : Int32).toInt.toNat = 0 by decide, sI_oth _ _ _ _ _ _ (by decide), (F4 78 0 rfl).1, sI_oth _ _ _ _ _ _ (by decide)]
      exact (F3 78 0 rfl).1
    have q := pg.2.2.2.2.2.2.2.2.2.2.2.2 k0
    -- the first statement
    obtain ⟨c, cs, eks⟩ : ∃ c cs, ks = c :: cs := by
      cases ks with
      | nil => exact absurd rfl k0
      | cons c cs => exact ⟨c, cs, rfl⟩
    have hL := q.2.2
    have hl1 := hL
    rw [eks] at hl1
    obtain ⟨f1, _⟩ := lz_c hl1
    have f1' : (v.1 78 0).toInt = 1 := f1
    have a81 : v1.1 81 0 = v.1 78 0 ∧ (v1.1 80 0).toInt = 1 ∧ (v1.1 80 1).toInt = 0 := by
      rw [← ev1]
      unfold chW
      rw [f78, if_neg (by omega), show (0 : Int32).toInt.toNat = 0 by decide, show (v.1 78 0).toInt.toNat = 1 by omega]
      refine ⟨?_, ?_, ?_⟩
      · rw [sI_oth _ _ _ _ _ _ (by decide), sI_same]
      · rw [sI_ne _ _ _ _ _ (by decide), sI_oth _ _ _ _ _ _ (by decide), sI_same]
        decide
      · rw [sI_same]
        decide
    have b13 : w1.1 213 0 = w4.1 208 0 := by
      rw [← ew1, sI_oth _ _ _ _ _ _ (by decide), sI_oth _ _ _ _ _ _ (by decide), sI_oth _ _ _ _ _ _ (by decide), (G6 213 0 rfl).1, sI_same]
    have g4 : ∀ (k j : Nat), (k = 207 ∨ k = 208 ∨ k = 209 ∨ k = 210) → w1.1 k j = w4.1 k j := fun k j hk => by
      rw [← ew1]
      rcases hk with e | e | e | e <;> (subst e; rw [sI_oth _ _ _ _ _ _ (by decide), sI_oth _ _ _ _ _ _ (by decide), sI_oth _ _ _ _ _ _ (by decide), (G6 _ j rfl).1, sI_oth _ _ _ _ _ _ (by decide)])
    have g60 : w1.1 127 60 = w4.1 127 60 := by
      rw [← ew1, sI_ne _ _ _ _ _ (by decide), sI_ne _ _ _ _ _ (by decide), sI_ne _ _ _ _ _ (by decide), (G6 127 60 rfl).1, sI_oth _ _ _ _ _ _ (by decide)]
    have g59 : w1.1 127 59 = 0 := by rw [← ew1, sI_ne _ _ _ _ _ (by decide), sI_ne _ _ _ _ _ (by decide), sI_same]
    have g74 : w1.1 127 74 = 0 := by rw [← ew1, sI_ne _ _ _ _ _ (by decide), sI_same]
    have g79 : w1.1 127 79 = 0 := by rw [← ew1, sI_same]
    have v4' : v1.1 61 4 = 0 := by
      rw [← ev1]
      unfold chW
      by_cases y : ((sI v4 61 4 0).1 78 (0 : Int32).toInt.toNat).toInt < 0
      · rw [if_pos y, sI_oth _ _ _ _ _ _ (by decide), sI_oth _ _ _ _ _ _ (by decide), sI_same]
      · rw [if_neg y, sI_oth _ _ _ _ _ _ (by decide), sI_oth _ _ _ _ _ _ (by decide), sI_oth _ _ _ _ _ _ (by decide), sI_same]
    have v30 : v1.1 3 0 = 0 := by
      rw [← ev1]
      unfold chW
      by_cases y : ((sI v4 61 4 0).1 78 (0 : Int32).toInt.toNat).toInt < 0
      · rw [if_pos y, sI_oth _ _ _ _ _ _ (by decide), sI_oth _ _ _ _ _ _ (by decide), sI_oth _ _ _ _ _ _ (by decide), (F4 3 0 rfl).1, sI_same]
      · rw [if_neg y, sI_oth _ _ _ _ _ _ (by decide), sI_oth _ _ _ _ _ _ (by decide), sI_oth _ _ _ _ _ _ (by decide), sI_oth _ _ _ _ _ _ (by decide), (F4 3 0 rfl).1, sI_same]
    have v74 : ∀ n, v1.2.1 74 n = v4.2.1 74 n := fun n => by
      rw [← ev1]
      unfold chW
      by_cases y : ((sI v4 61 4 0).1 78 (0 : Int32).toInt.toNat).toInt < 0
      · rw [if_pos y]; rfl
      · rw [if_neg y]; rfl
    have w206 : ∀ n, w1.2.1 206 n = w5.2.1 206 n := fun n => by rw [← ew1]; rfl
    clear ev1 ew1 ca ca4 cm cm4
    -- the layout
    obtain ⟨kc, LC⟩ := hL
    obtain ⟨km, LMm⟩ := LM
    obtain ⟨d1, d2, d3⟩ := LayA_d _ _ _ _ _ _ _ _ LC LMm
    have d1' : (v.1 78 0).toInt = (w4.1 208 0).toInt := d1
    have p5 := q.2.1
    have pp : plc w4 = (w4.1 127 60).toInt := rfl
    have rz : RLz v := (hv.2.2.2.1.resolve_right (fun f => by have := f.1; omega)).1
    have nx0 : (v.1 79 0).toInt = -1 := rz.2.2.1.1
    have e5 : v1.1 61 5 = v.1 61 5 := (F 61 5 rfl).1
    have ly1 : LyQ v1 w1 := by
      refine ⟨?_, by rw [e5]; exact p5, fun j hj => ?_⟩
      · rw [e5, g60]
        exact Int32.toInt_inj.mp (by omega)
      · rw [e5] at hj
        rw [(F 77 j rfl).1, (F 78 j rfl).1, (F 79 j rfl).1, g4 207 j (by omega), g4 208 j (by omega), g4 209 j (by omega)]
        by_cases j0 : j = 0
        · rw [j0]
          exact ⟨Int32.toInt_inj.mp (q.1.trans l7.symm), Int32.toInt_inj.mp d1', Int32.toInt_inj.mp (nx0.trans l9.symm)⟩
        · have t := d3 j (by omega) (by omega)
          exact ⟨Int32.toInt_inj.mp t.1, Int32.toInt_inj.mp t.2.1, Int32.toInt_inj.mp t.2.2⟩
    have L1 : Lz ns v1 ks 1 (fiC v1 0) (v.1 61 5).toInt.toNat := by
      have e8 : fiC v1 0 = fiC v 0 := by unfold fiC; rw [(F 78 0 rfl).1]
      rw [e8]
      exact lz_g q.2.2 (fun j => (F 77 j rfl).1) (fun j => (F 78 j rfl).1) (fun j => (F 79 j rfl).1)
    have bz : ∀ j : Nat, 0 < j → (j : Int) < (v.1 61 5).toInt → bgM w1 j = 0 := fun j j0 j1 => by
      have t : bgM w1 j = bgM w4 j := by unfold bgM; rw [g4 210 j (by omega)]
      rw [t]
      exact lbz j j0 (by omega)
    have fi1 : fiC v1 0 = 1 := by unfold fiC; rw [(F 78 0 rfl).1]; exact f1'
    have cu1 : cuC v1 0 = fiC v1 0 := by unfold cuC; rw [a81.1, fi1]; exact f1'
    have blk : BlkR ns (v.2.1 61 17).toInt 200 v1 w1 ks 0 := by
      refine Or.inr ⟨a81.2.1, ?_, ?_, ?_⟩
      · have t : bgM w1 0 = bgM w4 0 := by unfold bgM; rw [g4 210 0 (by omega)]
        rw [t]
        exact lb0
      · rw [cu1, fi1]
        unfold crM
        rw [b13, ← d1']
        exact f1'.symm
      · rw [cu1]
        refine cuk_1 L1 (fun x xs ex => ?_) (ab0_z ks 1 _ L1 (fun j ja jb => bz j (by omega) (by omega)))
        have ox := pg.2.2.2.2.2.1 x (by rw [ex]; exact List.mem_cons_self)
        obtain ⟨d, hd, _⟩ := ox
        rw [fi1]
        exact ⟨d, hd, Or.inl ⟨a81.2.2, bz 1 (by omega) (by
          have t := hl1
          have := (lz_c hl1).2.2
          obtain ⟨m, m1, m2, _⟩ := this
          omega)⟩⟩
    -- values
    obtain ⟨⟨hr, ha, rq, sc, sm, ss, wt, pg'⟩, BB, vl, al, st', bad, nw, wk, rn'⟩ := h
    have vl1 : VlR v1 w1 := fun n hn => by
      rw [(F 62 10 rfl).1] at hn
      rw [v74 n, w206 n]
      have snC : SnsC (sI v3 3 0 0) n ↔ SnsC v n := by
        unfold SnsC
        rw [sI_oth _ _ _ _ _ _ (by decide), sI_oth _ _ _ _ _ _ (by decide), (F3 71 n rfl).1, (F3 75 n rfl).1]
      have snM : SnsM (sI w4 213 0 (w4.1 208 0)) n ↔ SnsM w n := by
        unfold SnsM
        rw [(G5 201 n rfl).1, (G4 201 n rfl).1, (G3 201 n rfl).1]
      have t4 := val4 n (Nat.zero_le n) (by rw [s10]; exact hn)
      have t5 := val5 n (Nat.zero_le n) (by omega)
      rw [snC] at t4
      rw [snM] at t5
      have sss := (ss.2.2 n hn).1
      by_cases z : SnsC v n
      · rw [t4.1 z, t5.1 ⟨⟨nm[n]'(by omega), List.getElem?_eq_getElem (by omega), by
          have x8 := pg.2.2.2.2.2.2.2.1 n _ (List.getElem?_eq_getElem (show n < nm.length by omega))
          rw [← x8, z.1]
          decide⟩, sss.mp z⟩, sI_J, (F3 74 n rfl).2.1, (G5 206 n rfl).2.1, (G4 206 n rfl).2.1, (G3 206 n rfl).2.1]
        exact vl n hn
      · rw [t4.2 z, t5.2 (fun y => z (sss.mpr y))]
    refine ⟨er1.symm.trans er2, ns, nm, ks, ⟨hr_f hr3 F' G' rfl rfl, hac_f ha F G rfl rfl, rwq_f rq F G rfl rfl, svc_ci c1, svm_mj n1, ssr_f ss F G rfl rfl, wtr_f wt F G rfl rfl, pgq_f pg' F G rfl rfl⟩, ⟨c1.1, n1.1.1⟩, vl1, ⟨?_, by rw [v30, g79], by rw [v30]; decide, by rw [v30]; decide, fun j hj => ?_⟩, by rw [v4', g59], ?_, ?_, ?_, fun _ => ⟨k0, ly1, (v.2.1 61 17).toInt, ?_, by rw [g74]; decide, wk.1, blk, fun j j0 j5 hb => ?_⟩⟩
    · rw [(F 7 1 rfl).1, (G 127 78 rfl).1]; exact al.1
    · rw [(F 4 j rfl).1, (F 5 j rfl).1, (F 6 j rfl).1, (G 218 j rfl).1, (G 219 j rfl).1, (G 220 j rfl).1]
      exact al.2.2.2.2 j hj
    · rw [(G 127 76 rfl).1]; exact bad
    · rw [(F 7 1 rfl).1]; exact nw
    · rw [(F 7 1 rfl).1, (F 61 17 rfl).2.1]; exact wk
    · rw [(F 61 17 rfl).2.1, g74, i_0]; omega
    · rw [e5] at j5
      rw [bz j j0 j5] at hb
      exact absurd hb (by decide)
