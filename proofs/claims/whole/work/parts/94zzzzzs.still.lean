/-! still and answer on both sides -/
theorem sJ_ot {w : MW} {k k' j j' : Nat} {x : Int64} (h : k' ≠ k) : (sJ w k j x).2.1 k' j' = w.2.1 k' j' := by
  rw [sJ_at, if_neg (fun q => h q.1)]
theorem zr_sk {l l' : Pl} {T : Int} {ns : List Nod} {nm : List Nm} {ks : List Nat} {v w v' w' : MW} (h : ZRr T ns nm ks v w) (hv : CI v') (hw : MdJ w') (F : FR l v v') (G : FR l' w w') (hl : l = [(61, some 15)]) (hl' : l' = [(127, some 77)]) : ZRr T ns nm ks v' w' := by
  subst hl
  subst hl'
  obtain ⟨hr, ha, rq, sc, sm, ss, wt, pg⟩ := h.1
  exact zr_k h ⟨hr_f hr F G rfl rfl, hac_f ha F G rfl rfl, rwq_f rq F G rfl rfl, svc_ci hv, svm_mj hw, ssr_f ss F G rfl rfl, wtr_f wt F G rfl rfl, pgq_f pg F G rfl rfl⟩ hv.1 hw.1.1 F G rfl rfl
theorem sk_z {T off : Int} {ns : List Nod} {nm : List Nm} {ks : List Nat} {v w v' w' : MW} {asks : Int32} {Qc Qm : Int32 → MW → Prop} (h : ZRr T ns nm ks v w) (k0 : ¬ ks = []) (ly : LyQ v w) (rn : RnR ns off ks v w) (F : FR [(61, some 15)] v v') (G : FR [(127, some 77)] w w') (e : v'.1 61 15 = w'.1 127 77) (ha : asks.toInt = 0 ∨ asks.toInt = 1) (hc : p_Ru_seek v' 0 asks 0 Qc) (hm : p_Mo_stillAt w' 0 asks Qm) : ∃ (v2 w2 : MW) (rc rm : Int32), Qc rc v2 ∧ Qm rm w2 ∧ SqP v' w' v2 w2 ∧ FdR rc rm 0 (v.1 61 5).toInt.toNat ∧ AsK ns v' asks rc ∧ (asks.toInt = 1 → 0 ≤ rc.toInt → ∀ v3 w3, UpA v' w' v3 w3 rc.toInt.toNat → BlkR ns off 200 v3 w3 ks 0) := by
  have pg := h.1.2.2.2.2.2.2.2
  have q := pg.2.2.2.2.2.2.2.2.2.2.2.2 k0
  have sta := sta_f (sta_of pg k0 ly) F G rfl rfl
  have A : ∀ a b, AgR a b v v' w w' := fun a b => agr_f F G rfl rfl a b
  have p5 := q.2.1
  have e5 : v'.1 61 5 = v.1 61 5 := (F 61 5 rfl).1
  have e8 : fiC v' 0 = fiC v 0 := by unfold fiC; rw [(F 78 0 rfl).1]
  have hL : Lz ns v' ks (0 + 1) (fiC v' 0) (v.1 61 5).toInt.toNat := by
    rw [e8]
    exact lz_g q.2.2 (fun j => (F 77 j rfl).1) (fun j => (F 78 j rfl).1) (fun j => (F 79 j rfl).1)
  rw [p_Ru_seek.eq_1] at hc
  rw [p_Mo_stillAt.eq_1] at hm
  exact sk_b _ 200 0 (v.1 61 5).toInt.toNat _ ks 0 0 asks 0 v' w' Qc Qm hc hm (by decide) (by decide) ha ⟨sta, e⟩ (Or.inl (by rw [(F 77 0 rfl).1]; exact q.1)) pg.2.2.2.2.2.1 hL ⟨by omega, by rw [e5]; omega⟩ (by decide) (by decide) (by rw [i_0]; exact pg.2.2.2.2.2.2.1) (blkr_f q.2.2 (by omega) (A _ _) rn.1)
/-- still -/
theorem g_still {T : Int} {ns : List Nod} {nm : List Nm} {ks : List Nat} {v w v1 w1 : MW} {r1 r2 a : Int32} (hv : CI v) (hw : MdJ w) (h : ZRr T ns nm ks v w) (c1 : CI v1) (F : FR l_Ru_seek v v1) (n1 : MdJ w1) (G : FR lsa w w1) (e1 : p_Bh_still v a (fun y x => y = r1 ∧ x = v1)) (e2 : p_Mo_still w a (fun y x => y = r2 ∧ x = w1)) : r1 = r2 ∧ ∃ ns' nm' ks', ZRr T ns' nm' ks' v1 w1 := by
  refine ⟨?_, ns, nm, ks, zr_sk h c1 n1 F G rfl rfl⟩
  have st := h.2.2.2.2.1
  rw [p_Bh_still.eq_1, p_Ru_standingNode.eq_1, p_Ru_isAlive.eq_1, sI_ne _ _ _ _ _ (show (4 : Nat) ≠ 15 by decide)] at e1
  rw [p_Mo_still.eq_1, ← st] at e2
  by_cases a0 : a.toInt < 0
  · have m := e2.1 a0
    have c : r1 = -1 := by
      by_cases z : (v.1 61 4).toInt = 0
      · exact (((e1.1 z).2 (by decide)).1 a0).1.symm
      · by_cases y : (v.1 61 4).toInt = 2
        · exact ((((e1.2 z).2 (fun q => q y)).2 (by decide)).1 a0).1.symm
        · exact (((e1.2 z).1 y).1 (by decide)).1.symm
    rw [c]
    exact m.1
  · have m1 := e2.2 a0
    by_cases al : (v.1 61 4).toInt = 0 ∨ (v.1 61 4).toInt = 2
    · have m2 : q_Mo_still_24 (sI w 127 77 a) (fun y x => y = r2 ∧ x = w1) := by
        rcases al with z | z
        · exact m1.1 z
        · exact (m1.2 (by omega)).2 (fun q => q z)
      have cc : p_Ru_seek (sI v 61 15 a) 0 0 0 (fun r4 w4 => ((0 ≤ r4.toInt → ((0 ≤ r4.toInt ∧ r4.toInt < 501) ∧ (w4.1 77 r4.toInt.toNat = r1 ∧ w4 = v1))) ∧ (¬ (0 ≤ r4.toInt) → (-1 = r1 ∧ w4 = v1)))) := by
        rcases al with z | z
        · exact ((e1.1 z).2 (by decide)).2 a0
        · exact (((e1.2 (by omega)).2 (fun q => q z)).2 (by decide)).2 a0
      rw [q_Mo_still_24.eq_1] at m2
      obtain ⟨k0, ly, o, _, _, _, rn⟩ := h.2.2.2.2.2.2.2.2 al
      obtain ⟨v2, w2, rc, rm, g1, g2, P, D, _, _⟩ := sk_z h k0 ly rn (FR.I (FR.refl [(61, some 15)] v) rfl) (FR.I (FR.refl [(127, some 77)] w) rfl) (by rw [sI_same, sI_same]) (Or.inl (by decide)) cc m2
      rcases D with ⟨d1, d2⟩ | ⟨d1, d2, d3⟩
      · have x1 := (g1.2 (by omega)).1
        have x2 := (g2.2 (fun z => z d2)).1
        rw [← x1, ← x2]
      · have x1 := (g1.1 (by omega)).2.1
        have x2 := (g2.1 (by omega)).2.1
        have en : rm.toInt.toNat = rc.toInt.toNat := by rw [d1]
        have p5 := ly.2.1
        have t := (ly.2.2 rc.toInt.toNat (by omega)).1
        rw [← x1, ← x2, en, (P.1 77 _ rfl).1, (P.2.1 207 _ rfl).1]
        exact t
    · have m2 := ((m1.2 (by omega)).1 (by omega)).1
      have c := (((e1.2 (by omega)).1 (by omega)).1 (by decide)).1
      rw [← c, ← m2]
/-- answer -/
theorem g_answer {T : Int} {ns : List Nod} {nm : List Nm} {ks : List Nat} {v w v1 w1 : MW} {r1 r2 : Int32} {a : Int64} (hv : CI v) (hw : MdJ w) (h : ZRr T ns nm ks v w) (c1 : CI v1) (F : FR l_Ru_giveAnswer v v1) (n1 : MdJ w1) (G : FR lan w w1) (e1 : p_Bh_answer v a (fun y x => y = r1 ∧ x = v1)) (e2 : p_Mo_answer w a (fun y x => y = r2 ∧ x = w1)) : r1 = r2 ∧ ∃ ns' nm' ks', ZRr T ns' nm' ks' v1 w1 := by
  have st := h.2.2.2.2.1
  rw [p_Bh_answer.eq_1, p_Ru_giveAnswer.eq_1] at e1
  rw [p_Mo_answer.eq_1, ← st] at e2
  have F0 : FR [(61, some 15)] v (sI v 61 15 0) := FR.I (FR.refl [(61, some 15)] v) rfl
  have G0 : FR [(127, some 77)] w (sI w 127 77 0) := FR.I (FR.refl [(127, some 77)] w) rfl
  by_cases z : (v.1 61 4).toInt = 0
  · have cc := e1.2 (fun q => q z)
    have mm := e2.2 (fun q => q z)
    obtain ⟨k0, ly, o, o1, o2, o3, rn⟩ := h.2.2.2.2.2.2.2.2 (Or.inl z)
    obtain ⟨v2, w2, rc, rm, g1, g2, P, D, K, U⟩ := sk_z h k0 ly rn F0 G0 (by rw [sI_same, sI_same]) (Or.inr (by decide)) cc mm
    have FF : FR [(61, some 15)] v v2 := F0.tr P.1 rfl
    have GG : FR [(127, some 77)] w w2 := G0.tr P.2.1 rfl
    rw [q_Ru_giveAnswer_23.eq_1] at g1
    rw [q_Mo_answer_22.eq_1] at g2
    rcases D with ⟨d1, d2⟩ | ⟨d1, d2, d3⟩
    · obtain ⟨x1, x2⟩ := g1.2 (by omega)
      obtain ⟨x3, x4⟩ := g2.2 (fun y => y d2)
      rw [← x1, ← x3]
      subst x2
      subst x4
      exact ⟨rfl, ns, nm, ks, zr_sk h c1 n1 FF GG rfl rfl⟩
    · have q1 := (g1.1 (by omega)).2.2
      have q2 := (g2.1 (by omega)).2.2
      have en : rm.toInt.toNat = rc.toInt.toNat := by rw [d1]
      have p5 := ly.2.1
      obtain ⟨c, d, ec, hd, k22⟩ := K (by decide) (by omega)
      rw [(F0 77 _ rfl).1] at ec
      have pg := h.1.2.2.2.2.2.2.2
      have stc := pg.2.1 c d hd
      have stm := pg.2.2.1
      have ll := ly.2.2 rc.toInt.toNat (by omega)
      have cl := (List.getElem?_eq_some_iff.mp hd).1
      rw [p_Ru_setValue.eq_1] at q1
      rw [p_Tx_node1.eq_1] at q2
      have e77 : v2.1 77 rc.toInt.toNat = v.1 77 rc.toInt.toNat := (FF 77 _ rfl).1
      have e207 : w2.1 207 rm.toInt.toNat = w.1 207 rc.toInt.toNat := by rw [en]; exact (GG 207 _ rfl).1
      have f64 : (sJ v2 82 rc.toInt.toNat 1).1 64 c = v.1 64 c := by rw [sJ_I]; exact (FF 64 _ rfl).1
      have b64 := q1.2.2.2.1
      obtain ⟨x1, x2⟩ := q1.2.2.2.2
      rw [e77, ec, Int.toNat_natCast, f64] at b64 x2
      have l3 := stm.1
      have stm2 : StM ns (sI w2 211 rm.toInt.toNat (vp_nar .boolean (1 : Int32))) := stm_f stm (FR.I ((FR.refl [(127, some 77), (211, none)] w).tr GG rfl) rfl) rfl
      have en1 := ndx stm2 (a := w2.1 207 rm.toInt.toNat) (i := c) (by rw [e207, ← ll.1]; exact ec) (by omega)
      rw [en1] at q2
      have v132 := (stm2.2.2 c d hd).2.2.1 (by omega) (by omega)
      have i32 : (Int64.toInt32 ((sI w2 211 rm.toInt.toNat (vp_nar .boolean (1 : Int32))).2.1 132 (nd1 (sI w2 211 rm.toInt.toNat (vp_nar .boolean (1 : Int32))) (c : Int)))).toInt = d.2.1 := by
        rw [l64_32 (by rw [v132, ← stc.2.1]; omega) (by rw [v132, ← stc.2.1]; omega)]
        exact v132
      obtain ⟨x3, x4⟩ := q2.2.2
      rw [i32, ← stc.2.1] at x4
      rw [← x1, ← x3]
      refine ⟨rfl, ns, nm, ks, ?_⟩
      have vl2 : VlR v1 w1 := by
        rw [← x2, ← x4]
        exact vlr_s (vlr_f h.2.2.1 ((FR.J ((FR.refl [(61, some 15), (82, none)] v).tr FF rfl) rfl) : FR [(61, some 15), (82, none)] v (sJ v2 82 rc.toInt.toNat 1)) ((FR.I ((FR.refl [(127, some 77), (211, none)] w).tr GG rfl) rfl) : FR [(127, some 77), (211, none)] w (sI w2 211 rm.toInt.toNat (vp_nar .boolean (1 : Int32)))) rfl rfl)
      obtain ⟨⟨hr, ha, rq, sc, sm, ss, wt, pg'⟩, BB, vl, al, st', bad, nw, wk, rn'⟩ := h
      have U2 : UpA (sI v 61 15 0) (sI w 127 77 0) v1 w1 rc.toInt.toNat := by
        rw [← x2, ← x4, en]
        refine ⟨fun i j hij jj ja jb => ?_, ⟨?_, ?_, ?_, ?_, ?_⟩, ?_, ?_, ?_, ?_, ?_⟩
        · have ne : ¬ jj = rc.toInt.toNat := by omega
          refine ⟨⟨?_, ?_, ?_, ?_, ?_, ?_, ?_, ?_⟩, ?_, ?_, ?_, ?_, ?_, ?_, ?_, ?_⟩
          · rw [sJ_I, sJ_I]; exact (P.1 78 jj rfl).1
          · rw [sJ_I, sJ_I]; exact (P.1 79 jj rfl).1
          · rw [sJ_I, sJ_I]; exact (P.1 80 jj rfl).1
          · rw [sJ_I, sJ_I]; exact (P.1 81 jj rfl).1
          · rw [sJ_ot (by decide), sJ_at, if_neg (fun q => ne q.2)]; exact (P.1 82 jj rfl).2.1
          · rw [sJ_ot (by decide), sJ_ot (by decide)]; exact (P.1 83 jj rfl).2.1
          · rw [sJ_ot (by decide), sJ_ot (by decide)]; exact (P.1 84 jj rfl).2.1
          · rw [sJ_ot (by decide), sJ_ot (by decide)]; exact (P.1 85 jj rfl).2.1
          · rw [sJ_I, sI_oth _ _ _ _ _ _ (by decide)]; exact (P.2.1 210 jj rfl).1
          · rw [sJ_I, sI_ne _ _ _ _ _ ne]; exact (P.2.1 211 jj rfl).1
          · rw [sJ_I, sI_oth _ _ _ _ _ _ (by decide)]; exact (P.2.1 212 jj rfl).1
          · rw [sJ_I, sI_oth _ _ _ _ _ _ (by decide)]; exact (P.2.1 213 jj rfl).1
          · rw [sJ_I, sI_oth _ _ _ _ _ _ (by decide)]; exact (P.2.1 214 jj rfl).1
          · rw [sJ_ot (by decide), sI_J]; exact (P.2.1 215 jj rfl).2.1
          · rw [sJ_ot (by decide), sI_J]; exact (P.2.1 216 jj rfl).2.1
          · rw [sJ_ot (by decide), sI_J]; exact (P.2.1 217 jj rfl).2.1
        · rw [sJ_I, sJ_I]; exact (P.1 78 _ rfl).1
        · rw [sJ_I, sJ_I]; exact (P.1 79 _ rfl).1
        · rw [sJ_I, sJ_I]; exact (P.1 80 _ rfl).1
        · rw [sJ_I, sJ_I]; exact (P.1 81 _ rfl).1
        · rw [sJ_ot (by decide), sJ_same]
        · rw [sJ_I, sI_oth _ _ _ _ _ _ (by decide)]; exact (P.2.1 210 _ rfl).1
        · rw [sJ_I, sI_same]; decide
        · rw [sJ_I, sI_oth _ _ _ _ _ _ (by decide)]; exact (P.2.1 212 _ rfl).1
        · rw [sJ_I, sI_oth _ _ _ _ _ _ (by decide)]; exact (P.2.1 213 _ rfl).1
        · rw [sJ_I, sI_oth _ _ _ _ _ _ (by decide)]; exact (P.2.1 214 _ rfl).1
      have K2 := U (by decide) (by omega) v1 w1 U2
      refine ⟨⟨hr_f hr F G rfl rfl, hac_f ha F G rfl rfl, rwq_f rq F G rfl rfl, svc_ci c1, svm_mj n1, ssr_f ss F G rfl rfl, wtr_f wt F G rfl rfl, pgq_f pg' F G rfl rfl⟩, ⟨c1.1, n1.1.1⟩, vl2, alr_f al F G rfl rfl, ?_, ?_, ?_, ?_, fun _ => ⟨k0, lyq_f ly F G rfl rfl, o, ?_, ?_, o3, K2, fun j j0 j5 hb => ?_⟩⟩
      · rw [(F 61 4 rfl).1, (G 127 59 rfl).1]; exact st'
      · rw [(G 127 76 rfl).1]; exact bad
      · rw [(F 7 1 rfl).1]; exact nw
      · rw [(F 7 1 rfl).1, (F 61 17 rfl).2.1]; exact wk
      · rw [(F 61 17 rfl).2.1, (G 127 74 rfl).1]; exact o1
      · rw [(G 127 74 rfl).1]; exact o2
      · have hb' : bgM w j = 1 := by
          have t : bgM w1 j = bgM w j := by unfold bgM; rw [(G 210 j rfl).1]
          rw [← t]; exact hb
        have t2 : siM w1 j = siM w j := by unfold siM; rw [(G 214 j rfl).1]
        rw [(F 61 5 rfl).1] at j5
        rw [t2, (G 127 74 rfl).1]
        exact rn.2 j j0 j5 hb'
  · have cc := e1.1 z
    have mm := e2.1 z
    rw [q_Ru_giveAnswer_23.eq_1] at cc
    rw [q_Mo_answer_22.eq_1] at mm
    obtain ⟨x1, x2⟩ := cc.2 (by decide)
    obtain ⟨x3, x4⟩ := mm.2 (fun y => y (by decide))
    rw [← x1, ← x3]
    subst x2
    subst x4
    exact ⟨rfl, ns, nm, ks, zr_sk h c1 n1 F0 G0 rfl rfl⟩
