/-! both sides in one world, call by call -/
/-- a world that differs only where the side does not read -/
theorem zr_w {T : Int} {ns : List Nod} {nm : List Nm} {ks : List Nat} {v w v' w' : MW} (h : ZRr T ns nm ks v w) (F : FR lR v v') (G : FR lC w w') (B : BND v') (B' : BND w') : ZRr T ns nm ks v' w' := by
  obtain ⟨hr, ha, rq, sc, sm, ss, wt, pg⟩ := h.1
  exact zr_k h ⟨hr_f hr F G (by decide +kernel) (by decide +kernel), hac_f ha F G (by decide +kernel) (by decide +kernel), rwq_f rq F G (by decide +kernel) (by decide +kernel), svc_f F sc (WO_fr F (by decide +kernel) sc.2.2.2.2.2.1) (by decide +kernel), svm_f G sm (FT_fr G (by decide +kernel) sm.2.1) (HW_fr G (by decide +kernel) sm.2.2.1) (by decide +kernel), ssr_f ss F G (by decide +kernel) (by decide +kernel), wtr_f wt F G (by decide +kernel) (by decide +kernel), pgq_f pg F G (by decide +kernel) (by decide +kernel)⟩ B B' F G (by decide +kernel) (by decide +kernel)
/-- both sides between two calls, in the world as it lies -/
def Zq (T : Int) (w : MW) : Prop := ∃ x y z, CI (S3 x y z w) ∧ MdJ w ∧ ∃ (ns : List Nod) (nm : List Nm) (ks : List Nat), ZRr T ns nm ks (S3 x y z w) w
theorem zp_z {T T' : Int} {μ μ' : Nat} {as as' : List Value} {lB lM : Pl} {w : MW} {pB pM : MW → (Int32 → MW → Prop) → Prop} (h1 : as.map (rv sP) = as) (h2 : as.map (rv sQ) = as) (h3 : as.map (rv sN) = as) (tB : ∀ u Q, pB u Q → Tc 2000 μ as u (RZ Q)) (tM : ∀ u Q, pM u Q → Tc 2000 μ' as' u (RZ Q)) (xB : ∀ u Q, pB u Q → ∃ r v, Q r v ∧ pB u (fun y x => y = r ∧ x = v)) (xM : ∀ u Q, pM u Q → ∃ r v, Q r v ∧ pM u (fun y x => y = r ∧ x = v)) (cB : ∀ u, CI u → pB u (fun _ u' => CI u' ∧ FR lB u u')) (cM : ∀ u, MdJ u → pM u (fun _ u' => MdJ u' ∧ FR lM u u')) (hB : sub lB lC = true) (hR : sub lM lR = true) (dd : ∀ ns nm ks v w r1 v1 r2 w2, CI v → MdJ w → ZRr T ns nm ks v w → CI v1 → FR lB v v1 → MdJ w2 → FR lM w w2 → pB v (fun y x => y = r1 ∧ x = v1) → pM w (fun y x => y = r2 ∧ x = w2) → r1 = r2 ∧ ∃ ns' nm' ks', ZRr T' ns' nm' ks' v1 w2) (h : Zq T w) : Tc 2000 μ as w (RZ fun r w1 => Tc 2000 μ' as' w1 (RZ fun r' w2 => Zq T' w2 ∧ r = r')) := by
  obtain ⟨x, y, z, hc, hM, ns, nm, ks, zr⟩ := h
  obtain ⟨r1, v1, ⟨c1, F1⟩, e1⟩ := xB _ _ (cB _ hc)
  refine tc_mono (tc_3 (a := x) (b := y) (c := z) (w := w) h1 h2 h3 rz_n (tB _ _ e1)) (fun vv w1 hv => ?_)
  obtain ⟨r, e, zz, er, ev⟩ := hv
  subst ev
  have m1 := mdj_cls hM c1.1 F1 hB
  have G := fr_cls F1 hB
  obtain ⟨r2, w2, ⟨n2, F2⟩, e2⟩ := xM _ _ (cM _ m1)
  obtain ⟨a1, ns', nm', ks', zr'⟩ := dd ns nm ks (S3 x y z w) w1 r1 (S3 x y z w1) r2 w2 hc m1 (zr_w zr (FR.refl _ _) G zr.2.1.1 m1.1.1) c1 F1 n2 F2 e1 e2
  refine ⟨r, e, zz, tc_mono (tM _ _ e2) (fun v2 w3 hv2 => ?_)⟩
  obtain ⟨r3, e3, zz3, e4, e5⟩ := hv2
  rw [e5]
  have c2 := ci_ref c1 n2 F2 hR
  exact ⟨r3, e3, zz3, ⟨x, y, z, c2, n2, ns', nm', ks', zr_w zr' (fr_mod F2 hR) (FR.refl _ _) c2.1 n2.1.1⟩, by rw [er, e4, a1]⟩
theorem zp_i {T T' : Int} {μ μ' : Nat} {as as' : List Value} {lB lM : Pl} {w : MW} {pB pM : MW → (Int32 → MW → Prop) → Prop} (h1 : as.map (rv sP) = as) (h2 : as.map (rv sQ) = as) (h3 : as.map (rv sN) = as) (tB : ∀ u Q, pB u Q → Tc 2000 μ as u (RI Q)) (tM : ∀ u Q, pM u Q → Tc 2000 μ' as' u (RI Q)) (xB : ∀ u Q, pB u Q → ∃ r v, Q r v ∧ pB u (fun y x => y = r ∧ x = v)) (xM : ∀ u Q, pM u Q → ∃ r v, Q r v ∧ pM u (fun y x => y = r ∧ x = v)) (cB : ∀ u, CI u → pB u (fun _ u' => CI u' ∧ FR lB u u')) (cM : ∀ u, MdJ u → pM u (fun _ u' => MdJ u' ∧ FR lM u u')) (hB : sub lB lC = true) (hR : sub lM lR = true) (dd : ∀ ns nm ks v w r1 v1 r2 w2, CI v → MdJ w → ZRr T ns nm ks v w → CI v1 → FR lB v v1 → MdJ w2 → FR lM w w2 → pB v (fun y x => y = r1 ∧ x = v1) → pM w (fun y x => y = r2 ∧ x = w2) → r1 = r2 ∧ ∃ ns' nm' ks', ZRr T' ns' nm' ks' v1 w2) (h : Zq T w) : Tc 2000 μ as w (RI fun r w1 => Tc 2000 μ' as' w1 (RI fun r' w2 => Zq T' w2 ∧ r = r')) := by
  obtain ⟨x, y, z, hc, hM, ns, nm, ks, zr⟩ := h
  obtain ⟨r1, v1, ⟨c1, F1⟩, e1⟩ := xB _ _ (cB _ hc)
  refine tc_mono (tc_3 (a := x) (b := y) (c := z) (w := w) h1 h2 h3 ri_n (tB _ _ e1)) (fun vv w1 hv => ?_)
  obtain ⟨r, e, er, ev⟩ := hv
  subst ev
  have m1 := mdj_cls hM c1.1 F1 hB
  have G := fr_cls F1 hB
  obtain ⟨r2, w2, ⟨n2, F2⟩, e2⟩ := xM _ _ (cM _ m1)
  obtain ⟨a1, ns', nm', ks', zr'⟩ := dd ns nm ks (S3 x y z w) w1 r1 (S3 x y z w1) r2 w2 hc m1 (zr_w zr (FR.refl _ _) G zr.2.1.1 m1.1.1) c1 F1 n2 F2 e1 e2
  refine ⟨r, e, tc_mono (tM _ _ e2) (fun v2 w3 hv2 => ?_)⟩
  obtain ⟨r3, e3, e4, e5⟩ := hv2
  rw [e5]
  have c2 := ci_ref c1 n2 F2 hR
  exact ⟨r3, e3, ⟨x, y, z, c2, n2, ns', nm', ks', zr_w zr' (fr_mod F2 hR) (FR.refl _ _) c2.1 n2.1.1⟩, by rw [er, e4, a1]⟩
theorem zp_j {T T' : Int} {μ μ' : Nat} {as as' : List Value} {lB lM : Pl} {w : MW} {pB pM : MW → (Int64 → MW → Prop) → Prop} (h1 : as.map (rv sP) = as) (h2 : as.map (rv sQ) = as) (h3 : as.map (rv sN) = as) (tB : ∀ u Q, pB u Q → Tc 2000 μ as u (RJ Q)) (tM : ∀ u Q, pM u Q → Tc 2000 μ' as' u (RJ Q)) (xB : ∀ u Q, pB u Q → ∃ r v, Q r v ∧ pB u (fun y x => y = r ∧ x = v)) (xM : ∀ u Q, pM u Q → ∃ r v, Q r v ∧ pM u (fun y x => y = r ∧ x = v)) (cB : ∀ u, CI u → pB u (fun _ u' => CI u' ∧ FR lB u u')) (cM : ∀ u, MdJ u → pM u (fun _ u' => MdJ u' ∧ FR lM u u')) (hB : sub lB lC = true) (hR : sub lM lR = true) (dd : ∀ ns nm ks v w r1 v1 r2 w2, CI v → MdJ w → ZRr T ns nm ks v w → CI v1 → FR lB v v1 → MdJ w2 → FR lM w w2 → pB v (fun y x => y = r1 ∧ x = v1) → pM w (fun y x => y = r2 ∧ x = w2) → r1 = r2 ∧ ∃ ns' nm' ks', ZRr T' ns' nm' ks' v1 w2) (h : Zq T w) : Tc 2000 μ as w (RJ fun r w1 => Tc 2000 μ' as' w1 (RJ fun r' w2 => Zq T' w2 ∧ r = r')) := by
  obtain ⟨x, y, z, hc, hM, ns, nm, ks, zr⟩ := h
  obtain ⟨r1, v1, ⟨c1, F1⟩, e1⟩ := xB _ _ (cB _ hc)
  refine tc_mono (tc_3 (a := x) (b := y) (c := z) (w := w) h1 h2 h3 rj_n (tB _ _ e1)) (fun vv w1 hv => ?_)
  obtain ⟨r, e, er, ev⟩ := hv
  subst ev
  have m1 := mdj_cls hM c1.1 F1 hB
  have G := fr_cls F1 hB
  obtain ⟨r2, w2, ⟨n2, F2⟩, e2⟩ := xM _ _ (cM _ m1)
  obtain ⟨a1, ns', nm', ks', zr'⟩ := dd ns nm ks (S3 x y z w) w1 r1 (S3 x y z w1) r2 w2 hc m1 (zr_w zr (FR.refl _ _) G zr.2.1.1 m1.1.1) c1 F1 n2 F2 e1 e2
  refine ⟨r, e, tc_mono (tM _ _ e2) (fun v2 w3 hv2 => ?_)⟩
  obtain ⟨r3, e3, e4, e5⟩ := hv2
  rw [e5]
  have c2 := ci_ref c1 n2 F2 hR
  exact ⟨r3, e3, ⟨x, y, z, c2, n2, ns', nm', ks', zr_w zr' (fr_mod F2 hR) (FR.refl _ _) c2.1 n2.1.1⟩, by rw [er, e4, a1]⟩
/-- may -/
theorem d_may {T : Int} {ns : List Nod} {nm : List Nm} {ks : List Nat} {v w : MW} {a b : Int32} {Qc Qm : Int32 → MW → Prop} (hv : CI v) (hw : MdJ w) (h : ZRr T ns nm ks v w) (hc : p_Bh_may v a b Qc) (hm : p_Mo_may w a b Qm) : ∃ r v' w', Qc r v' ∧ Qm r w' ∧ ZRr T ns nm ks v' w' := by
  obtain ⟨r1, v1, q1, ⟨c1, F, l1, s1⟩, _⟩ := jt_2 (pX := fun Q => p_Bh_may v a b Q) (fun Q q => ex_p_Bh_may q) (fun Q1 Q3 q k => al_p_Bh_may true q k) hc (cv_may (Q := fun r v' => CI v' ∧ FR l_Bh_may v v' ∧ VL (CMy v a b) r ∧ ((¬ CMy v a b ∧ v' = v) ∨ (CMy v a b ∧ MyC v v' a b))) hv (fun r v' p1 p2 p3 p4 => ⟨p1, p2, p3, p4⟩))
  obtain ⟨r2, w1, q2, ⟨n1, G, l2, s2⟩, _⟩ := jt_2 (pX := fun Q => p_Mo_may w a b Q) (fun Q q => ex_p_Mo_may q) (fun Q1 Q3 q k => al_p_Mo_may true q k) hm (mv_may (Q := fun r w' => MdJ w' ∧ FR l_Mo_may w w' ∧ VL (CMm w a b) r ∧ ((¬ CMm w a b ∧ w' = w) ∨ (CMm w a b ∧ MyM w w' a b))) hw (fun r w' p1 p2 p3 p4 => ⟨p1, p2, p3, p4⟩))
  have ht := h.1.1.2.1
  have ci : CMy v a b ↔ CMm w a b := cm_iff (w := mx v w) ht.2.2.1 a b
  have er : r1 = r2 := by
    rcases l1 with ⟨x1, y1⟩ | ⟨x1, y1⟩
    · rcases l2 with ⟨x2, y2⟩ | ⟨x2, y2⟩
      · rw [y1, y2]
      · exact absurd (ci.mp x1) x2
    · rcases l2 with ⟨x2, y2⟩ | ⟨x2, y2⟩
      · exact absurd (ci.mpr x2) x1
      · rw [y1, y2]
  have m1 : MM (mx v1 w1) := mm_pair (a := a) (b := b) (w := mx v w) (w1 := mx v1 w) (w2 := mx v1 w1) ht.2.2.1 (by
    rcases s1 with ⟨x1, y1⟩ | ⟨x1, y1⟩
    · rw [y1]
      exact Or.inl ⟨x1, rfl⟩
    · exact Or.inr ⟨x1, y1⟩) (by
    rcases s2 with ⟨x2, y2⟩ | ⟨x2, y2⟩
    · rw [y2]
      exact Or.inl ⟨x2, rfl⟩
    · exact Or.inr ⟨x2, y2⟩) rfl
  have y1 : MSy (mx v1 w1) := fun i j i1 i2 j1 j2 => by
    have o : mb (v.1 22 i) j = mb (v.1 22 j) i := ht.2.1 i j i1 i2 j1 j2
    show mb (v1.1 22 i) j = mb (v1.1 22 j) i
    rcases s1 with ⟨x1, y1⟩ | ⟨x1, y1⟩
    · rw [y1]
      exact o
    · rw [y1 i j i1 i2 j1 j2, y1 j i j1 j2 i1 i2, o]
      congr 1
      exact decide_eq_decide.mpr ⟨fun z => by omega, fun z => by omega⟩
  have F' : FR [(22, none), (24, none), (25, none)] v v1 := (FR.refl _ v).tr F rfl
  have G' : FR [(175, none), (176, none), (177, none)] w w1 := (FR.refl _ w).tr G rfl
  rw [← er] at q2
  refine ⟨r1, v1, w1, q1, q2, zr_k h (gw_tb h.1 F' G' rfl rfl ⟨fun i hi => ?_, y1, m1, fun i j i1 i2 j1 j2 => ?_, fun l l1 l5 => ?_⟩) c1.1 n1.1.1 F G rfl rfl⟩
  · show v1.1 41 i = ndO 160 i
    rw [(F 41 i rfl).1]
    exact ht.1 i hi
  · show v1.1 24 (15 * i + j) = w1.1 176 (16 * i + j)
    rw [(F 24 _ rfl).1, (G 176 _ rfl).1]
    exact ht.2.2.2.1 i j i1 i2 j1 j2
  · show v1.1 25 l = w1.1 177 l
    rw [(F 25 _ rfl).1, (G 177 _ rfl).1]
    exact ht.2.2.2.2 l l1 l5
/-- danger -/
theorem g_danger {T : Int} {ns : List Nod} {nm : List Nm} {ks : List Nat} {v w v1 w1 : MW} {r1 r2 a : Int32} (hv : CI v) (hw : MdJ w) (h : ZRr T ns nm ks v w) (c1 : CI v1) (F : FR l_Bh_danger v v1) (n1 : MdJ w1) (G : FR l_Mo_danger w w1) (e1 : p_Bh_danger v a (fun y x => y = r1 ∧ x = v1)) (e2 : p_Mo_danger w a (fun y x => y = r2 ∧ x = w1)) : r1 = r2 ∧ ∃ ns' nm' ks', ZRr T ns' nm' ks' v1 w1 := by
  obtain ⟨hr, ha, rq, sc, sm, ss, wt, pg⟩ := h.1
  have t := da_pair (Q' := fun r v' => (r = r1 ∧ v' = v1) ∧ r = r2 ∧ HRq (mx v' w1)) hv.1 hw.1.1 hr e1 (fun r v' P e => by
    have q := P (fun y x => y = r2 ∧ x = w1) (fun y x => (y = r2 ∧ x = w1) ∧ HRq (mx v' x) ∧ y = r) e2 (fun w' z1 z2 => ⟨z2, z1, rfl⟩)
    obtain ⟨y, x, ⟨⟨z1, z2⟩, z3, z4⟩, _⟩ := ex_p_Mo_danger q
    rw [z2] at z3
    exact ⟨e, z4.symm.trans z1, z3⟩)
  obtain ⟨r, v', ⟨⟨z1, z2⟩, z3, z4⟩, _⟩ := ex_p_Bh_danger t
  rw [z2] at z4
  exact ⟨z1.symm.trans z3, ns, nm, ks, zr_k h ⟨z4, hac_f ha F G rfl rfl, rwq_f rq F G rfl rfl, svc_f F sc (WO_fr F rfl sc.2.2.2.2.2.1) rfl, svm_f G sm (FT_fr G rfl sm.2.1) (HW_fr G rfl sm.2.2.1) rfl, ssr_f ss F G rfl rfl, wtr_f wt F G rfl rfl, pgq_f pg F G rfl rfl⟩ c1.1 n1.1.1 F G rfl rfl⟩
/-- bind -/
theorem tn_bind {w : MW} {a b c d f : Int32} {Q : Int32 → MW → Prop} (hY : CBi a b d f → Q 1 (sI (sI (sI (sI w 60 a.toInt.toNat b) 57 a.toInt.toNat c) 58 a.toInt.toNat d) 59 a.toInt.toNat f)) (hN : ¬ CBi a b d f → Q 0 w) : p_Bh_bind w a b c d f Q := by
  have K71 : 0 ≤ a.toInt → a.toInt ≤ 31 → 0 ≤ b.toInt → b.toInt ≤ 4 → (b.toInt = 0 → 1 ≤ f.toInt ∧ f.toInt ≤ 100) → (b.toInt = 2 → 0 ≤ d.toInt ∧ d.toInt ≤ 9) → (b.toInt = 3 → 1 ≤ d.toInt ∧ d.toInt ≤ 5) → q_Ac_tie_71 a b c d f w Q := fun a0 a1 b0 b1 z0 z2 z3 => by
    have hr : 0 ≤ a.toInt ∧ a.toInt < 32 := ⟨a0, by omega⟩
    exact Eq.mpr (q_Ac_tie_71.eq_1 _ _ _ _ _ _ _) ⟨hr, hr, hr, hr, hY ⟨⟨a0, a1⟩, ⟨b0, b1⟩, z0, z2, z3⟩⟩
  have K35 : 0 ≤ a.toInt → a.toInt ≤ 31 → 0 ≤ b.toInt → b.toInt ≤ 4 → (b.toInt = 0 → 1 ≤ f.toInt ∧ f.toInt ≤ 100) → q_Ac_tie_35 a b c d f w Q := fun a0 a1 b0 b1 z0 => by
    have K52 : (b.toInt = 2 → 0 ≤ d.toInt ∧ d.toInt ≤ 9) → q_Ac_tie_52 a b c d f w Q := fun z2 => Eq.mpr (q_Ac_tie_52.eq_1 _ _ _ _ _ _ _) ⟨fun c3 => K71 a0 a1 b0 b1 z0 z2 (fun e => absurd e c3), fun c3 => ⟨fun nn => hN (fun q => by have q1 := q.1; have q2 := q.2.1; have q3 := q.2.2.1; have q4 := q.2.2.2.1; have q5 := q.2.2.2.2; omega), fun d1 => ⟨fun d5 => K71 a0 a1 b0 b1 z0 z2 (fun _ => ⟨by omega, by omega⟩), fun nn => hN (fun q => by have q1 := q.1; have q2 := q.2.1; have q3 := q.2.2.1; have q4 := q.2.2.2.1; have q5 := q.2.2.2.2; omega)⟩⟩⟩
    exact Eq.mpr (q_Ac_tie_35.eq_1 _ _ _ _ _ _ _) ⟨fun c2 => K52 (fun e => absurd e c2), fun c2 => ⟨fun nn => hN (fun q => by have q1 := q.1; have q2 := q.2.1; have q3 := q.2.2.1; have q4 := q.2.2.2.1; have q5 := q.2.2.2.2; omega), fun d0 => ⟨fun nn => hN (fun q => by have q1 := q.1; have q2 := q.2.1; have q3 := q.2.2.1; have q4 := q.2.2.2.1; have q5 := q.2.2.2.2; omega), fun d9 => K52 (fun _ => ⟨by omega, by omega⟩)⟩⟩⟩
  refine Eq.mpr (p_Bh_bind.eq_1 _ _ _ _ _ _ _) (Eq.mpr (p_Ac_tie.eq_1 _ _ _ _ _ _ _) (Eq.mpr (p_Ac_isAct.eq_1 _ _ _) ⟨fun _ => ⟨fun nn => hN (fun q => by have q1 := q.1; have q2 := q.2.1; have q3 := q.2.2.1; have q4 := q.2.2.2.1; have q5 := q.2.2.2.2; omega), fun z => absurd i_0 z⟩, fun a0 => ⟨fun _ => ⟨fun nn => hN (fun q => by have q1 := q.1; have q2 := q.2.1; have q3 := q.2.2.1; have q4 := q.2.2.2.1; have q5 := q.2.2.2.2; omega), fun z => absurd i_0 z⟩, fun a1 => ⟨fun z => absurd z (by decide), fun _ => ⟨fun nn => hN (fun q => by have q1 := q.1; have q2 := q.2.1; have q3 := q.2.2.1; have q4 := q.2.2.2.1; have q5 := q.2.2.2.2; omega), fun b0 => ⟨fun b4 => ⟨fun c0 => ?_, fun c0 => ⟨fun nn => hN (fun q => by have q1 := q.1; have q2 := q.2.1; have q3 := q.2.2.1; have q4 := q.2.2.2.1; have q5 := q.2.2.2.2; omega), fun f1 => ⟨fun nn => hN (fun q => by have q1 := q.1; have q2 := q.2.1; have q3 := q.2.2.1; have q4 := q.2.2.2.1; have q5 := q.2.2.2.2; omega), fun f2 => ?_⟩⟩⟩, fun nn => hN (fun q => by have q1 := q.1; have q2 := q.2.1; have q3 := q.2.2.1; have q4 := q.2.2.2.1; have q5 := q.2.2.2.2; omega)⟩⟩⟩⟩⟩))
  · exact K35 (by omega) (by omega) (by omega) b4 (fun e => absurd e c0)
  · exact K35 (by omega) (by omega) (by omega) b4 (fun _ => ⟨by omega, by omega⟩)
theorem tm_bind {w : MW} {a b c d f : Int32} {Q : Int32 → MW → Prop} (hY : CBi a b d f → Q 1 (sI (sI (sI (sI w 197 a.toInt.toNat b) 198 a.toInt.toNat c) 199 a.toInt.toNat d) 200 a.toInt.toNat f)) (hN : ¬ CBi a b d f → Q 0 w) : p_Mo_bind w a b c d f Q := by
  have K72 : 0 ≤ a.toInt → a.toInt ≤ 31 → 0 ≤ b.toInt → b.toInt ≤ 4 → (b.toInt = 0 → 1 ≤ f.toInt ∧ f.toInt ≤ 100) → (b.toInt = 2 → 0 ≤ d.toInt ∧ d.toInt ≤ 9) → (b.toInt = 3 → 1 ≤ d.toInt ∧ d.toInt ≤ 5) → q_Mo_bind_72 a b c d f w Q := fun a0 a1 b0 b1 z0 z2 z3 => by
    have hr : 0 ≤ a.toInt ∧ a.toInt < 32 := ⟨a0, by omega⟩
    exact Eq.mpr (q_Mo_bind_72.eq_1 _ _ _ _ _ _ _) ⟨hr, hr, hr, hr, hY ⟨⟨a0, a1⟩, ⟨b0, b1⟩, z0, z2, z3⟩⟩
  have K36 : 0 ≤ a.toInt → a.toInt ≤ 31 → 0 ≤ b.toInt → b.toInt ≤ 4 → (b.toInt = 0 → 1 ≤ f.toInt ∧ f.toInt ≤ 100) → q_Mo_bind_36 a b c d f w Q := fun a0 a1 b0 b1 z0 => Eq.mpr (q_Mo_bind_36.eq_1 _ _ _ _ _ _ _) ⟨fun n2 => Eq.mpr (q_Mo_bind_53.eq_1 _ _ _ _ _ _ _) ⟨fun n3 => K72 a0 a1 b0 b1 z0 (fun q => absurd q n2) (fun q => absurd q n3), fun _ => ⟨fun nn => hN (fun q => by have q1 := q.1; have q2 := q.2.1; have q3 := q.2.2.1; have q4 := q.2.2.2.1; have q5 := q.2.2.2.2; omega), fun _ => ⟨fun _ => K72 a0 a1 b0 b1 z0 (fun q => absurd q n2) (fun _ => ⟨by omega, by omega⟩), fun nn => hN (fun q => by have q1 := q.1; have q2 := q.2.1; have q3 := q.2.2.1; have q4 := q.2.2.2.1; have q5 := q.2.2.2.2; omega)⟩⟩⟩, fun _ => ⟨fun nn => hN (fun q => by have q1 := q.1; have q2 := q.2.1; have q3 := q.2.2.1; have q4 := q.2.2.2.1; have q5 := q.2.2.2.2; omega), fun _ => ⟨fun nn => hN (fun q => by have q1 := q.1; have q2 := q.2.1; have q3 := q.2.2.1; have q4 := q.2.2.2.1; have q5 := q.2.2.2.2; omega), fun _ => Eq.mpr (q_Mo_bind_53.eq_1 _ _ _ _ _ _ _) ⟨fun n3 => K72 a0 a1 b0 b1 z0 (fun _ => ⟨by omega, by omega⟩) (fun q => absurd q n3), fun _ => ⟨fun nn => hN (fun q => by have q1 := q.1; have q2 := q.2.1; have q3 := q.2.2.1; have q4 := q.2.2.2.1; have q5 := q.2.2.2.2; omega), fun _ => ⟨fun _ => K72 a0 a1 b0 b1 z0 (fun _ => ⟨by omega, by omega⟩) (fun _ => ⟨by omega, by omega⟩), fun nn => hN (fun q => by have q1 := q.1; have q2 := q.2.1; have q3 := q.2.2.1; have q4 := q.2.2.2.1; have q5 := q.2.2.2.2; omega)⟩⟩⟩⟩⟩⟩
  exact Eq.mpr (p_Mo_bind.eq_1 _ _ _ _ _ _ _) ⟨fun nn => hN (fun q => by have q1 := q.1; have q2 := q.2.1; have q3 := q.2.2.1; have q4 := q.2.2.2.1; have q5 := q.2.2.2.2; omega), fun a0 => ⟨fun nn => hN (fun q => by have q1 := q.1; have q2 := q.2.1; have q3 := q.2.2.1; have q4 := q.2.2.2.1; have q5 := q.2.2.2.2; omega), fun a1 => ⟨fun nn => hN (fun q => by have q1 := q.1; have q2 := q.2.1; have q3 := q.2.2.1; have q4 := q.2.2.2.1; have q5 := q.2.2.2.2; omega), fun b0 => ⟨fun nn => hN (fun q => by have q1 := q.1; have q2 := q.2.1; have q3 := q.2.2.1; have q4 := q.2.2.2.1; have q5 := q.2.2.2.2; omega), fun b1 => ⟨fun n0 => K36 (by omega) (by omega) (by omega) (by omega) (fun q => absurd q n0), fun _ => ⟨fun nn => hN (fun q => by have q1 := q.1; have q2 := q.2.1; have q3 := q.2.2.1; have q4 := q.2.2.2.1; have q5 := q.2.2.2.2; omega), fun _ => ⟨fun nn => hN (fun q => by have q1 := q.1; have q2 := q.2.1; have q3 := q.2.2.1; have q4 := q.2.2.2.1; have q5 := q.2.2.2.2; omega), fun _ => K36 (by omega) (by omega) (by omega) (by omega) (fun _ => ⟨by omega, by omega⟩)⟩⟩⟩⟩⟩⟩⟩
theorem g_bind {T : Int} {ns : List Nod} {nm : List Nm} {ks : List Nat} {v w v1 w1 : MW} {r1 r2 a b c d f : Int32} (hv : CI v) (hw : MdJ w) (h : ZRr T ns nm ks v w) (c1 : CI v1) (F : FR l_Ac_tie v v1) (n1 : MdJ w1) (G : FR [(197, none), (198, none), (199, none), (200, none)] w w1) (e1 : p_Bh_bind v a b c d f (fun y x => y = r1 ∧ x = v1)) (e2 : p_Mo_bind w a b c d f (fun y x => y = r2 ∧ x = w1)) : r1 = r2 ∧ ∃ ns' nm' ks', ZRr T ns' nm' ks' v1 w1 := by
  obtain ⟨y1, u1, ⟨x1, x2⟩, s1, _⟩ := jt_2 (pX := fun Q => p_Bh_bind v a b c d f Q) (fun Q q => ex_p_Bh_bind q) (fun Q1 Q3 q k => al_p_Bh_bind true q k) e1 (tn_bind (Q := fun y u => (CBi a b d f ∧ y = 1 ∧ u = sI (sI (sI (sI v 60 a.toInt.toNat b) 57 a.toInt.toNat c) 58 a.toInt.toNat d) 59 a.toInt.toNat f) ∨ (¬ CBi a b d f ∧ y = 0 ∧ u = v)) (fun z => Or.inl ⟨z, rfl, rfl⟩) (fun z => Or.inr ⟨z, rfl, rfl⟩))
  obtain ⟨y2, u2, ⟨x3, x4⟩, s2, _⟩ := jt_2 (pX := fun Q => p_Mo_bind w a b c d f Q) (fun Q q => ex_p_Mo_bind q) (fun Q1 Q3 q k => al_p_Mo_bind true q k) e2 (tm_bind (Q := fun y u => (CBi a b d f ∧ y = 1 ∧ u = sI (sI (sI (sI w 197 a.toInt.toNat b) 198 a.toInt.toNat c) 199 a.toInt.toNat d) 200 a.toInt.toNat f) ∨ (¬ CBi a b d f ∧ y = 0 ∧ u = w)) (fun z => Or.inl ⟨z, rfl, rfl⟩) (fun z => Or.inr ⟨z, rfl, rfl⟩))
  rw [x1, x2] at s1
  rw [x3, x4] at s2
  obtain ⟨hr, ha, rq, sc, sm, ss, wt, pg⟩ := h.1
  have er : r1 = r2 := by
    rcases s1 with ⟨p1, p2, _⟩ | ⟨p1, p2, _⟩
    · rcases s2 with ⟨_, p4, _⟩ | ⟨p3, _, _⟩
      · rw [p2, p4]
      · exact absurd p1 p3
    · rcases s2 with ⟨p3, _, _⟩ | ⟨_, p4, _⟩
      · exact absurd p3 p1
      · rw [p2, p4]
  have ha' : HAc (mx v1 w1) := fun k hk => by
    have o : v.1 60 k = w.1 197 k ∧ v.1 57 k = w.1 198 k ∧ v.1 58 k = w.1 199 k ∧ v.1 59 k = w.1 200 k := ha k hk
    show v1.1 60 k = w1.1 197 k ∧ v1.1 57 k = w1.1 198 k ∧ v1.1 58 k = w1.1 199 k ∧ v1.1 59 k = w1.1 200 k
    rcases s1 with ⟨p1, _, p3⟩ | ⟨p1, _, p3⟩
    · rcases s2 with ⟨_, _, p4⟩ | ⟨p2, _, _⟩
      · rw [p3, p4]
        by_cases e : k = a.toInt.toNat
        · subst e
          rw [sI_oth _ _ _ _ _ _ (show (60 : Nat) ≠ 59 by decide), sI_oth _ _ _ _ _ _ (show (60 : Nat) ≠ 58 by decide), sI_oth _ _ _ _ _ _ (show (60 : Nat) ≠ 57 by decide), sI_same, sI_oth _ _ _ _ _ _ (show (197 : Nat) ≠ 200 by decide), sI_oth _ _ _ _ _ _ (show (197 : Nat) ≠ 199 by decide), sI_oth _ _ _ _ _ _ (show (197 : Nat) ≠ 198 by decide), sI_same, sI_oth _ _ _ _ _ _ (show (57 : Nat) ≠ 59 by decide), sI_oth _ _ _ _ _ _ (show (57 : Nat) ≠ 58 by decide), sI_same, sI_oth _ _ _ _ _ _ (show (198 : Nat) ≠ 200 by decide), sI_oth _ _ _ _ _ _ (show (198 : Nat) ≠ 199 by decide), sI_same, sI_oth _ _ _ _ _ _ (show (58 : Nat) ≠ 59 by decide), sI_same, sI_oth _ _ _ _ _ _ (show (199 : Nat) ≠ 200 by decide), sI_same, sI_same, sI_same]
          exact ⟨rfl, rfl, rfl, rfl⟩
        · have ne : ∀ (u : MW) (x y : Nat) (z : Int32), (sI u x a.toInt.toNat z).1 y k = u.1 y k := fun u x y z => by
            rw [sI_at, if_neg (fun q => e q.2)]
          rw [ne, ne, ne, ne, ne, ne, ne, ne, ne, ne, ne, ne, ne, ne, ne, ne, ne, ne, ne, ne, ne, ne, ne, ne, ne, ne, ne, ne, ne, ne, ne, ne]
          exact o
      · exact absurd p1 p2
    · rcases s2 with ⟨p2, _, _⟩ | ⟨_, _, p4⟩
      · exact absurd p2 p1
      · rw [p3, p4]
        exact o
  have z1 := c1.2.1
  have P := n1.1.2.2.2.1
  exact ⟨er, ns, nm, ks, zr_k h ⟨hr_f hr F G rfl rfl, ha', rwq_f rq F G rfl rfl, ⟨z1.2.2.1, z1.2.2.2.1, z1.2.2.2.2.1, z1.2.2.2.2.2.1, z1.2.2.2.2.2.2.1, c1.2.2.1, z1.2.2.2.2.2.2.2.2.2, z1.2.2.2.2.2.2.2.2.1⟩, P, ssr_f ss F G rfl rfl, wtr_f wt F G rfl rfl, pgq_f pg F G rfl rfl⟩ c1.1 n1.1.1 F G rfl rfl⟩
