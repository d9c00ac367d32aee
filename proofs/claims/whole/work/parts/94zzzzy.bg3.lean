/-! a begin on both sides: kinds with a sum -/
theorem bgo_t {GoW : MW → MW → Prop} {ns : List Nod} {nm : List Nm} {ks : List Nat} {off : Int} {k c s m : Nat} {d : Nod} {v w v1 w1 v' w' : MW} {ac : Int32} (P : PoL false GoW ns nm ks off v w v1 w1 s m) (l : (v.1 61 19).toInt ≤ (v1.1 61 19).toInt) (b : BgO GoW ns nm ks off k c s m d v1 w1 v' w' ac) : BgO GoW ns nm ks off k c s m d v w v' w' ac := ⟨pol_t P b.1, Int.le_trans l b.2.1, b.2.2⟩
theorem sml_s {ns : List Nod} {t : Nat} {v v1 : MW} {c s m : Nat} {d : Nod} {as am : Int32} (sk : SkT t v v1) (sl : SmL ns v c s m d as am) : SmL ns v1 c s m d as am := by
  obtain ⟨as', am', ec, hd, hS, hL, sm, hp, on⟩ := sl
  have e : v1.1 = v.1 := sk.1
  have e8 : fiC v1 s = fiC v s := by unfold fiC; rw [e]
  refine ⟨as', am', by rw [e]; exact ec, hd, hS, ?_, sm, by rw [e]; exact hp, by rw [e]; exact on⟩
  rw [e8]
  exact lz_g hL (fun j => by rw [e]) (fun j => by rw [e]) (fun j => by rw [e])
/-- a value is set on both sides -/
theorem vlr_s {v w : MW} {a : Nat} {x : Int64} (h : VlR v w) : VlR (sJ v 74 a x) (sJ w 206 a x) := fun n hn => by
  rw [sJ_at, sJ_at]
  by_cases z : n = a
  · rw [if_pos ⟨rfl, z⟩, if_pos ⟨rfl, z⟩]
  · rw [if_neg (fun y => z y.2), if_neg (fun y => z y.2)]
    exact h n hn
/-- set -/
theorem bg_11 {GoW : MW → MW → Prop} {ns : List Nod} {nm : List Nm} {ks : List Nat} {off : Int} {k c s m : Nat} {d : Nod} {as am n K nd : Int32} {x : Int64} {v w : MW} {Qc Qm : Int32 → MW → Prop} (hG : GoI GoW) (hW : WS GoW ns nm ks off v w) (sl : SmL ns v c s m d as am) (k11 : d.1 = 11) (en : n.toInt = (c : Int)) (hc : p_Ru_setValue v n x (fun v' => Qc 1 v')) (eK : K.toInt = wht d.1) (hnd : nd.toInt.toNat = nd1 w (c : Int)) (hm : q_Mo_begin_248 am n K nd x x am (b3W w s x) Qm) : ∃ (ac : Int32) (v' w' : MW), Qc ac v' ∧ Qm 1 w' ∧ BgO GoW ns nm ks off k c s m d v w v' w' ac := by
  obtain ⟨as', am', ec, hd, hS, hL, sm, hp, on⟩ := sl
  have st := hW.2.2.1
  have ly := st.2.2.2.2.2.1
  have stc := st.2.1 c d hd
  have eK' : K.toInt = 10 := by rw [eK, k11]; decide
  have n0 := st.2.2.2.1.2.2.2.1 c d hd (Or.inr (Or.inl k11))
  have n4 := st.2.2.2.2.1.2
  have c1 := sv_x hc
  have ea : (v.1 64 n.toInt.toNat).toInt.toNat = d.2.1.toNat := by
    rw [show n.toInt.toNat = c by omega, stc.2.1]
  rw [ea] at c1
  have q := b248_10 hm am' eK'
  rw [nm_x st.2.2.1 hd hnd (by omega) (by omega) (by omega) (by omega)] at q
  have A8a : A8 w (sJ (bxW w s x (x / (1000 : Int64))) 206 d.2.1.toNat x) s := a8_f (a8_x w s x _) (FR.J (FR.refl [(206, none)] _) rfl) rfl
  have F2 : FR [(206, none), (210, none), (211, none), (213, none), (214, none), (215, none), (216, none)] w (sJ (bxW w s x (x / (1000 : Int64))) 206 d.2.1.toNat x) := FR.J ((FR.refl _ w).tr (bx_f w s x _) rfl) rfl
  obtain ⟨w', r1, r2, r3, ao, r5, r6, r7⟩ := bm_g ly hL sm hp q rfl (fun j => (F2 209 j rfl).1) (bnd_e (bx_b hW.2.1.2 s x _) rfl) A8a
  have F3 : FR [(74, none)] v (sJ v 74 d.2.1.toNat x) := FR.J (FR.refl _ v) rfl
  have G3 : FR [(206, none), (210, none), (211, none), (212, none), (213, none), (214, none), (215, none), (216, none)] w w' := ((FR.refl _ w).tr F2 rfl).tr r3 rfl
  have vl : VlR (sJ v 74 d.2.1.toNat x) w' := vlr_f (vlr_s (vlr_f hW.2.2.2.1 (FR.refl [] v) (bx_f w s x (x / (1000 : Int64))) rfl rfl)) (FR.refl [] _) r3 rfl rfl
  refine ⟨1, _, w', c1, r1, pol_b hG hW (bnd_e hW.2.1.1 rfl) r2 ((FR.refl lrC v).tr F3 rfl) ((FR.refl lrM w).tr G3 rfl) vl (alr_f hW.2.2.2.2.1 F3 G3 rfl rfl) (cnr_f hW.2.2.2.2.2 F3 G3 rfl rfl (by rw [(G3 127 76 rfl).1]; exact hW.2.2.2.2.2.2.2.2.1)) (a6_f (a6_0 v s m) F3 rfl) r6 (mn_k F3 rfl (sgr_t (sgx w s x _) (sgr_f (FR.J (FR.refl [(206, none)] _) rfl) rfl)) r7), le19 F3 rfl, Or.inr (Or.inr (Or.inr (Or.inl ⟨by decide, ?_, Or.inl k11⟩)))⟩
  rw [(F3 61 4 rfl).1]
  exact on
/-- wait -/
theorem bg_12 {GoW : MW → MW → Prop} {ns : List Nod} {nm : List Nm} {ks : List Nat} {off : Int} {k c s m : Nat} {d : Nod} {as am n K nd : Int32} {x : Int64} {v w : MW} {Qc Qm : Int32 → MW → Prop} (hG : GoI GoW) (hW : WS GoW ns nm ks off v w) (sl : SmL ns v c s m d as am) (k12 : d.1 = 12) (hc : (0 < (lg_cmp ((sJ v 82 s ((v.2.1 61 17) + (x / (1000 : Int64)))).2.1 82 s) (v.2.1 61 17)).toInt → p_Ru_stand (sJ v 82 s ((v.2.1 61 17) + (x / (1000 : Int64)))) as Qc) ∧ (¬ 0 < (lg_cmp ((sJ v 82 s ((v.2.1 61 17) + (x / (1000 : Int64)))).2.1 82 s) (v.2.1 61 17)).toInt → Qc 1 (sJ v 82 s ((v.2.1 61 17) + (x / (1000 : Int64)))))) (eK : K.toInt = wht d.1) (hm : q_Mo_begin_248 am n K nd x x am (b3W w s x) Qm) : ∃ (ac : Int32) (v' w' : MW), Qc ac v' ∧ Qm 1 w' ∧ BgO GoW ns nm ks off k c s m d v w v' w' ac := by
  obtain ⟨as', am', ec, hd, hS, hL, sm, hp, on⟩ := sl
  have ly := hW.2.2.1.2.2.2.2.2.1
  have m5 := sml5 hW hp
  have cn := hW.2.2.2.2.2
  have eK' : K.toInt = 11 := by rw [eK, k12]; decide
  have dv := dv_b x
  have w17 := cn.2.2.2.2.1
  have w74 := cn.2.2.2.2.2.1
  have o74 := cn.2.2.2.2.2.2.1
  have tt := li_add (Eq.refl (v.2.1 61 17).toInt) (Eq.refl (x / (1000 : Int64)).toInt) (by omega) (by omega)
  rw [sJ_same] at hc
  have cmp := nb_cmp ((v.2.1 61 17) + (x / (1000 : Int64))) (v.2.1 61 17)
  have q := b248_d hm am' (by omega)
  obtain ⟨w', r1, r2, r3, ao, r5, r6, r7⟩ := bm_g ly hL sm hp q rfl (fun j => (bx_f w s x _ 209 j rfl).1) (bx_b hW.2.1.2 s x _) (a8_x w s x _)
  have G3 : FR lpM w w' := ((FR.refl _ w).tr (bx_f w s x _) rfl).tr r3 rfl
  have bs := bx_s w s x (x / (1000 : Int64))
  have B0 : BND (sJ v 82 s ((v.2.1 61 17) + (x / (1000 : Int64)))) := bnd_e hW.2.1.1 rfl
  have F0 : FR lpC v (sJ v 82 s ((v.2.1 61 17) + (x / (1000 : Int64)))) := FR.J (FR.refl _ v) rfl
  have e14 : w'.1 214 s = w'.1 127 74 := by rw [(r3 214 s rfl).1, bs.2.2.2.1, (G3 127 74 rfl).1]
  have e15 : w'.2.1 215 s = x / (1000 : Int64) := by rw [(r3 215 s rfl).2.1]; exact bs.2.2.2.2.1
  have A60 := a6_J sm (a6_0 v s m) 82 ((v.2.1 61 17) + (x / (1000 : Int64)))
  by_cases z : 0 < (lg_cmp ((v.2.1 61 17) + (x / (1000 : Int64))) (v.2.1 61 17)).toInt
  · have c2 := sd_x (hc.1 z)
    rw [sd_c] at c2
    have A6b := a6_c (a := as) (b := -1) sm A60 as' B0 (by decide) (by decide) (Or.inl (by decide))
    obtain ⟨B, F, f1, f2, f3, f4, f5⟩ := ci_x (v := sJ v 82 s ((v.2.1 61 17) + (x / (1000 : Int64)))) (a := as) (b := -1) as' B0 (by decide) (by decide) (Or.inl (by decide))
    have j82 : (chW (sI (sJ v 82 s ((v.2.1 61 17) + (x / (1000 : Int64)))) 80 as.toInt.toNat 1) as (-1)).2.1 82 s = (v.2.1 61 17) + (x / (1000 : Int64)) := by rw [(F 82 s rfl).2.1, sJ_same]
    generalize chW (sI (sJ v 82 s ((v.2.1 61 17) + (x / (1000 : Int64)))) 80 as.toInt.toNat 1) as (-1) = v3 at *
    have F3 : FR lpC v v3 := F0.tr F rfl
    refine ⟨0, v3, w', c2, r1, bg_p hG hW B r2 F3 G3 A6b r6 (mn_k F3 rfl (sgx w s x _) r7), le19 F3 rfl, Or.inr (Or.inl ⟨by decide, by rw [(F3 61 4 rfl).1]; exact on, ?_, f1, e14, Or.inl k12, fun _ => by rw [e15]; omega, fun z => by omega⟩)⟩
    rw [Dy_u]
    refine ⟨d, hd, Or.inr ⟨f1, ?_, bdy_st (Or.inl k12) ?_ (fun _ => ?_) (fun z => by omega) (fun z => by omega) (fun z => by omega)⟩⟩
    · unfold bgM
      rw [r5]
      exact bs.1
    · unfold cuC
      rw [f2]
      decide
    · unfold siM
      rw [j82, tt, e15, e14, (G3 127 74 rfl).1]
      omega
  · refine ⟨1, _, w', hc.2 z, r1, bg_p hG hW B0 r2 F0 G3 A60 r6 (mn_k F0 rfl (sgx w s x _) r7), le19 F0 rfl, Or.inr (Or.inr (Or.inr (Or.inl ⟨by decide, by rw [(F0 61 4 rfl).1]; exact on, Or.inr (Or.inr (Or.inr (Or.inl ⟨k12, ?_, e14⟩)))⟩)))⟩
    rw [e15]
    omega
/-- until -/
theorem bg_13 {GoW : MW → MW → Prop} {ns : List Nod} {nm : List Nm} {ks : List Nat} {off : Int} {k c s m : Nat} {d : Nod} {as am n K nd : Int32} {x : Int64} {v w : MW} {Qc Qm : Int32 → MW → Prop} (hG : GoI GoW) (hW : WS GoW ns nm ks off v w) (sl : SmL ns v c s m d as am) (k13 : d.1 = 13) (hc : ((lg_cmp x (0 : Int64)).toInt = 0 → p_Ru_stand v as Qc) ∧ (¬ (lg_cmp x (0 : Int64)).toInt = 0 → Qc 1 v)) (eK : K.toInt = wht d.1) (hm : q_Mo_begin_248 am n K nd x x am (b3W w s x) Qm) : ∃ (ac : Int32) (v' w' : MW), Qc ac v' ∧ Qm 1 w' ∧ BgO GoW ns nm ks off k c s m d v w v' w' ac := by
  obtain ⟨as', am', ec, hd, hS, hL, sm, hp, on⟩ := sl
  have ly := hW.2.2.1.2.2.2.2.2.1
  have eK' : K.toInt = 12 := by rw [eK, k13]; decide
  obtain ⟨q0, q1⟩ := b248_12 hm am' eK'
  have bs := bx_s w s x (x / (1000 : Int64))
  have F2 : ∀ b : Int32, FR lbx w (sI (bxW w s x (x / (1000 : Int64))) 211 s (vp_nar .boolean b)) := fun b => FR.I (bx_f w s x _) rfl
  by_cases z : (lg_cmp x (0 : Int64)).toInt = 0
  · have c2 := sd_x (hc.1 z)
    rw [sd_c] at c2
    have A6b := a6_c (a := as) (b := -1) sm (a6_0 v s m) as' hW.2.1.1 (by decide) (by decide) (Or.inl (by decide))
    obtain ⟨B, F, f1, f2, f3, f4, f5⟩ := ci_x (v := v) (a := as) (b := -1) as' hW.2.1.1 (by decide) (by decide) (Or.inl (by decide))
    generalize chW (sI v 80 as.toInt.toNat 1) as (-1) = v3 at *
    have F3 : FR lpC v v3 := (FR.refl _ v).tr F rfl
    obtain ⟨w', r1, r2, r3, ao, r5, r6, r7⟩ := bm_g ly hL sm hp (q0 z) rfl (fun j => (F2 0 209 j rfl).1) (wbd_211 (bx_b hW.2.1.2 s x _) s (nb_bool 0).1 (nb_bool 0).2) (a8_I (a8_x w s x _) 211 _)
    have G3 : FR lpM w w' := ((FR.refl _ w).tr (F2 0) rfl).tr r3 rfl
    refine ⟨0, v3, w', c2, r1, bg_p hG hW B r2 F3 G3 A6b r6 (mn_k F3 rfl (sgr_t (sgx w s x _) (sgr_f (FR.I (FR.refl [(211, none)] _) rfl) rfl)) r7), le19 F3 rfl, Or.inr (Or.inl ⟨by decide, by rw [(F3 61 4 rfl).1]; exact on, ?_, f1, ?_, Or.inr (Or.inl k13), fun z => by omega, fun z => by omega⟩)⟩
    · rw [Dy_u]
      refine ⟨d, hd, Or.inr ⟨f1, ?_, bdy_st (Or.inr (Or.inl k13)) ?_ (fun z => by omega) (fun _ => ?_) (fun z => by omega) (fun z => by omega)⟩⟩
      · unfold bgM
        rw [r5, sI_oth _ _ _ _ _ _ (by decide)]
        exact bs.1
      · unfold cuC
        rw [f2]
        decide
      · unfold dnM
        rw [(r3 211 s rfl).1, sI_same]
        exact nb_bool0
    · rw [(r3 214 s rfl).1, sI_oth _ _ _ _ _ _ (by decide), bs.2.2.2.1, (G3 127 74 rfl).1]
  · obtain ⟨w', r1, r2, r3, ao, r5, r6, r7⟩ := bm_g ly hL sm hp (q1 z) rfl (fun j => (F2 1 209 j rfl).1) (wbd_211 (bx_b hW.2.1.2 s x _) s (nb_bool 1).1 (nb_bool 1).2) (a8_I (a8_x w s x _) 211 _)
    have G3 : FR lpM w w' := ((FR.refl _ w).tr (F2 1) rfl).tr r3 rfl
    refine ⟨1, v, w', hc.2 z, r1, bg_p hG hW hW.2.1.1 r2 (FR.refl _ v) G3 (a6_0 v s m) r6 (mn_k (FR.refl [] v) rfl (sgr_t (sgx w s x _) (sgr_f (FR.I (FR.refl [(211, none)] _) rfl) rfl)) r7), Int.le_refl _, Or.inr (Or.inr (Or.inr (Or.inl ⟨by decide, on, Or.inr (Or.inr (Or.inr (Or.inr (Or.inl ⟨k13, ?_⟩))))⟩)))⟩
    unfold dnM
    rw [(r3 211 s rfl).1, sI_same]
    exact nb_bool1
/-- a block is chosen: if, limit -/
theorem bg_i {GoW : MW → MW → Prop} {ns : List Nod} {nm : List Nm} {ks : List Nat} {off : Int} {k c s m b1 : Nat} {r : List Nat} {d : Nod} {as am b : Int32} {v w vA wA : MW} {Qc Qm : Int32 → MW → Prop} (hG : GoI GoW) (P : PoL false GoW ns nm ks off v w vA wA s m) (l19 : (v.1 61 19).toInt ≤ (vA.1 61 19).toInt) (sl : SmL ns vA c s m d as am) (h3 : d.1 = 17 ∨ d.1 = 20) (hk : kdl ns c = b1 :: r) (hb : b = vA.1 78 s ∨ b = vA.1 79 (fiC vA s).toNat) (w210 : (wA.1 210 s).toInt = 1) (w213 : wA.1 213 s = b) (hc : p_Ru_goInside vA as b Qc) (hm : q_Mo_begin_538 (fun w' => Qm 1 w') Qm FU (wA.1 208 s) wA) : ∃ (ac : Int32) (v' w' : MW), Qc ac v' ∧ Qm 1 w' ∧ BgO GoW ns nm ks off k c s m d v w v' w' ac := by
  obtain ⟨as', am', ec, hd, hS, hL, sm, hp, on⟩ := sl
  have hW := P.1
  have ly := hW.2.2.1.2.2.2.2.2.1
  have pg := hW.2.2.1.2.2.2.1
  have m5 := sml5 hW hp
  have hL0 := hL
  rw [hk] at hL0
  obtain ⟨e1, e2, mx, x1, x2, L1, L2⟩ := lz_c hL0
  have fs : (fiC vA s).toNat = s + 1 := by omega
  have e78 : (vA.1 78 s).toInt = ((s + 1 : Nat) : Int) := e1
  have nx : nxC vA (s + 1) = -1 ∨ (nxC vA (s + 1) = (mx : Int) ∧ mx < m) := by
    cases r with
    | nil => exact Or.inl (lz_n L2).1
    | cons y ys =>
      obtain ⟨z1, _, mm, z2, z3, _, _⟩ := lz_c L2
      exact Or.inr ⟨z1, by omega⟩
  have e79 : (vA.1 79 (s + 1)).toInt = nxC vA (s + 1) := rfl
  rw [fs] at hb
  have bb : b.toInt = -1 ∨ ((s : Int) < b.toInt ∧ b.toInt < (m : Int)) := by
    rcases hb with z | z
    · rw [z]; omega
    · rw [z]; omega
  have c2 := gi_x hc
  have A6b := a6_c (a := as) (b := b) sm (a6_0 vA s m) as' hW.2.1.1 (by omega) (by omega) bb
  obtain ⟨B, F, f1, f2, f3, f4, f5⟩ := ci_x (v := vA) (a := as) (b := b) as' hW.2.1.1 (by omega) (by omega) (by omega)
  generalize chW (sI vA 80 as.toInt.toNat 1) as b = v3 at *
  obtain ⟨w', r1, r2, r3, ao, r5, r6, r7⟩ := bm_g ly hL sm hp hm rfl (fun j => rfl) hW.2.1.2 (a8_0 wA s)
  have F3 : FR lpC vA v3 := (FR.refl _ vA).tr F rfl
  have G3 : FR lpM wA w' := (FR.refl _ wA).tr r3 rfl
  have e8 : fiC v3 s = fiC vA s := by unfold fiC; rw [(F3 78 s rfl).1]
  have e9 : ∀ j, nxC v3 j = nxC vA j := fun j => by unfold nxC; rw [(F3 79 j rfl).1]
  have cu3 : cuC v3 s = b.toInt := by unfold cuC; rw [f2]
  by_cases bm : b.toInt = -1
  · refine ⟨2, v3, w', c2, r1, pol_t P (bg_p hG hW B r2 F3 G3 A6b r6 (mn_k F3 rfl (sgr_0 wA) r7)), Int.le_trans l19 (le19 F3 rfl), Or.inr (Or.inr (Or.inr (Or.inr ⟨by decide, by rw [(F3 61 4 rfl).1]; exact on, ?_, by rw [cu3]; exact bm, ?_⟩)))⟩
    · rcases h3 with z | z
      · exact z
      · obtain ⟨c1, c2, hk2⟩ := kc_20 pg hd z
        rw [hk] at hk2
        have er : r = [c2] := (List.cons.inj hk2).2
        rw [er] at L2
        have z1 := (lz_c L2).1
        rcases hb with y | y
        · rw [y] at bm
          omega
        · rw [y, e79] at bm
          omega
    · unfold crM
      rw [(r3 213 s rfl).1, w213]
      exact bm
  refine ⟨2, v3, w', c2, r1, pol_t P (bg_p hG hW B r2 F3 G3 A6b r6 (mn_k F3 rfl (sgr_0 wA) r7)), Int.le_trans l19 (le19 F3 rfl), Or.inl ⟨by decide, by rw [(F3 61 4 rfl).1]; exact on, ?_, f1, by omega, fun z => by omega, fun _ z0 => by
    rw [cu3] at z0 ⊢
    exact f3 _ (by omega)⟩⟩
  rw [Dy_u]
  refine ⟨d, hd, Or.inr ⟨f1, ?_, bdy_9 (by omega) ⟨?_, ?_⟩⟩⟩
  · unfold bgM
    rw [r5]
    exact w210
  · rw [cu3]
    unfold crM
    rw [(r3 213 s rfl).1, w213]
  · rw [hk] at ao ⊢
    rw [e8, cu3]
    rcases hb with z | z
    · have ef : b.toInt = fiC vA s := by rw [z]; rfl
      rw [ef]
      obtain ⟨db, hdb, _⟩ := kd_b pg hd hS (b := b1) (by rw [hk]; exact List.mem_cons_self)
      exact cui_1 (dy_0 hdb (f3 _ (by rw [fs, z]; exact e78)) ao.1)
    · have ef : b.toInt = nxC v3 (fiC vA s).toNat := by rw [z, fs, e9]; rfl
      have L3 : Lz ns v3 (b1 :: r) (s + 1) (fiC vA s) m := lz_g hL0 (fun j => (F3 77 j rfl).1) (fun j => (F3 78 j rfl).1) (fun j => (F3 79 j rfl).1)
      rw [ef]
      refine cui_2 L3 (fun z0 => by
        rw [z0] at L2
        have z1 := (lz_n L2).1
        rw [z, e79] at bm
        omega) (fun c2 r2 hr => ?_)
      obtain ⟨db, hdb, _⟩ := kd_b pg hd hS (b := c2) (by rw [hk, hr]; exact List.mem_cons_of_mem _ List.mem_cons_self)
      rw [hr] at ao L2
      have z1 := (lz_c L2).1
      have a2 := ao.2.2.1
      rw [fs] at a2
      rw [e9, fs]
      exact dy_0 hdb (f3 _ (by rw [z, e79]; omega)) a2
/-- repeat -/
theorem bg_19 {GoW : MW → MW → Prop} {ns : List Nod} {nm : List Nm} {ks : List Nat} {off : Int} {k c s m : Nat} {d : Nod} {as am n K nd : Int32} {x : Int64} {v w : MW} {Qc Qm : Int32 → MW → Prop} (hG : GoI GoW) (hW : WS GoW ns nm ks off v w) (sl : SmL ns v c s m d as am) (k19 : d.1 = 19) (hc : p_Ru_goInside (sJ v 82 s (x / (1000 : Int64))) as (v.1 78 s) Qc) (eK : K.toInt = wht d.1) (hm : q_Mo_begin_248 am n K nd x x am (b3W w s x) Qm) : ∃ (ac : Int32) (v' w' : MW), Qc ac v' ∧ Qm 1 w' ∧ BgO GoW ns nm ks off k c s m d v w v' w' ac := by
  obtain ⟨as', am', ec, hd, hS, hL, sm, hp, on⟩ := sl
  have ly := hW.2.2.1.2.2.2.2.2.1
  have pg := hW.2.2.1.2.2.2.1
  have m5 := sml5 hW hp
  have eK' : K.toInt = 16 := by rw [eK, k19]; decide
  obtain ⟨b1, hk⟩ := kc_19 pg hd k19
  have hL0 := hL
  rw [hk] at hL0
  obtain ⟨e1, e2, mx, x1, x2, L1, L2⟩ := lz_c hL0
  have fs : (fiC v s).toNat = s + 1 := by omega
  have e78 : (v.1 78 s).toInt = ((s + 1 : Nat) : Int) := e1
  have c2 := gi_x hc
  have B0 : BND (sJ v 82 s (x / (1000 : Int64))) := bnd_e hW.2.1.1 rfl
  have F0 : FR lpC v (sJ v 82 s (x / (1000 : Int64))) := FR.J (FR.refl _ v) rfl
  have A6b := a6_c (a := as) (b := v.1 78 s) sm (a6_J sm (a6_0 v s m) 82 (x / (1000 : Int64))) as' B0 (by omega) (by omega) (Or.inr ⟨by omega, by omega⟩)
  obtain ⟨B, F, f1, f2, f3, f4, f5⟩ := ci_x (v := sJ v 82 s (x / (1000 : Int64))) (a := as) (b := v.1 78 s) as' B0 (by omega) (by omega) (Or.inr (by omega))
  have j82 : (chW (sI (sJ v 82 s (x / (1000 : Int64))) 80 as.toInt.toNat 1) as (v.1 78 s)).2.1 82 s = x / (1000 : Int64) := by rw [(F 82 s rfl).2.1, sJ_same]
  generalize chW (sI (sJ v 82 s (x / (1000 : Int64))) 80 as.toInt.toNat 1) as (v.1 78 s) = v3 at *
  have q := b248_d hm am' (by omega)
  obtain ⟨w', r1, r2, r3, ao, r5, r6, r7⟩ := bm_g ly hL sm hp q rfl (fun j => (bx_f w s x _ 209 j rfl).1) (bx_b hW.2.1.2 s x _) (a8_x w s x _)
  have F3 : FR lpC v v3 := F0.tr F rfl
  have G3 : FR lpM w w' := ((FR.refl _ w).tr (bx_f w s x _) rfl).tr r3 rfl
  have bs := bx_s w s x (x / (1000 : Int64))
  have e8 : fiC v3 s = fiC v s := by unfold fiC; rw [(F3 78 s rfl).1]
  refine ⟨2, v3, w', c2, r1, bg_p hG hW B r2 F3 G3 A6b r6 (mn_k F3 rfl (sgx w s x _) r7), le19 F3 rfl, Or.inl ⟨by decide, by rw [(F3 61 4 rfl).1]; exact on, ?_, f1, Or.inr (Or.inl k19), fun z => by omega, fun _ _ => by
    have z : cuC v3 s = ((s + 1 : Nat) : Int) := by unfold cuC; rw [f2]; exact e78
    rw [z, show (((s + 1 : Nat) : Int)).toNat = s + 1 by omega]
    exact f3 _ e78⟩⟩
  rw [Dy_u]
  refine ⟨d, hd, Or.inr ⟨f1, ?_, ?_⟩⟩
  · unfold bgM
    rw [r5]
    exact bs.1
  · rw [k19]
    refine bdy_8 ⟨?_, ?_, b1, hk, ?_⟩
    · rw [e8]
      unfold cuC
      rw [f2]
      rfl
    · rw [j82, (r3 215 s rfl).2.1, bs.2.2.2.2.1]
    · rw [e8]
      rw [hk] at ao
      obtain ⟨db, hdb, _⟩ := kd_b pg hd hS (b := b1) (by rw [hk]; exact List.mem_cons_self)
      exact dy_0 hdb (f3 _ (by rw [fs]; exact e78)) ao.1
