/-! a begin on both sides: if, limit, ramp; all kinds -/
theorem sml_p {GoW : MW → MW → Prop} {ns : List Nod} {nm : List Nm} {ks : List Nat} {off : Int} {v w v1 w1 : MW} {c s m p q : Nat} {d : Nod} {as am : Int32} (P : PoL false GoW ns nm ks off v w v1 w1 p q) (on : (v1.1 61 4).toInt = 0) (sl : SmL ns v c s m d as am) : SmL ns v1 c s m d as am := by
  obtain ⟨as', am', ec, hd, hS, hL, sm, hp, _⟩ := sl
  refine ⟨as', am', by rw [(P.2.2.1 s).1]; exact ec, hd, hS, ?_, sm, by rw [P.2.2.2.1]; exact hp, on⟩
  rw [(pol_fi P s).1]
  exact pol_l P hL
/-- if -/
theorem bg_17 {GoW : MW → MW → Prop} {ns : List Nod} {nm : List Nm} {ks : List Nat} {off : Int} {k c s m : Nat} {d : Nod} {as am n K nd : Int32} {x : Int64} {v w : MW} {Qc Qm : Int32 → MW → Prop} (hG : GoI GoW) (hW : WS GoW ns nm ks off v w) (sl : SmL ns v c s m d as am) (k17 : d.1 = 17) (hc : ((lg_cmp x (0 : Int64)).toInt = 0 → p_Ru_goInside v as (v.1 79 ((v.1 78 s).toInt.toNat)) Qc) ∧ (¬ (lg_cmp x (0 : Int64)).toInt = 0 → p_Ru_goInside v as (v.1 78 s) Qc)) (eK : K.toInt = wht d.1) (hm : q_Mo_begin_248 am n K nd x x am (b3W w s x) Qm) : ∃ (ac : Int32) (v' w' : MW), Qc ac v' ∧ Qm 1 w' ∧ BgO GoW ns nm ks off k c s m d v w v' w' ac := by
  have sl0 := sl
  obtain ⟨as', am', ec, hd, hS, hL, sm, hp, on⟩ := sl
  have ly := hW.2.2.1.2.2.2.2.2.1
  have pg := hW.2.2.1.2.2.2.1
  have m5 := sml5 hW hp
  have eK' : K.toInt = 15 := by rw [eK, k17]; decide
  obtain ⟨b1, r, hk⟩ := kc_17 pg hd k17
  have hL0 := hL
  rw [hk] at hL0
  obtain ⟨e1, _, mx, x1, x2, _, _⟩ := lz_c hL0
  have fs : (v.1 78 s).toInt.toNat = s + 1 := by
    have z : (v.1 78 s).toInt = ((s + 1 : Nat) : Int) := e1
    omega
  have lys := ly.2.2 s (by omega)
  have ly1 := ly.2.2 (s + 1) (by omega)
  obtain ⟨q0, q1⟩ := b248_15 hm am' eK'
  rw [← lys.2.1, fs, ← ly1.2.2] at q0
  rw [← lys.2.1] at q1
  rw [fs] at hc
  have bs := bx_s w s x (x / (1000 : Int64))
  have go : ∀ b : Int32, (b = v.1 78 s ∨ b = v.1 79 (fiC v s).toNat) → (-1 ≤ b.toInt ∧ b.toInt ≤ 500) → p_Ru_goInside v as b Qc → q_Mo_begin_538 (fun w' => Qm 1 w') Qm FU (v.1 78 s) (sI (bxW w s x (x / (1000 : Int64))) 213 s b) → ∃ (ac : Int32) (v' w' : MW), Qc ac v' ∧ Qm 1 w' ∧ BgO GoW ns nm ks off k c s m d v w v' w' ac := fun b hb b5 h1 h2 => by
    have G : FR lpM w (sI (bxW w s x (x / (1000 : Int64))) 213 s b) := FR.I ((FR.refl _ w).tr (bx_f w s x _) rfl) rfl
    have P : PoL false GoW ns nm ks off v w v (sI (bxW w s x (x / (1000 : Int64))) 213 s b) s m := bg_p hG hW hW.2.1.1 (wbd_213 (bx_b hW.2.1.2 s x _) s b5.1 (by omega)) (FR.refl _ v) G (a6_0 v s m) (fun j hj => a8_I (a8_x w s x _) 213 b j (by omega)) ⟨Int.le_refl _, sgr_t (sgx w s x _) (sgr_f (FR.I (FR.refl [(213, none)] _) rfl) rfl)⟩
    have e8 : (sI (bxW w s x (x / (1000 : Int64))) 213 s b).1 208 s = v.1 78 s := by rw [(G 208 s rfl).1]; exact lys.2.1.symm
    rw [← e8] at h2
    refine bg_i hG P (Int.le_refl _) sl0 (Or.inl k17) hk hb ?_ (sI_same _ _ _ _) h1 h2
    rw [sI_oth _ _ _ _ _ _ (by decide)]
    exact bs.1
  by_cases z : (lg_cmp x (0 : Int64)).toInt = 0
  · exact go _ (Or.inr (by rw [show (fiC v s).toNat = s + 1 from fs])) (bd_79 hW.2.1.1 (s + 1)) (hc.1 z) (q0 z)
  · exact go _ (Or.inl rfl) (bd_78 hW.2.1.1 s) (hc.2 z) (q1 z)
/-- limit -/
theorem bg_20 {GoW : MW → MW → Prop} {ns : List Nod} {nm : List Nm} {ks : List Nat} {off : Int} {k c s m : Nat} {d : Nod} {as am n K nd : Int32} {x : Int64} {v w : MW} {Qc Qm : Int32 → MW → Prop} (hG : GoI GoW) (hW : WS GoW ns nm ks off v w) (sl : SmL ns v c s m d as am) (k20 : d.1 = 20) (hc : (¬ (lg_cmp x (0 : Int64)).toInt = 0 → q_Ru_beginReckoned_247 as x v Qc) ∧ (¬ ¬ (lg_cmp x (0 : Int64)).toInt = 0 → p_Al_add v (v.1 7 1) n 3 (fun v' => q_Ru_beginReckoned_247 as x v' Qc))) (eK : K.toInt = wht d.1) (hm : q_Mo_begin_248 am n K nd x x am (b3W w s x) Qm) : ∃ (ac : Int32) (v' w' : MW), Qc ac v' ∧ Qm 1 w' ∧ BgO GoW ns nm ks off k c s m d v w v' w' ac := by
  have sl0 := sl
  obtain ⟨as', am', ec, hd, hS, hL, sm, hp, on⟩ := sl
  have ly := hW.2.2.1.2.2.2.2.2.1
  have pg := hW.2.2.1.2.2.2.1
  have m5 := sml5 hW hp
  have eK' : K.toInt = 17 := by rw [eK, k20]; decide
  obtain ⟨b1, b2, hk⟩ := kc_20 pg hd k20
  have hL0 := hL
  rw [hk] at hL0
  obtain ⟨e1, _, mx, x1, x2, _, _⟩ := lz_c hL0
  have fs : (v.1 78 s).toInt.toNat = s + 1 := by
    have z : (v.1 78 s).toInt = ((s + 1 : Nat) : Int) := e1
    omega
  have lys := ly.2.2 s (by omega)
  have ly1 := ly.2.2 (s + 1) (by omega)
  obtain ⟨q0, q1⟩ := b248_17 hm am' eK'
  rw [← lys.2.1, fs, ← ly1.2.2] at q0
  rw [← lys.2.1] at q1
  have bs := bx_s w s x (x / (1000 : Int64))
  have G : ∀ b : Int32, FR lpM w (sI (bxW w s x (x / (1000 : Int64))) 213 s b) := fun b => FR.I ((FR.refl _ w).tr (bx_f w s x _) rfl) rfl
  have P : ∀ b : Int32, (-1 ≤ b.toInt ∧ b.toInt ≤ 500) → PoL false GoW ns nm ks off v w v (sI (bxW w s x (x / (1000 : Int64))) 213 s b) s m := fun b b5 => bg_p hG hW hW.2.1.1 (wbd_213 (bx_b hW.2.1.2 s x _) s b5.1 (by omega)) (FR.refl _ v) (G b) (a6_0 v s m) (fun j hj => a8_I (a8_x w s x _) 213 b j (by omega)) ⟨Int.le_refl _, sgr_t (sgx w s x _) (sgr_f (FR.I (FR.refl [(213, none)] _) rfl) rfl)⟩
  have w10 : ∀ b : Int32, ((sI (bxW w s x (x / (1000 : Int64))) 213 s b).1 210 s).toInt = 1 := fun b => by
    rw [sI_oth _ _ _ _ _ _ (by decide)]
    exact bs.1
  by_cases z : (lg_cmp x (0 : Int64)).toInt = 0
  · have c1 := al_c (hc.2 (fun y => y z))
    have P1 := P (v.1 79 (s + 1)) (bd_79 hW.2.1.1 (s + 1))
    have w13 : (sI (bxW w s x (x / (1000 : Int64))) 213 s (v.1 79 (s + 1))).1 213 s = v.1 79 (s + 1) := sI_same _ _ _ _
    have w11 := w10 (v.1 79 (s + 1))
    have q2 := q0 z
    generalize sI (bxW w s x (x / (1000 : Int64))) 213 s (v.1 79 (s + 1)) = w2 at *
    have WA := ws_a (n := n) (k := 3) hG P1.1
    have FA : FR lalC v (alC v (v.1 7 1) n 3) := alc_l _ _ _ _
    have GA : FR lalM w2 (alM w2 n 3) := alm_l _ _ _
    have a4 : ((alC v (v.1 7 1) n 3).1 61 4).toInt = 0 := by
      have t : (alC v (v.1 7 1) n 3).1 61 4 = v.1 61 4 := by
        unfold alC
        by_cases z : 200 ≤ (v.1 3 0).toInt
        · rw [if_pos z]
        · rw [if_neg z]
          rfl
      rw [t]
      exact on
    generalize alC v (v.1 7 1) n 3 = v4 at *
    generalize alM w2 n 3 = w4 at *
    have P2 : PoL false GoW ns nm ks off v w2 v4 w4 s m := pol_i WA (fr_lal FA) (agr_f FA GA rfl rfl _ _) (agr_f FA GA rfl rfl _ _) (mnr_f FA GA rfl rfl)
    rw [q_Ru_beginReckoned_247.eq_1, as'] at c1
    have c2 := (c1.1 z).2.2
    rw [(FA 78 s rfl).1, fs, (FA 79 _ rfl).1] at c2
    have sl4 := sml_p P2 a4 sl0
    have fs4 : (fiC v4 s).toNat = s + 1 := by
      have t : fiC v4 s = fiC v s := by unfold fiC; rw [(FA 78 s rfl).1]
      rw [t]
      exact fs
    refine bg_i hG (pol_t P1 P2) (le19 FA rfl) sl4 (Or.inr k20) hk (b := v.1 79 (s + 1)) (Or.inr (by rw [fs4, (FA 79 _ rfl).1])) ?_ ?_ c2 q2
    · rw [(GA 210 s rfl).1]
      exact w11
    · rw [(GA 213 s rfl).1]
      exact w13
  · have c1 := hc.1 z
    rw [q_Ru_beginReckoned_247.eq_1, as'] at c1
    have c2 := (c1.2 z).2
    have e8 : (sI (bxW w s x (x / (1000 : Int64))) 213 s (v.1 78 s)).1 208 s = v.1 78 s := by rw [(G _ 208 s rfl).1]; exact lys.2.1.symm
    have q2 : q_Mo_begin_538 (fun w' => Qm 1 w') Qm FU ((sI (bxW w s x (x / (1000 : Int64))) 213 s (v.1 78 s)).1 208 s) (sI (bxW w s x (x / (1000 : Int64))) 213 s (v.1 78 s)) := by
      rw [e8]
      exact q1 z
    refine bg_i hG (P (v.1 78 s) (bd_78 hW.2.1.1 s)) (Int.le_refl _) sl0 (Or.inr k20) hk (b := v.1 78 s) (Or.inl rfl) (w10 _) (sI_same _ _ _ _) c2 ?_
    exact q2
/-- the reference, behind a ramp's two sums -/
theorem b248_13 {a n K nd : Int32} {x y : Int64} {w : MW} {Q : Int32 → MW → Prop} {s : Nat} (h : q_Mo_begin_248 a n K nd x y a (b3W w s x) Q) (ea : a.toInt.toNat = s) (hk : K.toInt = 13) : (0 ≤ (lg_cmp (y / (1000 : Int64)) (1 : Int64)).toInt → q_Mo_begin_331 a x (Int64.toInt32 (w.2.1 132 nd.toInt.toNat)) 0 a (sJ (bxW w s x (y / (1000 : Int64))) 217 s (w.2.1 206 ((Int64.toInt32 (w.2.1 132 nd.toInt.toNat)).toInt.toNat))) Q) ∧ (¬ 0 ≤ (lg_cmp (y / (1000 : Int64)) (1 : Int64)).toInt → q_Mo_begin_331 a x (Int64.toInt32 (w.2.1 132 nd.toInt.toNat)) 1 a (sJ (bxW w s x (y / (1000 : Int64))) 217 s (w.2.1 206 ((Int64.toInt32 (w.2.1 132 nd.toInt.toNat)).toInt.toNat))) Q) := by
  rw [q_Mo_begin_248.eq_1, ea, (y208 w s x nd.toInt.toNat).2.2.1, (y208 w s x _).2.2.2, sJ_same] at h
  have t := ((h.2.2.2.1 (by omega)).2 (fun z => z hk)).2.2.2
  exact t
/-- ramp -/
theorem bg_14 {GoW : MW → MW → Prop} {ns : List Nod} {nm : List Nm} {ks : List Nat} {off : Int} {k c s m : Nat} {d : Nod} {as am n K nd : Int32} {x y : Int64} {v w : MW} {Qc Qm : Int32 → MW → Prop} (hG : GoI GoW) (hW : WS GoW ns nm ks off v w) (sl : SmL ns v c s m d as am) (k14 : d.1 = 14) (en : n.toInt = (c : Int)) (hc : (0 ≤ (lg_cmp (y / (1000 : Int64)) (1 : Int64)).toInt → p_Ru_stand (sJ (sJ (sJ (sJ v 82 s (v.2.1 61 17)) 83 s (y / (1000 : Int64))) 84 s (v.2.1 74 ((v.1 64 c).toInt.toNat))) 85 s x) as Qc) ∧ (¬ 0 ≤ (lg_cmp (y / (1000 : Int64)) (1 : Int64)).toInt → p_Ru_setValue v n x (fun v' => Qc 1 v'))) (eK : K.toInt = wht d.1) (hnd : nd.toInt.toNat = nd1 w (c : Int)) (hm : q_Mo_begin_248 am n K nd x y am (b3W w s x) Qm) : ∃ (ac : Int32) (v' w' : MW), Qc ac v' ∧ Qm 1 w' ∧ BgO GoW ns nm ks off k c s m d v w v' w' ac := by
  obtain ⟨as', am', ec, hd, hS, hL, sm, hp, on⟩ := sl
  have st := hW.2.2.1
  have ly := st.2.2.2.2.2.1
  have stc := st.2.1 c d hd
  have cn := hW.2.2.2.2.2
  have eK' : K.toInt = 13 := by rw [eK, k14]; decide
  have n0 := st.2.2.2.1.2.2.2.1 c d hd (Or.inr (Or.inr (Or.inl k14)))
  have n4 := st.2.2.2.2.1
  have vl0 := hW.2.2.2.1
  obtain ⟨q0, q1⟩ := b248_13 hm am' eK'
  have enm := nm_x st.2.2.1 hd hnd (by omega) (by omega) (by omega) (by omega)
  rw [q_Mo_begin_331.eq_1, enm, am'] at q0 q1
  rw [stc.2.1] at hc
  have bs := bx_s w s x (y / (1000 : Int64))
  have l1 : (1 : Int64).toInt = 1 := by decide
  have cmp := nb_cmp (y / (1000 : Int64)) (1 : Int64)
  by_cases z : 0 ≤ (lg_cmp (y / (1000 : Int64)) (1 : Int64)).toInt
  · have c2 := sd_x (hc.1 z)
    rw [sd_c] at c2
    have q := (((q0 z).2.2.1 (by rw [sI_same]; exact nb_bool0))).2.2.2
    have B0 : BND (sJ (sJ (sJ (sJ v 82 s (v.2.1 61 17)) 83 s (y / (1000 : Int64))) 84 s (v.2.1 74 d.2.1.toNat)) 85 s x) := bnd_e hW.2.1.1 rfl
    have F0 : FR lpC v (sJ (sJ (sJ (sJ v 82 s (v.2.1 61 17)) 83 s (y / (1000 : Int64))) 84 s (v.2.1 74 d.2.1.toNat)) 85 s x) := FR.J (FR.J (FR.J (FR.J (FR.refl _ v) rfl) rfl) rfl) rfl
    have A60 : A6 v (sJ (sJ (sJ (sJ v 82 s (v.2.1 61 17)) 83 s (y / (1000 : Int64))) 84 s (v.2.1 74 d.2.1.toNat)) 85 s x) s m := a6_J sm (a6_J sm (a6_J sm (a6_J sm (a6_0 v s m) _ _) _ _) _ _) _ _
    have i82 : (sJ (sJ (sJ (sJ v 82 s (v.2.1 61 17)) 83 s (y / (1000 : Int64))) 84 s (v.2.1 74 d.2.1.toNat)) 85 s x).2.1 82 s = v.2.1 61 17 := by rw [sJ_at, if_neg (fun z => absurd z.1 (by decide)), sJ_at, if_neg (fun z => absurd z.1 (by decide)), sJ_at, if_neg (fun z => absurd z.1 (by decide)), sJ_same]
    have i83 : (sJ (sJ (sJ (sJ v 82 s (v.2.1 61 17)) 83 s (y / (1000 : Int64))) 84 s (v.2.1 74 d.2.1.toNat)) 85 s x).2.1 83 s = y / (1000 : Int64) := by rw [sJ_at, if_neg (fun z => absurd z.1 (by decide)), sJ_at, if_neg (fun z => absurd z.1 (by decide)), sJ_same]
    have i84 : (sJ (sJ (sJ (sJ v 82 s (v.2.1 61 17)) 83 s (y / (1000 : Int64))) 84 s (v.2.1 74 d.2.1.toNat)) 85 s x).2.1 84 s = v.2.1 74 d.2.1.toNat := by rw [sJ_at, if_neg (fun z => absurd z.1 (by decide)), sJ_same]
    have i85 : (sJ (sJ (sJ (sJ v 82 s (v.2.1 61 17)) 83 s (y / (1000 : Int64))) 84 s (v.2.1 74 d.2.1.toNat)) 85 s x).2.1 85 s = x := sJ_same _ _ _ _
    generalize sJ (sJ (sJ (sJ v 82 s (v.2.1 61 17)) 83 s (y / (1000 : Int64))) 84 s (v.2.1 74 d.2.1.toNat)) 85 s x = v2 at *
    have A6b := a6_c (a := as) (b := -1) sm A60 as' B0 (by decide) (by decide) (Or.inl (by decide))
    obtain ⟨B, F, f1, f2, f3, f4, f5⟩ := ci_x (v := v2) (a := as) (b := -1) as' B0 (by decide) (by decide) (Or.inl (by decide))
    generalize chW (sI v2 80 as.toInt.toNat 1) as (-1) = v3 at *
    have F3 : FR lpC v v3 := F0.tr F rfl
    -- the reference
    have e206 : (sJ (bxW w s x (y / (1000 : Int64))) 217 s (w.2.1 206 d.2.1.toNat)).2.1 206 d.2.1.toNat = w.2.1 206 d.2.1.toNat := by rw [sJ_at, if_neg (fun z => absurd z.1 (by decide)), (bx_f w s x _ 206 _ rfl).2.1]
    have e208 : (sJ (bxW w s x (y / (1000 : Int64))) 217 s (w.2.1 206 d.2.1.toNat)).1 208 s = w.1 208 s := by rw [sJ_I, (bx_f w s x _ 208 s rfl).1]
    rw [e206, e208] at q
    have B2 : BND (sJ (sI (sJ (bxW w s x (y / (1000 : Int64))) 217 s (w.2.1 206 d.2.1.toNat)) 211 s (vp_nar .boolean (0 : Int32))) 206 d.2.1.toNat (w.2.1 206 d.2.1.toNat)) := bnd_e (wbd_211 (bnd_e (bx_b hW.2.1.2 s x (y / (1000 : Int64))) rfl) s (nb_bool 0).1 (nb_bool 0).2) rfl
    have A82 : A8 w (sJ (sI (sJ (bxW w s x (y / (1000 : Int64))) 217 s (w.2.1 206 d.2.1.toNat)) 211 s (vp_nar .boolean (0 : Int32))) 206 d.2.1.toNat (w.2.1 206 d.2.1.toNat)) s := a8_f (a8_I (a8_J (a8_x w s x _) 217 _) 211 _) (FR.J (FR.refl [(206, none)] _) rfl) rfl
    have F2 : FR [(206, none), (210, none), (211, none), (213, none), (214, none), (215, none), (216, none), (217, none)] w (sJ (sI (sJ (bxW w s x (y / (1000 : Int64))) 217 s (w.2.1 206 d.2.1.toNat)) 211 s (vp_nar .boolean (0 : Int32))) 206 d.2.1.toNat (w.2.1 206 d.2.1.toNat)) := FR.J (FR.I (FR.J ((FR.refl _ w).tr (bx_f w s x _) rfl) rfl) rfl) rfl
    have v206 : ∀ j, (sJ (sI (sJ (bxW w s x (y / (1000 : Int64))) 217 s (w.2.1 206 d.2.1.toNat)) 211 s (vp_nar .boolean (0 : Int32))) 206 d.2.1.toNat (w.2.1 206 d.2.1.toNat)).2.1 206 j = w.2.1 206 j := fun j => by
      rw [sJ_at]
      by_cases t : j = d.2.1.toNat
      · rw [if_pos ⟨rfl, t⟩, t]
      · rw [if_neg (fun y => t y.2), sI_J, sJ_at, if_neg (fun z => absurd z.1 (by decide)), (bx_f w s x _ 206 _ rfl).2.1]
    have s10 : ((sJ (sI (sJ (bxW w s x (y / (1000 : Int64))) 217 s (w.2.1 206 d.2.1.toNat)) 211 s (vp_nar .boolean (0 : Int32))) 206 d.2.1.toNat (w.2.1 206 d.2.1.toNat)).1 210 s).toInt = 1 := by
      rw [sJ_I, sI_oth _ _ _ _ _ _ (by decide), sJ_I]
      exact bs.1
    have s11 : ((sJ (sI (sJ (bxW w s x (y / (1000 : Int64))) 217 s (w.2.1 206 d.2.1.toNat)) 211 s (vp_nar .boolean (0 : Int32))) 206 d.2.1.toNat (w.2.1 206 d.2.1.toNat)).1 211 s).toInt = 0 := by
      rw [sJ_I, sI_same]
      exact nb_bool0
    have s14 : (sJ (sI (sJ (bxW w s x (y / (1000 : Int64))) 217 s (w.2.1 206 d.2.1.toNat)) 211 s (vp_nar .boolean (0 : Int32))) 206 d.2.1.toNat (w.2.1 206 d.2.1.toNat)).1 214 s = w.1 127 74 := by
      rw [sJ_I, sI_oth _ _ _ _ _ _ (by decide), sJ_I]
      exact bs.2.2.2.1
    have s15 : (sJ (sI (sJ (bxW w s x (y / (1000 : Int64))) 217 s (w.2.1 206 d.2.1.toNat)) 211 s (vp_nar .boolean (0 : Int32))) 206 d.2.1.toNat (w.2.1 206 d.2.1.toNat)).2.1 215 s = y / (1000 : Int64) := by
      rw [sJ_at, if_neg (fun z => absurd z.1 (by decide)), sI_J, sJ_at, if_neg (fun z => absurd z.1 (by decide))]
      exact bs.2.2.2.2.1
    have s16 : (sJ (sI (sJ (bxW w s x (y / (1000 : Int64))) 217 s (w.2.1 206 d.2.1.toNat)) 211 s (vp_nar .boolean (0 : Int32))) 206 d.2.1.toNat (w.2.1 206 d.2.1.toNat)).2.1 216 s = x := by
      rw [sJ_at, if_neg (fun z => absurd z.1 (by decide)), sI_J, sJ_at, if_neg (fun z => absurd z.1 (by decide))]
      exact bs.2.2.2.2.2
    have s17 : (sJ (sI (sJ (bxW w s x (y / (1000 : Int64))) 217 s (w.2.1 206 d.2.1.toNat)) 211 s (vp_nar .boolean (0 : Int32))) 206 d.2.1.toNat (w.2.1 206 d.2.1.toNat)).2.1 217 s = w.2.1 206 d.2.1.toNat := by
      rw [sJ_at, if_neg (fun z => absurd z.1 (by decide)), sI_J, sJ_same]
    have sg2 : SgR false w (sJ (sI (sJ (bxW w s x (y / (1000 : Int64))) 217 s (w.2.1 206 d.2.1.toNat)) 211 s (vp_nar .boolean (0 : Int32))) 206 d.2.1.toNat (w.2.1 206 d.2.1.toNat)) := sgr_t (sgx w s x _) (sgr_f (FR.J (FR.I (FR.J (FR.refl [(206, none), (211, none), (217, none)] _) rfl) rfl) rfl) rfl)
    generalize sJ (sI (sJ (bxW w s x (y / (1000 : Int64))) 217 s (w.2.1 206 d.2.1.toNat)) 211 s (vp_nar .boolean (0 : Int32))) 206 d.2.1.toNat (w.2.1 206 d.2.1.toNat) = w2 at *
    obtain ⟨w', r1, r2, r3, ao, r5, r6, r7⟩ := bm_g ly hL sm hp q rfl (fun j => (F2 209 j rfl).1) B2 A82
    have G3 : FR [(206, none), (210, none), (211, none), (212, none), (213, none), (214, none), (215, none), (216, none), (217, none)] w w' := ((FR.refl _ w).tr F2 rfl).tr r3 rfl
    have vl : VlR v3 w' := fun i hi => by
      rw [(F3 62 10 rfl).1] at hi
      rw [(F3 74 i rfl).2.1, (r3 206 i rfl).2.1, v206]
      exact vl0 i hi
    refine ⟨0, v3, w', c2, r1, pol_b hG hW B r2 ((FR.refl lrC v).tr F3 rfl) ((FR.refl lrM w).tr G3 rfl) vl (alr_f hW.2.2.2.2.1 F3 G3 rfl rfl) (cnr_f cn F3 G3 rfl rfl (by rw [(G3 127 76 rfl).1]; exact cn.2.2.2.1)) A6b r6 (mn_k F3 rfl sg2 r7), le19 F3 rfl, Or.inr (Or.inl ⟨by decide, by rw [(F3 61 4 rfl).1]; exact on, ?_, f1, by rw [(r3 214 s rfl).1, s14, (G3 127 74 rfl).1], Or.inr (Or.inr (Or.inl k14)), fun z => by omega, fun z => by omega⟩)⟩
    rw [Dy_u]
    refine ⟨d, hd, Or.inr ⟨f1, by unfold bgM; rw [r5]; exact s10, bdy_st (Or.inr (Or.inr (Or.inl k14))) (by unfold cuC; rw [f2]; decide) (fun z => by omega) (fun z => by omega) (fun _ => ?_) (fun z => by omega)⟩⟩
    refine ⟨?_, ?_, ?_, ?_, ?_, ?_⟩
    · unfold dnM
      rw [(r3 211 s rfl).1]
      exact s11
    · rw [(r3 215 s rfl).2.1, s15]
      omega
    · unfold siM
      rw [(F 82 s rfl).2.1, i82, (r3 214 s rfl).1, s14]
      exact cn.2.2.2.2.1
    · rw [(F 83 s rfl).2.1, i83, (r3 215 s rfl).2.1, s15]
    · rw [(F 84 s rfl).2.1, i84, (r3 217 s rfl).2.1, s17]
      exact vl0 d.2.1.toNat (by omega)
    · rw [(F 85 s rfl).2.1, i85, (r3 216 s rfl).2.1, s16]
  · have c1 := sv_x (hc.2 z)
    have ea : (v.1 64 n.toInt.toNat).toInt.toNat = d.2.1.toNat := by
      rw [show n.toInt.toNat = c by omega, stc.2.1]
    rw [ea] at c1
    have q := (((q1 z).2.2.2 (by rw [sI_same]; exact fun t => absurd (nb_bool1.symm.trans t) (by decide)))).2.2
    have e208 : (sJ (bxW w s x (y / (1000 : Int64))) 217 s (w.2.1 206 d.2.1.toNat)).1 208 s = w.1 208 s := by rw [sJ_I, (bx_f w s x _ 208 s rfl).1]
    rw [e208] at q
    have F1 : FR lpM w (sI (sJ (bxW w s x (y / (1000 : Int64))) 217 s (w.2.1 206 d.2.1.toNat)) 211 s (vp_nar .boolean (1 : Int32))) := FR.I (FR.J ((FR.refl _ w).tr (bx_f w s x _) rfl) rfl) rfl
    have B1 : BND (sI (sJ (bxW w s x (y / (1000 : Int64))) 217 s (w.2.1 206 d.2.1.toNat)) 211 s (vp_nar .boolean (1 : Int32))) := wbd_211 (bnd_e (bx_b hW.2.1.2 s x (y / (1000 : Int64))) rfl) s (nb_bool 1).1 (nb_bool 1).2
    have A81 : A8 w (sI (sJ (bxW w s x (y / (1000 : Int64))) 217 s (w.2.1 206 d.2.1.toNat)) 211 s (vp_nar .boolean (1 : Int32))) s := a8_I (a8_J (a8_x w s x _) 217 _) 211 _
    have s11 : ((sI (sJ (bxW w s x (y / (1000 : Int64))) 217 s (w.2.1 206 d.2.1.toNat)) 211 s (vp_nar .boolean (1 : Int32))).1 211 s).toInt = 1 := by
      rw [sI_same]
      exact nb_bool1
    have s16 : (sI (sJ (bxW w s x (y / (1000 : Int64))) 217 s (w.2.1 206 d.2.1.toNat)) 211 s (vp_nar .boolean (1 : Int32))).2.1 216 s = x := by
      rw [sI_J, sJ_at, if_neg (fun z => absurd z.1 (by decide))]
      exact bs.2.2.2.2.2
    have sg1 : SgR false w (sI (sJ (bxW w s x (y / (1000 : Int64))) 217 s (w.2.1 206 d.2.1.toNat)) 211 s (vp_nar .boolean (1 : Int32))) := sgr_t (sgx w s x _) (sgr_f (FR.I (FR.J (FR.refl [(211, none), (217, none)] _) rfl) rfl) rfl)
    generalize sI (sJ (bxW w s x (y / (1000 : Int64))) 217 s (w.2.1 206 d.2.1.toNat)) 211 s (vp_nar .boolean (1 : Int32)) = w1 at *
    have F2 : FR [(206, none), (210, none), (211, none), (212, none), (213, none), (214, none), (215, none), (216, none), (217, none)] w (sJ w1 206 d.2.1.toNat x) := FR.J ((FR.refl _ w).tr F1 rfl) rfl
    obtain ⟨w', r1, r2, r3, ao, r5, r6, r7⟩ := bm_g ly hL sm hp q rfl (fun j => (F2 209 j rfl).1) (bnd_e B1 rfl) (a8_f A81 (FR.J (FR.refl [(206, none)] _) rfl) rfl)
    have F3 : FR [(74, none)] v (sJ v 74 d.2.1.toNat x) := FR.J (FR.refl _ v) rfl
    have G3 : FR [(206, none), (210, none), (211, none), (212, none), (213, none), (214, none), (215, none), (216, none), (217, none)] w w' := ((FR.refl _ w).tr F2 rfl).tr r3 rfl
    have vl : VlR (sJ v 74 d.2.1.toNat x) w' := vlr_f (vlr_s (vlr_f vl0 (FR.refl [] v) F1 rfl rfl)) (FR.refl [] _) r3 rfl rfl
    refine ⟨1, _, w', c1, r1, pol_b hG hW (bnd_e hW.2.1.1 rfl) r2 ((FR.refl lrC v).tr F3 rfl) ((FR.refl lrM w).tr G3 rfl) vl (alr_f hW.2.2.2.2.1 F3 G3 rfl rfl) (cnr_f cn F3 G3 rfl rfl (by rw [(G3 127 76 rfl).1]; exact cn.2.2.2.1)) (a6_f (a6_0 v s m) F3 rfl) r6 (mn_k F3 rfl (sgr_t sg1 (sgr_f (FR.J (FR.refl [(206, none)] _) rfl) rfl)) r7), le19 F3 rfl, Or.inr (Or.inr (Or.inr (Or.inl ⟨by decide, by rw [(F3 61 4 rfl).1]; exact on, Or.inr (Or.inr (Or.inr (Or.inr (Or.inr ⟨k14, ?_, ?_⟩))))⟩)))⟩
    · unfold dnM
      rw [(r3 211 s rfl).1, sJ_I]
      exact s11
    · rw [(r3 216 s rfl).2.1, (r3 206 _ rfl).2.1, sJ_same, sJ_at, if_neg (fun z => absurd z.1 (by decide))]
      exact s16
/-- where something is bad, nothing more is reckoned -/
theorem rk_bad {w : MW} {a : Int32} {Q : Int64 → MW → Prop} (h : p_Mo_reckon w a Q) (hb : ¬ (w.1 127 76).toInt = -1) : Q 0 w := by
  rw [p_Mo_reckon.eq_1] at h
  have h2 : pn_Mo_reckon (399 + 1) w a Q := h
  rw [pe_Mo_reckon, pb_Mo_reckon.eq_1] at h2
  exact h2.2 hb
theorem trx_le {ns : List Nod} {k lo e N : Nat} (h : TRX ns k lo e N) : lo ≤ e := by
  cases k with
  | zero => exact False.elim h
  | succ k =>
    rw [TRX_u] at h
    exact h.2.1
/-- what a begin may come to: a fault -/
def lfC : Pl := [(3, some 0), (4, none), (5, none), (6, none), (61, some 4), (61, some 19), (61, some 20), (86, none)]
def lfM : Pl := [(127, some 72), (127, some 73), (127, some 76), (127, some 79), (218, none), (219, none), (220, none)]
def BgF (GoW : MW → MW → Prop) (ns : List Nod) (nm : List Nm) (ks : List Nat) (off : Int) (v w v' w' : MW) : Prop := WS GoW ns nm ks off v' w' ∧ (v'.1 61 4).toInt = 2 ∧ FR lfC v v' ∧ FR lfM w w' ∧ (v.1 61 19).toInt ≤ (v'.1 61 19).toInt
theorem le_s {a b : Int} (h : b = a + 1) : a ≤ b := by omega
theorem le_s2 {a b c : Int} (h : b = a + 1) (h2 : b ≤ c) : a ≤ c := by omega
/-- kinds with a sum -/
theorem bg_r {GoW : MW → MW → Prop} {ns : List Nod} {nm : List Nm} {ks : List Nat} {off : Int} {k c s m : Nat} {d : Nod} {as am K1 n K nd o : Int32} {v w : MW} {Qc Qm : Int32 → MW → Prop} (hG : GoI GoW) (hW : WS GoW ns nm ks off v w) (sl : SmL ns v c s m d as am) (hx : ¬ nxp d.1 = 0) (eK1 : K1.toInt = d.1) (hc : p_Ru_beginReckoned v as K1 Qc) (eK : K.toInt = wht d.1) (en : n = v.1 77 s) (hnd : nd.toInt.toNat = nd1 w (c : Int)) (ho : ¬ o.toInt = 0) (hm : q_Mo_begin_133 am n K nd o w Qm) : (∃ (ac : Int32) (v' w' : MW), Qc ac v' ∧ Qm 1 w' ∧ BgO GoW ns nm ks off k c s m d v w v' w' ac) ∨ (∃ v' w', Qc 0 v' ∧ Qm 0 w' ∧ BgF GoW ns nm ks off v w v' w') := by
  have sl0 := sl
  obtain ⟨as', am', ec, hd, hS, hL, sm, hp, on⟩ := sl
  have st := hW.2.2.1
  have stc := st.2.1 c d hd
  have cn : (v.1 77 s).toInt.toNat = c := by omega
  have enc : n.toInt = (c : Int) := by rw [en]; exact ec
  have bad0 := hW.2.2.2.2.2.2.2.2.1
  have wf := st.2.2.2.1.2.1 c d hd
  rcases stc.2.2.2 (by rw [own_s hS]; decide) with ⟨z, _⟩ | ⟨e, lo, rr, hr, to, fr, TXx, h14, _⟩
  · exact absurd z hx
  obtain ⟨kk, hT⟩ := TXx
  have ec1 : e < c := wf.1 e (by rw [hr]; exact List.mem_cons_self)
  rw [p_Ru_beginReckoned.eq_1, as', cn, ← en] at hc
  have c1 := hc.2.2.2.2.2
  rw [q_Mo_begin_133.eq_1] at hm
  have m1 := hm.2 ho
  obtain ⟨r1, e1, m2⟩ := kd_x (k := 0) (c := e) (i := c) st.2.2.1 enc hd (by rw [hr]; rfl) (by decide) m1
  rw [p_Mo_reckon.eq_1] at m2
  have kn : ∀ x : Int, ¬ d.1 = x → ¬ K1.toInt = x := fun x hx y => hx (eK1.symm.trans y)
  have kp : ∀ x : Int, d.1 = x → K1.toInt = x := fun x hx => eK1.trans hx
  have n15 : ¬ d.1 = 15 := fun z => by rw [z] at hS; exact absurd hS (by decide)
  have n18 : ¬ d.1 = 18 := fun z => by rw [z] at hS; exact absurd hS (by decide)
  have n16 : ¬ d.1 = 16 := fun z => hx (by rw [z]; decide)
  have hwh : K.toInt = 13 ↔ d.1 = 14 := by
    rw [eK]
    rcases k_cs (Or.inl hS) with e | e | e | e | e | e | e | e | e | e | e | e | e | e <;> (rw [e]; decide)
  rcases rk_2 hW hT fr to e1 c1 m2 with ⟨x, v1, sk, g1, g2⟩ | ⟨z, v1, x, zl, sk, g1, g2⟩
  · have W1 := ws_s hG hW sk
    have sl1 := sml_s sk sl0
    have e1 : v1.1 = v.1 := sk.1
    have P1 : PoL false GoW ns nm ks off v w v1 w s m := pol_i W1 (sk_f sk) (agr_f (sk_l sk) (FR.refl [] w) rfl rfl _ _) (agr_f (sk_l sk) (FR.refl [] w) rfl rfl _ _) (mnr_f (sk_l sk) (FR.refl [] w) rfl rfl)
    have on1 : (v1.1 61 4).toInt = 0 := by rw [e1]; exact on
    have g3 := ((io_x g1).1 on1).1 (by decide)
    rw [q_Mo_begin_157.eq_1] at g2
    have up : (∃ (ac : Int32) (v' w' : MW), Qc ac v' ∧ Qm 1 w' ∧ BgO GoW ns nm ks off k c s m d v1 w v' w' ac) → (∃ (ac : Int32) (v' w' : MW), Qc ac v' ∧ Qm 1 w' ∧ BgO GoW ns nm ks off k c s m d v w v' w' ac) ∨ (∃ v' w', Qc 0 v' ∧ Qm 0 w' ∧ BgF GoW ns nm ks off v w v' w') := fun ⟨ac, v', w', a1, a2, a3⟩ => Or.inl ⟨ac, v', w', a1, a2, bgo_t P1 (le19 (sk_l sk) rfl) a3⟩
    by_cases k14 : d.1 = 14
    · have q11 : ¬ d.1 = 11 := fun z => absurd (z.symm.trans k14) (by decide)
      have q12 : ¬ d.1 = 12 := fun z => absurd (z.symm.trans k14) (by decide)
      have q13 : ¬ d.1 = 13 := fun z => absurd (z.symm.trans k14) (by decide)
      have g4 := ((((g3.2 (kn 11 q11)).2 (kn 12 q12)).2 (kn 13 q13)).1 (kp 14 k14))
      rw [p_Ru_beginRamp.eq_1, as', e1, cn, ← en] at g4
      have g5 := g4.2.2.2
      have m3 := g2.2 (fun z => z (hwh.mpr k14))
      obtain ⟨hr2, kk2, hT2⟩ := h14 k14
      obtain ⟨r3, e3, m4⟩ := kd_x (k := 1) (c := c - 1) (i := c) st.2.2.1 enc hd (by rw [hr, hr2]; rfl) (by decide) m3
      rw [p_Mo_reckon.eq_1] at m4
      rcases rk_2 W1 hT2 (by rw [to]; omega) (by rw [enc]; omega) e3 g5 m4 with ⟨y, v2, sk2, g6, g7⟩ | ⟨z, v2, y, zl, sk2, g6, g7⟩
      · have W2 := ws_s hG W1 sk2
        have sl2 := sml_s sk2 sl1
        have e2 : v2.1 = v.1 := sk2.1.trans e1
        have on2 : (v2.1 61 4).toInt = 0 := by rw [e2]; exact on
        have P2 : PoL false GoW ns nm ks off v w v2 w s m := pol_t P1 (pol_i W2 (sk_f sk2) (agr_f (sk_l sk2) (FR.refl [] w) rfl rfl _ _) (agr_f (sk_l sk2) (FR.refl [] w) rfl rfl _ _) (mnr_f (sk_l sk2) (FR.refl [] w) rfl rfl))
        have g8 := ((io_x g6).1 on2).1 (by decide)
        have g9 := b182_r g7 (hwh.mpr k14) bad0 am'
        obtain ⟨ac, v', w', a1, a2, a3⟩ := bg_14 (k := k) (Qc := Qc) (Qm := Qm) hG W2 sl2 k14 enc ⟨fun z => (g8.1 z).2.2.2.2.2.2.2.2, fun z => g8.2 z⟩ eK hnd g9
        exact Or.inl ⟨ac, v', w', a1, a2, bgo_t P2 (Int.le_trans (le19 (sk_l sk) rfl) (le19 (sk_l sk2) rfl)) a3⟩
      · have B := ws_bad (z := z) hG W1 sk2
        have g8 := ((io_x g6).2 (by rw [B.2.1]; decide)).2 (by decide)
        have z76 : ¬ ((sI w 127 76 (nI z)).1 127 76).toInt = -1 := by
          rw [sI_same, nI_toInt (by omega)]
          omega
        exact Or.inr ⟨_, _, g8, b182_b g7 z76, B.1, B.2.1, (FR.refl lfC v).tr ((sk_l sk).tr B.2.2.1 rfl) rfl, (FR.refl lfM w).tr B.2.2.2 rfl, le19 ((sk_l sk).tr B.2.2.1 rfl) rfl⟩
    · have g4 := b182_n (g2.1 (fun z => k14 (hwh.mp z))) (fun z => k14 (hwh.mp z)) bad0 am'
      by_cases k11 : d.1 = 11
      · exact up (bg_11 (Qc := Qc) hG W1 sl1 k11 enc (g3.1 (kp 11 k11)) eK hnd g4)
      · have g5 := g3.2 (kn 11 k11)
        by_cases k12 : d.1 = 12
        · have t := (g5.1 (kp 12 k12)).2.2
          exact up (bg_12 (Qc := Qc) hG W1 sl1 k12 ⟨fun z => t.1 z, fun z => t.2 z⟩ eK g4)
        · have g6 := g5.2 (kn 12 k12)
          by_cases k13 : d.1 = 13
          · have t := g6.1 (kp 13 k13)
            exact up (bg_13 (Qc := Qc) hG W1 sl1 k13 ⟨fun z => t.1 z, fun z => t.2 z⟩ eK g4)
          · have g7 := (((g6.2 (kn 13 k13)).2 (kn 14 k14)).2 (kn 15 n15))
            have g8 := g7.2 (kn 16 n16)
            by_cases k17 : d.1 = 17
            · have t := g8.1 (kp 17 k17)
              exact up (bg_17 (Qc := Qc) hG W1 sl1 k17 ⟨fun z => (t.1 z).2.2, fun z => (t.2 z).2⟩ eK g4)
            · have g9 := (g8.2 (kn 17 k17)).2 (kn 18 n18)
              by_cases k19 : d.1 = 19
              · exact up (bg_19 (Qc := Qc) hG W1 sl1 k19 ((g9.1 (kp 19 k19)).2.2) eK g4)
              · have k20 : d.1 = 20 := by
                  rcases k_cs (Or.inl hS) with e | e | e | e | e | e | e | e | e | e | e | e | e | e
                  · exact absurd e k11
                  · exact absurd e k12
                  · exact absurd e k13
                  · exact absurd e k14
                  · exact absurd e n16
                  · exact absurd e k17
                  · exact absurd e k19
                  · exact e
                  · exact absurd (by rw [e]; decide) hx
                  · exact absurd (by rw [e]; decide) hx
                  · exact absurd (by rw [e]; decide) hx
                  · exact absurd (by rw [e]; decide) hx
                  · exact absurd (by rw [e]; decide) hx
                  · exact absurd (by rw [e]; decide) hx
                exact up (bg_20 (Qc := Qc) hG W1 sl1 k20 (g9.2 (kn 19 k19)) eK g4)
  · have B := ws_bad (z := z) hG hW sk
    have g3 := ((io_x g1).2 (by rw [B.2.1]; decide)).2 (by decide)
    have z76 : ¬ ((sI w 127 76 (nI z)).1 127 76).toInt = -1 := by
      rw [sI_same, nI_toInt (by omega)]
      omega
    rw [q_Mo_begin_157.eq_1] at g2
    have g4 : Qm 0 (sI (alM (sI w 127 76 (nI z)) ((sI w 127 76 (nI z)).1 127 76) 1) 127 76 (-1)) := by
      by_cases k14 : d.1 = 14
      · have t := g2.2 (fun z => z (hwh.mpr k14))
        rw [p_Tx_kid.eq_1, p_Tx_node1.eq_1] at t
        exact b182_b (rk_bad t.2.2 z76) z76
      · exact b182_b (g2.1 (fun z => k14 (hwh.mp z))) z76
    exact Or.inr ⟨_, _, g3, g4, B.1, B.2.1, (FR.refl lfC v).tr B.2.2.1 rfl, (FR.refl lfM w).tr B.2.2.2 rfl, le19 B.2.2.1 rfl⟩
/-- A STATEMENT BEGINS ALIKE -/
theorem bg_s {GoW : MW → MW → Prop} {ns : List Nod} {nm : List Nm} {ks : List Nat} {off : Int} {k c s m : Nat} {d : Nod} {as am : Int32} {v w : MW} {Qc Qm : Int32 → MW → Prop} (hG : GoI GoW) (hP : PfG GoW) (hW : WS GoW ns nm ks off v w) (sl : SmL ns v c s m d as am) (a0 : 0 ≤ as.toInt ∧ 0 ≤ am.toInt) (hc : p_Ru_mayBegin v as (fun r6 w6 => ((r6.toInt = 0 → Qc 0 w6) ∧ (¬ (r6.toInt = 0) → ((w6.2.2 61 3 = some 62) ∧ ((0 ≤ as.toInt ∧ as.toInt < 501) ∧ ((0 ≤ (w6.1 77 as.toInt.toNat).toInt ∧ (w6.1 77 as.toInt.toNat).toInt < 301) ∧ ((w6.2.2 61 3 = some 62) ∧ ((0 ≤ as.toInt ∧ as.toInt < 501) ∧ ((0 ≤ (w6.1 77 as.toInt.toNat).toInt ∧ (w6.1 77 as.toInt.toNat).toInt < 301) ∧ (((w6.1 66 ((w6.1 77 as.toInt.toNat).toInt.toNat)).toInt ≤ (w6.1 65 ((w6.1 77 as.toInt.toNat).toInt.toNat)).toInt → (p_Ru_beginPlain w6 as (v.1 63 ((v.1 77 as.toInt.toNat).toInt.toNat)) Qc)) ∧ (¬ ((w6.1 66 ((w6.1 77 as.toInt.toNat).toInt.toNat)).toInt ≤ (w6.1 65 ((w6.1 77 as.toInt.toNat).toInt.toNat)).toInt) → (p_Ru_beginReckoned w6 as (v.1 63 ((v.1 77 as.toInt.toNat).toInt.toNat)) Qc))))))))))))) (hm : p_Mo_begin w am Qm) : (∃ (ac : Int32) (v' w' : MW), Qc ac v' ∧ Qm 1 w' ∧ BgO GoW ns nm ks off k c s m d v w v' w' ac) ∨ (∃ v' w', Qc 0 v' ∧ Qm 0 w' ∧ BgF GoW ns nm ks off v w v' w') := by
  have sl0 := sl
  obtain ⟨as', am', ec, hd, hS, hL, sm, hp, on⟩ := sl
  have st := hW.2.2.1
  have stc := st.2.1 c d hd
  have cn : (v.1 77 s).toInt.toNat = c := by omega
  have ly := st.2.2.2.2.2.1
  rcases bg_h hG hW hc hm (by omega) (by omega) (by omega) ec hd (Or.inl hS) with ⟨v', w', a1, a2, a3, a4, a5, a6⟩ | ⟨v1, w1, K, nd, o, a1, a2, eK, end1, eo, W1, F1, G1, u19⟩
  · exact Or.inr ⟨v', w', a1.1 (by decide), a2, a3, a4, (FR.refl lfC v).tr a5 rfl, (FR.refl lfM w).tr a6 rfl, le19 a5 rfl⟩
  · have P1 : PoL false GoW ns nm ks off v w v1 w1 s m := pol_i W1 ((FR.refl lrC v).tr F1 rfl) (agr_f F1 G1 rfl rfl _ _) (agr_f F1 G1 rfl rfl _ _) ⟨le_s u19, sgr_f G1 rfl⟩
    have on1 : (v1.1 61 4).toInt = 0 := by rw [(F1 61 4 rfl).1]; exact on
    have sl1 := sml_p P1 on1 sl0
    have b1 := (a1.2 (by decide)).2.2.2.2.2.2
    have e7 : v1.1 77 s = v.1 77 s := (F1 77 s rfl).1
    rw [as', e7, cn] at b1
    rw [← (ly.2.2 s (by omega)).1] at a2
    have st1 := W1.2.2.1.2.1 c d hd
    by_cases hx : nxp d.1 = 0
    · have rg := st1.2.2.2 (by rw [own_s hS]; decide)
      have le : (v1.1 66 c).toInt ≤ (v1.1 65 c).toInt := by
        rcases rg with ⟨_, z⟩ | ⟨_, _, _, _, _, _, _, _, z⟩
        · omega
        · exact absurd hx z
      have b2 := b1.1 le
      have o0 := eo.mpr hx
      have fin : ∃ (ac : Int32) (v' w' : MW), Qc ac v' ∧ Qm 1 w' ∧ BgO GoW ns nm ks off k c s m d v1 w1 v' w' ac := by
        rcases k_cs (Or.inl hS) with e | e | e | e | e | e | e | e | e | e | e | e | e | e
        · rw [e] at hx; exact absurd hx (by decide)
        · rw [e] at hx; exact absurd hx (by decide)
        · rw [e] at hx; exact absurd hx (by decide)
        · rw [e] at hx; exact absurd hx (by decide)
        · exact bg_16 hG W1 sl1 e stc.1 b2 eK o0 a2
        · rw [e] at hx; exact absurd hx (by decide)
        · rw [e] at hx; exact absurd hx (by decide)
        · rw [e] at hx; exact absurd hx (by decide)
        · exact bg_22 hG W1 sl1 e stc.1 b2 eK o0 a2
        · exact bg_23 hG W1 sl1 e stc.1 b2 eK o0 a2
        · exact bg_24 hG W1 sl1 e stc.1 b2 eK o0 a2
        · exact bg_25 hG W1 sl1 e stc.1 b2 eK o0 a2
        · exact bg_26 hG hP W1 sl1 e stc.1 b2 eK e7.symm end1 o0 a2
        · rw [e] at hS; exact absurd hS (by decide)
      obtain ⟨ac, v', w', z1, z2, z3⟩ := fin
      exact Or.inl ⟨ac, v', w', z1, z2, bgo_t P1 (le_s u19) z3⟩
    · have rg := st1.2.2.2 (by rw [own_s hS]; decide)
      have le : ¬ (v1.1 66 c).toInt ≤ (v1.1 65 c).toInt := by
        rcases rg with ⟨z, _⟩ | ⟨e, lo, _, _, z1, z2, ⟨kk, z3⟩, _, _⟩
        · exact absurd z hx
        · have := trx_le z3
          omega
      have b2 := b1.2 le
      have o0 : ¬ o.toInt = 0 := fun z => hx (eo.mp z)
      rcases bg_r (k := k) (Qc := Qc) (Qm := Qm) hG W1 sl1 hx stc.1 b2 eK e7.symm end1 o0 a2 with ⟨ac, v', w', z1, z2, z3⟩ | ⟨v', w', z1, z2, z3⟩
      · exact Or.inl ⟨ac, v', w', z1, z2, bgo_t P1 (le_s u19) z3⟩
      · exact Or.inr ⟨v', w', z1, z2, z3.1, z3.2.1, ((FR.refl lfC v).tr F1 rfl).tr z3.2.2.1 rfl, ((FR.refl lfM w).tr G1 rfl).tr z3.2.2.2.1 rfl, le_s2 u19 z3.2.2.2.2⟩
