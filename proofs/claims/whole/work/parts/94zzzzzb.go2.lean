/-! a run goes on: what has begun is looked at again -/
/-- a ramp goes on -/
theorem g_14 {GoW : MW → MW → Prop} {ns : List Nod} {nm : List Nm} {ks : List Nat} {off : Int} {k c s m : Nat} {d : Nod} {as am : Int32} {v w : MW} {Qc Qm : Int32 → MW → Prop} (hG : GoI GoW) (hW : WS GoW ns nm ks off v w) (sl : SmL ns v c s m d as am) (k14 : d.1 = 14) (hD : Dy ns off v w (k + 1) c s) (Y : BdY (Dy ns off v w k) ns off v w c s d.1) (si : siM w s < (w.1 127 74).toInt ∧ 0 ≤ siM w s) (hc : p_Ru_rampOn v as ((v.2.1 61 17) - (v.2.1 82 s)) Qc) (hm : p_Mo_goRamp w am Qm) : ∃ (v' w' : MW) (ac rm : Int32), Qc ac v' ∧ Qm rm w' ∧ PoL false GoW ns nm ks off v w v' w' s m ∧ ((ac.toInt = 1 ∧ rm.toInt = 1) ∨ (ac.toInt = 0 ∧ rm.toInt = 0 ∧ Dy ns off v' w' (k + 1) c s)) ∧ (v'.1 61 4).toInt = 0 ∧ v'.1 61 19 = v.1 61 19 := by
  obtain ⟨as', am', ec, hd, hS, hL, sm, hp, on⟩ := sl
  have st := hW.2.2.1
  have lys := st.2.2.2.2.2.1.2.2 s (by omega)
  have stc := st.2.1 c d hd
  have cl := (List.getElem?_eq_some_iff.mp hd).1
  have l3 := st.2.2.1.1
  have cn := hW.2.2.2.2.2
  have cnn : (v.1 77 s).toInt.toNat = c := by omega
  have n0 := st.2.2.2.1.2.2.2.1 c d hd (Or.inr (Or.inr (Or.inl k14)))
  have n4 := st.2.2.2.2.1.2
  obtain ⟨y1, y2, y3, y4, y5, y6⟩ := Y.2.2.2.2.1 k14
  have d0 : (w.1 211 s).toInt = 0 := y1
  have w17 := cn.2.2.2.2.1
  have w74 := cn.2.2.2.2.2.1
  have sw : siM w s = (w.1 214 s).toInt := rfl
  have o74 := cn.2.2.2.2.2.2.1
  have gone : (Int32.toInt64 ((w.1 127 74) - (w.1 214 s))).toInt = (w.1 127 74).toInt - (w.1 214 s).toInt := by
    rw [nb_i2l, ti_sub2 (Eq.refl (w.1 127 74).toInt) (Eq.refl (w.1 214 s).toInt) (by omega) (by omega)]
  have gc : (v.2.1 61 17) - (v.2.1 82 s) = Int32.toInt64 ((w.1 127 74) - (w.1 214 s)) := Int64.toInt_inj.mp (by
    rw [li_sub (Eq.refl (v.2.1 61 17).toInt) (Eq.refl (v.2.1 82 s).toInt) (by omega) (by omega), gone]
    omega)
  rw [gc] at hc
  have ndw := ndx st.2.2.1 (show (w.1 207 s).toInt = (c : Int) by rw [← lys.1]; exact ec) (by omega)
  have enm := nm_x st.2.2.1 hd rfl (by omega) (by omega) (by omega) (by omega)
  rw [p_Mo_goRamp.eq_1, am', p_Tx_node1.eq_1, ndw, enm] at hm
  have m1 := (hm.2.2.2.2.2 (fun y => y d0)).2
  rw [p_Ru_rampOn.eq_1, as', y4, y5, y6] at hc
  generalize hg : Int32.toInt64 ((w.1 127 74) - (w.1 214 s)) = g at *
  have cm := nb_cmp g (w.2.1 215 s)
  have cm0 := nb_cmp g (0 : Int64)
  have cm1 := nb_cmp (w.2.1 215 s) (1 : Int64)
  have l0 : (0 : Int64).toInt = 0 := by decide
  have l1 : (1 : Int64).toInt = 1 := by decide
  -- a value is set on both sides
  have both : ∀ x : Int64, PoL false GoW ns nm ks off v w (sJ v 74 d.2.1.toNat x) (sJ w 206 d.2.1.toNat x) s m ∧ Dy ns off (sJ v 74 d.2.1.toNat x) (sJ w 206 d.2.1.toNat x) (k + 1) c s := fun x => by
    have F : FR [(74, none)] v (sJ v 74 d.2.1.toNat x) := FR.J (FR.refl _ v) rfl
    have G : FR [(206, none)] w (sJ w 206 d.2.1.toNat x) := FR.J (FR.refl _ w) rfl
    refine ⟨pol_b hG hW (bnd_e hW.2.1.1 rfl) (bnd_e hW.2.1.2 rfl) ((FR.refl lrC v).tr F rfl) ((FR.refl lrM w).tr G rfl) (vlr_s hW.2.2.2.1) (alr_f hW.2.2.2.2.1 F G rfl rfl) (cnr_f cn F G rfl rfl cn.2.2.2.1) (a6_f (a6_0 v s m) F rfl) (fun j hj => a8_f (a8_0 w s) G rfl j (by omega)) (mnr_f F G rfl rfl), ?_⟩
    exact dy_f (k + 1) c s m sm hL (agr_f F G rfl rfl _ _) hD
  have ea : ∀ u : MW, u.1 = v.1 → (u.1 64 ((v.1 77 s).toInt.toNat)).toInt.toNat = d.2.1.toNat := fun u eu => by
    rw [eu, cnn, stc.2.1]
  by_cases z : 0 ≤ (lg_cmp g (w.2.1 215 s)).toInt
  · have c1 := sv_x ((hc.2.1 z).2.2)
    rw [ea v rfl] at c1
    have m2 := (m1.2 (by omega)).2.2
    exact ⟨_, _, 1, 1, c1, m2, (both _).1, Or.inl ⟨by decide, by decide⟩, on, rfl⟩
  · have c1 := ((hc.2.2 z).2.1 (by omega)).2.2.2.2.2
    have m2 := (m1.1 (by omega)).2 (by omega)
    have c2 := flo_x (by omega) c1
    have m3 := m2.2.2.2.2.2.2
    by_cases t : 0 ≤ (lg_cmp ((w.2.1 216 s - w.2.1 217 s) * g - (w.2.1 216 s - w.2.1 217 s) * g / w.2.1 215 s * w.2.1 215 s) (0 : Int64)).toInt
    · have c3 := sv_x (c2.1 t)
      rw [ea v rfl] at c3
      have m4 := m3.1 t
      rw [q_Mo_goRamp_127.eq_1, am', enm] at m4
      have m5 := m4.2.2
      rw [show ∀ q : Int64, q - 0 = q from fun q => by simp] at m5
      exact ⟨_, _, 0, 0, c3, m5, (both _).1, Or.inr ⟨by decide, by decide, (both _).2⟩, on, rfl⟩
    · have c3 := sv_x (c2.2 t)
      rw [ea v rfl] at c3
      have m4 := m3.2 t
      rw [q_Mo_goRamp_127.eq_1, am', enm] at m4
      exact ⟨_, _, 0, 0, c3, m4.2.2, (both _).1, Or.inr ⟨by decide, by decide, (both _).2⟩, on, rfl⟩
/-- until is reckoned again -/
theorem g_13 {GoW : MW → MW → Prop} {ns : List Nod} {nm : List Nm} {ks : List Nat} {off : Int} {k c s m : Nat} {d : Nod} {as am : Int32} {v w : MW} {Qc Qm : Int32 → MW → Prop} (hG : GoI GoW) (hW : WS GoW ns nm ks off v w) (sl : SmL ns v c s m d as am) (k13 : d.1 = 13) (hD : Dy ns off v w (k + 1) c s) (Y : BdY (Dy ns off v w k) ns off v w c s d.1) (s1 : stg v s = 1) (b1 : bgM w s = 1) (si : siM w s < (w.1 127 74).toInt) (hc : p_Ru_reckon v (v.1 65 c) (v.1 66 c) (fun r10 w10 => (((lg_cmp r10 (0 : Int64)).toInt = 0 → (Qc 0 w10)) ∧ (¬ ((lg_cmp r10 (0 : Int64)).toInt = 0) → (Qc 1 w10))))) (hm : p_Mo_goUntil w am Qm) : ∃ (v' w' : MW) (ac rm : Int32), Qc ac v' ∧ Qm rm w' ∧ PoL false GoW ns nm ks off v w v' w' s m ∧ ((ac.toInt = 1 ∧ rm.toInt = 1 ∧ (v'.1 61 4).toInt = 0) ∨ (ac.toInt = 0 ∧ rm.toInt = 0 ∧ (v'.1 61 4).toInt = 0 ∧ Dy ns off v' w' (k + 1) c s) ∨ (ac.toInt = 0 ∧ rm.toInt = 2 ∧ (v'.1 61 4).toInt = 2 ∧ Dy ns off v' w' (k + 1) c s)) ∧ v'.1 61 19 = v.1 61 19 := by
  obtain ⟨as', am', ec, hd, hS, hL, sm, hp, on⟩ := sl
  have st := hW.2.2.1
  have lys := st.2.2.2.2.2.1.2.2 s (by omega)
  have stc := st.2.1 c d hd
  have d0 : (w.1 211 s).toInt = 0 := Y.2.2.2.1 k13
  have sw : siM w s = (w.1 214 s).toInt := rfl
  rw [p_Mo_goUntil.eq_1, am'] at hm
  have m1 := ((hm.2.2 (fun y => y d0)).2.2 (by omega)).2
  rcases stc.2.2.2 (by rw [own_s hS]; decide) with ⟨z, _⟩ | ⟨e, lo, rr, hr, to, fr, TXx, _, _⟩
  · rw [k13] at z
    exact absurd z (by decide)
  obtain ⟨kk, hT⟩ := TXx
  obtain ⟨r1, e1, m2⟩ := kd_x (k := 0) (c := e) (i := c) st.2.2.1 (by rw [← lys.1]; exact ec) hd (by rw [hr]; rfl) (by decide) m1
  rw [p_Mo_reckon.eq_1] at m2
  rcases rk_2 hW hT fr to e1 hc m2 with ⟨x, v1, sk, g1, g2⟩ | ⟨z, v1, x, zl, sk, g1, g2⟩
  · have W1 := ws_s hG hW sk
    have e1 : v1.1 = v.1 := sk.1
    have on1 : (v1.1 61 4).toInt = 0 := by rw [e1]; exact on
    have e19 : v1.1 61 19 = v.1 61 19 := by rw [e1]
    have P1 : PoL false GoW ns nm ks off v w v1 w s m := pol_i W1 (sk_f sk) (agr_f (sk_l sk) (FR.refl [] w) rfl rfl _ _) (agr_f (sk_l sk) (FR.refl [] w) rfl rfl _ _) (mnr_f (sk_l sk) (FR.refl [] w) rfl rfl)
    have D1 : Dy ns off v1 w (k + 1) c s := dy_f (k + 1) c s m sm hL (agr_f (sk_l sk) (FR.refl [] w) rfl rfl _ _) hD
    have g3 := (ib_0 g2 hW.2.2.2.2.2.2.2.2.1).1 (by decide)
    have hP : ∀ b : Int32, PoL false GoW ns nm ks off v1 w v1 (sI w 211 s (vp_nar .boolean b)) s m := fun b => bg_p hG W1 W1.2.1.1 (wbd_211 W1.2.1.2 s (nb_bool b).1 (nb_bool b).2) (FR.refl _ v1) (FR.I (FR.refl _ w) rfl) (a6_0 v1 s m) (fun j hj => a8_I (a8_0 w s) 211 _ j (by omega)) (mnr_f (FR.refl [] v1) (FR.I (FR.refl [(211, none)] w) rfl) rfl rfl)
    by_cases x0 : (lg_cmp x (0 : Int64)).toInt = 0
    · have m3 := ((g3.1 x0).2.2).1 (by rw [sI_same]; exact nb_bool0)
      refine ⟨v1, _, 0, 0, g1.1 x0, m3, pol_t P1 (hP 0), Or.inr (Or.inl ⟨by decide, by decide, on1, ?_⟩), e19⟩
      -- written as it was
      have ew : ∀ j, (sI w 211 s (vp_nar .boolean (0 : Int32))).1 211 j = w.1 211 j := fun j => by
        rw [sI_at]
        by_cases t : j = s
        · rw [if_pos ⟨rfl, t⟩, t]
          exact Int32.toInt_inj.mp (nb_bool0.trans d0.symm)
        · rw [if_neg (fun y => t y.2)]
      have G : FR [(211, none)] w (sI w 211 s (vp_nar .boolean (0 : Int32))) := FR.I (FR.refl _ w) rfl
      refine dy_f (k + 1) c s m sm (by rw [show fiC v1 s = fiC v s by unfold fiC; rw [e1]]; exact lz_g hL (fun j => by rw [e1]) (fun j => by rw [e1]) (fun j => by rw [e1])) (fun j _ _ => ⟨⟨rfl, rfl, rfl, rfl, rfl, rfl, rfl, rfl⟩, (G 210 j rfl).1, ew j, (G 212 j rfl).1, (G 213 j rfl).1, (G 214 j rfl).1, (G 215 j rfl).2.1, (G 216 j rfl).2.1, (G 217 j rfl).2.1⟩) D1
    · have m3 := ((g3.2 x0).2.2).2 (by rw [sI_same]; exact fun t => absurd (nb_bool1.symm.trans t) (by decide))
      exact ⟨v1, _, 1, 1, g1.2 x0, m3, pol_t P1 (hP 1), Or.inl ⟨by decide, by decide, on1⟩, e19⟩
  · have B := ws_bad (z := z) hG hW sk
    have z76 : ¬ ((sI w 127 76 (nI z)).1 127 76).toInt = -1 := by
      rw [sI_same, nI_toInt (by omega)]
      omega
    have g3 := (ib_1 g2 z76).2 (by decide)
    have l0 : (lg_cmp (0 : Int64) (0 : Int64)).toInt = 0 := lg_0.mpr (by decide)
    have A := agr_f (s := 0) (q := 501) B.2.2.1 B.2.2.2 rfl rfl
    have m5 := sml5 hW hp
    exact ⟨_, _, 0, 2, g1.1 l0, g3, pol_i B.1 (fr_lal B.2.2.1) (agr_m A (Nat.zero_le _) (by omega)) (agr_m A (Nat.zero_le _) (Nat.le_refl _)) (mnr_f B.2.2.1 B.2.2.2 rfl rfl), Or.inr (Or.inr ⟨by decide, by decide, B.2.1, dy_f (k + 1) c s m sm hL (agr_m A (Nat.zero_le _) (by omega)) hD⟩), (B.2.2.1 61 19 rfl).1⟩
