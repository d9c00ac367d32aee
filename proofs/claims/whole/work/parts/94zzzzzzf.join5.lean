/-! end on both sides -/
/-- a plant was taken on both sides -/
theorem ze_P {T : Int} {ns : List Nod} {nm : List Nm} {ks : List Nat} {v w v1 w' : MW} {ls : List Ln} (h : ZRr T ns nm ks v w) (hv : CI v) (hu : CI (sw sP v1)) (hw : MdJ w') (pl : PtL ls) (F : CzP v v1 ls) (G : MzP w w' ls) : ZRr T ns nm ks (sw sP v1) w' := by
  obtain ⟨F1, ⟨pd, ix, pn⟩, Z, _, gl⟩ := F
  obtain ⟨G1, pt⟩ := G
  have S := fr_star (σ := sP) (lS := lPs) F1 sP_s
  obtain ⟨⟨hr, ha, rq, sc, sm, ss, wt, pg⟩, BB, vl, al, st, bad, nw, wk, rn⟩ := h
  have ww : sw sP (sw sP v1) = v1 := sw_iv2 sP_sy.1 v1
  have e71 : (sw sP v1).1 7 1 = v.1 7 1 := (F1 7 1 rfl).1
  have now : (sw sP v1).1 7 1 = w'.1 127 78 := by rw [e71, (G1 127 78 rfl).1]; exact al.1
  have ht0 : HTb (mx ((sw sP v1).1, (sw sP v1).2.1, v.2.2) w') := HTb_ag (ag_mx (lc := [(22, none), (24, none), (25, none), (41, none)]) (lm := [(175, none), (176, none), (177, none)]) S G1 (by decide +kernel) (by decide +kernel) lTq (by decide)) hr.2.1
  have ht : HTb (mx (sw sP v1) w') := HTb_ag (fun k j _ => rfl) ht0
  have zc : ZrC (sw sP v1) := Z
  have hr2 : HRq (mx (sw sP v1) w') := hr_new hu.1 hw.1.1 ht now gl pl (by rw [ww]; exact pd) (by rw [ww]; exact ix) (by rw [ww]; exact pn) zc pt
  have hr3 : HRq (mx ((sw sP v1).1, (sw sP v1).2.1, v.2.2) w') := HRq_ag (fun k j _ => rfl) (fun k j _ => rfl) (fun k j _ => rfl) (fun k j _ => rfl) (fun j => rfl) hr2
  have z4 : (sw sP v1).1 61 4 = 4 := Z.2.2.2.2.2.2.2.2.2.2
  have g59 : w'.1 127 59 = 4 := pt.2.2.2.1
  have e17 : (sw sP v1).2.1 61 17 = v.2.1 61 17 := (F1 61 17 rfl).2.1
  refine zr_e (c := v.2.2) ⟨⟨hr3, hac_f ha S G1 (by decide +kernel) (by decide +kernel), rwq_f rq S G1 (by decide +kernel) (by decide +kernel), svc_star hu hv, svm_mj hw, ssr_f ss S G1 (by decide +kernel) (by decide +kernel), wtr_f wt S G1 (by decide +kernel) (by decide +kernel), pgq_f pg S G1 (by decide +kernel) (by decide +kernel)⟩, ⟨bnd_e hu.1 rfl, hw.1.1⟩, vlr_f vl S G1 (by decide +kernel) (by decide +kernel), alr_f al S G1 (by decide +kernel) (by decide +kernel), z4.trans g59.symm, ?_, ?_, ?_, fun z => ?_⟩ hu
  · rw [(G1 127 76 rfl).1]; exact bad
  · show 0 ≤ ((sw sP v1).1 7 1).toInt ∧ ((sw sP v1).1 7 1).toInt ≤ T
    rw [e71]; exact nw
  · show 0 ≤ ((sw sP v1).2.1 61 17).toInt ∧ ((sw sP v1).2.1 61 17).toInt ≤ ((sw sP v1).1 7 1).toInt
    rw [e71, e17]; exact wk
  · have z' : ((sw sP v1).1 61 4).toInt = 0 ∨ ((sw sP v1).1 61 4).toInt = 2 := z
    rw [z4] at z'
    exact absurd z' (by decide)
set_option maxRecDepth 20000 in
/-- END -/
theorem zq_end {T : Int} {w : MW} {a : Int32} {b : Int32} (h : Zq T w) (hk : KTx w) (h7 : (w.1 147 1).toInt = 0) (hy : TPy w) (r1 : w.1 1 1 = w.1 127 1) : Tc 2000 1 [.ref 0, .int a, .int b] w (RI fun _ w1 => Tc 2000 37 [.ref 127, .int a, .int b] w1 (RI fun _ w2 => Zq T w2 ∧ True)) := by
  obtain ⟨x, y, z, hc, hM, ns, nm, ks, zr⟩ := h
  have K3 : KWc (S3 x y z w) := fun i k hk' => by rw [(S3_at (k := 90) rfl rfl rfl).2]; exact hk.1 i k hk'
  refine tc_mono (tc_3 (a := x) (b := y) (c := z) (w := w) rfl rfl rfl ri_n (ri_and (dm2_Bh_end (d := 1195) (w := S3 x y z w) (Q := fun r w' => EZ (S3 x y z w) a b w') (cz_end hc K3 (fun r w' q => q))) (dm_Bh_end (d := 1195) (w := S3 x y z w) (Q := fun r w' => CIs w' ∧ FR ((1, some 1) :: lBE) (S3 x y z w) w') (ci_end hc (fun r w' h' hF => ⟨h', FR.tr (FR.I (FR.refl _ _) rfl : FR ((1, some 1) :: lBE) (S3 x y z w) (sI (S3 x y z w) 1 1 0)) hF rfl⟩))))) (fun v w1 hv => ?_)
  obtain ⟨r, e, ec, q1, q2⟩ := hv
  have G := fr_cls q2 rfl
  have hM1 := mdj_cls hM (cis_bnd q1) q2 rfl
  have s := s3c x y z w
  have eT : ∀ n, CTx (S3 x y z w) n = CTx w n := fun n => by
    funext p
    unfold CTx
    rw [s.2.2.1]
  unfold EZ at ec
  rw [s.2.1, eT] at ec
  have e1 : w1.1 127 1 = w.1 1 1 := ((G 127 1 rfl).1).trans r1.symm
  have e128 : ∀ j, w1.1 128 j = w.1 128 j := fun j => (G 128 j rfl).1
  have z1 : (w1.1 129 1).toInt = 0 := by rw [(G 129 1 rfl).1]; exact hk.2
  have z7 : (w1.1 147 1).toInt = 0 := by rw [(G 147 1 rfl).1]; exact h7
  have iff : fitE (w.1 1 1).toInt a b → (txO (CTx w b.toInt) b.toInt ↔ txO (MTx w1 b.toInt) b.toInt) := fun ft => tx_iff hy ft.2.2.2.2 e128
  have bf : (fitE (w1.1 127 1).toInt a b ∧ txO (MTx w1 b.toInt) b.toInt) → (∀ p : Nat, (p : Int) < b.toInt → (w1.1 128 p).toInt = CTx w b.toInt p) ∧ ∀ p : Int, ¬ (0 ≤ p ∧ p < b.toInt) → CTx w b.toInt p = -1 := fun o => by
    rw [e1] at o
    have okc := (iff o.1).mpr o.2
    refine ⟨fun p hp => ?_, fun p hp => by unfold CTx; exact if_neg hp⟩
    have t := tx_bt (w := w) (w1 := w1) (n := b.toInt) hy o.1.2.2.2.2 e128 (p : Int) (by omega) hp
    have ob := okc (p : Int) (by omega) hp
    rw [if_pos (by omega)] at t
    rw [← t]
    unfold MTx
    rw [if_pos ⟨by omega, hp⟩]
    rfl
  have zr1 : ZRr T ns nm ks (S3 x y z w) w1 := zr_w zr (FR.refl _ _) G zr.2.1.1 hM1.1.1
  obtain ⟨g0, rs0, h1, h2, h3, h4, h5⟩ := zr1.1.2.2.1
  refine ⟨r, e, ?_⟩
  refine tc_mono (ri_and (dm2_Mo_end (d := 1192) (w := w1) (Q := fun r' w2 => EMz w1 (CTx w b.toInt) g0 rs0 a b w2) (mz_end hM1 z1 z7 h3 bf (fun r' w2 q => q))) (dm_Mo_end (d := 1192) (w := w1) (Q := fun r' w2 => MdJ w2 ∧ FR ((127, some 1) :: lme) w1 w2) (mf_end (a := a) (b := b) hM1 (fun r' w2 h2 hF => ⟨h2, FR.tr (FR.I (FR.refl _ _) rfl : FR ((127, some 1) :: lme) w1 (sI w1 127 1 0)) hF rfl⟩)))) (fun v2 w2 hv2 => ?_)
  obtain ⟨r', e', em, n2, F2⟩ := hv2
  refine ⟨r', e', ?_, trivial⟩
  unfold EMz at em
  rw [e1] at em
  have fin : ∀ x' y' z', CI (S3 x' y' z' w1) → (∃ ns nm ks, ZRr T ns nm ks (S3 x' y' z' w1) w2) → Zq T w2 := fun x' y' z' c1 ⟨ns', nm', ks', zz⟩ => by
    have c2 := ci_ref c1 n2 F2 rfl
    exact ⟨x', y', z', c2, n2, ns', nm', ks', zr_w zz (fr_mod F2 rfl) (FR.refl _ _) c2.1 n2.1.1⟩
  have none : CzN (S3 x y z w) (S3 x y z w1) → MzN w1 w2 g0 rs0 → Zq T w2 := fun c m => by
    have f : FR lzn (S3 x y z w) (S3 x y z w1) := c
    have c1 : CI (S3 x y z w1) := can_0 q1 (((f 7 0 rfl).2.2).trans (ci_7 hc)) (((f 47 3 rfl).2.2).trans (ci_47 hc)) (((f 61 3 rfl).2.2).trans (ci_61 hc))
    exact fin x y z c1 ⟨ns, nm, ks, ze_N zr1 c1 n2 c m h1 h2 h4 h5⟩
  rcases ec with ⟨no, c⟩ | ⟨ok, ec⟩
  · rcases em with ⟨_, m⟩ | ⟨ok', _⟩
    · exact none c m
    · exact absurd ⟨ok'.1, (iff ok'.1).mpr ok'.2⟩ no
  · have em' : MZs w1 a (CTx w b.toInt) b.toInt g0 rs0 w2 := by
      rcases em with ⟨no, _⟩ | ⟨_, q⟩
      · exact absurd ⟨ok.1, (iff ok.1).mp ok.2⟩ no
      · exact q
    rcases ec with ⟨a0, p, ls, ⟨k, hk1⟩, q⟩ | ⟨a1, q⟩ | ⟨a2, q⟩
    · rcases em' with ⟨_, p', ls', ⟨k', hk'⟩, q'⟩ | ⟨z1, _⟩ | ⟨z1, _⟩
      · have ag := tx_ag hy ok.1.2.2.2.2 e128 ok.2
        have hk2 := plr_ag ag k 0 [] _ _ hk1
        have d := plr_det k k' 0 [] _ _ _ _ hk2 hk'
        rw [← d.1, ← d.2] at q'
        rcases q with ⟨p0, c⟩ | ⟨p1, c⟩
        · rcases q' with ⟨_, m⟩ | ⟨p1', _⟩
          · exact none c m
          · omega
        · rcases q' with ⟨p0', _⟩ | ⟨_, m⟩
          · omega
          · have c1 := can_P q1 c.2.2.2.1
            have zz := ze_P zr1 hc c1 n2 (plr_pt k 0 [] _ _ hk1 ptl_0) c m
            rw [S3_P] at c1 zz
            exact fin (!x) y z c1 ⟨ns, nm, ks, zz⟩
      · omega
      · omega
    · rcases em' with ⟨z1, _⟩ | ⟨_, q'⟩ | ⟨z1, _⟩
      · omega
      · rcases q with ⟨rs, ⟨k, hk1⟩, c⟩ | ⟨p, p0, ⟨k, hk1⟩, c⟩
        · rcases q' with ⟨rs', ⟨k', hk'⟩, m⟩ | ⟨p', p0', ⟨k', hk'⟩, m⟩
          · have d := rds_det k k' [] 0 _ _ _ _ hk1 hk'
            rw [← d.2] at m
            have c1 := can_Q q1 c.2.2.2
            have zz := ze_Q zr1 hc c1 n2 (gr_read hk1 c.2.1 (cis_bnd q1)) c m
            rw [S3_Q] at c1 zz
            exact fin x (!y) z c1 ⟨ns, nm, ks, zz⟩
          · have d := rds_det k k' [] 0 _ _ _ _ hk1 hk'
            omega
        · rcases q' with ⟨rs', ⟨k', hk'⟩, m⟩ | ⟨p', p0', ⟨k', hk'⟩, m⟩
          · have d := rds_det k k' [] 0 _ _ _ _ hk1 hk'
            omega
          · exact none c m
      · omega
    · rcases em' with ⟨z1, _⟩ | ⟨z1, _⟩ | ⟨_, q'⟩
      · omega
      · omega
      · rcases q with ⟨p, p0, pg, c⟩ | ⟨m1, ns1, nm1, ks1, pg, c⟩
        · rcases q' with ⟨p', pg', m⟩ | ⟨m1', ns1', nm1', ks1', pg', m⟩
          · have d : p = p' := congrArg (fun r : Bool × Int × Int × List Nod × List Nm × List Nat => r.2.1) (PGM_det pg pg')
            exact none c (m (by omega))
          · exact absurd (show false = true from congrArg Prod.fst (PGM_det pg pg')) (by decide)
        · rcases q' with ⟨p', pg', m⟩ | ⟨m1', ns1', nm1', ks1', pg', m⟩
          · exact absurd (show true = false from congrArg Prod.fst (PGM_det pg pg')) (by decide)
          · have d := PGM_det pg pg'
            have d0 : ns1 = ns1' := congrArg (fun r : Bool × Int × Int × List Nod × List Nm × List Nat => r.2.2.2.1) d
            have d1 : nm1 = nm1' := congrArg (fun r : Bool × Int × Int × List Nod × List Nm × List Nat => r.2.2.2.2.1) d
            have d2 : ks1 = ks1' := congrArg (fun r : Bool × Int × Int × List Nod × List Nm × List Nat => r.2.2.2.2.2) d
            rw [← d0, ← d1, ← d2] at m
            have r61 : (S3 x y z w1).2.2 61 3 = some 108 := by
              obtain ⟨u, _, _, _, fu, ru, _⟩ := c
              exact ((fu 61 3 rfl).2.2).trans ru
            have c1 := can_takeN q1 r61
            have zz := ze_G zr1 hc c1 n2 pg c m
            rw [S3_N] at c1 zz
            exact fin x y (!z) c1 ⟨ns1, nm1, ks1, zz⟩
