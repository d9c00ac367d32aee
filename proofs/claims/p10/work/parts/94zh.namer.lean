/-! names of both sides between two calls -/
def NR (w : MW) : Prop := ∃ x y z, CI (S3 x y z w) ∧ MdJ w ∧ ∃ (nm : List Nm) (ts ks : List Nat), ClN (S3 x y z w) nm ks ∧ RlM w nm ∧ TpW w ts ks
def LKn (w : MW) : Prop := LKt w ∧ NR w
theorem cln_eq {u u' : MW} {nm : List Nm} {ks : List Nat} (h : ClN u nm ks) (e : ∀ k j : Nat, 62 ≤ k → k ≤ 76 → u'.1 k j = u.1 k j) : ClN u' nm ks :=
  ⟨by rw [e 62 10 (by omega) (by omega)]; exact h.1, h.2.1, fun i x hx => by rw [e 71 i (by omega) (by omega)]; exact h.2.2.1 i x hx, by rw [e 62 2 (by omega) (by omega)]; exact h.2.2.2⟩
theorem cln_of {u : MW} {nm : List Nm} {ks : List Nat} (h : NmC u nm) (o : (u.1 108 2).toInt < 0 ↔ ks = []) : ClN (sw sN u) nm ks := ⟨h.1, h.2.1, fun i x hx => (h.2.2 i x hx).2.1, o⟩
theorem ci_61 {u : MW} (h : CI u) : u.2.2 61 3 = some 62 := h.2.1.2.2.2.2.2.2.2.1
theorem can_keepN {x y z : Bool} {w w1 : MW} (h : CIs (S3 x y z w1)) (h61 : (S3 x y z w).2.2 61 3 = some 62) (sc : sameN (S3 x y z w) (S3 x y z w1)) : ∃ x' y' z', CI (S3 x' y' z' w1) ∧ ∀ k j : Nat, 62 ≤ k → k ≤ 76 → (S3 x' y' z' w1).1 k j = (S3 x y z w).1 k j := by
  rcases h with h | h | h | h
  · exact ⟨x, y, z, h, sc.1⟩
  · refine ⟨!x, y, z, by rw [← S3_P]; exact h, fun k j k1 k2 => ?_⟩
    rw [← S3_P]
    show (S3 x y z w1).1 (sP k) j = _
    have e : sP k = k := by
      unfold sP
      rw [if_neg (by omega), if_neg (by omega)]
    rw [e]
    exact sc.1 k j k1 k2
  · refine ⟨x, !y, z, by rw [← S3_Q]; exact h, fun k j k1 k2 => ?_⟩
    rw [← S3_Q]
    show (S3 x y z w1).1 (sQ k) j = _
    have e : sQ k = k := by
      unfold sQ
      rw [if_neg (by omega), if_neg (by omega)]
    rw [e]
    exact sc.1 k j k1 k2
  · have t : Option.map sN ((S3 x y z w1).2.2 61 3) = some 62 := ci_61 h
    rw [sc.2, h61] at t
    exact absurd t (by decide)
theorem can_takeN {u : MW} (h : CIs u) (h61 : u.2.2 61 3 = some 108) : CI (sw sN u) := by
  rcases h with h | h | h | h
  · have t := ci_61 h
    rw [h61] at t
    exact absurd t (by decide)
  · have t : Option.map sP (u.2.2 61 3) = some 62 := ci_61 h
    rw [h61] at t
    exact absurd t (by decide)
  · have t : Option.map sQ (u.2.2 61 3) = some 62 := ci_61 h
    rw [h61] at t
    exact absurd t (by decide)
  · exact h
set_option maxRecDepth 20000 in
theorem nr_end {w : MW} {a : Int32} {b : Int32} (h : NR w) (hk : KTx w) (hy : TPy w) (r1 : w.1 1 1 = w.1 127 1) : Tc 2000 1 [.ref 0, .int a, .int b] w (RI fun r w1 => Tc 2000 37 [.ref 127, .int a, .int b] w1 (RI fun r' w2 => NR w2 ∧ True)) := by
  obtain ⟨x, y, z, hc, hM, nm, ts, ks, n1, n2, n3⟩ := h
  have K3 : KWc (S3 x y z w) := fun i k hk' => by rw [(S3_at (k := 90) rfl rfl rfl).2]; exact hk.1 i k hk'
  refine tc_mono (tc_3 (a := x) (b := y) (c := z) (w := w) rfl rfl rfl ri_n (ri_and (dm2_Bh_end (d := 1195) (w := S3 x y z w) (Q := fun r w' => ECn (S3 x y z w) a b w') (c3_end hc K3 (fun r w' q => q))) (dm_Bh_end (d := 1195) (w := S3 x y z w) (Q := fun r w' => CIs w' ∧ FR ((1, some 1) :: lBE) (S3 x y z w) w') (ci_end hc (fun r w' h' hF => ⟨h', FR.tr (FR.I (FR.refl _ _) rfl : FR ((1, some 1) :: lBE) (S3 x y z w) (sI (S3 x y z w) 1 1 0)) hF rfl⟩))))) (fun v w1 hv => ?_)
  obtain ⟨r, e, ec, q1, q2⟩ := hv
  have G := fr_cls q2 rfl
  have hM1 := mdj_cls hM (cis_bnd q1) q2 rfl
  have s := s3c x y z w
  have eT : ∀ n, CTx (S3 x y z w) n = CTx w n := fun n => by
    funext p
    unfold CTx
    rw [s.2.2.1]
  unfold ECn at ec
  rw [s.2.1, eT] at ec
  have e1 : w1.1 127 1 = w.1 1 1 := ((G 127 1 rfl).1).trans r1.symm
  have e128 : ∀ j, w1.1 128 j = w.1 128 j := fun j => (G 128 j rfl).1
  have z1 : (w1.1 129 1).toInt = 0 := by rw [(G 129 1 rfl).1]; exact hk.2
  have iff : fitE (w.1 1 1).toInt a b → (txO (CTx w b.toInt) b.toInt ↔ txO (MTx w1 b.toInt) b.toInt) := fun ft => tx_iff hy ft.2.2.2.2 e128
  have bf : (fitE (w1.1 127 1).toInt a b ∧ txO (MTx w1 b.toInt) b.toInt) → (∀ p : Nat, (p : Int) < b.toInt → (w1.1 128 p).toInt = CTx w b.toInt p) ∧ ∀ p : Int, ¬ (0 ≤ p ∧ p < b.toInt) → CTx w b.toInt p = -1 := fun o => by
    rw [e1] at o
    have okc := (iff o.1).mpr o.2
    refine ⟨fun p hp => ?_, fun p hp => by unfold CTx; exact if_neg hp⟩
    have t := tx_bt (w := w) (w1 := w1) (n := b.toInt) hy o.1.2.2.2.2 e128 (p : Int) (by omega) hp
    have ob := okc (p : Int) (by omega) hp
    rw [if_pos (by omega)] at t
    rw [← t]
    unfold MTx
    rw [if_pos ⟨by omega, hp⟩]
    rfl
  have M1 : RlM w1 nm := rlm_s n2 (sm_fr G rfl)
  have T1 : TpW w1 ts ks := tpw_s n3 (sm_fr G rfl)
  refine ⟨r, e, ?_⟩
  refine tc_mono (ri_and (dm2_Mo_end (d := 1192) (w := w1) (Q := fun r' w2 => EMn w1 (CTx w b.toInt) a b w2) (m3_end hM1 z1 bf (fun r' w2 q => q))) (dm_Mo_end (d := 1192) (w := w1) (Q := fun r' w2 => MdJ w2 ∧ FR ((127, some 1) :: lme) w1 w2) (mf_end (a := a) (b := b) hM1 (fun r' w2 h2 hF => ⟨h2, FR.tr (FR.I (FR.refl _ _) rfl : FR ((127, some 1) :: lme) w1 (sI w1 127 1 0)) hF rfl⟩)))) (fun v2 w2 hv2 => ?_)
  obtain ⟨r', e', em, m1, m2⟩ := hv2
  refine ⟨r', e', ?_, trivial⟩
  unfold EMn at em
  rw [e1] at em
  rcases ec with ⟨no, sc⟩ | ⟨ok, ec⟩
  · obtain ⟨x', y', z', hc', kk⟩ := can_keepN q1 (ci_61 hc) sc
    have G2 := fr_mod (a := x') (b := y') (c := z') m2 rfl
    have sr : sameM w1 w2 := by
      rcases em with ⟨_, s⟩ | ⟨ok', _⟩
      · exact s
      · exact absurd ⟨⟨ok'.1.1, (iff ok'.1.1).mpr ok'.1.2⟩, ok'.2⟩ no
    exact ⟨x', y', z', ci_ref hc' m1 m2 rfl, m1, nm, ts, ks, cln_fr (cln_eq n1 kk) G2 rfl, rlm_s M1 sr, tpw_s T1 sr⟩
  · have em' : EM3 w1 (CTx w b.toInt) b.toInt w2 := by
      rcases em with ⟨no, _⟩ | ⟨_, q⟩
      · exact absurd ⟨⟨ok.1.1, (iff ok.1.1).mp ok.1.2⟩, ok.2⟩ no
      · exact q
    rcases ec with ⟨e0, e0p, pg, sc⟩ | ⟨m, ns, nm', ks', pg, nn, oo, r61⟩
    · have hf : HFj w1 w2 := by
        rcases em' with ⟨x', pg', k⟩ | ⟨_, _, _, _, _, pg', _⟩
        · have d : e0 = x'.toInt := congrArg (fun r : Bool × Int × Int × List Nod × List Nm × List Nat => r.2.1) (PGM_det pg pg')
          exact k (by omega)
        · exact absurd (show false = true from congrArg Prod.fst (PGM_det pg pg')) (by decide)
      obtain ⟨x', y', z', hc', kk⟩ := can_keepN q1 (ci_61 hc) sc
      have G2 := fr_mod (a := x') (b := y') (c := z') m2 rfl
      exact ⟨x', y', z', ci_ref hc' m1 m2 rfl, m1, nm, ts, ks, cln_fr (cln_eq n1 kk) G2 rfl, rlm_hf hM1.1.1 M1 hf, tpw_hf hM1.1.1 T1 hf⟩
    · rcases em' with ⟨_, pg', _⟩ | ⟨m2', ns2, nm2, ks2, ts2, pg', R', T'⟩
      · exact absurd (show true = false from congrArg Prod.fst (PGM_det pg pg')) (by decide)
      · have d := PGM_det pg pg'
        have d1 : nm' = nm2 := congrArg (fun r : Bool × Int × Int × List Nod × List Nm × List Nat => r.2.2.2.2.1) d
        have d2 : ks' = ks2 := congrArg (fun r : Bool × Int × Int × List Nod × List Nm × List Nat => r.2.2.2.2.2) d
        have hc' := can_takeN q1 r61
        have C := cln_of nn oo
        rw [S3_N] at hc' C
        have G2 := fr_mod (a := x) (b := y) (c := !z) m2 rfl
        rw [← d1] at R'
        rw [← d2] at T'
        exact ⟨x, y, !z, ci_ref hc' m1 m2 rfl, m1, nm', ts2, ks', cln_fr C G2 rfl, R', T'⟩
theorem pn_end {w : MW} {a : Int32} {b : Int32} (h : LKn w) : Tc 2000 1 [.ref 0, .int a, .int b] w (RI fun r w1 => Tc 2000 37 [.ref 127, .int a, .int b] w1 (RI fun r' w2 => LKn w2 ∧ r = r')) := by
  refine tc_mono (pair_ri (A := LKt) (B := NR) (C := LKn) (E := fun (r r' : Int32) => r = r') (D := fun _ _ => True) (pt_end h.1) (nr_end h.2 h.1.2 h.1.1.1.2.1 h.1.1.1.1.2.1) (fun _ p q => ⟨p, q⟩)) (fun v w1 hv => ?_)
  obtain ⟨r, e, q1⟩ := hv
  refine ⟨r, e, tc_mono q1 (fun v2 w2 hv2 => ?_)⟩
  obtain ⟨r', e', q⟩ := hv2
  exact ⟨r', e', q.1, q.2.1⟩
