/-! fill on both sides, in the world as it lies -/
theorem s3_ge {x y z : Bool} {w : MW} {k : Nat} (h : 127 ≤ k) : (S3 x y z w).1 k = w.1 k ∧ (S3 x y z w).2.1 k = w.2.1 k := S3_at (sP_big (by omega)) (sQ_big (by omega)) (sN_big (by omega))
theorem mdj_e {u v : MW} (h : MdJ u) (e1 : v.1 = u.1) (e2 : v.2.1 = u.2.1) : MdJ v := by
  obtain ⟨a, b, c⟩ := u
  obtain ⟨a', b', c'⟩ := v
  have e1' : a' = a := e1
  have e2' : b' = b := e2
  subst e1'
  subst e2'
  have hB : BND (a', b', c') := bnd_e h.1.1 rfl
  have h1 : TEx (a', b', c') := h.1.2.1
  have h2 : TSx (a', b', c') := h.1.2.2.1
  have P := h.1.2.2.2.1
  have p1 : DR (a', b', c') := fun k h0 h1 => dv_mv (w := (a', b', c)) rfl (fun j _ _ => ⟨rfl, rfl, rfl⟩) (P.1 k h0 h1)
  have p2 : FT (a', b', c') := P.2.1
  have p3 : HW (a', b', c') := P.2.2.1
  have p4 : MC (a', b', c') := P.2.2.2.1
  have p5 : MZ (a', b', c') := P.2.2.2.2.1
  have p6 : RP (a', b', c') := P.2.2.2.2.2.1
  have p7 : SZ (a', b', c') := P.2.2.2.2.2.2
  have h3 : PF (a', b', c') := ⟨p1, p2, p3, p4, p5, p6, p7⟩
  have h4 : MdL (a', b', c') := h.1.2.2.2.2
  have h5 : TLx (a', b', c') := h.2.1
  have h6 : VG (a', b', c') := h.2.2
  exact ⟨⟨hB, h1, h2, h3, h4⟩, h5, h6⟩
theorem mdj_s3 {x y z : Bool} {w : MW} (h : MdJ w) (hB : BND (S3 x y z w)) : MdJ (S3 x y z w) := mdj_e (u := ((S3 x y z w).1, (S3 x y z w).2.1, w.2.2)) (MdJ_fr (l := lC) (w := w) (fun k j q => by
  have g := lC_ge q
  have t := s3_ge (x := x) (y := y) (z := z) (w := w) g
  exact ⟨congrFun t.1 j, congrFun t.2 j, rfl⟩) (bnd_e hB rfl) (by decide +kernel) h) rfl rfl
theorem hrq_mx {x y z : Bool} {w : MW} : HRq (mx (S3 x y z w) w) ↔ HRq (S3 x y z w) := by
  have e : ∀ k j, (mx (S3 x y z w) w).1 k j = (S3 x y z w).1 k j := fun k j => by
    show (if k < 127 then (S3 x y z w).1 k j else w.1 k j) = (S3 x y z w).1 k j
    by_cases q : k < 127
    · rw [if_pos q]
    · rw [if_neg q]
      exact (congrFun (s3_ge (x := x) (y := y) (z := z) (w := w) (by omega)).1 j).symm
  exact ⟨HRq_ag (fun k j _ => (e k j).symm) (fun k j _ => (e k j).symm) (fun k j _ => (e k j).symm) (fun k j _ => (e k j).symm) (fun j => rfl), HRq_ag (fun k j _ => e k j) (fun k j _ => e k j) (fun k j _ => e k j) (fun k j _ => e k j) (fun j => rfl)⟩
def lflC : Pl := l_Bh_fill ++ lR
def lflM : Pl := lC ++ l_Mo_fill
theorem zq_fill {T : Int} {w : MW} {a : Int32} {b : Int32} {c : Int64} (h : Zq T w) : Tc 2000 5 [.ref 0, .int a, .int b, .long c] w (RZ fun r w1 => Tc 2000 84 [.ref 127, .int a, .int b, .long c] w1 (RZ fun r' w2 => Zq T w2 ∧ r = r')) := by
  obtain ⟨x, y, z, hc, hM, ns, nm, ks, zr⟩ := h
  have hMu : MdJ (S3 x y z w) := mdj_s3 hM hc.1
  have P := fl_pair (a := a) (b := b) (c := c) hc hMu (hrq_mx.mp zr.1.1) (fun u1 c1 F => MdJ_fr (FR.tr (FR.refl lC _) F rfl) c1.1 (by decide +kernel) hMu)
  refine tc_mono (tc_3 (a := x) (b := y) (c := z) (w := w) rfl rfl rfl rz_n (dm_Bh_fill (d := 1996) P)) (fun vv w1 hv => ?_)
  obtain ⟨r, e, zz, ⟨c1, F1⟩, P1⟩ := hv
  have m1 := mdj_cls hM c1.1 F1 rfl
  have G := fr_cls F1 rfl
  have t1 : Tc 2000 84 [.ref 127, .int a, .int b, .long c] w1 (RZ fun r' w2 => (MdJ (S3 x y z w2) ∧ FR l_Mo_fill (S3 x y z w1) (S3 x y z w2)) ∧ r = r' ∧ HRq (S3 x y z w2)) := tc_3 (a := x) (b := y) (c := z) (w := w1) rfl rfl rfl rz_n (dm_Mo_fill (d := 1996) P1)
  refine ⟨r, e, zz, tc_mono (rz_and t1 (dm_Mo_fill (d := 1996) (w := w1) (Q := fun r' w2 => MdJ w2 ∧ FR l_Mo_fill w1 w2) (mf_fill m1 (fun r' w2 h2 hF => ⟨h2, hF⟩)))) (fun v2 w2 hv2 => ?_)⟩
  obtain ⟨r', e', zz2, ⟨_, er, hr2⟩, n2, F2⟩ := hv2
  have c2 := ci_ref c1 n2 F2 rfl
  have FF : FR lflC (S3 x y z w) (S3 x y z w2) := ((FR.refl lflC _).tr F1 (by decide +kernel)).tr (fr_mod F2 rfl) (by decide +kernel)
  have GG : FR lflM w w2 := ((FR.refl lflM _).tr G (by decide +kernel)).tr F2 (by decide +kernel)
  obtain ⟨hr, ha, rq, sc, sm, ss, wt, pg⟩ := zr.1
  exact ⟨r', e', zz2, ⟨x, y, z, c2, n2, ns, nm, ks, zr_k zr ⟨hrq_mx.mpr hr2, hac_f ha FF GG (by decide +kernel) (by decide +kernel), rwq_f rq FF GG (by decide +kernel) (by decide +kernel), svc_ci c2, svm_mj n2, ssr_f ss FF GG (by decide +kernel) (by decide +kernel), wtr_f wt FF GG (by decide +kernel) (by decide +kernel), pgq_f pg FF GG (by decide +kernel) (by decide +kernel)⟩ c2.1 n2.1.1 FF GG (by decide +kernel) (by decide +kernel)⟩, er⟩
