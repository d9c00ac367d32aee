/-! end of a text, both sides, every kind -/
def KTx (w : MW) : Prop := KWc w ∧ (w.1 129 1).toInt = 0
def LKt (w : MW) : Prop := LKq w ∧ KTx w
theorem kt_of {l l' : Pl} {w w1 w2 : MW} (h : KTx w) (f : FX l w w1) (m : FR l' w1 w2) (hl : off l [(90, none), (129, some 1)] = true) (hl' : off l' [(90, none), (129, some 1)] = true) : KTx w2 := by
  refine ⟨fun i k hk => ?_, ?_⟩
  · rw [(m 90 i (off_hit hl' rfl)).2.1, (f 90 i rfl rfl rfl (off_hit hl rfl)).2]
    exact h.1 i k hk
  · rw [(m 129 1 (off_hit hl' rfl)).1, (f 129 1 rfl rfl rfl (off_hit hl rfl)).1]
    exact h.2
theorem sub3 (x : Int32) : ((-1 : Int32) - x) - (2 : Int32) = (-3 : Int32) - x := by
  rw [Int32.sub_eq_add_neg, Int32.sub_eq_add_neg, Int32.sub_eq_add_neg, Int32.add_assoc, Int32.add_comm (-x), ← Int32.add_assoc]
  rfl
theorem e2_eq {f : Int → Int} {n : Int} {r r' : Int32} (h : EC2 f n r) (h' : EM2 f n r') : r = r' := by
  rcases h with ⟨x, x0, pg, er⟩ | ⟨m, ns, nm, ks, pg, er⟩
  · rcases h' with ⟨x', pg', er'⟩ | ⟨m', ns', nm', ks', pg', er'⟩
    · have d := PGM_det pg pg'
      have e : x.toInt = x'.toInt := congrArg (fun r : Bool × Int × Int × List Nod × List Nm × List Nat => r.2.1) d
      have e' : x = x' := ti_inj e
      rw [er, er' (by omega), e', sub3]
    · have d := PGM_det pg pg'
      exact absurd (show false = true from congrArg Prod.fst d) (by decide)
  · rcases h' with ⟨x', pg', er'⟩ | ⟨m', ns', nm', ks', pg', er'⟩
    · have d := PGM_det pg pg'
      exact absurd (show true = false from congrArg Prod.fst d) (by decide)
    · have d := PGM_det pg pg'
      have e : m = m' := congrArg (fun r : Bool × Int × Int × List Nod × List Nm × List Nat => r.2.2.1) d
      exact ti_inj (er.trans (e.trans er'.symm))
def EQ2 (w : MW) (a b r : Int32) : Prop := ((fitE (w.1 1 1).toInt a b ∧ txO (CTx w b.toInt) b.toInt) ∧ a.toInt = 2) → EC2 (CTx w b.toInt) b.toInt r
def MQ2 (w : MW) (f : Int → Int) (a b r : Int32) : Prop := ((fitE (w.1 127 1).toInt a b ∧ txO (MTx w b.toInt) b.toInt) ∧ a.toInt = 2) → EM2 f b.toInt r
/-- the plants' answers -/
theorem ep_eq {w w1 w2 : MW} {a b r r' : Int32} (hy : TPy w) (e1 : w1.1 127 1 = w.1 1 1) (e128 : ∀ j, w1.1 128 j = w.1 128 j) (ec : EC w a b r w1) (em : EM w1 a b r' w2) (hn : ¬ ((fitE (w.1 1 1).toInt a b ∧ txO (CTx w b.toInt) b.toInt) ∧ ¬ a.toInt = 0)) : r = r' := by
  unfold EM at em
  rw [e1] at em
  by_cases ft : fitE (w.1 1 1).toInt a b
  · have iff := tx_iff (w := w) (w1 := w1) (n := b.toInt) hy ft.2.2.2.2 e128
    by_cases ok : txO (CTx w b.toInt) b.toInt
    · have okm := iff.mp ok
      have ag := tx_ag hy ft.2.2.2.2 e128 ok
      rcases ec with ⟨n, _⟩ | ⟨_, a0, s⟩ | ⟨_, a0, q, L, ⟨k, hk⟩, ec⟩
      · exact absurd ⟨ft, ok⟩ n
      · exact absurd ⟨⟨ft, ok⟩, a0⟩ hn
      · rcases em with ⟨n, _⟩ | ⟨_, a0', _⟩ | ⟨_, _, q', L', ⟨k', hk'⟩, em⟩
        · exact absurd ⟨ft, okm⟩ n
        · exact absurd a0 a0'
        · have d := plr_det k k' 0 [] _ _ _ _ (plr_ag ag k 0 [] _ _ hk) hk'
          have d1 := d.1
          have d2 := d.2
          rcases ec with ⟨q0, er, _⟩ | ⟨q1, er, _⟩
          · rcases em with ⟨q0', er', _⟩ | ⟨q1', er', _⟩
            · exact ti_inj (by rw [er, er', d1])
            · omega
          · rcases em with ⟨q0', er', _⟩ | ⟨q1', er', _⟩
            · omega
            · exact ti_inj (by rw [er, er', d2])
    · have nm := fun z => ok (iff.mpr z)
      rcases ec with ⟨_, er, _⟩ | ⟨z, _⟩ | ⟨z, _⟩
      · rcases em with ⟨_, er', _⟩ | ⟨z, _⟩ | ⟨z, _⟩
        · rw [er, er']
        · exact absurd z.2 nm
        · exact absurd z.2 nm
      · exact absurd z.2 ok
      · exact absurd z.2 ok
  · rcases ec with ⟨_, er, _⟩ | ⟨z, _⟩ | ⟨z, _⟩
    · rcases em with ⟨_, er', _⟩ | ⟨z, _⟩ | ⟨z, _⟩
      · rw [er, er']
      · exact absurd z.1 ft
      · exact absurd z.1 ft
    · exact absurd z.1 ft
    · exact absurd z.1 ft
set_option maxRecDepth 20000 in
theorem et_end {w : MW} {a : Int32} {b : Int32} (h : LKw w) (hk : KTx w) : Tc 2000 1 [.ref 0, .int a, .int b] w (RI fun r w1 => Tc 2000 37 [.ref 127, .int a, .int b] w1 (RI fun r' w2 => KTx w2 ∧ (((fitE (w.1 1 1).toInt a b ∧ txO (CTx w b.toInt) b.toInt) ∧ a.toInt = 1) ∨ r = r'))) := by
  obtain ⟨⟨⟨⟨x, y, z, hc⟩, hM⟩, r1, r2, hm⟩, hy, hw⟩ := h
  have K3 : KWc (S3 x y z w) := fun i k hk' => by rw [(S3_at (k := 90) rfl rfl rfl).2]; exact hk.1 i k hk'
  refine tc_mono (tc_3 (a := x) (b := y) (c := z) (w := w) rfl rfl rfl ri_n (ri_and (dm_Bh_end (d := 1195) (w := S3 x y z w) (Q := fun r w' => EC (S3 x y z w) a b r w') (cx_end hc (fun r w' q => q))) (ri_and (dm2_Bh_end (d := 1195) (w := S3 x y z w) (Q := fun r w' => EQ2 (S3 x y z w) a b r) (c2_end hc K3 (fun r w' q => q))) (dm_Bh_end (d := 1195) (w := S3 x y z w) (Q := fun r w' => CIs w' ∧ FR ((1, some 1) :: lBE) (S3 x y z w) w') (ci_end hc (fun r w' h' hF => ⟨h', FR.tr (FR.I (FR.refl _ _) rfl : FR ((1, some 1) :: lBE) (S3 x y z w) (sI (S3 x y z w) 1 1 0)) hF rfl⟩)))))) (fun v w1 hv => ?_)
  obtain ⟨r, e, ec, e2, q1, q2⟩ := hv
  have ec := ec_raw ec
  have l1 : LI w1 := li_cls hM q1 q2 rfl
  have f1 := fx_of q2
  have s := s3c x y z w
  have eT : ∀ n, CTx (S3 x y z w) n = CTx w n := fun n => by
    funext p
    unfold CTx
    rw [s.2.2.1]
  unfold EQ2 at e2
  rw [s.2.1, eT] at e2
  have e1 : w1.1 127 1 = w.1 1 1 := ((f1 127 1 rfl rfl rfl rfl).1).trans r1.symm
  have e128 : ∀ j, w1.1 128 j = w.1 128 j := fun j => (f1 128 j rfl rfl rfl rfl).1
  have z1 : (w1.1 129 1).toInt = 0 := by rw [(f1 129 1 rfl rfl rfl rfl).1]; exact hk.2
  have K1 : KWc w1 := fun i k hk' => by rw [(f1 90 i rfl rfl rfl rfl).2]; exact hk.1 i k hk'
  have bf : (fitE (w1.1 127 1).toInt a b ∧ txO (MTx w1 b.toInt) b.toInt) → (∀ p : Nat, (p : Int) < b.toInt → (w1.1 128 p).toInt = CTx w b.toInt p) ∧ ∀ p : Int, ¬ (0 ≤ p ∧ p < b.toInt) → CTx w b.toInt p = -1 := fun o => by
    rw [e1] at o
    have okc := (tx_iff (w := w) (w1 := w1) (n := b.toInt) hy o.1.2.2.2.2 e128).mpr o.2
    refine ⟨fun p hp => ?_, fun p hp => by unfold CTx; exact if_neg hp⟩
    have t := tx_bt (w := w) (w1 := w1) (n := b.toInt) hy o.1.2.2.2.2 e128 (p : Int) (by omega) hp
    have ob := okc (p : Int) (by omega) hp
    rw [if_pos (by omega)] at t
    rw [← t]
    unfold MTx
    rw [if_pos ⟨by omega, hp⟩]
    rfl
  refine ⟨r, e, ?_⟩
  refine tc_mono (ri_and (dm_Mo_end (d := 1192) (w := w1) (Q := fun r' w2 => EM w1 a b r' w2) (mx_end l1.2 (fun r' w2 q => q))) (ri_and (dm2_Mo_end (d := 1192) (w := w1) (Q := fun r' w2 => (w2.1 129 1).toInt = 0 ∧ MQ2 w1 (CTx w b.toInt) a b r') (m2_end l1.2 z1 bf (fun r' w2 q k => ⟨q, k⟩))) (dm_Mo_end (d := 1192) (w := w1) (Q := fun r' w2 => MdJ w2 ∧ FR ((127, some 1) :: lme) w1 w2) (mf_end l1.2 (fun r' w2 h2 hF => ⟨h2, FR.tr (FR.I (FR.refl _ _) rfl : FR ((127, some 1) :: lme) w1 (sI w1 127 1 0)) hF rfl⟩))))) (fun v2 w2 hv2 => ?_)
  obtain ⟨r', e', em, ⟨z2, m2q⟩, m1, m2⟩ := hv2
  refine ⟨r', e', ⟨fun i k hk' => by rw [(m2 90 i rfl).2.1]; exact K1 i k hk', z2⟩, ?_⟩
  by_cases o : (fitE (w.1 1 1).toInt a b ∧ txO (CTx w b.toInt) b.toInt) ∧ ¬ a.toInt = 0
  · by_cases c1 : a.toInt = 1
    · exact Or.inl ⟨o.1, c1⟩
    · right
      have f0 := o.1.1.1
      have f2 := o.1.1.2.1
      have n0 := o.2
      have a2 : a.toInt = 2 := by omega
      have om : fitE (w1.1 127 1).toInt a b ∧ txO (MTx w1 b.toInt) b.toInt := by
        rw [e1]
        exact ⟨o.1.1, (tx_iff (w := w) (w1 := w1) (n := b.toInt) hy o.1.1.2.2.2.2 e128).mp o.1.2⟩
      exact e2_eq (e2 ⟨o.1, a2⟩) (m2q ⟨om, a2⟩)
  · exact Or.inr (ep_eq hy e1 e128 ec em o)
theorem pt_end {w : MW} {a : Int32} {b : Int32} (h : LKt w) : Tc 2000 1 [.ref 0, .int a, .int b] w (RI fun r w1 => Tc 2000 37 [.ref 127, .int a, .int b] w1 (RI fun r' w2 => LKt w2 ∧ r = r')) := by
  refine tc_mono (pair_ri (A := LKq) (B := fun w2 => KTx w2 ∧ LQr w2) (C := LKt) (E := fun (r r' : Int32) => True) (D := fun r r' => (((fitE (w.1 1 1).toInt a b ∧ txO (CTx w b.toInt) b.toInt) ∧ a.toInt = 1) ∨ r = r') ∧ (((fitE (w.1 1 1).toInt a b ∧ txO (CTx w b.toInt) b.toInt) ∧ a.toInt = 1) → r = r')) (pq_end h.1) (pair_ri (A := KTx) (B := LQr) (C := fun w2 => KTx w2 ∧ LQr w2) (E := fun (r r' : Int32) => ((fitE (w.1 1 1).toInt a b ∧ txO (CTx w b.toInt) b.toInt) ∧ a.toInt = 1) ∨ r = r') (D := fun r r' => ((fitE (w.1 1 1).toInt a b ∧ txO (CTx w b.toInt) b.toInt) ∧ a.toInt = 1) → r = r') (et_end h.1.1 h.2) (qr_end h.1.2 h.1.1.2.1 h.1.1.1.2.1) (fun _ p q => ⟨p, q⟩)) (fun _ p q => ⟨p, q.1⟩)) (fun v w1 hv => ?_)
  obtain ⟨r, e, q1⟩ := hv
  refine ⟨r, e, tc_mono q1 (fun v2 w2 hv2 => ?_)⟩
  obtain ⟨r', e', q⟩ := hv2
  refine ⟨r', e', q.1, ?_⟩
  rcases q.2.2.1 with k | k
  · exact q.2.2.2 k
  · exact k
