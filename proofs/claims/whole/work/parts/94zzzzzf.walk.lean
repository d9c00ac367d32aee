/-! the walk of a second, on both sides -/
theorem blkr_f {ns : List Nod} {off : Int} {k p m : Nat} {l : List Nat} {v v' w w' : MW} (hL : Lz ns v l (p + 1) (fiC v p) m) (pm : p < m) (A : AgR p m v v' w w') (h : BlkR ns off k v w l p) : BlkR ns off k v' w' l p := by
  have a := agr_i A (Nat.le_refl p) pm
  rcases h with ⟨h1, h2⟩ | ⟨h1, h2, h3, h4⟩
  · exact Or.inl ⟨by rw [a.2.2.1]; exact h1, by rw [a.2.2.2.2.1]; exact h2⟩
  · refine Or.inr ⟨by rw [a.2.2.1]; exact h1, by rw [a.2.2.2.2.1]; exact h2, by rw [a.2.2.2.1, a.2.2.2.2.2.2.2.1]; exact h3, ?_⟩
    rw [a.1, a.2.2.2.1]
    exact cuk_f _ _ _ _ hL (agr_m A (by omega) (Nat.le_refl _)) (fun c p' m' h1 h2 h3 h4 h5 => dy_f k c p' m' h2 h4 (agr_m A (by omega) h3) h5) h4
/-- the house sees nothing of a run, nor of its seconds -/
def lrC2 : Pl := (61, some 17) :: lrC
def lrM2 : Pl := (127, some 59) :: (127, some 74) :: lrM
def GoJ (GoW : MW → MW → Prop) : Prop := ∀ v w v' w', GoW v w → BND v' → BND w' → FR lrC2 v v' → FR lrM2 w w' → GoW v' w'
theorem goj_i {GoW : MW → MW → Prop} (h : GoJ GoW) : GoI GoW := fun v w v' w' g b b' F F' => h v w v' w' g b b' ((FR.refl lrC2 v).tr F rfl) ((FR.refl lrM2 w).tr F' rfl)
/-- both sides between two seconds of a run -/
def WBr (GoW : MW → MW → Prop) (ns : List Nod) (nm : List Nm) (ks : List Nat) (off : Int) (v w : MW) : Prop := GoW v w ∧ (BND v ∧ BND w) ∧ STa ns nm ks v w ∧ VlR v w ∧ AlR v w ∧ (w.1 127 76).toInt = -1 ∧ (v.2.1 61 17).toInt = (w.1 127 74).toInt + off ∧ 0 ≤ (w.1 127 74).toInt ∧ 0 ≤ off ∧ (w.1 127 74).toInt + off ≤ 999999
/-- how it stands -/
def RnR (ns : List Nod) (off : Int) (ks : List Nat) (v w : MW) : Prop := BlkR ns off 200 v w ks 0 ∧ (∀ j : Nat, 0 < j → (j : Int) < (v.1 61 5).toInt → bgM w j = 1 → 0 ≤ siM w j ∧ siM w j < (w.1 127 74).toInt)
theorem i64_1 : (1 : Int64).toInt = 1 := by decide
/-- THE WALK OF A SECOND -/
theorem wk_x {GoW : MW → MW → Prop} {ns : List Nod} {nm : List Nm} {ks : List Nat} {off : Int} {v w : MW} {Qc Qm : MW → Prop} (hJ : GoJ GoW) (hP : PfG GoW) (hB : WBr GoW ns nm ks off v w) (on : (v.1 61 4).toInt = 0) (root : (v.1 77 0).toInt = -1) (dp : DpL ns ks 0) (hr : RnR ns off ks v w) (hc : p_Ru_walk v Qc) (hm : p_Mo_walk w Qm) : ∃ (v' w' : MW), Qc v' ∧ Qm w' ∧ (v'.1 61 4 = w'.1 127 59 ∧ v'.1 7 1 = v.1 7 1) ∧ (GoW v' w' ∧ (BND v' ∧ BND w') ∧ STa ns nm ks v' w' ∧ VlR v' w' ∧ AlR v' w' ∧ (w'.1 127 76).toInt = -1 ∧ (v'.2.1 61 17).toInt = (v.2.1 61 17).toInt + 1 ∧ (w'.1 127 74).toInt = (w.1 127 74).toInt + 1) ∧ (v'.1 77 0).toInt = -1 ∧ (((v'.1 61 4).toInt = 0 ∨ (v'.1 61 4).toInt = 2) → RnR ns off ks v' w') := by
  have hG := goj_i hJ
  obtain ⟨gw, ⟨Bv, Bw⟩, sta, vl, al, bad, wk, w0, o0, ob⟩ := hB
  have F0 : FR [(61, some 17), (61, some 18), (61, some 19), (61, some 20)] v (sI (sI (sI (sJ v 61 17 ((v.2.1 61 17) + (1 : Int64))) 61 18 0) 61 19 0) 61 20 0) := FR.I (FR.I (FR.I (FR.J (FR.refl _ v) rfl) rfl) rfl) rfl
  have G0 : FR [(127, some 72), (127, some 73), (127, some 75)] w (sI (sI (sI w 127 72 0) 127 73 0) 127 75 0) := FR.I (FR.I (FR.I (FR.refl _ w) rfl) rfl) rfl
  have B0 : BND (sI (sI (sI (sJ v 61 17 ((v.2.1 61 17) + (1 : Int64))) 61 18 0) 61 19 0) 61 20 0) := wbd_61_20 (wbd_61_19 (wbd_61_18 (bnd_e Bv rfl) (by decide) (by decide)) (by decide) (by decide)) (by decide) (by decide)
  have B0' : BND (sI (sI (sI w 127 72 0) 127 73 0) 127 75 0) := wbd_127_75 (wbd_127_73 (wbd_127_72 Bw (by decide) (by decide)) (by decide) (by decide)) (by decide) (by decide)
  have wk1 := li_add (Eq.refl (v.2.1 61 17).toInt) i64_1 (by omega) (by omega)
  have cn0 : CnR off (sI (sI (sI (sJ v 61 17 ((v.2.1 61 17) + (1 : Int64))) 61 18 0) 61 19 0) 61 20 0) (sI (sI (sI w 127 72 0) 127 73 0) 127 75 0) := by
    have a17 : (sI (sI (sI (sJ v 61 17 ((v.2.1 61 17) + (1 : Int64))) 61 18 0) 61 19 0) 61 20 0).2.1 61 17 = (v.2.1 61 17) + (1 : Int64) := by rw [sI_J, sI_J, sI_J, sJ_same]
    have a18 : (sI (sI (sI (sJ v 61 17 ((v.2.1 61 17) + (1 : Int64))) 61 18 0) 61 19 0) 61 20 0).1 61 18 = 0 := by rw [sI_ne _ _ _ _ _ (by decide), sI_ne _ _ _ _ _ (by decide), sI_same]
    have a19 : (sI (sI (sI (sJ v 61 17 ((v.2.1 61 17) + (1 : Int64))) 61 18 0) 61 19 0) 61 20 0).1 61 19 = 0 := by rw [sI_ne _ _ _ _ _ (by decide), sI_same]
    have a20 : (sI (sI (sI (sJ v 61 17 ((v.2.1 61 17) + (1 : Int64))) 61 18 0) 61 19 0) 61 20 0).1 61 20 = 0 := sI_same _ _ _ _
    have b72 : (sI (sI (sI w 127 72 0) 127 73 0) 127 75 0).1 127 72 = 0 := by rw [sI_ne _ _ _ _ _ (by decide), sI_ne _ _ _ _ _ (by decide), sI_same]
    have b73 : (sI (sI (sI w 127 72 0) 127 73 0) 127 75 0).1 127 73 = 0 := by rw [sI_ne _ _ _ _ _ (by decide), sI_same]
    have b75 : (sI (sI (sI w 127 72 0) 127 73 0) 127 75 0).1 127 75 = 0 := sI_same _ _ _ _
    unfold CnR
    rw [a17, a18, a19, a20, b72, b73, b75, (G0 127 74 rfl).1, (G0 127 76 rfl).1, wk1]
    exact ⟨rfl, rfl, Iff.rfl, bad, by omega, by omega, by omega, by decide, by decide⟩
  have W0 : WS GoW ns nm ks off (sI (sI (sI (sJ v 61 17 ((v.2.1 61 17) + (1 : Int64))) 61 18 0) 61 19 0) 61 20 0) (sI (sI (sI w 127 72 0) 127 73 0) 127 75 0) := ⟨hJ _ _ _ _ gw B0 B0' ((FR.refl lrC2 v).tr F0 rfl) ((FR.refl lrM2 w).tr G0 rfl), ⟨B0, B0'⟩, sta_f sta F0 G0 rfl rfl, vlr_f vl F0 G0 rfl rfl, alr_f al F0 G0 rfl rfl, cn0⟩
  rw [p_Ru_walk.eq_1, p_Ru_lookAtLimits.eq_1] at hc
  rw [p_Mo_walk.eq_1, p_Mo_limits.eq_1] at hm
  have j17 : ((sI (sI (sI (sJ v 61 17 ((v.2.1 61 17) + (1 : Int64))) 61 18 0) 61 19 0) 61 20 0).2.1 61 17).toInt = (v.2.1 61 17).toInt + 1 := by
    rw [sI_J, sI_J, sI_J, sJ_same]
    exact wk1
  generalize sI (sI (sI (sJ v 61 17 ((v.2.1 61 17) + (1 : Int64))) 61 18 0) 61 19 0) 61 20 0 = v0 at *
  generalize sI (sI (sI w 127 72 0) 127 73 0) 127 75 0 = w0' at *
  have hL := sta.2.2.2.2.2.2.1
  have ly := sta.2.2.2.2.2.1
  have hO := sta.2.2.2.2.2.2.2
  obtain ⟨m, em⟩ : ∃ m : Nat, (v.1 61 5).toInt.toNat = m := ⟨_, rfl⟩
  have m1 := ly.2.1
  rw [em] at hL
  have A0 : ∀ a b, AgR a b v v0 w w0' := fun a b => agr_f F0 G0 rfl rfl a b
  have e5 : v0.1 61 5 = v.1 61 5 := (F0 61 5 rfl).1
  have e8 : fiC v0 0 = fiC v 0 := by unfold fiC; rw [(F0 78 0 rfl).1]
  have hL0 : Lz ns v0 ks (0 + 1) (fiC v0 0) m := by
    rw [e8]
    exact lz_g hL (fun j => (F0 77 j rfl).1) (fun j => (F0 78 j rfl).1) (fun j => (F0 79 j rfl).1)
  have on0 : (v0.1 61 4).toInt = 0 := by rw [(F0 61 4 rfl).1]; exact on
  have rt0 : RtB ns v0 0 := Or.inl (by rw [(F0 77 0 rfl).1]; exact root)
  have k0 : BlkR ns off 200 v0 w0' ks 0 := blkr_f hL (by omega) (A0 _ _) hr.1
  obtain ⟨v1, w1, r, q1, q2, P1, K1, O1⟩ := lm_b hG 400 200 0 m _ ks 0 0 0 v0 w0' _ _ hc hm (by decide) (by decide) W0 on0 rt0 hO hL0 ⟨by omega, by rw [e5]; omega⟩ (by decide) (by decide) (by rw [i_0]; exact dp) k0
  have s74 : w0'.1 127 74 = w.1 127 74 := (G0 127 74 rfl).1
  have reg0 : ∀ j : Nat, 0 < j → (j : Int) < (v.1 61 5).toInt → bgM w0' j = 1 → 0 ≤ siM w0' j ∧ siM w0' j < (w0'.1 127 74).toInt := fun j h0 hj hb => by
    have t := agr_i (A0 0 501) (Nat.zero_le j) (by omega)
    rw [t.2.2.2.2.1] at hb
    rw [t.2.2.2.2.2.2.2.2, s74]
    exact hr.2 j h0 hj hb
  have sg1 := P1.2.2.2.2.2.2
  have reg1 : ∀ j : Nat, 0 < j → (j : Int) < (v.1 61 5).toInt → bgM w1 j = 1 → 0 ≤ siM w1 j ∧ siM w1 j < (w1.1 127 74).toInt := fun j h0 hj hb => by
    rcases sg1.2 j hb with ⟨z1, z2⟩ | ⟨z1, _⟩
    · rw [z2, sg1.1]
      exact reg0 j h0 hj z1
    · cases z1
  -- what the end of a second writes
  have fin : ∀ (v2 w2 : MW) (x y : Int32), WS GoW ns nm ks off v2 w2 → (∀ j, v2.1 77 j = v0.1 77 j ∧ v2.1 78 j = v0.1 78 j ∧ v2.1 79 j = v0.1 79 j) → v2.1 61 5 = v0.1 61 5 → v2.1 7 1 = v0.1 7 1 → w2.1 127 74 = w0'.1 127 74 → (x = y ∧ 0 ≤ x.toInt ∧ x.toInt ≤ 4) → (∀ j : Nat, 0 < j → (j : Int) < (v.1 61 5).toInt → bgM w2 j = 1 → 0 ≤ siM w2 j ∧ siM w2 j ≤ (w2.1 127 74).toInt) → ((x.toInt = 0 ∨ x.toInt = 2) → BlkR ns off 200 v2 w2 ks 0) → ∀ v3 : MW, (v3 = sI v2 61 4 x ∨ (v3 = v2 ∧ v2.1 61 4 = x)) → Qc v3 → Qm (sI (sI w2 127 59 y) 127 74 ((w2.1 127 74) + (1 : Int32))) → ∃ (v' w' : MW), Qc v' ∧ Qm w' ∧ (v'.1 61 4 = w'.1 127 59 ∧ v'.1 7 1 = v.1 7 1) ∧ (GoW v' w' ∧ (BND v' ∧ BND w') ∧ STa ns nm ks v' w' ∧ VlR v' w' ∧ AlR v' w' ∧ (w'.1 127 76).toInt = -1 ∧ (v'.2.1 61 17).toInt = (v.2.1 61 17).toInt + 1 ∧ (w'.1 127 74).toInt = (w.1 127 74).toInt + 1) ∧ (v'.1 77 0).toInt = -1 ∧ (((v'.1 61 4).toInt = 0 ∨ (v'.1 61 4).toInt = 2) → RnR ns off ks v' w') := fun v2 w2 x y W2 k2 p2 n2 t2 xy si2 bk2 v3 hv3 h1 h2 => by
    obtain ⟨exy, x0, x4⟩ := xy
    have F2 : FR [(61, some 4)] v2 v3 := by
      rcases hv3 with z | ⟨z, _⟩
      · rw [z]
        exact FR.I (FR.refl _ v2) rfl
      · rw [z]
        exact FR.refl _ _
    have e4 : v3.1 61 4 = x := by
      rcases hv3 with z | ⟨z, z2⟩
      · rw [z, sI_same]
      · rw [z, z2]
    have B3 : BND v3 := by
      rcases hv3 with z | ⟨z, _⟩
      · rw [z]
        exact wbd_61_4 W2.2.1.1 x0 x4
      · rw [z]
        exact W2.2.1.1
    have G2 : FR [(127, some 59), (127, some 74)] w2 (sI (sI w2 127 59 y) 127 74 ((w2.1 127 74) + (1 : Int32))) := FR.I (FR.I (FR.refl _ w2) rfl) rfl
    have B3' : BND (sI (sI w2 127 59 y) 127 74 ((w2.1 127 74) + (1 : Int32))) := wbd_127_74 (wbd_127_59 W2.2.1.2 (by rw [← exy]; exact x0) (by rw [← exy]; exact x4))
    have e59 : (sI (sI w2 127 59 y) 127 74 ((w2.1 127 74) + (1 : Int32))).1 127 59 = y := by rw [sI_ne _ _ _ _ _ (by decide), sI_same]
    have e74 : ((sI (sI w2 127 59 y) 127 74 ((w2.1 127 74) + (1 : Int32))).1 127 74).toInt = (w.1 127 74).toInt + 1 := by
      rw [sI_same, t2, s74]
      exact ti_add2 (Eq.refl _) i_1 (by omega) (by omega)
    have cn2 := W2.2.2.2.2.2
    generalize sI (sI w2 127 59 y) 127 74 ((w2.1 127 74) + (1 : Int32)) = w3 at *
    have m5 : m ≤ 501 := by omega
    have A3 : ∀ a b, AgR a b v2 v3 w2 w3 := fun a b => agr_f F2 G2 rfl rfl a b
    refine ⟨v3, w3, h1, h2, ⟨by rw [e4, e59]; exact exy, by rw [(F2 7 1 rfl).1, n2, (F0 7 1 rfl).1]⟩, ⟨hJ _ _ _ _ W2.1 B3 B3' ((FR.refl lrC2 v2).tr F2 rfl) ((FR.refl lrM2 w2).tr G2 rfl), ⟨B3, B3'⟩, sta_f W2.2.2.1 F2 G2 rfl rfl, vlr_f W2.2.2.2.1 F2 G2 rfl rfl, alr_f W2.2.2.2.2.1 F2 G2 rfl rfl, by rw [(G2 127 76 rfl).1]; exact cn2.2.2.2.1, ?_, e74⟩, by rw [(F2 77 0 rfl).1, (k2 0).1, (F0 77 0 rfl).1]; exact root, fun z => ?_⟩
    · rw [(F2 61 17 rfl).2.1]
      have t := cn2.2.2.2.2.1
      rw [t2, s74] at t
      omega
    · rw [e4] at z
      refine ⟨blkr_f (m := m) ?_ (by omega) (A3 _ _) (bk2 z), fun j h0 hj hb => ?_⟩
      · have e82 : fiC v2 0 = fiC v0 0 := by unfold fiC; rw [(k2 0).2.1]
        rw [e82]
        exact lz_g hL0 (fun j => (k2 j).1) (fun j => (k2 j).2.1) (fun j => (k2 j).2.2)
      · rw [(F2 61 5 rfl).1, p2, e5] at hj
        have t := agr_i (A3 0 501) (Nat.zero_le j) (by omega)
        rw [t.2.2.2.2.1] at hb
        rw [t.2.2.2.2.2.2.2.2, e74]
        have q := si2 j h0 hj hb
        rw [t2, s74] at q
        omega
  rcases O1 with ⟨r1, on1⟩ | ⟨r1, ov1⟩
  · -- the walk itself
    have c2 := ((io_x q1).1 on1).2 (fun z => z (by decide))
    have m2 := q2.2 (by omega)
    rw [p_Ru_goOn.eq_1] at c2
    rw [p_Mo_go.eq_1] at m2
    have hL1 : Lz ns v1 ks (0 + 1) (fiC v1 0) m := by
      rw [(pol_fi P1 0).1]
      exact pol_l P1 hL0
    obtain ⟨v2, w2, rc, rm, g1, g2, P2, O2, K2, _, _⟩ := go_b hG hP 400 200 0 m _ ks 0 0 0 v1 w1 _ _ c2 m2 (by decide) (by decide) P1.1 on1 (Or.inl (by rw [(P1.2.2.1 0).1, (F0 77 0 rfl).1]; exact root)) hO hL1 ⟨by omega, by rw [P1.2.2.2.1, e5]; omega⟩ (by decide) (by decide) (by rw [i_0]; omega) (by rw [i_0]; exact dp) K1 (Or.inr (fun j ja jb => reg1 j (by omega) (by omega)))
    have sg2 := P2.2.2.2.2.2.2
    have t2 : w2.1 127 74 = w0'.1 127 74 := sg2.1.trans sg1.1
    have si2 : ∀ j : Nat, 0 < j → (j : Int) < (v.1 61 5).toInt → bgM w2 j = 1 → 0 ≤ siM w2 j ∧ siM w2 j ≤ (w2.1 127 74).toInt := fun j h0 hj hb => by
      rcases sg2.2 j hb with ⟨z1, z2⟩ | ⟨_, z2⟩
      · have t := reg1 j h0 hj z1
        rw [z2, sg2.1]
        omega
      · have t : (w1.1 127 74).toInt = (w.1 127 74).toInt := by rw [sg1.1, s74]
        rw [z2, sg2.1]
        omega
    have kk : ∀ j, v2.1 77 j = v0.1 77 j ∧ v2.1 78 j = v0.1 78 j ∧ v2.1 79 j = v0.1 79 j := fun j => ⟨(P2.2.2.1 j).1.trans (P1.2.2.1 j).1, (P2.2.2.1 j).2.1.trans (P1.2.2.1 j).2.1, (P2.2.2.1 j).2.2.trans (P1.2.2.1 j).2.2⟩
    have p2 := P2.2.2.2.1.trans P1.2.2.2.1
    have n2 := P2.2.2.2.2.1.trans P1.2.2.2.2.1
    have cn2 := P2.1.2.2.2.2.2
    rcases O2 with ⟨r2, c3, on2⟩ | ⟨r2, c3, on2⟩ | ⟨r2, c3, on2⟩ | ⟨r2, c3, on2⟩
    · have h1 := g1.2 (by omega)
      rw [q_Ru_walk_52.eq_1] at h1
      rw [q_Mo_walk_32.eq_1] at g2
      exact fin v2 w2 1 1 P2.1 kk p2 n2 t2 ⟨rfl, by decide, by decide⟩ si2 (fun z => absurd z (by decide)) _ (Or.inl rfl) (h1.2 (by decide)) ((g2.1 (by omega)).2 (fun z => z r2))
    · have h1 := g1.1 c3
      rw [q_Ru_walk_52.eq_1] at h1
      rw [q_Mo_walk_32.eq_1] at g2
      have h2 := ((io_x (h1.1 (by decide))).1 on2).2 (fun z => z (by decide))
      have h3 := ((g2.1 (by omega)).1 (by omega)).2 (by omega)
      have e4 : v2.1 61 4 = 0 := Int32.toInt_inj.mp on2
      by_cases z : (v2.1 61 18).toInt = 0
      · exact fin v2 w2 0 0 P2.1 kk p2 n2 t2 ⟨rfl, by decide, by decide⟩ si2 (fun _ => K2 (Or.inl r2)) v2 (Or.inr ⟨rfl, e4⟩) (h2.1 z) (h3.1 (cn2.2.2.1.mp z))
      · exact fin v2 w2 2 2 P2.1 kk p2 n2 t2 ⟨rfl, by decide, by decide⟩ si2 (fun _ => K2 (Or.inl r2)) _ (Or.inl rfl) (h2.2 z) (h3.2 (fun y => z (cn2.2.2.1.mpr y)))
    · have h1 := g1.1 c3
      rw [q_Ru_walk_52.eq_1] at h1
      rw [q_Mo_walk_32.eq_1] at g2
      have h2 := ((io_x (h1.1 (by decide))).2 (by omega)).1 (by decide)
      have e4 : v2.1 61 4 = 2 := Int32.toInt_inj.mp (on2.trans (by decide))
      exact fin v2 w2 2 2 P2.1 kk p2 n2 t2 ⟨rfl, by decide, by decide⟩ si2 (fun _ => K2 (Or.inr r2)) v2 (Or.inr ⟨rfl, e4⟩) h2 (((g2.1 (by omega)).1 (by omega)).1 r2)
    · have h1 := g1.1 c3
      rw [q_Ru_walk_52.eq_1] at h1
      rw [q_Mo_walk_32.eq_1] at g2
      have h2 := ((io_x (h1.1 (by decide))).2 (by omega)).1 (by decide)
      have e4 : v2.1 61 4 = 3 := Int32.toInt_inj.mp (on2.trans (by decide))
      exact fin v2 w2 3 3 P2.1 kk p2 n2 t2 ⟨rfl, by decide, by decide⟩ si2 (fun z => absurd z (by decide)) v2 (Or.inr ⟨rfl, e4⟩) h2 (g2.2 (fun z => z r2))
  · -- a limit's test divided by nothing
    have h1 := ((io_x q1).2 (by omega)).1 (by decide)
    have g2 := q2.1 r1
    rw [q_Ru_walk_52.eq_1] at h1
    rw [q_Mo_walk_32.eq_1] at g2
    have h2 := ((io_x (h1.1 (by decide))).2 (by omega)).1 (by decide)
    have e4 : v1.1 61 4 = 2 := Int32.toInt_inj.mp (ov1.trans (by decide))
    exact fin v1 w1 2 2 P1.1 P1.2.2.1 P1.2.2.2.1 P1.2.2.2.2.1 sg1.1 ⟨rfl, by decide, by decide⟩ (fun j h0 hj hb => by have t := reg1 j h0 hj hb; omega) (fun _ => K1) v1 (Or.inr ⟨rfl, e4⟩) h2 (((g2.1 (by decide)).1 (by decide)).1 (by decide))
