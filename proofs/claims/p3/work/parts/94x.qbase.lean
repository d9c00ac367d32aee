/-! the rows of both sides between two calls -/
/-- u the class's canonical world, w the world as it lies: the same rows stand, with the same passes -/
def RR (u w : MW) : Prop := ∃ (g : Nat) (rs : List Rw), RsC u rs ∧ GrS rs ∧ RoM w g rs ∧ (w.1 147 1).toInt = 0 ∧ ∀ r : Nat, r < rs.length → u.1 51 r = w.1 162 r
def LQr (w : MW) : Prop := ∃ x y z, CI (S3 x y z w) ∧ MdJ w ∧ RR (S3 x y z w) w
def LKq (w : MW) : Prop := LKw w ∧ LQr w
theorem mdj_cls {a b c : Bool} {l : Pl} {w w' : MW} (hM : MdJ w) (hB : BND (S3 a b c w')) (hF : FR l (S3 a b c w) (S3 a b c w')) (hs : sub l lC = true) : MdJ w' :=
  MdJ_fr (fr_S3 (FR.tr (FR.refl lC _) hF hs)) (bnd_S3 hB) (by decide +kernel) hM
theorem ci_ref {a b c : Bool} {l : Pl} {w w' : MW} (h : CI (S3 a b c w)) (hM : MdJ w') (hF : FR l w w') (hs : sub l lR = true) : CI (S3 a b c w') := by
  have F : FR lR w w' := FR.tr (FR.refl lR _) hF hs
  have hB : BND (S3 a b c w') := bnd_swb bt_sN (bnd_swb bt_sQ (bnd_swb bt_sP hM.1.1))
  exact ci_fr h (fr_R F) hB (by decide +kernel)
def lq1 : Pl := [(48, some 0), (51, none), (52, none), (53, none), (54, none), (55, none), (56, none)]
def lq2 : Pl := [(147, some 1), (147, some 12), (147, some 20), (151, none), (152, none), (153, none), (154, none), (155, none), (156, none), (157, none), (158, none), (162, none)]
theorem fr_cls {a b c : Bool} {l : Pl} {w w' : MW} (hF : FR l (S3 a b c w) (S3 a b c w')) (hs : sub l lC = true) : FR lC w w' := fr_S3 (FR.tr (FR.refl lC _) hF hs)
theorem fr_mod {a b c : Bool} {l : Pl} {w w' : MW} (hF : FR l w w') (hs : sub l lR = true) : FR lR (S3 a b c w) (S3 a b c w') := fr_R (FR.tr (FR.refl lR _) hF hs)
/-- the rows' relation over a call that leaves them alone, class and reference apart -/
theorem rr_c {l : Pl} {a b c : Bool} {w w1 : MW} (h : RR (S3 a b c w) w) (F : FR l (S3 a b c w) (S3 a b c w1)) (ho : off l lq1 = true) (hs : sub l lC = true) : RR (S3 a b c w1) w1 := by
  obtain ⟨g, rs, h1, h2, h3, h4, h5⟩ := h
  have G := fr_cls F hs
  refine ⟨g, rs, rsc_fr h1 F (off_mono ho (by decide)), h2, rom_k h3 (G 147 12 rfl).1 (G 147 20 rfl).1 (KR.fr G rfl), by rw [(G 147 1 rfl).1]; exact h4, fun r hr => ?_⟩
  rw [(F 51 r (off_hit ho rfl)).1, (G 162 r rfl).1]
  exact h5 r hr
theorem rr_m {l : Pl} {a b c : Bool} {w w1 : MW} (h : RR (S3 a b c w) w) (F : FR l w w1) (ho : off l lq2 = true) (hs : sub l lR = true) : RR (S3 a b c w1) w1 := by
  obtain ⟨g, rs, h1, h2, h3, h4, h5⟩ := h
  have G := fr_mod (a := a) (b := b) (c := c) F hs
  refine ⟨g, rs, rsc_fr h1 G rfl, h2, rom_k h3 (F 147 12 (off_hit ho rfl)).1 (F 147 20 (off_hit ho rfl)).1 (KR.fr F (off_mono ho (by decide))), by rw [(F 147 1 (off_hit ho rfl)).1]; exact h4, fun r hr => ?_⟩
  rw [(G 51 r rfl).1, (F 162 r (off_hit ho rfl)).1]
  exact h5 r hr
theorem rz_and {d μ : Nat} {as : List Value} {w : MW} {Q Q' : Int32 → MW → Prop} (h : Tc d μ as w (RZ Q)) (h' : Tc d μ as w (RZ Q')) : Tc d μ as w (RZ fun r w' => Q r w' ∧ Q' r w') := by
  obtain ⟨v, w1, e, r, er, z, q⟩ := h
  obtain ⟨v', w1', e', r', er', _, q'⟩ := h'
  have ee := ev_det e e'
  have e1 : v = v' := congrArg Prod.fst ee
  have e2 : w1 = w1' := congrArg Prod.snd ee
  refine ⟨v, w1, e, r, er, z, q, ?_⟩
  have e3 : r = r' := by
    rw [e1, er'] at er
    injection er with k
    injection k with k
    exact k.symm
  rw [e2, e3]
  exact q'
theorem rj_and {d μ : Nat} {as : List Value} {w : MW} {Q Q' : Int64 → MW → Prop} (h : Tc d μ as w (RJ Q)) (h' : Tc d μ as w (RJ Q')) : Tc d μ as w (RJ fun r w' => Q r w' ∧ Q' r w') := by
  obtain ⟨v, w1, e, r, er, q⟩ := h
  obtain ⟨v', w1', e', r', er', q'⟩ := h'
  have ee := ev_det e e'
  have e1 : v = v' := congrArg Prod.fst ee
  have e2 : w1 = w1' := congrArg Prod.snd ee
  refine ⟨v, w1, e, r, er, q, ?_⟩
  have e3 : r = r' := by
    rw [e1, er'] at er
    injection er with k
    injection k with k
    exact k.symm
  rw [e2, e3]
  exact q'
theorem pair_ri {d d' μ μ' : Nat} {as as' : List Value} {w : MW} {A B C : MW → Prop} {E D : Int32 → Int32 → Prop} (h : Tc d μ as w (RI fun r w1 => Tc d' μ' as' w1 (RI fun r' w2 => A w2 ∧ E r r'))) (h' : Tc d μ as w (RI fun r w1 => Tc d' μ' as' w1 (RI fun r' w2 => B w2 ∧ D r r'))) (k : ∀ w2, A w2 → B w2 → C w2) : Tc d μ as w (RI fun r w1 => Tc d' μ' as' w1 (RI fun r' w2 => C w2 ∧ E r r' ∧ D r r')) := by
  refine tc_mono (ri_and h h') (fun v w1 hv => ?_)
  obtain ⟨r, e, a, b⟩ := hv
  refine ⟨r, e, tc_mono (ri_and a b) (fun v2 w2 hv2 => ?_)⟩
  obtain ⟨r', e', a', b'⟩ := hv2
  exact ⟨r', e', k w2 a'.1 b'.1, a'.2, b'.2⟩
theorem pair_rz {d d' μ μ' : Nat} {as as' : List Value} {w : MW} {A B C : MW → Prop} {E D : Int32 → Int32 → Prop} (h : Tc d μ as w (RZ fun r w1 => Tc d' μ' as' w1 (RZ fun r' w2 => A w2 ∧ E r r'))) (h' : Tc d μ as w (RZ fun r w1 => Tc d' μ' as' w1 (RZ fun r' w2 => B w2 ∧ D r r'))) (k : ∀ w2, A w2 → B w2 → C w2) : Tc d μ as w (RZ fun r w1 => Tc d' μ' as' w1 (RZ fun r' w2 => C w2 ∧ E r r' ∧ D r r')) := by
  refine tc_mono (rz_and h h') (fun v w1 hv => ?_)
  obtain ⟨r, e, z, a, b⟩ := hv
  refine ⟨r, e, z, tc_mono (rz_and a b) (fun v2 w2 hv2 => ?_)⟩
  obtain ⟨r', e', z', a', b'⟩ := hv2
  exact ⟨r', e', z', k w2 a'.1 b'.1, a'.2, b'.2⟩
theorem pair_rj {d d' μ μ' : Nat} {as as' : List Value} {w : MW} {A B C : MW → Prop} {E D : Int64 → Int64 → Prop} (h : Tc d μ as w (RJ fun r w1 => Tc d' μ' as' w1 (RJ fun r' w2 => A w2 ∧ E r r'))) (h' : Tc d μ as w (RJ fun r w1 => Tc d' μ' as' w1 (RJ fun r' w2 => B w2 ∧ D r r'))) (k : ∀ w2, A w2 → B w2 → C w2) : Tc d μ as w (RJ fun r w1 => Tc d' μ' as' w1 (RJ fun r' w2 => C w2 ∧ E r r' ∧ D r r')) := by
  refine tc_mono (rj_and h h') (fun v w1 hv => ?_)
  obtain ⟨r, e, a, b⟩ := hv
  refine ⟨r, e, tc_mono (rj_and a b) (fun v2 w2 hv2 => ?_)⟩
  obtain ⟨r', e', a', b'⟩ := hv2
  exact ⟨r', e', k w2 a'.1 b'.1, a'.2, b'.2⟩
theorem kq {w : MW} (a : LKw w) (b : LQr w) : LKq w := ⟨a, b⟩
/-- both sides' passes over a tick -/
theorem tkp_eq {rs : List Rw} {u u' w w' : MW} {a : Int32} (h : TkP 51 rs u u' a) (h' : TkP 162 rs w w' a) (e : ∀ r : Nat, r < rs.length → u.1 51 r = w.1 162 r) (r : Nat) (hr : r < rs.length) : u'.1 51 r = w'.1 162 r := by
  have er := e r hr
  rcases h with ⟨a0, a1, k⟩ | ⟨n, k⟩
  · rcases h' with ⟨_, _, k'⟩ | ⟨n', _⟩
    · exact ti_inj (by rw [k r hr, k' r hr, er])
    · omega
  · rcases h' with ⟨a0, a1, _⟩ | ⟨_, k'⟩
    · omega
    · rw [k r hr, k' r hr]
      exact er
theorem qr_tick {w : MW} {a : Int32} (h : LQr w) : Tc 2000 16 [.ref 0, .int a] w (RI fun r w1 => Tc 2000 117 [.ref 127, .int a] w1 (RI fun r' w2 => LQr w2 ∧ True)) := by
  obtain ⟨x, y, z, hc, hM, g, rs, h1, h2, h3, h4, h5⟩ := h
  refine tc_mono (tc_3 (a := x) (b := y) (c := z) (w := w) rfl rfl rfl ri_n (dm_Bh_tick (d := 1592) (w := S3 x y z w) (Q := fun r w' => CI w' ∧ FR l_Bh_tick (S3 x y z w) w' ∧ TkP 51 rs (S3 x y z w) w' a) (cp_tick hc h1 h2 (fun r w' h' hF k => ⟨h', hF, k⟩)))) (fun v w1 hv => ?_)
  obtain ⟨r, e, q1, q2, k1⟩ := hv
  have hM1 := mdj_cls hM q1.1 q2 rfl
  have G := fr_cls q2 rfl
  have R1 : RoM w1 g rs := rom_k h3 (G 147 12 rfl).1 (G 147 20 rfl).1 (KR.fr G rfl)
  have S1 : RsC (S3 x y z w1) rs := rsc_fr h1 q2 rfl
  refine ⟨r, e, ?_⟩
  refine tc_mono (dm_Mo_tick (d := 584) (w := w1) (Q := fun r' w2 => MdJ w2 ∧ FR ltk w1 w2 ∧ TkP 162 rs w1 w2 a) (mp_tick hM1 R1 (fun r' w2 h2 hF k => ⟨h2, hF, k⟩))) (fun v2 w2 hv2 => ?_)
  obtain ⟨r', e', m1, m2, k2⟩ := hv2
  have G2 := fr_mod (a := x) (b := y) (c := z) m2 rfl
  refine ⟨r', e', ⟨x, y, z, ci_ref q1 m1 m2 rfl, m1, g, rs, rsc_fr S1 G2 rfl, h2, rom_k R1 (m2 147 12 rfl).1 (m2 147 20 rfl).1 (KR.fr m2 rfl), by rw [(m2 147 1 rfl).1, (G 147 1 rfl).1]; exact h4, fun r hr => ?_⟩, trivial⟩
  rw [(G2 51 r rfl).1]
  exact tkp_eq k1 k2 (fun j hj => by rw [(G 162 j rfl).1]; exact h5 j hj) r hr
theorem qr_pass {w : MW} {a : Int32} {b : Int32} {c : Int32} {d : Int32} (h : LQr w) : Tc 2000 22 [.ref 0, .int a, .int b, .int c, .int d] w (RI fun r w1 => Tc 2000 99 [.ref 127, .int a, .int b, .int c, .int d] w1 (RI fun r' w2 => LQr w2 ∧ r = r')) := by
  obtain ⟨x, y, z, hc, hM, g, rs, h1, h2, h3, h4, h5⟩ := h
  have l4 := h2.1
  refine tc_mono (tc_3 (a := x) (b := y) (c := z) (w := w) rfl rfl rfl ri_n (ri_and (dm_Bh_pass (d := 1999) (w := S3 x y z w) (Q := fun r w' => CI w' ∧ FR l_Bh_pass (S3 x y z w) w') (ci_pass hc (fun r w' h' hF => ⟨h', hF⟩))) (dm_Bh_pass (d := 1999) (w := S3 x y z w) (Q := fun r w' => PsE 51 ((S3 x y z w).1 48 0).toInt (S3 x y z w) a b c d r w') (cs_pass hc.2.1.2.2.2.2.2.2.2.2.2 (by rw [h1.1]; omega) (fun r w' k => k))))) (fun v w1 hv => ?_)
  obtain ⟨r, e, ⟨q1, q2⟩, k1⟩ := hv
  have hM1 := mdj_cls hM q1.1 q2 rfl
  have G := fr_cls q2 rfl
  have R1 : RoM w1 g rs := rom_k h3 (G 147 12 rfl).1 (G 147 20 rfl).1 (KR.fr G rfl)
  have S1 : RsC (S3 x y z w1) rs := rsc_fr h1 q2 rfl
  refine ⟨r, e, ?_⟩
  refine tc_mono (ri_and (dm_Mo_pass (d := 1998) (w := w1) (Q := fun r' w2 => MdJ w2 ∧ FR l_Mr_pass w1 w2) (mf_pass hM1 (fun r' w2 h2 hF => ⟨h2, hF⟩))) (dm_Mo_pass (d := 1998) (w := w1) (Q := fun r' w2 => PsE 162 (w1.1 147 20).toInt w1 a b c d r' w2) (ms_pass (by rw [R1.2.2.1]; omega) (fun r w' k => k)))) (fun v2 w2 hv2 => ?_)
  obtain ⟨r', e', ⟨m1, m2⟩, k2⟩ := hv2
  have G2 := fr_mod (a := x) (b := y) (c := z) m2 rfl
  rw [h1.1] at k1
  rw [R1.2.2.1] at k2
  have v1 : ∀ j : Nat, j < rs.length → (S3 x y z w).1 51 j = w1.1 162 j := fun j hj => by rw [(G 162 j rfl).1]; exact h5 j hj
  have er : r = r' := by
    by_cases c1 : a.toInt < 1 ∨ (rs.length : Int) < a.toInt
    · rw [k1.1, k2.1, psv_1 c1, psv_1 c1]
    · have ee := ti_sub2 (Eq.refl a.toInt) i_1 (by omega) (by omega)
      rw [k1.1, k2.1, v1 _ (by omega)]
  refine ⟨r', e', ⟨x, y, z, ci_ref q1 m1 m2 rfl, m1, g, rs, rsc_fr S1 G2 rfl, h2, rom_k R1 (m2 147 12 rfl).1 (m2 147 20 rfl).1 (KR.fr m2 rfl), by rw [(m2 147 1 rfl).1, (G 147 1 rfl).1]; exact h4, fun j hj => ?_⟩, er⟩
  rw [(G2 51 j rfl).1]
  rcases k1.2 with ⟨z1, b1, _, w1e⟩ | ⟨z1, w1e⟩
  · rcases k2.2 with ⟨_, _, _, w2e⟩ | ⟨z2, _⟩
    · rw [w1e, w2e]
      by_cases q : j = (a - (1 : Int32)).toInt.toNat
      · rw [q, sI_same, sI_same]
      · rw [sI_ne _ _ _ _ _ q, sI_ne _ _ _ _ _ q]
        exact v1 j hj
    · exact absurd (er.symm.trans z1) z2
  · rcases k2.2 with ⟨z2, _, _, _⟩ | ⟨_, w2e⟩
    · exact absurd (er.trans z2) z1
    · rw [w1e, w2e]
      exact v1 j hj
theorem rsc_eq {u u' : MW} {rs : List Rw} (h : RsC u rs) (e : ∀ k j : Nat, 48 ≤ k → k ≤ 56 → u'.1 k j = u.1 k j) : RsC u' rs := by
  refine ⟨by rw [e 48 0 (by omega) (by omega)]; exact h.1, fun j y hy => by rw [e 56 j (by omega) (by omega)]; exact h.2.1 j y hy, fun r x hx => ?_⟩
  have t := h.2.2 r x hx
  unfold RsR at t ⊢
  rw [e 52 r (by omega) (by omega), e 53 r (by omega) (by omega), e 54 r (by omega) (by omega), e 55 r (by omega) (by omega), e 55 (r + 1) (by omega) (by omega)]
  exact t
theorem sP_mid {k : Nat} (h1 : 48 ≤ k) (h2 : k ≤ 56) : sP k = k := by
  unfold sP
  rw [if_neg (by omega), if_neg (by omega)]
theorem sN_mid : ∀ k, k < 57 → sN k = k := by decide +kernel
theorem ci_47 {u : MW} (h : CI u) : u.2.2 47 3 = some 48 := h.2.1.2.2.2.2.2.2.2.2.2
theorem can_keep {x y z : Bool} {w w1 : MW} (h : CIs (S3 x y z w1)) (h47 : (S3 x y z w).2.2 47 3 = some 48) (sc : sameC (S3 x y z w) (S3 x y z w1)) : ∃ x' y' z', CI (S3 x' y' z' w1) ∧ ∀ k j : Nat, 48 ≤ k → k ≤ 56 → (S3 x' y' z' w1).1 k j = (S3 x y z w).1 k j := by
  rcases h with h | h | h | h
  · exact ⟨x, y, z, h, sc.1⟩
  · refine ⟨!x, y, z, by rw [← S3_P]; exact h, fun k j k1 k2 => ?_⟩
    rw [← S3_P]
    show (S3 x y z w1).1 (sP k) j = _
    rw [sP_mid k1 k2]
    exact sc.1 k j k1 k2
  · have t : Option.map sQ ((S3 x y z w1).2.2 47 3) = some 48 := ci_47 h
    rw [sc.2, h47] at t
    exact absurd t (by decide)
  · refine ⟨x, y, !z, by rw [← S3_N]; exact h, fun k j k1 k2 => ?_⟩
    rw [← S3_N]
    show (S3 x y z w1).1 (sN k) j = _
    rw [sN_mid k (by omega)]
    exact sc.1 k j k1 k2
theorem can_take {u : MW} (h : CIs u) (h47 : u.2.2 47 3 = some 99) : CI (sw sQ u) := by
  rcases h with h | h | h | h
  · have t := ci_47 h
    rw [h47] at t
    exact absurd t (by decide)
  · have t : Option.map sP (u.2.2 47 3) = some 48 := ci_47 h
    rw [h47] at t
    exact absurd t (by decide)
  · exact h
  · have t : Option.map sN (u.2.2 47 3) = some 48 := ci_47 h
    rw [h47] at t
    exact absurd t (by decide)
theorem rom_same {w w' : MW} {g : Nat} {rs : List Rw} (h : RoM w g rs) (s : sameR w w') : RoM w' g rs :=
  rom_k h (s 147 12 (Or.inl rfl)) (s 147 20 (Or.inl rfl)) ⟨fun p j hp _ _ => s p j (Or.inr (by omega)), fun p j hp _ _ => s p j (Or.inr (by omega)), fun j _ _ => s 156 j (Or.inr (by omega))⟩
set_option maxRecDepth 20000 in
theorem qr_end {w : MW} {a : Int32} {b : Int32} (h : LQr w) (hy : TPy w) (r1 : w.1 1 1 = w.1 127 1) : Tc 2000 1 [.ref 0, .int a, .int b] w (RI fun r w1 => Tc 2000 37 [.ref 127, .int a, .int b] w1 (RI fun r' w2 => LQr w2 ∧ (((fitE (w.1 1 1).toInt a b ∧ txO (CTx w b.toInt) b.toInt) ∧ a.toInt = 1) → r = r'))) := by
  obtain ⟨x, y, z, hc, hM, g, rs, h1, h2, h3, h4, h5⟩ := h
  refine tc_mono (tc_3 (a := x) (b := y) (c := z) (w := w) rfl rfl rfl ri_n (ri_and (dm_Bh_end (d := 1195) (w := S3 x y z w) (Q := fun r w' => ECq (S3 x y z w) a b r w') (cq_end hc (fun r w' q => q))) (dm_Bh_end (d := 1195) (w := S3 x y z w) (Q := fun r w' => CIs w' ∧ FR ((1, some 1) :: lBE) (S3 x y z w) w') (ci_end hc (fun r w' h' hF => ⟨h', FR.tr (FR.I (FR.refl _ _) rfl : FR ((1, some 1) :: lBE) (S3 x y z w) (sI (S3 x y z w) 1 1 0)) hF rfl⟩))))) (fun v w1 hv => ?_)
  obtain ⟨r, e, ec, q1, q2⟩ := hv
  have G := fr_cls q2 rfl
  have hM1 := mdj_cls hM (cis_bnd q1) q2 rfl
  have s := s3c x y z w
  have eT : ∀ n, CTx (S3 x y z w) n = CTx w n := fun n => by
    funext p
    unfold CTx
    rw [s.2.2.1]
  unfold ECq at ec
  rw [s.2.1, eT] at ec
  have e1 : w1.1 127 1 = w.1 1 1 := ((G 127 1 rfl).1).trans r1.symm
  have e128 : ∀ j, w1.1 128 j = w.1 128 j := fun j => (G 128 j rfl).1
  have R1 : RoM w1 g rs := rom_k h3 (G 147 12 rfl).1 (G 147 20 rfl).1 (KR.fr G rfl)
  have z1 : (w1.1 147 1).toInt = 0 := by rw [(G 147 1 rfl).1]; exact h4
  have iff : fitE (w.1 1 1).toInt a b → (txO (CTx w b.toInt) b.toInt ↔ txO (MTx w1 b.toInt) b.toInt) := fun ft => tx_iff hy ft.2.2.2.2 e128
  refine ⟨r, e, ?_⟩
  have mfe := dm_Mo_end (d := 1192) (w := w1) (Q := fun r' w2 => MdJ w2 ∧ FR ((127, some 1) :: lme) w1 w2) (mf_end (a := a) (b := b) hM1 (fun r' w2 h2 hF => ⟨h2, FR.tr (FR.I (FR.refl _ _) rfl : FR ((127, some 1) :: lme) w1 (sI w1 127 1 0)) hF rfl⟩))
  rcases ec with ⟨no, sc⟩ | ⟨ok, ec⟩
  · refine tc_mono (ri_and mfe (dm_Mo_end (d := 1192) (w := w1) (Q := fun r' w2 => EMq w1 (fun p => (w1.1 128 p.toNat).toInt) g rs a b r' w2) (mx_endq hM1 z1 R1 (fun p _ => rfl) (fun r' w2 q => q)))) (fun v2 w2 hv2 => ?_)
    obtain ⟨r', e', ⟨m1, m2⟩, em⟩ := hv2
    obtain ⟨x', y', z', hc', kk⟩ := can_keep q1 (ci_47 hc) sc
    have G2 := fr_mod (a := x') (b := y') (c := z') m2 rfl
    unfold EMq at em
    rw [e1] at em
    have sr : sameR w1 w2 := by
      rcases em with ⟨_, s⟩ | ⟨ok', _⟩
      · exact s
      · exact absurd ⟨⟨ok'.1.1, (iff ok'.1.1).mpr ok'.1.2⟩, ok'.2⟩ no
    refine ⟨r', e', ⟨x', y', z', ci_ref hc' m1 m2 rfl, m1, g, rs, rsc_fr (rsc_eq h1 kk) G2 rfl, h2, rom_same R1 sr, by rw [sr 147 1 (Or.inl rfl)]; exact z1, fun j hj => ?_⟩, fun o => absurd o no⟩
    rw [(G2 51 j rfl).1, kk 51 j (by omega) (by omega), h5 j hj, sr 162 j (Or.inr (by omega)), (G 162 j rfl).1]
  · have bf : ∀ p : Nat, (p : Int) < b.toInt → (w1.1 128 p).toInt = CTx w b.toInt p := fun p hp => by
      have t := tx_bt (w := w) (w1 := w1) (n := b.toInt) hy ok.1.1.2.2.2.2 e128 (p : Int) (by omega) hp
      have o := ok.1.2 (p : Int) (by omega) hp
      rw [if_pos (by omega)] at t
      rw [← t]
      unfold MTx
      rw [if_pos ⟨by omega, hp⟩]
      rfl
    refine tc_mono (ri_and mfe (dm_Mo_end (d := 1192) (w := w1) (Q := fun r' w2 => EMq w1 (CTx w b.toInt) g rs a b r' w2) (mx_endq hM1 z1 R1 bf (fun r' w2 q => q)))) (fun v2 w2 hv2 => ?_)
    obtain ⟨r', e', ⟨m1, m2⟩, em⟩ := hv2
    unfold EMq at em
    rw [e1] at em
    rcases em with ⟨no, _⟩ | ⟨_, zz, _, em⟩
    · exact absurd ⟨⟨ok.1.1, (iff ok.1.1).mp ok.1.2⟩, ok.2⟩ no
    rcases ec with ⟨rs', ⟨k, hk⟩, er, hR, _, h47⟩ | ⟨q, xq, q0, ⟨k, hk⟩, eq, er, sc⟩
    · rcases em with ⟨g2, rs2, ⟨k2, hk2⟩, R2, er2, z2⟩ | ⟨q2', ⟨k2, hk2⟩, _⟩
      · have d := rds_det k k2 [] 0 _ _ _ _ hk hk2
        rw [← d.2] at R2 er2 z2
        have hc' := can_take q1 h47
        have gr := gr_read hk hR (cis_bnd q1)
        have S1 := rsc_of hR
        rw [S3_Q] at hc' S1
        have G2 := fr_mod (a := x) (b := !y) (c := z) m2 rfl
        refine ⟨r', e', ⟨x, !y, z, ci_ref hc' m1 m2 rfl, m1, g2, rs', rsc_fr S1 G2 rfl, gr, R2, zz, fun j hj => ?_⟩, fun _ => ti_inj (er.trans er2.symm)⟩
        rw [(G2 51 j rfl).1, (z2 j hj).2.2, ← S3_Q]
        exact (hR.2.2.2 j _ (List.getElem?_eq_getElem hj)).2.2.1
      · have d := rds_det k k2 [] 0 _ _ _ _ hk hk2
        have := d.1
        omega
    · rcases em with ⟨g2, rs2, ⟨k2, hk2⟩, _⟩ | ⟨q2', ⟨k2, hk2⟩, er2, R2, z2⟩
      · have d := rds_det k k2 [] 0 _ _ _ _ hk hk2
        have := d.1
        omega
      · have d := rds_det k k2 [] 0 _ _ _ _ hk hk2
        obtain ⟨x', y', z', hc', kk⟩ := can_keep q1 (ci_47 hc) sc
        have G2 := fr_mod (a := x') (b := y') (c := z') m2 rfl
        refine ⟨r', e', ⟨x', y', z', ci_ref hc' m1 m2 rfl, m1, g, rs, rsc_fr (rsc_eq h1 kk) G2 rfl, h2, R2, zz, fun j hj => ?_⟩, fun _ => ti_inj ?_⟩
        · rw [(G2 51 j rfl).1, kk 51 j (by omega) (by omega), h5 j hj, (z2 j).2.2, (G 162 j rfl).1]
        · have lo := ti_lo r'
          have dq := d.1
          rw [er, ti_sub2 (show ((-3) : Int32).toInt = -3 by decide) eq (by omega) (by omega), er2]
          omega
