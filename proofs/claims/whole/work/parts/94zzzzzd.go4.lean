/-! a run goes on: what is inside, a statement, a block -/
theorem sbs_1 {ns : List Nod} {v w : MW} {q : Nat} : ∀ (l : List Nat) (a : Nat) (h : Int), Lz ns v l a h q → (∀ j : Nat, a ≤ j → j < q → bgM w j = 1 → 0 ≤ siM w j ∧ siM w j < (w.1 127 74).toInt) → SBs v w l h q := by
  intro l
  induction l with
  | nil => exact fun _ _ _ _ => trivial
  | cons c cs ih =>
    intro a h hL hj
    obtain ⟨e1, _, m, sm, mq, _, L2⟩ := lz_c hL
    have hs : h.toNat = a := by omega
    refine ⟨⟨m, by omega, mq, Or.inr (fun j ja jb => hj j (by omega) (by omega)), fun z => ?_, fun z => ?_⟩, ?_⟩
    · rw [z] at L2
      have := (lz_n L2).2
      omega
    · rw [hs]
      cases cs with
      | nil => exact absurd rfl z
      | cons y ys => exact (lz_c L2).1
    · rw [hs]
      exact ih m _ L2 (fun j ja jb => hj j (by omega) jb)
theorem sbs_0 {ns : List Nod} {v w : MW} {q : Nat} : ∀ (l : List Nat) (a : Nat) (h : Int), Lz ns v l a h q → SO0 v v l h → SBs v w l h q := by
  intro l
  induction l with
  | nil => exact fun _ _ _ _ => trivial
  | cons c cs ih =>
    intro a h hL o
    obtain ⟨e1, _, m, sm, mq, _, L2⟩ := lz_c hL
    have hs : h.toNat = a := by omega
    refine ⟨⟨m, by omega, mq, Or.inl o.1, fun z => ?_, fun z => ?_⟩, ?_⟩
    · rw [z] at L2
      have := (lz_n L2).2
      omega
    · rw [hs]
      cases cs with
      | nil => exact absurd rfl z
      | cons y ys => exact (lz_c L2).1
    · have o2 := o.2
      rw [hs] at o2 ⊢
      exact ih m _ L2 o2
def SBi (ns : List Nod) (v w : MW) (c s m : Nat) (d : Nod) : Prop := (∀ j : Nat, s ≤ j → j < m → bgM w j = 1 → 0 ≤ siM w j ∧ siM w j < (w.1 127 74).toInt) ∨ NBg ns v c s d
/-- what is inside goes on -/
theorem go_in {GoW : MW → MW → Prop} {ns : List Nod} {nm : List Nm} {ks : List Nat} {off : Int} {n k N c s m : Nat} {d : Nod} {as am dep K ac : Int32} {v w : MW} {Qc Qm : Int32 → MW → Prop} (hG : GoI GoW) (hR : ∀ n', n' ≤ n → GoB GoW ns nm ks off (pn_Ru_goOn n')) (hW : WS GoW ns nm ks off v w) (sl : SmL ns v c s m d as am) (kk : d.1 = 16 ∨ d.1 = 19 ∨ d.1 = 17 ∨ d.1 = 20 ∨ d.1 = 23) (hDy : Dy ns off v w (k + 2) c s) (s1 : stg v s = 1) (sb : SBi ns v w c s m d) (d0 : 0 ≤ dep.toInt) (d4 : dep.toInt + gD (csl ns []) c ≤ 40) (hk : ((k + 2 : Nat) : Int) + 2 * dep.toInt = 200) (hc : q_Ru_goesPast_94 (pn_Ru_endsAllSides n) (pn_Ru_endsRounds n) (pn_Ru_goOn n) (pn_Ru_goesPast n) as dep K ac v Qc) (ac2 : ac.toInt = 2) (eK : K.toInt = d.1) (hm : q_Mo_go_19 (pn_Mo_go N) (pn_Mo_goPar N) am w Qm) : ∃ (v' w' : MW) (rc rm : Int32), Qc rc v' ∧ Qm rm w' ∧ PoL false GoW ns nm ks off v w v' w' s m ∧ GOk rc rm v' ∧ ((rm.toInt = 0 ∨ rm.toInt = 2) → Dy ns off v' w' (k + 2) c s) := by
  have M := gk_s hW sl hm
  have sl0 := sl
  obtain ⟨as', am', ec, hd, hS, hL, sm, hp, on⟩ := sl
  have pg := hW.2.2.1.2.2.2.1
  have par := hW.2.2.1.2.2.2.2.2.1
  have lys := par.2.2 s (by omega)
  have g0 := gd_0 pg.2.1 hd
  have m5 := sml5 hW hp
  rw [Dy_u] at hDy
  obtain ⟨d', hd', o⟩ := hDy
  have edd : d' = d := Option.some.inj (hd'.symm.trans hd)
  rw [edd] at o
  have Y : bgM w s = 1 ∧ BdY (Dy ns off v w (k + 1)) ns off v w c s d.1 := by
    rcases o with o | ⟨_, o1, o2⟩
    · omega
    · exact ⟨o1, o2⟩
  obtain ⟨b1, Y⟩ := Y
  rw [q_Ru_goesPast_94.eq_1, as'] at hc
  have c1 := hc.1 ac2
  clear hc
  have kn : ∀ x : Int, ¬ d.1 = x → ¬ K.toInt = x := fun x hx y => hx (eK.symm.trans y)
  have kp : ∀ x : Int, d.1 = x → K.toInt = x := fun x hx => eK.trans hx
  have dk1 : dep.toInt ≤ 49 := by clear c1 M; omega
  have hk1 : (k : Int) + 2 * (dep.toInt + 1) = 200 := by clear c1 M; omega
  by_cases k16 : d.1 = 16
  · have c2 := c1.2 (fun z => z (kp 16 k16))
    have m2 := M.2.2.2.1 (by rw [k16]; decide)
    have y7 := Y.2.2.2.2.2.2.1 k16
    clear c1 M
    cases n with
    | zero => exact False.elim c2
    | succ n =>
      cases N with
      | zero => exact False.elim m2
      | succ N =>
        rw [pe_Ru_endsAllSides, pb_Ru_endsAllSides.eq_1, as'] at c2
        rw [pe_Mo_goPar, pb_Mo_goPar.eq_1, am'] at m2
        have hsb : SBs v w (kdl ns c) (fiC v s) m := by
          rcases sb with z | z
          · exact sbs_1 _ _ _ hL (fun j ja jb => z j (by omega) jb)
          · exact sbs_0 _ _ _ hL (z.1 k16)
        obtain ⟨v', w', rc, rm, g1, g2, P, O, S3⟩ := go_sd (k := k) (Qc := Qc) (Qm := Qm) hG (hR n (Nat.le_succ n)) d0 dk1 hk1 (kdl ns c) FU FU 1 1 _ _ 0 (fiC v s) (s + 1) m v w c2.2 m2.2 rfl (by rw [← lys.2.1]; rfl) hL hp (fun b hb => by
          obtain ⟨db, hdb, h35⟩ := kd_b pg hd hS hb
          exact ⟨⟨db, hdb, h35⟩, dpl_k pg.2.1 hd d4 hb hdb h35⟩) hW on y7.2 hsb (by decide) (by rw [i_0]; omega) (Or.inr ⟨by decide, by decide⟩)
        have A := agr_i P.2.1.1 (Nat.zero_le s) (show s < s + 1 by omega)
        refine ⟨v', w', rc, rm, g1, g2, pol_m P (by omega) (Nat.le_refl _), O, fun z => ?_⟩
        rw [Dy_u]
        refine ⟨d, hd, Or.inr ⟨by rw [A.2.2.1]; exact s1, by rw [A.2.2.2.2.1]; exact b1, ?_⟩⟩
        rw [k16]
        exact bdy_7 ⟨by rw [A.2.2.2.1]; exact y7.1, by rw [A.1]; exact S3 z⟩
  · have c2 := c1.1 (kn 16 k16)
    clear c1
    by_cases k19 : d.1 = 19
    · have c3 := c2.2 (fun z => z (kp 19 k19))
      have m2 := M.2.2.2.2.2.1 (by rw [k19]; decide)
      clear c2 M
      obtain ⟨y1, y3, b, kb1, Db⟩ := Y.2.2.2.2.2.2.2.1 k19
      obtain ⟨db, hdb, h35⟩ := kd_b pg hd hS (b := b) (by rw [kb1]; exact List.mem_cons_self)
      have hb : b ∈ kdl ns c := by rw [kb1]; exact List.mem_cons_self
      have hL0 := hL
      rw [kb1] at hL0
      obtain ⟨e1, e2, mx, x1, x2, L1, _⟩ := lz_c hL0
      have fs : (fiC v s).toNat = s + 1 := by omega
      rw [fs] at Db
      cases n with
      | zero => exact False.elim c3
      | succ n =>
        rw [pe_Ru_endsRounds, pb_Ru_endsRounds.eq_1, as'] at c3
        have hsb : SBq v w (s + 1) mx := by
          rcases sb with z | z
          · exact Or.inr (fun j ja jb => z j (by omega) (by omega))
          · have t := z.2 k16 (by omega)
            rw [y1, fs] at t
            exact Or.inl t
        obtain ⟨v', w', rc, rm, g1, g2, P, O, S3⟩ := go_rd (k := k) (mx := mx) (m := m) (Qc := Qc) (Qm := Qm) hG (hR n (Nat.le_succ n)) d0 dk1 hk1 as' am' hdb h35 (dpl_k pg.2.1 hd d4 hb hdb h35) x1 x2 FU FU 0 v w c3 m2 hW on y3 e1 e2 L1 hp Db hsb (by decide) (Or.inr (by decide))
        refine ⟨v', w', rc, rm, g1, g2, P, O, fun z => ?_⟩
        obtain ⟨t1, t2, t3, t4, t5⟩ := S3 z
        have e8 := (pol_fi P s).1
        rw [Dy_u]
        refine ⟨d, hd, Or.inr ⟨t3.trans s1, t4.trans b1, ?_⟩⟩
        rw [k19]
        refine bdy_8 ⟨by rw [t5, e8]; exact y1, t2, b, kb1, ?_⟩
        rw [e8, fs]
        exact t1
    · have c3 := (c2.1 (kn 19 k19)).2
      have k3 : d.1 = 17 ∨ d.1 = 20 ∨ d.1 = 23 := by
        rcases kk with z | z | z | z | z
        · exact absurd z k16
        · exact absurd z k19
        · exact Or.inl z
        · exact Or.inr (Or.inl z)
        · exact Or.inr (Or.inr z)
      have y9 := Y.2.2.2.2.2.2.2.2.1 k3
      have m2 := M.2.2.2.2.1 (by rcases k3 with z | z | z <;> (rw [z]; decide))
      clear c2 M
      have cu81 : (v.1 81 s).toInt = cuC v s := rfl
      have cr13 : (w.1 213 s).toInt = crM w s := rfl
      have hD0 : Dy ns off v w (k + 2) c s := by
        rw [Dy_u]
        exact ⟨d, hd, Or.inr ⟨s1, b1, Y⟩⟩
      rcases cui_x _ _ _ _ hL y9.2 with z | ⟨b, mx, hb, z1, z2, z3, z4, z5, z6, z7⟩
      · have z81 : (v.1 81 s).toInt < 0 := by rw [cu81, z]; decide
        have z13 : (w.1 213 s).toInt = -1 := by rw [cr13, ← y9.1]; exact z
        exact ⟨v, w, 1, 1, c3.1 z81, m2.2 z13, pol_0 hW s m, Or.inl ⟨by decide, by decide, on⟩, fun z => absurd z (by decide)⟩
      · obtain ⟨db, hdb, h35⟩ := kd_b pg hd hS hb
        have c4 := c3.2
        have m3 := m2.1
        clear c3 m2
        have n81 : ¬ (v.1 81 s).toInt < 0 := by clear c4 m3; omega
        have n13 : ¬ (w.1 213 s).toInt = -1 := by
          clear c4 m3
          rw [cr13, ← y9.1]
          omega
        have c5 := (c4 n81).2
        have m5' := m3 n13
        clear c4 m3
        have sd := ti_add2 (Eq.refl dep.toInt) i_1 (by omega) (by omega)
        have hsb : SBq v w (cuC v s).toNat mx := by
          rcases sb with z | z
          · exact Or.inr (fun j ja jb => z j (by omega) (by omega))
          · exact Or.inl (z.2 k16 (by omega))
        obtain ⟨v', w', rc, rm, g1, g2, P, O, B2, _, _⟩ := hR n (Nat.le_refl _) k (cuC v s).toNat mx N (kdl ns b) (v.1 81 s) (w.1 213 s) (dep + (1 : Int32)) v w _ _ c5 m5' (by omega) (by rw [cr13, ← y9.1]; omega) hW on (Or.inr ⟨b, db, z4, hdb, h35⟩) (kd_s pg hdb h35) z5 ⟨by omega, by omega⟩ (by omega) (by omega) (by omega) (by rw [sd]; exact dpl_k pg.2.1 hd d4 hb hdb h35) ((dy_b hdb h35).mp z6) hsb
        have P' : PoL false GoW ns nm ks off v w v' w' (s + 1) m := pol_m P (by omega) z3
        have A := agr_i P'.2.1.1 (Nat.zero_le s) (show s < s + 1 by omega)
        have fin : (rm.toInt = 0 ∨ rm.toInt = 2) → Dy ns off v' w' (k + 2) c s := fun z => by
          rw [Dy_u]
          refine ⟨d, hd, Or.inr ⟨by rw [A.2.2.1]; exact s1, by rw [A.2.2.2.2.1]; exact b1, bdy_9 k3 ⟨by rw [A.2.2.2.1, A.2.2.2.2.2.2.2.1]; exact y9.1, ?_⟩⟩⟩
          rw [A.1, A.2.2.2.1]
          exact z7 _ v' (fun j => (pol_fi P' j).2) ((dy_b hdb h35).mpr (B2 z))
        have Ps := pol_m P' (show s ≤ s + 1 by omega) (Nat.le_refl m)
        rcases O with ⟨r1, r2, on1⟩ | ⟨r1, r2, on1⟩ | ⟨r1, r2, on1⟩ | ⟨r1, r2, on1⟩
        · exact ⟨v', w', 1, rm, g1.2 (by rw [r2]; decide), g2, Ps, Or.inl ⟨r1, by decide, on1⟩, fin⟩
        · exact ⟨v', w', 0, rm, g1.1 r2, g2, Ps, Or.inr (Or.inl ⟨r1, by decide, on1⟩), fin⟩
        · exact ⟨v', w', 0, rm, g1.1 r2, g2, Ps, Or.inr (Or.inr (Or.inl ⟨r1, by decide, on1⟩)), fin⟩
        · exact ⟨v', w', 0, rm, g1.1 r2, g2, Ps, Or.inr (Or.inr (Or.inr ⟨r1, by decide, on1⟩)), fin⟩
/-- answers that are no 'inside' -/
theorem q94_0 {n : Nat} {as dep K ac : Int32} {v : MW} {Q : Int32 → MW → Prop} (h : q_Ru_goesPast_94 (pn_Ru_endsAllSides n) (pn_Ru_endsRounds n) (pn_Ru_goOn n) (pn_Ru_goesPast n) as dep K ac v Q) : (ac.toInt = 0 → Q 0 v) ∧ (ac.toInt = 1 → Q 1 v) := by
  rw [q_Ru_goesPast_94.eq_1] at h
  exact ⟨fun z => (h.2 (by omega)).1 (by omega), fun z => (h.2 (by omega)).2 (fun y => y z)⟩
/-- a statement goes on alike -/
def GsB (GoW : MW → MW → Prop) (ns : List Nod) (nm : List Nm) (ks : List Nat) (off : Int) (R : MW → Int32 → Int32 → (Int32 → MW → Prop) → Prop) : Prop := ∀ (k c s m N : Nat) (d : Nod) (as am dep : Int32) (v w : MW) (Qc Qm : Int32 → MW → Prop), R v as dep Qc → pn_Mo_go N w am Qm → 0 ≤ as.toInt → 0 ≤ am.toInt → SmL ns v c s m d as am → WS GoW ns nm ks off v w → 0 ≤ dep.toInt → dep.toInt + gD (csl ns []) c ≤ 40 → (k : Int) + 2 * dep.toInt = 200 → Dy ns off v w k c s → SBt v w s m → ∃ (v' w' : MW) (rc rm : Int32), Qc rc v' ∧ Qm rm w' ∧ PoL false GoW ns nm ks off v w v' w' s m ∧ GOk rc rm v' ∧ ((rm.toInt = 0 ∨ rm.toInt = 2) → Dy ns off v' w' k c s)
theorem go_s {GoW : MW → MW → Prop} {ns : List Nod} {nm : List Nm} {ks : List Nat} {off : Int} (hG : GoI GoW) (hP : PfG GoW) {n : Nat} (hR : ∀ n', n' ≤ n → GoB GoW ns nm ks off (pn_Ru_goOn n')) : GsB GoW ns nm ks off (pn_Ru_goesPast (n + 1)) := by
  intro k0 c s m N d as am dep v w Qc Qm hc hm as0 am0 sl hW d0 d4 hk hDy sb
  have sl0 := sl
  obtain ⟨as', am', ec, hd, hS, hL, sm, hp, on⟩ := sl
  have st := hW.2.2.1
  have pg := st.2.2.2.1
  have g0 := gd_0 pg.2.1 hd
  have m5 := sml5 hW hp
  have stc := st.2.1 c d hd
  have cnn : (v.1 77 s).toInt.toNat = c := by omega
  obtain ⟨k, ek⟩ : ∃ k, k0 = k + 2 := ⟨k0 - 2, by omega⟩
  subst ek
  rw [pe_Ru_goesPast, pb_Ru_goesPast.eq_1] at hc
  have c1 := hc.2.2.2.2
  have eKc : (v.1 63 ((v.1 77 as.toInt.toNat).toInt.toNat)).toInt = d.1 := by
    rw [as', cnn]
    exact stc.1
  cases N with
  | zero => exact False.elim hm
  | succ N =>
    rw [pe_Mo_go, pb_Mo_go.eq_1] at hm
    have m1 := hm.2
    rw [am'] at m1
    have hDy0 := hDy
    rw [Dy_u] at hDy
    obtain ⟨d', hd', o⟩ := hDy
    have edd : d' = d := Option.some.inj (hd'.symm.trans hd)
    rw [edd] at o
    rcases o with ⟨o1, o2⟩ | ⟨o1, o2, Y⟩
    · have c2 := c1.1 (by rw [as']; exact o1)
      have m2 := m1.2 (fun z => z o2)
      rcases bg_s (k := k) (Qc := fun r u => q_Ru_goesPast_94 (pn_Ru_endsAllSides n) (pn_Ru_endsRounds n) (pn_Ru_goOn n) (pn_Ru_goesPast n) as dep (v.1 63 ((v.1 77 as.toInt.toNat).toInt.toNat)) r u Qc) hG hP hW sl0 ⟨as0, am0⟩ c2 m2 with ⟨ac, v', w', a1, a2, b⟩ | ⟨v', w', a1, a2, b⟩
      · have a3 := a2.1 (by decide)
        have b' := b
        obtain ⟨P, _, o⟩ := b'
        rcases o with ⟨z1, z2, z3, z4, z5, z6⟩ | ⟨z1, z2, z3, z4, z5, z6, z7, z8⟩ | ⟨z1, z2, z3⟩ | ⟨z1, z2, _⟩ | ⟨z1, z2, z3, z4, z5⟩
        · obtain ⟨v2, w2, rc, rm, h1, h2, P2, O, D⟩ := go_in (k := k) (Qc := Qc) (Qm := Qm) hG hR P.1 (sml_p P z2 sl0) z5 z3 z4 (Or.inr z6) d0 d4 hk a1 z1 eKc a3
          exact ⟨v2, w2, rc, rm, h1, h2, pol_t P P2, O, D⟩
        · exact ⟨v', w', 0, 0, (q94_0 a1).1 z1, g_std P.1 (sml_p P z2 sl0) z3 z4 z5 z6 z7 z8 a3, P, Or.inr (Or.inl ⟨by decide, by decide, z2⟩), fun _ => z3⟩
        · have lys := P.1.2.2.1.2.2.2.2.2.1.2.2 s (by rw [P.2.2.2.1]; omega)
          have M := gk_t (r3 := 0) am' a3 (fun R q => kn_x (a := am) P.1.2.2.1.2.2.1 (by rw [am', ← lys.1, (P.2.2.1 s).1]; exact ec) hd q)
          exact ⟨v', w', 0, 3, (q94_0 a1).1 z1, M.2.2.2.2.2.2.2.1 (by rw [z3]; decide), P, Or.inr (Or.inr (Or.inr ⟨by decide, by decide, z2⟩)), fun z => absurd z (by decide)⟩
        · obtain ⟨w2, h2, P2⟩ := g_end hG (sml_p P z2 sl0) b z1 a3
          exact ⟨v', w2, 1, 1, (q94_0 a1).2 z1, h2, P2, Or.inl ⟨by decide, by decide, z2⟩, fun z => absurd z (by decide)⟩
        · have M := gk_s P.1 (sml_p P z2 sl0) a3
          have a1' : q_Ru_goesPast_94 (pn_Ru_endsAllSides n) (pn_Ru_endsRounds n) (pn_Ru_goOn n) (pn_Ru_goesPast n) as dep (v.1 63 ((v.1 77 as.toInt.toNat).toInt.toNat)) ac v' Qc := a1
          rw [q_Ru_goesPast_94.eq_1, as'] at a1'
          have k81 : (v'.1 81 s).toInt = -1 := z4
          have k13 : (w'.1 213 s).toInt = -1 := z5
          have t1 := ((((a1'.1 z1).1 (by rw [cnn, stc.1]; omega)).1 (by rw [cnn, stc.1]; omega)).2).1 (by omega)
          exact ⟨v', w', 1, 1, t1, (M.2.2.2.2.1 (by rw [z3]; decide)).2 k13, P, Or.inl ⟨by decide, by decide, z2⟩, fun z => absurd z (by decide)⟩
      · have a3 := a2.2 (fun z => z (by decide))
        have A := agr_f (s := 0) (q := 501) b.2.2.1 b.2.2.2.1 rfl rfl
        exact ⟨v', w', 0, 2, (q94_0 a1).1 (by decide), a3, pol_i b.1 ((FR.refl lrC v).tr b.2.2.1 rfl) (agr_m A (Nat.zero_le _) (by omega)) (agr_m A (Nat.zero_le _) (Nat.le_refl _)) ⟨b.2.2.2.2, sgr_f b.2.2.2.1 rfl⟩, Or.inr (Or.inr (Or.inl ⟨by decide, by decide, b.2.1⟩)), fun _ => dy_f (k + 2) c s m sm hL (agr_m A (Nat.zero_le _) (by omega)) hDy0⟩
    · have c2 := c1.2 (by rw [as']; unfold stg at o1; omega)
      have m2 := m1.1 (by unfold bgM at o2; omega)
      have reg : ∀ j : Nat, s ≤ j → j < m → bgM w j = 1 → 0 ≤ siM w j ∧ siM w j < (w.1 127 74).toInt := by
        rcases sb with z | z
        · omega
        · exact z
      have si := reg s (Nat.le_refl _) sm o2
      have cn := hW.2.2.2.2.2
      have M := gk_s hW sl0 m2
      generalize v.1 63 ((v.1 77 as.toInt.toNat).toInt.toNat) = K at c2 eKc
      rw [p_Ru_lookAgain.eq_1, eKc] at c2
      have c3 := c2.2
      by_cases k12 : d.1 = 12
      · have t := (c3.1 k12).2
        rw [as'] at t
        have mm := M.1 (by rw [k12]; decide)
        have y3 := Y.2.2.1 k12
        have sw : siM w s = (w.1 214 s).toInt := rfl
        have w74 := cn.2.2.2.2.2.1
        have gone : (Int32.toInt64 ((w.1 127 74) - (w.1 214 s))).toInt = (w.1 127 74).toInt - (w.1 214 s).toInt := by
          rw [nb_i2l, ti_sub2 (Eq.refl (w.1 127 74).toInt) (Eq.refl (w.1 214 s).toInt) (by omega) (by omega)]
        have cm := nb_cmp (Int32.toInt64 ((w.1 127 74) - (w.1 214 s))) (w.2.1 215 s)
        have cc := nb_cmp (v.2.1 82 s) (v.2.1 61 17)
        have w17 := cn.2.2.2.2.1
        by_cases z : 0 < (lg_cmp (v.2.1 82 s) (v.2.1 61 17)).toInt
        · exact ⟨v, w, 0, 0, (q94_0 (t.1 z)).1 (by decide), mm.1 (by omega), pol_0 hW s m, Or.inr (Or.inl ⟨by decide, by decide, on⟩), fun _ => hDy0⟩
        · exact ⟨v, w, 1, 1, (q94_0 (t.2 z)).2 (by decide), mm.2 (by omega), pol_0 hW s m, Or.inl ⟨by decide, by decide, on⟩, fun z => absurd z (by decide)⟩
      · have c4 := c3.2 k12
        by_cases k13 : d.1 = 13
        · have t := (c4.1 k13).2.2.2.2
          rw [as', cnn] at t
          obtain ⟨v', w', ac, rm, a1, a2, P, o, e19⟩ := g_13 (k := k + 1) (Qc := fun r u => q_Ru_goesPast_94 (pn_Ru_endsAllSides n) (pn_Ru_endsRounds n) (pn_Ru_goOn n) (pn_Ru_goesPast n) as dep K r u Qc) hG hW sl0 k13 hDy0 Y o1 o2 si.2 t (M.2.1 (by rw [k13]; decide))
          rcases o with ⟨r1, r2, r3⟩ | ⟨r1, r2, r3, r4⟩ | ⟨r1, r2, r3, r4⟩
          · exact ⟨v', w', 1, rm, (q94_0 a1).2 r1, a2, P, Or.inl ⟨r2, by decide, r3⟩, fun z => by omega⟩
          · exact ⟨v', w', 0, rm, (q94_0 a1).1 r1, a2, P, Or.inr (Or.inl ⟨r2, by decide, r3⟩), fun _ => r4⟩
          · exact ⟨v', w', 0, rm, (q94_0 a1).1 r1, a2, P, Or.inr (Or.inr (Or.inl ⟨r2, by decide, r3⟩)), fun _ => r4⟩
        · have c5 := c4.2 k13
          by_cases k14 : d.1 = 14
          · have t := (c5.1 k14).2
            rw [as'] at t
            obtain ⟨v', w', ac, rm, a1, a2, P, o, on', e19⟩ := g_14 (k := k + 1) (Qc := fun r u => q_Ru_goesPast_94 (pn_Ru_endsAllSides n) (pn_Ru_endsRounds n) (pn_Ru_goOn n) (pn_Ru_goesPast n) as dep K r u Qc) hG hW sl0 k14 hDy0 Y ⟨si.2, si.1⟩ t (M.2.2.1 (by rw [k14]; decide))
            rcases o with ⟨r1, r2⟩ | ⟨r1, r2, r4⟩
            · exact ⟨v', w', 1, rm, (q94_0 a1).2 r1, a2, P, Or.inl ⟨r2, by decide, on'⟩, fun z => by omega⟩
            · exact ⟨v', w', 0, rm, (q94_0 a1).1 r1, a2, P, Or.inr (Or.inl ⟨r2, by decide, on'⟩), fun _ => r4⟩
          · have c6 := c5.2 k14
            by_cases k22 : d.1 = 22
            · have t := (c6.1 k22).2
              rw [as'] at t
              have mm := M.2.2.2.2.2.2.1 (by rw [k22]; decide)
              have y6 := Y.2.2.2.2.2.1 k22
              have d11 : dnM w s = (w.1 211 s).toInt := rfl
              by_cases z : (lg_cmp (v.2.1 82 s) (0 : Int64)).toInt = 0
              · exact ⟨v, w, 0, 0, (q94_0 (t.1 z)).1 (by decide), mm.1 (y6.mp (lg_0.mp z)), pol_0 hW s m, Or.inr (Or.inl ⟨by decide, by decide, on⟩), fun _ => hDy0⟩
              · exact ⟨v, w, 1, 1, (q94_0 (t.2 z)).2 (by decide), mm.2 (fun y => z (lg_0.mpr (y6.mpr y))), pol_0 hW s m, Or.inl ⟨by decide, by decide, on⟩, fun z => absurd z (by decide)⟩
            · have t := c6.2 k22
              have kk : d.1 = 16 ∨ d.1 = 19 ∨ d.1 = 17 ∨ d.1 = 20 ∨ d.1 = 23 := by
                have t1 := Y.2.2.2.2.2.2.2.2.2
                have t2 := isS_t.mp hS
                omega
              exact go_in (k := k) (Qc := Qc) (Qm := Qm) hG hR hW sl0 kk hDy0 o1 (Or.inl reg) d0 d4 hk t (by decide) eKc m2
