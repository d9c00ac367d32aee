/-! a run goes on: the sides of a par, the rounds of a repeat -/
theorem sbq_a {v w v1 w1 : MW} {p m : Nat} (A : AgR p m v v1 w w1) (pm : p < m) (e : w1.1 127 74 = w.1 127 74) (h : SBq v w p m) : SBq v1 w1 p m := by
  rcases h with h | h
  · left
    rw [(agr_i A (Nat.le_refl _) pm).2.2.1]
    exact h
  · right
    intro j ja jb hj
    have t := agr_i A (Nat.le_of_lt ja) jb
    rw [t.2.2.2.2.1] at hj
    rw [t.2.2.2.2.2.2.2.2, e]
    exact h j ja jb hj
/-- every side of a par -/
def SBs (v w : MW) : List Nat → Int → Nat → Prop
  | [], _, _ => True
  | _ :: cs, h, q => (∃ m : Nat, h.toNat < m ∧ m ≤ q ∧ SBq v w h.toNat m ∧ (cs = [] → m = q) ∧ (¬ cs = [] → nxC v h.toNat = (m : Int))) ∧ SBs v w cs (nxC v h.toNat) q
/-- reference: is all over -/
theorem q62_x {N : Nat} {a x : Int32} {w : MW} {A : Int32 → Int32 → MW → Prop} {E Q : Int32 → MW → Prop} (h : q_Mo_goPar_62 (pn_Mo_go N) (pn_Mo_goPar N) a x w A E Q) : ((a.toInt = 0 ∨ (w.1 212 x.toInt.toNat).toInt = 0) → A 0 (w.1 209 x.toInt.toNat) w) ∧ ((¬ a.toInt = 0 ∧ ¬ (w.1 212 x.toInt.toNat).toInt = 0) → A 1 (w.1 209 x.toInt.toNat) w) := by
  rw [q_Mo_goPar_62.eq_1] at h
  refine ⟨fun z => ?_, fun z => ?_⟩
  · by_cases y : a.toInt = 0
    · exact (h.1 y).2
    · exact (((h.2 y).2).1 (by omega)).2
  · exact (((h.2 z.1).2).2 z.2).2
theorem ne_o {s m j : Nat} (sm : s < m) (h : j < s ∨ m ≤ j) : ¬ j = s := by omega
theorem go_sd {GoW : MW → MW → Prop} {ns : List Nod} {nm : List Nm} {ks : List Nat} {off : Int} {n k N : Nat} {dep : Int32} {Qc Qm : Int32 → MW → Prop} (hG : GoI GoW) (hR : GoB GoW ns nm ks off (pn_Ru_goOn n)) (d0 : 0 ≤ dep.toInt) (d5 : dep.toInt ≤ 49) (hk : (k : Int) + 2 * (dep.toInt + 1) = 200) : ∀ (l : List Nat) (M M' : Nat) (fc fm x y i : Int32) (h : Int) (s q : Nat) (v w : MW), q_Ru_endsAllSides_13 (pn_Ru_endsAllSides n) (pn_Ru_endsRounds n) (pn_Ru_goOn n) (pn_Ru_goesPast n) dep (fun e w18 => ((e.toInt = 0 ∨ e.toInt = 1) ∧ Qc e w18)) Qc M fc x i v → q_Mo_goPar_9 (pn_Mo_go N) (pn_Mo_goPar N) (fun e w17 => ((e.toInt = 0 → Qm 0 w17) ∧ (¬ e.toInt = 0 → Qm 1 w17))) Qm M' fm y w → x.toInt = h → y.toInt = h → Lz ns v l s h q → (q : Int) ≤ (v.1 61 5).toInt → (∀ b ∈ l, (∃ db, ns[b]? = some db ∧ db.1 = 35) ∧ DpL ns (kdl ns b) (dep.toInt + 1)) → WS GoW ns nm ks off v w → (v.1 61 4).toInt = 0 → SiK (Dy ns off v w (k + 1)) v w l h → SBs v w l h q → 0 ≤ i.toInt → i.toInt ≤ (s : Int) → ((fc.toInt = 0 ∧ fm.toInt = 0) ∨ (fc.toInt = 1 ∧ fm.toInt = 1)) → ∃ (v' w' : MW) (rc rm : Int32), Qc rc v' ∧ Qm rm w' ∧ PoL false GoW ns nm ks off v w v' w' s q ∧ GOk rc rm v' ∧ ((rm.toInt = 0 ∨ rm.toInt = 2) → SiK (Dy ns off v' w' (k + 1)) v' w' l h) := by
  intro l
  induction l with
  | nil =>
    intro M M' fc fm x y i h s q v w hC hM ex ey hL hq hB hW on hS hs i0 i1 ff
    have e := lz_n hL
    cases M with
    | zero => exact False.elim hC
    | succ M =>
      cases M' with
      | zero => exact False.elim hM
      | succ M' =>
        rw [q_Ru_endsAllSides_13.eq_2] at hC
        rw [q_Mo_goPar_9.eq_2] at hM
        have c : Qc fc v := by
          by_cases z : 500 < i.toInt
          · exact (hC.1 z).2
          · exact ((hC.2 z).1 (by omega)).2
        have m1 := hM.1 (by omega)
        rcases ff with ⟨f1, f2⟩ | ⟨f1, f2⟩
        · exact ⟨v, w, fc, 0, c, m1.1 f2, pol_0 hW s q, Or.inr (Or.inl ⟨by decide, f1, on⟩), fun _ => trivial⟩
        · exact ⟨v, w, fc, 1, c, m1.2 (by omega), pol_0 hW s q, Or.inl ⟨by decide, f1, on⟩, fun _ => trivial⟩
  | cons b bs ih =>
    intro M M' fc fm x y i h s q v w hC hM ex ey hL hq hB hW on hS hs i0 i1 ff
    obtain ⟨e1, e2, m, sm, mq, L1, L2⟩ := lz_c hL
    have par := hW.2.2.1.2.2.2.2.2.1
    have p5 := par.2.1.2
    have hs' : h.toNat = s := by omega
    have xs : x.toInt.toNat = s := by omega
    have ys : y.toInt.toNat = s := by omega
    obtain ⟨⟨db, hdb, h35⟩, hD⟩ := hB b List.mem_cons_self
    have sd := ti_add2 (Eq.refl dep.toInt) i_1 (by omega) (by omega)
    have si := ti_add2 (Eq.refl i.toInt) i_1 (by omega) (by omega)
    obtain ⟨⟨mm, q1, q2, q3, q4, q5⟩, hs2⟩ := hs
    rw [hs'] at q1 q3 q5 hs2
    have emm : mm = m := by
      cases bs with
      | nil =>
        have z := (lz_n L2).2
        have z2 := q4 rfl
        omega
      | cons y ys =>
        have z := (lz_c L2).1
        have z2 := q5 (by intro t; cases t)
        omega
    rw [emm] at q3
    have sp : (s : Int) < (v.1 61 5).toInt := by omega
    have h5 : ¬ 500 < i.toInt := by omega
    have hx0 : ¬ x.toInt < 0 := by omega
    have hy1 : ¬ y.toInt = -1 := by omega
    have hxs : x.toInt = (s : Int) := by omega
    have hys : y.toInt = (s : Int) := by omega
    have i2 : 0 ≤ (i + (1 : Int32)).toInt := by omega
    have i3 : (i + (1 : Int32)).toInt ≤ (m : Int) := by omega
    have dp0 : 0 ≤ (dep + (1 : Int32)).toInt := by omega
    have dp1 : (dep + (1 : Int32)).toInt ≤ 50 := by omega
    have hk' : (k : Int) + 2 * (dep + (1 : Int32)).toInt = 200 := by omega
    have q501 : q ≤ 501 := by omega
    have m5 : (m : Int) ≤ (v.1 61 5).toInt := by omega
    have sm' : s ≤ m := by omega
    have ff' : ∀ fm' : Int32, fm'.toInt = fm.toInt → ((fc.toInt = 0 ∧ fm'.toInt = 0) ∨ (fc.toInt = 1 ∧ fm'.toInt = 1)) := fun fm' e => by
      rw [e]
      exact ff
    have a10 : ¬ (1 : Int) = 0 := by decide
    cases M with
    | zero => exact False.elim hC
    | succ M =>
      cases M' with
      | zero => exact False.elim hM
      | succ M' =>
        rw [q_Ru_endsAllSides_13.eq_2] at hC
        rw [q_Mo_goPar_9.eq_2] at hM
        have c1 := ((hC.2 h5).2 hx0).2
        have m1 := (hM.2 hy1).2
        clear hC hM
        rw [xs] at c1
        rw [ys] at m1
        obtain ⟨S1, S2⟩ := hS
        rw [hs'] at S1 S2
        have lyj := par.2.2 s sp
        rcases S1 with ⟨st2, ov1⟩ | ⟨st2, ov0, D1⟩
        · have c2 := (((io_x (c1.1 st2)).1 on).1 (by decide)).2
          have ovn : ¬ (w.1 212 s).toInt = 0 := fun z => a10 (ov1.symm.trans z)
          have m2 := q62_x (m1.1 ovn)
          clear c1 m1
          rw [ys] at m2
          obtain ⟨fm', ef, m3⟩ : ∃ fm' : Int32, fm'.toInt = fm.toInt ∧ q_Mo_goPar_9 (pn_Mo_go N) (pn_Mo_goPar N) (fun e w17 => ((e.toInt = 0 → Qm 0 w17) ∧ (¬ e.toInt = 0 → Qm 1 w17))) Qm M' fm' (w.1 209 s) w := by
            rcases ff with ⟨f1, f2⟩ | ⟨f1, f2⟩
            · exact ⟨0, by rw [f2]; decide, m2.1 (Or.inl f2)⟩
            · exact ⟨1, by rw [f2]; decide, m2.2 ⟨fun z => a10 (f2.symm.trans z), ovn⟩⟩
          obtain ⟨v', w', rc, rm, g1, g2, P, O, S3⟩ := ih M M' fc fm' _ _ _ (nxC v s) m q v w c2 m3 rfl (by rw [← lyj.2.2]; rfl) L2 hq (fun b hb => hB b (List.mem_cons_of_mem _ hb)) hW on S2 hs2 i2 i3 (ff' fm' ef)
          have A := agr_i P.2.1.1 (Nat.zero_le s) sm
          refine ⟨v', w', rc, rm, g1, g2, pol_m P sm' (Nat.le_refl _), O, fun z => ⟨?_, ?_⟩⟩
          · rw [hs', A.2.2.1, A.2.2.2.2.2.2.1]
            exact Or.inl ⟨st2, ov1⟩
          · rw [hs', A.2.1]
            exact S3 z
        · have c2 := c1.2 st2
          have m2 := m1.2 (fun z => z ov0)
          clear c1 m1
          have B1 := (dy_b hdb h35).mp D1
          obtain ⟨v1, w1, rc1, rm1, g1, g2, P1, O1, B2, _, e12⟩ := hR k s m N (kdl ns b) x y (dep + (1 : Int32)) v w _ _ c2 m2 hxs hys hW on (Or.inr ⟨b, db, e2, hdb, h35⟩) (kd_s hW.2.2.1.2.2.2.1 hdb h35) L1 ⟨sm, m5⟩ dp0 dp1 hk' (by rw [sd]; exact hD) B1 q3
          clear c2 m2
          have ov1' : ovM w1 s = 0 := by
            unfold ovM at ov0 ⊢
            rw [e12]
            exact ov0
          -- what is behind this side is as it was
          have rest : ∀ v2 w2, PoL false GoW ns nm ks off v w v2 w2 s m → SiK (Dy ns off v2 w2 (k + 1)) v2 w2 bs (nxC v s) ∧ SBs v2 w2 bs (nxC v s) q := fun v2 w2 P2 => by
            have A2 : AgR m q v v2 w w2 := agr_m P2.2.1.2 (Nat.le_refl _) q501
            refine ⟨sik_f bs m _ q L2 A2 (fun c p mm h1 h2 h3 h4 h5 => dy_f (k + 1) c p mm h2 h4 (agr_m A2 h1 h3) h5) S2, ?_⟩
            clear g1 g2 hR ih
            have key : ∀ (l : List Nat) (a : Nat) (h : Int), Lz ns v l a h q → m ≤ a → SBs v w l h q → SBs v2 w2 l h q := by
              intro l
              induction l with
              | nil => exact fun _ _ _ _ _ => trivial
              | cons c cs ihl =>
                intro a h hL ma hs
                obtain ⟨z1, _, mz, z2, z3, _, Lz2⟩ := lz_c hL
                have ha : h.toNat = a := by omega
                obtain ⟨⟨mb, t1, t2, t3, t4, t5⟩, hs3⟩ := hs
                rw [ha] at t1 t3 t5 hs3
                have na : nxC v2 a = nxC v a := (pol_fi P2 a).2
                refine ⟨⟨mb, by omega, t2, ?_, t4, ?_⟩, ?_⟩
                · rw [ha]
                  exact sbq_a (agr_m A2 ma t2) t1 P2.2.2.2.2.2.2.1 t3
                · rw [ha, na]
                  exact t5
                · rw [ha, na]
                  exact ihl mz _ Lz2 (by omega) hs3
            exact key bs m _ L2 (Nat.le_refl _) hs2
          have ly1 := P1.1.2.2.1.2.2.2.2.2.1.2.2 s (by rw [P1.2.2.2.1]; exact sp)
          have e79 : (v1.1 79 s).toInt = nxC v s := by
            rw [(P1.2.2.1 s).2.2]
            rfl
          have n9 : nxC v1 s = nxC v s := (pol_fi P1 s).2
          rcases O1 with ⟨r1, r2, on1⟩ | ⟨r1, r2, on1⟩ | ⟨r1, r2, on1⟩ | ⟨r1, r2, on1⟩
          · -- the side has ended
            have nr : ¬ rc1.toInt = 0 := fun z => a10 (r2.symm.trans z)
            have nm2 : ¬ rm1.toInt = 2 := by rw [r1]; decide
            have nm3 : ¬ rm1.toInt = 3 := by rw [r1]; decide
            have c3 := (((io_x ((g1.2 nr).2)).1 (by rw [sI_oth _ _ _ _ _ _ (by decide)]; exact on1)).1 (by decide)).2
            have m3 := q62_x (((g2.2 nm2).1 nm3).2 (fun z => z r1)).2
            clear g1 g2
            rw [ys] at m3
            have W2 := P1.1
            have P2 : PoL false GoW ns nm ks off v1 w1 (sI v1 80 s 2) (sI w1 212 s (vp_nar .boolean (1 : Int32))) s m := bg_p hG W2 (wbd_80 W2.2.1.1 s (by decide) (by decide)) (wbd_212 W2.2.1.2 s (nb_bool 1).1 (nb_bool 1).2) (FR.I (FR.refl _ v1) rfl) (FR.I (FR.refl _ w1) rfl) (fun j hj => ⟨sI_ne _ _ _ _ _ (ne_o sm hj), sI_oth _ _ _ _ _ _ (by decide), rfl, rfl, rfl, rfl⟩) (fun j hj => a8_I (a8_0 w1 s) 212 _ j (ne_o sm hj)) (mnr_f (FR.I (FR.refl [(80, none)] v1) rfl) (FR.I (FR.refl [(212, none)] w1) rfl) rfl rfl)
            have o12 : ((sI w1 212 s (vp_nar .boolean (1 : Int32))).1 212 s).toInt = 1 := by
              rw [sI_same]
              exact nb_bool1
            have s80 : ((sI v1 80 s 2).1 80 s).toInt = 2 := by
              rw [sI_same]
              decide
            have e792 : ((sI v1 80 s 2).1 79 s).toInt = nxC v s := by
              rw [sI_oth _ _ _ _ _ _ (by decide)]
              exact e79
            have e092 : ((sI w1 212 s (vp_nar .boolean (1 : Int32))).1 209 s).toInt = nxC v s := by
              rw [sI_oth _ _ _ _ _ _ (by decide), ← ly1.2.2]
              exact e79
            have on2 : ((sI v1 80 s 2).1 61 4).toInt = 0 := by rw [sI_oth _ _ _ _ _ _ (by decide)]; exact on1
            generalize sI v1 80 s 2 = v2 at *
            generalize sI w1 212 s (vp_nar .boolean (1 : Int32)) = w2 at *
            have P12 := pol_t P1 P2
            have R := rest v2 w2 P12
            obtain ⟨fm', ef, m4⟩ : ∃ fm' : Int32, fm'.toInt = fm.toInt ∧ q_Mo_goPar_9 (pn_Mo_go N) (pn_Mo_goPar N) (fun e w17 => ((e.toInt = 0 → Qm 0 w17) ∧ (¬ e.toInt = 0 → Qm 1 w17))) Qm M' fm' (w2.1 209 s) w2 := by
              rcases ff with ⟨f1, f2⟩ | ⟨f1, f2⟩
              · exact ⟨0, by rw [f2]; decide, m3.1 (Or.inl f2)⟩
              · exact ⟨1, by rw [f2]; decide, m3.2 ⟨fun z => a10 (f2.symm.trans z), fun z => a10 (o12.symm.trans z)⟩⟩
            obtain ⟨v', w', rc, rm, h1, h2, P, O, S3⟩ := ih M M' fc fm' _ _ _ (nxC v s) m q v2 w2 c3 m4 e792 e092 (pol_l P12 L2) (by rw [P12.2.2.2.1]; exact hq) (fun b hb => hB b (List.mem_cons_of_mem _ hb)) P12.1 on2 R.1 R.2 i2 i3 (ff' fm' ef)
            have A := agr_i P.2.1.1 (Nat.zero_le s) sm
            refine ⟨v', w', rc, rm, h1, h2, pol_t (pol_m P12 (Nat.le_refl _) mq) (pol_m P sm' (Nat.le_refl _)), O, fun z => ⟨?_, ?_⟩⟩
            · rw [hs', A.2.2.1, A.2.2.2.2.2.2.1]
              exact Or.inl ⟨s80, o12⟩
            · rw [hs', A.2.1, (pol_fi P12 s).2]
              exact S3 z
          · -- it stands
            have c3 := (((io_x (g1.1 r2)).1 on1).1 (by decide)).2
            have nm2 : ¬ rm1.toInt = 2 := by rw [r1]; decide
            have nm3 : ¬ rm1.toInt = 3 := by rw [r1]; decide
            have nm1 : ¬ rm1.toInt = 1 := by rw [r1]; decide
            have m3 := q62_x (((g2.2 nm2).1 nm3).1 nm1).2
            clear g1 g2
            rw [ys] at m3
            have ew : ∀ j, (sI w1 212 s (vp_nar .boolean (0 : Int32))).1 212 j = w1.1 212 j := fun j => by
              rw [sI_at]
              by_cases t : j = s
              · rw [if_pos ⟨rfl, t⟩, t]
                exact Int32.toInt_inj.mp (nb_bool0.trans (show (0 : Int) = (w1.1 212 s).toInt from ov1'.symm))
              · rw [if_neg (fun y => t y.2)]
            have W2 := P1.1
            have P2 : PoL false GoW ns nm ks off v1 w1 v1 (sI w1 212 s (vp_nar .boolean (0 : Int32))) s m := bg_p hG W2 W2.2.1.1 (wbd_212 W2.2.1.2 s (nb_bool 0).1 (nb_bool 0).2) (FR.refl _ v1) (FR.I (FR.refl _ w1) rfl) (a6_0 v1 s m) (fun j hj => a8_I (a8_0 w1 s) 212 _ j (ne_o sm hj)) (mnr_f (FR.refl [] v1) (FR.I (FR.refl [(212, none)] w1) rfl) rfl rfl)
            have G2 : FR [(212, none)] w1 (sI w1 212 s (vp_nar .boolean (0 : Int32))) := FR.I (FR.refl _ w1) rfl
            have o12 : ((sI w1 212 s (vp_nar .boolean (0 : Int32))).1 212 s).toInt = 0 := by
              rw [sI_same]
              exact nb_bool0
            have e092 : ((sI w1 212 s (vp_nar .boolean (0 : Int32))).1 209 s).toInt = nxC v s := by
              rw [sI_oth _ _ _ _ _ _ (by decide), ← ly1.2.2]
              exact e79
            generalize sI w1 212 s (vp_nar .boolean (0 : Int32)) = w2 at *
            have P12 := pol_t P1 P2
            have R := rest v1 w2 P12
            have m4 := m3.1 (Or.inr o12)
            have BB := B2 (Or.inl r1)
            have st1 : ¬ stg v1 s = 2 := by
              rcases BB with ⟨z, _⟩ | ⟨z, _⟩
              · rw [z]; decide
              · rw [z]; decide
            have D2 : Dy ns off v1 w2 (k + 1) b s := dy_f (k + 1) b s m sm (by rw [(pol_fi P1 s).1]; exact pol_l P1 L1) (fun j _ _ => ⟨⟨rfl, rfl, rfl, rfl, rfl, rfl, rfl, rfl⟩, (G2 210 j rfl).1, (G2 211 j rfl).1, ew j, (G2 213 j rfl).1, (G2 214 j rfl).1, (G2 215 j rfl).2.1, (G2 216 j rfl).2.1, (G2 217 j rfl).2.1⟩) ((dy_b hdb h35).mpr BB)
            obtain ⟨v', w', rc, rm, h1, h2, P, O, S3⟩ := ih M M' 0 0 _ _ _ (nxC v s) m q v1 w2 c3 m4 e79 e092 (pol_l P12 L2) (by rw [P12.2.2.2.1]; exact hq) (fun b hb => hB b (List.mem_cons_of_mem _ hb)) P12.1 on1 R.1 R.2 i2 i3 (Or.inl ⟨by decide, by decide⟩)
            have A := agr_i P.2.1.1 (Nat.zero_le s) sm
            refine ⟨v', w', rc, rm, h1, h2, pol_t (pol_m P12 (Nat.le_refl _) mq) (pol_m P sm' (Nat.le_refl _)), O, fun z => ⟨?_, ?_⟩⟩
            · rw [hs']
              refine Or.inr ⟨by rw [A.2.2.1]; exact st1, by rw [A.2.2.2.2.2.2.1]; exact o12, ?_⟩
              exact dy_f (k + 1) b s m sm (by rw [(pol_fi P12 s).1]; exact pol_l P12 L1) (agr_m P.2.1.1 (Nat.zero_le _) (Nat.le_refl _)) D2
            · rw [hs', A.2.1, (pol_fi P12 s).2]
              exact S3 z
          · -- a fault
            have c3 := ((io_x (g1.1 r2)).2 (by rw [on1]; decide)).2 (by decide)
            have BB := B2 (Or.inr r1)
            have st1 : ¬ stg v1 s = 2 := by
              rcases BB with ⟨z, _⟩ | ⟨z, _⟩
              · rw [z]; decide
              · rw [z]; decide
            have R := rest v1 w1 P1
            refine ⟨v1, w1, 0, rm1, c3, g2.1 r1, pol_m P1 (Nat.le_refl _) mq, Or.inr (Or.inr (Or.inl ⟨r1, by decide, on1⟩)), fun _ => ⟨?_, ?_⟩⟩
            · rw [hs']
              exact Or.inr ⟨st1, ov1', (dy_b hdb h35).mpr BB⟩
            · rw [hs', n9]
              exact R.1
          · -- a stop
            have c3 := ((io_x (g1.1 r2)).2 (by rw [on1]; decide)).2 (by decide)
            refine ⟨v1, w1, 0, rm1, c3, ((g2.2 (by rw [r1]; decide)).2 (fun z => z r1)), pol_m P1 (Nat.le_refl _) mq, Or.inr (Or.inr (Or.inr ⟨r1, by decide, on1⟩)), fun z => absurd z (by rw [r1]; decide)⟩
/-- rounds of a repeat -/
theorem go_rd {GoW : MW → MW → Prop} {ns : List Nod} {nm : List Nm} {ks : List Nat} {off : Int} {n k N b s m mx : Nat} {db : Nod} {as am dep : Int32} {Qc Qm : Int32 → MW → Prop} (hG : GoI GoW) (hR : GoB GoW ns nm ks off (pn_Ru_goOn n)) (d0 : 0 ≤ dep.toInt) (d5 : dep.toInt ≤ 49) (hk : (k : Int) + 2 * (dep.toInt + 1) = 200) (as' : as.toInt.toNat = s) (am' : am.toInt.toNat = s) (hdb : ns[b]? = some db) (h35 : db.1 = 35) (hD : DpL ns (kdl ns b) (dep.toInt + 1)) (sx : s + 1 < mx) (xm : mx ≤ m) : ∀ (M M' : Nat) (i : Int32) (v w : MW), q_Ru_endsRounds_2 (pn_Ru_endsAllSides n) (pn_Ru_endsRounds n) (pn_Ru_goOn n) (pn_Ru_goesPast n) as dep (fun w11 => ((0 ≤ as.toInt ∧ as.toInt < 501) ∧ ((0 < (lg_cmp (w11.2.1 82 s) (0 : Int64)).toInt → Qc 0 w11) ∧ (¬ 0 < (lg_cmp (w11.2.1 82 s) (0 : Int64)).toInt → Qc 1 w11)))) Qc M i v → q_Mo_go_207 (pn_Mo_go N) (pn_Mo_goPar N) am (fun w' => Qm 1 w') Qm M' w → WS GoW ns nm ks off v w → (v.1 61 4).toInt = 0 → v.2.1 82 s = w.2.1 215 s → fiC v s = ((s + 1 : Nat) : Int) → (v.1 77 (s + 1)).toInt = (b : Int) → Lz ns v (kdl ns b) (s + 1 + 1) (fiC v (s + 1)) mx → (m : Int) ≤ (v.1 61 5).toInt → Dy ns off v w (k + 1) b (s + 1) → SBq v w (s + 1) mx → 0 ≤ i.toInt → ((stg v (s + 1) = 0 ∧ i.toInt ≤ (v.1 61 19).toInt + 1) ∨ i.toInt = 0) → ∃ (v' w' : MW) (rc rm : Int32), Qc rc v' ∧ Qm rm w' ∧ PoL false GoW ns nm ks off v w v' w' s m ∧ GOk rc rm v' ∧ ((rm.toInt = 0 ∨ rm.toInt = 2) → Dy ns off v' w' (k + 1) b (s + 1) ∧ v'.2.1 82 s = w'.2.1 215 s ∧ stg v' s = stg v s ∧ bgM w' s = bgM w s ∧ cuC v' s = cuC v s) := by
  intro M
  induction M with
  | zero => exact fun _ _ _ _ h => False.elim h
  | succ M ih =>
    intro M' i v w hC hM hW on e82 fs ec L1 hp hDy hSB i0 i1
    have par := hW.2.2.1.2.2.2.2.2.1
    have p5 := par.2.1.2
    have b19 := hW.2.2.2.2.2.2.2.2.2.2.2.2.1
    have sd := ti_add2 (Eq.refl dep.toInt) i_1 (by omega) (by omega)
    have si := ti_add2 (Eq.refl i.toInt) i_1 (by omega) (by omega)
    have l0 : (0 : Int64).toInt = 0 := by decide
    have l1 : (1 : Int64).toInt = 1 := by decide
    have lys := par.2.2 s (by omega)
    have h1001 : ¬ 1001 < i.toInt := by omega
    have dp0 : 0 ≤ (dep + (1 : Int32)).toInt := by omega
    have dp1 : (dep + (1 : Int32)).toInt ≤ 50 := by omega
    have hk' : (k : Int) + 2 * (dep + (1 : Int32)).toInt = 200 := by omega
    have mxp : (mx : Int) ≤ (v.1 61 5).toInt := by omega
    have sp : (s : Int) < (v.1 61 5).toInt := by omega
    have a10 : ¬ (1 : Int) = 0 := by decide
    have sm : s < m := by omega
    have s1m : s + 1 < m := by omega
    have i0' : 0 ≤ (i + (1 : Int32)).toInt := by omega
    cases M' with
    | zero => exact False.elim hM
    | succ M' =>
      rw [q_Ru_endsRounds_2.eq_2, as'] at hC
      rw [q_Mo_go_207.eq_2, am'] at hM
      have c1 := (hC.2 h1001).2
      have m1 := hM.2
      clear hC hM
      have cm := nb_cmp (v.2.1 82 s) (0 : Int64)
      have cm1 := nb_cmp (w.2.1 215 s) (1 : Int64)
      by_cases z : (lg_cmp (v.2.1 82 s) (0 : Int64)).toInt ≤ 0
      · have e := congrArg Int64.toInt e82
        have z1 : ¬ 0 < (lg_cmp (v.2.1 82 s) (0 : Int64)).toInt := Int.not_lt.mpr z
        have c2 := (c1.1 z).2.2 z1
        have m2 := m1.1
        clear c1 m1
        exact ⟨v, w, 1, 1, c2, m2 (by clear m2; omega), pol_0 hW s m, Or.inl ⟨by decide, by decide, on⟩, fun t => absurd t (by decide)⟩
      · have e := congrArg Int64.toInt e82
        have c2 := (c1.2 z).2
        have m20 := m1.2
        clear m1
        have cmp1 : ¬ (lg_cmp (w.2.1 215 s) (1 : Int64)).toInt < 0 := by clear m20 c1 c2; omega
        have m2 := (m20 cmp1).2
        clear m20 c1
        obtain ⟨v1, w1, rc1, rm1, g1, g2, P1, O1, B2, beg, e12⟩ := hR k (s + 1) mx N (kdl ns b) (v.1 78 s) (w.1 208 s) (dep + (1 : Int32)) v w _ _ c2 m2 fs (by rw [← lys.2.1]; exact fs) hW on (Or.inr ⟨b, db, ec, hdb, h35⟩) (kd_s hW.2.2.1.2.2.2.1 hdb h35) L1 ⟨sx, mxp⟩ dp0 dp1 hk' (by rw [sd]; exact hD) ((dy_b hdb h35).mp hDy) hSB
        clear c2 m2
        have A := agr_i P1.2.1.1 (Nat.zero_le s) (Nat.lt_succ_self s)
        have A2 := P1.2.1.1 s (Nat.zero_le s) (Nat.lt_succ_self s)
        have j82 : v1.2.1 82 s = w1.2.1 215 s := by
          rw [A2.1.2.2.2.2.1, A2.2.2.2.2.2.2.1]
          exact e82
        rcases O1 with ⟨r1, r2, on1⟩ | ⟨r1, r2, on1⟩ | ⟨r1, r2, on1⟩ | ⟨r1, r2, on1⟩
        · -- a round has ended
          have c3 := (g1.1 (by rw [r2]; decide)).2.2.2.2
          have m3 := (g2.1 r1).2.2.2.2
          clear g1 g2
          have f1 : (v1.1 78 s).toInt.toNat = s + 1 := by
            rw [(P1.2.2.1 s).2.1]
            have z : (v.1 78 s).toInt = ((s + 1 : Nat) : Int) := fs
            omega
          have f2 : (w1.1 208 s).toInt.toNat = s + 1 := by
            rw [← (P1.1.2.2.1.2.2.2.2.2.1.2.2 s (by rw [P1.2.2.2.1]; exact sp)).2.1]
            exact f1
          rw [f1] at c3
          rw [f2, ← j82] at m3
          have W1 := P1.1
          have FV : FR lpC v1 (sI (sJ v1 82 s (v1.2.1 82 s - (1 : Int64))) 80 (s + 1) 0) := FR.I (FR.J (FR.refl _ v1) rfl) rfl
          have GW : FR lpM w1 (sI (sJ w1 215 s (v1.2.1 82 s - (1 : Int64))) 210 (s + 1) (vp_nar .boolean (0 : Int32))) := FR.I (FR.J (FR.refl _ w1) rfl) rfl
          have sg : SgR false w1 (sI (sJ w1 215 s (v1.2.1 82 s - (1 : Int64))) 210 (s + 1) (vp_nar .boolean (0 : Int32))) := ⟨(GW 127 74 rfl).1, fun j hj => by
            left
            have nj : ¬ j = s + 1 := fun t => by
              rw [t] at hj
              unfold bgM at hj
              rw [sI_same, nb_bool0] at hj
              omega
            refine ⟨?_, ?_⟩
            · unfold bgM at hj ⊢
              rw [sI_ne _ _ _ _ _ nj, sJ_I] at hj
              exact hj
            · unfold siM
              rw [sI_oth _ _ _ _ _ _ (by decide), sJ_I]⟩
          have P2 : PoL false GoW ns nm ks off v1 w1 (sI (sJ v1 82 s (v1.2.1 82 s - (1 : Int64))) 80 (s + 1) 0) (sI (sJ w1 215 s (v1.2.1 82 s - (1 : Int64))) 210 (s + 1) (vp_nar .boolean (0 : Int32))) s m := bg_p hG W1 (wbd_80 (bnd_e W1.2.1.1 rfl) _ (by decide) (by decide)) (wbd_210 (bnd_e W1.2.1.2 rfl) _ (nb_bool 0).1 (nb_bool 0).2) FV GW (fun j hj => ⟨by rw [sI_ne _ _ _ _ _ (by omega), sJ_I], by rw [sI_oth _ _ _ _ _ _ (by decide), sJ_I], by rw [sI_J, sJ_at, if_neg (fun y => by have := y.2; omega)], by rw [sI_J, sJ_at, if_neg (fun y => absurd y.1 (by decide))], by rw [sI_J, sJ_at, if_neg (fun y => absurd y.1 (by decide))], by rw [sI_J, sJ_at, if_neg (fun y => absurd y.1 (by decide))]⟩) (fun j hj => ⟨by rw [sI_ne _ _ _ _ _ (by omega), sJ_I], by rw [sI_oth _ _ _ _ _ _ (by decide), sJ_I], by rw [sI_oth _ _ _ _ _ _ (by decide), sJ_I], by rw [sI_oth _ _ _ _ _ _ (by decide), sJ_I], by rw [sI_oth _ _ _ _ _ _ (by decide), sJ_I], by rw [sI_J, sJ_at, if_neg (fun y => by have := y.2; omega)], by rw [sI_J, sJ_at, if_neg (fun y => absurd y.1 (by decide))], by rw [sI_J, sJ_at, if_neg (fun y => absurd y.1 (by decide))]⟩) (mn_k FV rfl sg (sgr_0 _))
          have s80 : stg (sI (sJ v1 82 s (v1.2.1 82 s - (1 : Int64))) 80 (s + 1) 0) (s + 1) = 0 := by
            unfold stg
            rw [sI_same]
            decide
          have b10 : bgM (sI (sJ w1 215 s (v1.2.1 82 s - (1 : Int64))) 210 (s + 1) (vp_nar .boolean (0 : Int32))) (s + 1) = 0 := by
            unfold bgM
            rw [sI_same]
            exact nb_bool0
          have e2 : (sI (sJ v1 82 s (v1.2.1 82 s - (1 : Int64))) 80 (s + 1) 0).2.1 82 s = (sI (sJ w1 215 s (v1.2.1 82 s - (1 : Int64))) 210 (s + 1) (vp_nar .boolean (0 : Int32))).2.1 215 s := by
            rw [sI_J, sI_J, sJ_same, sJ_same]
          have t80 : stg (sI (sJ v1 82 s (v1.2.1 82 s - (1 : Int64))) 80 (s + 1) 0) s = stg v s ∧ cuC (sI (sJ v1 82 s (v1.2.1 82 s - (1 : Int64))) 80 (s + 1) 0) s = cuC v s ∧ bgM (sI (sJ w1 215 s (v1.2.1 82 s - (1 : Int64))) 210 (s + 1) (vp_nar .boolean (0 : Int32))) s = bgM w s := by
            refine ⟨?_, ?_, ?_⟩
            · rw [← A.2.2.1]
              unfold stg
              rw [sI_ne _ _ _ _ _ (by omega), sJ_I]
            · rw [← A.2.2.2.1]
              unfold cuC
              rw [sI_oth _ _ _ _ _ _ (by decide), sJ_I]
            · rw [← A.2.2.2.2.1]
              unfold bgM
              rw [sI_ne _ _ _ _ _ (by omega), sJ_I]
          have on2 : ((sI (sJ v1 82 s (v1.2.1 82 s - (1 : Int64))) 80 (s + 1) 0).1 61 4).toInt = 0 := by
            rw [(FV 61 4 rfl).1]
            exact on1
          have n19 : (sI (sJ v1 82 s (v1.2.1 82 s - (1 : Int64))) 80 (s + 1) 0).1 61 19 = v1.1 61 19 := (FV 61 19 rfl).1
          generalize sI (sJ v1 82 s (v1.2.1 82 s - (1 : Int64))) 80 (s + 1) 0 = v2 at *
          generalize sI (sJ w1 215 s (v1.2.1 82 s - (1 : Int64))) 210 (s + 1) (vp_nar .boolean (0 : Int32)) = w2 at *
          have P12 := pol_t (pol_m P1 (Nat.le_succ s) xm) P2
          have i2 : (i + (1 : Int32)).toInt ≤ (v2.1 61 19).toInt + 1 := by
            rw [n19]
            clear c3 m3 ih
            rcases i1 with ⟨z1, z2⟩ | z1
            · have := beg z1 r1
              omega
            · have b0 := P1.1.2.2.2.2.2.2.2.2.2.2.2.2.1
              omega
          obtain ⟨v', w', rc, rm, h1, h2, P, O, S3⟩ := ih M' _ v2 w2 c3 m3 P12.1 on2 e2 (by rw [(pol_fi P12 s).1]; exact fs) (by rw [(P12.2.2.1 _).1]; exact ec) (by rw [(pol_fi P12 _).1]; exact pol_l P12 L1) (by rw [P12.2.2.2.1]; exact hp) (dy_0 hdb s80 b10) (Or.inl s80) i0' (Or.inl ⟨s80, i2⟩)
          refine ⟨v', w', rc, rm, h1, h2, pol_t P12 P, O, fun z => ?_⟩
          have t := S3 z
          exact ⟨t.1, t.2.1, t.2.2.1.trans t80.1, t.2.2.2.1.trans t80.2.2, t.2.2.2.2.trans t80.2.1⟩
        · exact ⟨v1, w1, 0, rm1, g1.2 (fun z => z r2), g2.2 (by rw [r1]; decide), pol_m P1 (Nat.le_succ s) xm, Or.inr (Or.inl ⟨r1, by decide, on1⟩), fun _ => ⟨(dy_b hdb h35).mpr (B2 (Or.inl r1)), j82, A.2.2.1, A.2.2.2.2.1, A.2.2.2.1⟩⟩
        · exact ⟨v1, w1, 0, rm1, g1.2 (fun z => z r2), g2.2 (by rw [r1]; decide), pol_m P1 (Nat.le_succ s) xm, Or.inr (Or.inr (Or.inl ⟨r1, by decide, on1⟩)), fun _ => ⟨(dy_b hdb h35).mpr (B2 (Or.inr r1)), j82, A.2.2.1, A.2.2.2.2.1, A.2.2.2.1⟩⟩
        · exact ⟨v1, w1, 0, rm1, g1.2 (fun z => z r2), g2.2 (by rw [r1]; decide), pol_m P1 (Nat.le_succ s) xm, Or.inr (Or.inr (Or.inr ⟨r1, by decide, on1⟩)), fun z => absurd z (by rw [r1]; decide)⟩
