/-! a run goes on: a block -/
theorem ch_f {v : MW} {p : Nat} {a b : Int32} (ea : a.toInt.toNat = p) (hB : BND v) (b0 : -1 ≤ b.toInt) (b5 : b.toInt ≤ 500) : BND (chW v a b) ∧ FR [(80, none), (81, none)] v (chW v a b) ∧ (chW v a b).1 81 p = b ∧ (∀ x : Nat, b.toInt = (x : Int) → stg (chW v a b) x = 0) ∧ (∀ j : Nat, ¬ (j : Int) = b.toInt → (chW v a b).1 80 j = v.1 80 j) ∧ (∀ j : Nat, ¬ j = p → (chW v a b).1 81 j = v.1 81 j) := by
  unfold chW
  rw [ea]
  by_cases q : b.toInt < 0
  · rw [if_pos q]
    refine ⟨wbd_81 hB p b0 b5, FR.I (FR.refl _ v) rfl, sI_same _ _ _ _, fun x hx => by omega, fun j j2 => sI_oth _ _ _ _ _ _ (by decide), fun j j1 => sI_ne _ _ _ _ _ j1⟩
  · rw [if_neg q]
    refine ⟨wbd_80 (wbd_81 hB p b0 b5) _ (by decide) (by decide), FR.I (FR.I (FR.refl _ v) rfl) rfl, ?_, fun x hx => ?_, fun j j2 => ?_, fun j j1 => ?_⟩
    · rw [sI_oth _ _ _ _ _ _ (by decide), sI_same]
    · have e : b.toInt.toNat = x := by omega
      unfold stg
      rw [e, sI_same]
      decide
    · rw [sI_ne _ _ _ _ _ (by omega), sI_oth _ _ _ _ _ _ (by decide)]
    · rw [sI_oth _ _ _ _ _ _ (by decide), sI_ne _ _ _ _ _ j1]
/-- the statements of a block, one behind the other -/
theorem go_lp {GoW : MW → MW → Prop} {ns : List Nod} {nm : List Nm} {ks : List Nat} {off : Int} {n k N p m : Nat} {l : List Nat} {ap am dep : Int32} {Qc Qm : Int32 → MW → Prop} (hG : GoI GoW) (hS : GsB GoW ns nm ks off (pn_Ru_goesPast n)) (ap' : ap.toInt.toNat = p) (am' : am.toInt.toNat = p) (hO : ∀ c ∈ l, OwB ns false c) (pm : p < m) (d0 : 0 ≤ dep.toInt) (hk : (k : Int) + 2 * dep.toInt = 200) (d5 : dep.toInt ≤ 50) (hD : DpL ns l dep.toInt) : ∀ (M M' : Nat) (i : Int32) (v w : MW), q_Ru_goOn_34 (pn_Ru_endsAllSides n) (pn_Ru_endsRounds n) (pn_Ru_goOn n) (pn_Ru_goesPast n) ap dep (fun w12 => ((0 ≤ ap.toInt ∧ ap.toInt < 501) ∧ ((0 ≤ (w12.1 81 p).toInt → Qc 0 w12) ∧ (¬ 0 ≤ (w12.1 81 p).toInt → Qc 1 w12)))) Qc M i v → q_Mo_go_92 (pn_Mo_go N) (pn_Mo_goPar N) am (fun w' => Qm 1 w') Qm M' w → WS GoW ns nm ks off v w → (v.1 61 4).toInt = 0 → Lz ns v l (p + 1) (fiC v p) m → (m : Int) ≤ (v.1 61 5).toInt → stg v p = 1 → bgM w p = 1 → cuC v p = crM w p → CuK (Dy ns off v w k) v w l (fiC v p) (cuC v p) → (∀ x m' : Nat, cuC v p = (x : Int) → m' ≤ m → SBt v w x m') → 0 ≤ i.toInt → (cuC v p = -1 ∨ i.toInt < cuC v p) → ∃ (v' w' : MW) (rc rm : Int32), Qc rc v' ∧ Qm rm w' ∧ PoL false GoW ns nm ks off v w v' w' p m ∧ GOk rc rm v' ∧ ((rm.toInt = 0 ∨ rm.toInt = 2) → BlkR ns off k v' w' l p) ∧ w'.1 212 p = w.1 212 p := by
  intro M
  induction M with
  | zero => exact fun _ _ _ _ h => False.elim h
  | succ M ih =>
    intro M' i v w hC hM hW on hL hp s1 b1 ce hK sb i0 i1
    have par := hW.2.2.1.2.2.2.2.2.1
    have p5 := par.2.1.2
    have cu81 : (v.1 81 p).toInt = cuC v p := rfl
    have cr13 : (w.1 213 p).toInt = crM w p := rfl
    cases M' with
    | zero => exact False.elim hM
    | succ M' =>
      rw [q_Ru_goOn_34.eq_2, ap'] at hC
      rw [q_Mo_go_92.eq_2, am'] at hM
      rcases cuk_x _ _ _ _ hL hK with z | ⟨c, m', cs, x1, x2, x3, x4, x5, x6, x7, x8, x9, x10, x11, x12⟩
      · have c1 : Qc 1 v := by
          by_cases t : 500 < i.toInt
          · exact (hC.1 t).2.2 (by omega)
          · exact (((hC.2 t).2).1 (by omega)).2.2 (by omega)
        exact ⟨v, w, 1, 1, c1, hM.2.1 (by omega), pol_0 hW p m, Or.inl ⟨by decide, by decide, on⟩, fun z => absurd z (by decide), rfl⟩
      · have c0 := hC.2
        have m0 := hM.2.2
        clear hC hM
        have h5 : ¬ 500 < i.toInt := by clear c0 m0; omega
        have h0 : ¬ (v.1 81 p).toInt < 0 := by clear c0 m0; omega
        have hn : ¬ (w.1 213 p).toInt = -1 := by
          clear c0 m0
          rw [cr13, ← ce]
          omega
        have c1 := ((c0 h5).2.2 h0).2
        have m1 := (m0 hn).2
        clear c0 m0
        obtain ⟨d, hd, _, hS1⟩ := hO c x1
        have si := ti_add2 (Eq.refl i.toInt) i_1 (by omega) (by omega)
        have sl : SmL ns v c (cuC v p).toNat m' d (v.1 81 p) (w.1 213 p) := ⟨by rw [cu81], by rw [cr13, ← ce], x6, hd, hS1 rfl, x7, by omega, by omega, on⟩
        obtain ⟨v1, w1, rc1, rm1, g1, g2, P1, O1, D1⟩ := hS k c (cuC v p).toNat m' N d (v.1 81 p) (w.1 213 p) dep v w _ _ c1 m1 (by omega) (by rw [cr13, ← ce]; omega) sl hW d0 (hD c x1) hk x9 (sb _ _ (by omega) x5)
        have Pp : PoL false GoW ns nm ks off v w v1 w1 (p + 1) m := pol_m P1 (by omega) x5
        have A := agr_i Pp.2.1.1 (Nat.zero_le p) (show p < p + 1 by omega)
        have A2 := Pp.2.1.1 p (Nat.zero_le p) (show p < p + 1 by omega)
        have Am : AgR m' m v v1 w w1 := agr_m P1.2.1.2 (Nat.le_refl _) (by omega)
        have ab1 : AB0 v1 w1 cs (nxC v (cuC v p).toNat) := ab0_f cs m' _ m x8 Am x10
        have st : (rm1.toInt = 0 ∨ rm1.toInt = 2) → BlkR ns off k v1 w1 l p := fun z => Or.inr ⟨by rw [A.2.2.1]; exact s1, by rw [A.2.2.2.2.1]; exact b1, by rw [A.2.2.2.1, A.2.2.2.2.2.2.2.1]; exact ce, by
          rw [A.1, A.2.2.2.1]
          exact x11 _ v1 w1 (fun j => (pol_fi P1 j).2) ab1 (D1 z)⟩
        have Pq := pol_m Pp (show p ≤ p + 1 by omega) (Nat.le_refl m)
        rcases O1 with ⟨r1, r2, on1⟩ | ⟨r1, r2, on1⟩ | ⟨r1, r2, on1⟩ | ⟨r1, r2, on1⟩
        · -- it has ended: the next one
          have c2 := ch_x ((g1.1 (by rw [r2]; decide)).2)
          have m2 := (g2.1 r1).2.2.2
          clear g1 g2 c1 m1
          have cu1 : (v.1 81 p).toInt.toNat = (cuC v p).toNat := by rw [cu81]
          have w13 : w1.1 213 p = w.1 213 p := A2.2.2.2.2.1
          rw [w13, show (w.1 213 p).toInt.toNat = (cuC v p).toNat by rw [cr13, ← ce]] at m2
          rw [cu1] at c2
          have ly1 := P1.1.2.2.1.2.2.2.2.2.1.2.2 (cuC v p).toNat (by rw [P1.2.2.2.1]; omega)
          rw [← ly1.2.2] at m2
          have n79 : (v1.1 79 (cuC v p).toNat).toInt = nxC v (cuC v p).toNat := by
            rw [(P1.2.2.1 _).2.2]
            rfl
          have nx : nxC v (cuC v p).toNat = -1 ∨ (nxC v (cuC v p).toNat = (m' : Int) ∧ m' < m) := by
            cases cs with
            | nil => exact Or.inl (lz_n x8).1
            | cons y ys =>
              obtain ⟨t1, _, mm, t2, t3, _, _⟩ := lz_c x8
              exact Or.inr ⟨t1, by omega⟩
          have W1 := P1.1
          obtain ⟨B, F, f2, f3, f4, f5⟩ := ch_f (v := v1) (a := ap) (b := v1.1 79 (cuC v p).toNat) ap' W1.2.1.1 (by omega) (by omega)
          have GW : FR lpM w1 (sI w1 213 p (v1.1 79 (cuC v p).toNat)) := FR.I (FR.refl _ w1) rfl
          have P2 : PoL false GoW ns nm ks off v1 w1 (chW v1 ap (v1.1 79 (cuC v p).toNat)) (sI w1 213 p (v1.1 79 (cuC v p).toNat)) p m := bg_p hG W1 B (wbd_213 W1.2.1.2 p (by omega) (by omega)) ((FR.refl _ v1).tr F rfl) GW (fun j hj => ⟨f4 j (by omega), f5 j (by omega), (F 82 j rfl).2.1, (F 83 j rfl).2.1, (F 84 j rfl).2.1, (F 85 j rfl).2.1⟩) (fun j hj => a8_I (a8_0 w1 p) 213 _ j (by omega)) (mnr_f F (FR.I (FR.refl [(213, none)] w1) rfl) rfl rfl)
          have w2_13 : (sI w1 213 p (v1.1 79 (cuC v p).toNat)).1 213 p = v1.1 79 (cuC v p).toNat := sI_same _ _ _ _
          have w2_12 : (sI w1 213 p (v1.1 79 (cuC v p).toNat)).1 212 p = w1.1 212 p := sI_oth _ _ _ _ _ _ (by decide)
          have g210 : ∀ j, (sI w1 213 p (v1.1 79 (cuC v p).toNat)).1 210 j = w1.1 210 j := fun j => sI_oth _ _ _ _ _ _ (by decide)
          have v2_80 : (chW v1 ap (v1.1 79 (cuC v p).toNat)).1 80 p = v1.1 80 p := f4 p (by omega)
          have onn : ((chW v1 ap (v1.1 79 (cuC v p).toNat)).1 61 4).toInt = 0 := by
            rw [(F 61 4 rfl).1]
            exact on1
          generalize chW v1 ap (v1.1 79 (cuC v p).toNat) = v2 at *
          generalize sI w1 213 p (v1.1 79 (cuC v p).toNat) = w2 at *
          have P12 := pol_t Pq P2
          have e8 := (pol_fi P12 p).1
          have cu2 : cuC v2 p = nxC v (cuC v p).toNat := by
            unfold cuC
            rw [f2]
            exact n79
          have ab2 : AB0 v2 w2 cs (nxC v (cuC v p).toNat) := by
            have key : ∀ (l : List Nat) (h : Int), AB0 v1 w1 l h → AB0 v2 w2 l h := by
              intro l
              induction l with
              | nil => exact fun _ _ => trivial
              | cons c cs ihl =>
                intro h t
                refine ⟨?_, ?_⟩
                · unfold bgM
                  rw [g210]
                  exact t.1
                · rw [(pol_fi P2 _).2]
                  exact ihl _ t.2
            exact key _ _ ab1
          have K2 : CuK (Dy ns off v2 w2 k) v2 w2 l (fiC v2 p) (cuC v2 p) := by
            rw [e8, cu2]
            refine x12 _ v2 w2 (fun j => (pol_fi P12 j).2) (cuk_1 x8 (fun c2 cs2 hcs => ?_) ab2)
            obtain ⟨kk, ek⟩ : ∃ kk, k = kk + 1 := ⟨k - 1, by omega⟩
            rw [ek]
            obtain ⟨d2, hd2, _, _⟩ := hO c2 (x2 c2 (by rw [hcs]; exact List.mem_cons_self))
            rw [hcs] at ab2
            have t := ab2.1
            refine dy_0 hd2 (f3 _ ?_) t
            rw [n79]
            rw [hcs] at x8
            have := (lz_c x8).1
            omega
          obtain ⟨v', w', rc, rm, h1, h2, P, O, S3, e12⟩ := ih M' _ v2 w2 c2 m2 P12.1 onn (by rw [e8]; exact pol_l P12 hL) (by rw [P12.2.2.2.1]; exact hp) (by unfold stg; rw [v2_80]; exact (show stg v1 p = 1 by rw [A.2.2.1]; exact s1)) (by unfold bgM; rw [g210]; exact (show bgM w1 p = 1 by rw [A.2.2.2.2.1]; exact b1)) (by unfold cuC crM; rw [f2, w2_13]) K2 (fun x m2 hx _ => Or.inl (f3 x (by rw [n79, ← cu2]; exact hx))) (by omega) (by rw [cu2]; omega)
          exact ⟨v', w', rc, rm, h1, h2, pol_t P12 P, O, S3, by rw [e12, w2_12]; exact A2.2.2.2.1⟩
        · exact ⟨v1, w1, 0, rm1, g1.2 (fun z => z r2), g2.2 (by rw [r1]; decide), Pq, Or.inr (Or.inl ⟨r1, by decide, on1⟩), st, A2.2.2.2.1⟩
        · exact ⟨v1, w1, 0, rm1, g1.2 (fun z => z r2), g2.2 (by rw [r1]; decide), Pq, Or.inr (Or.inr (Or.inl ⟨r1, by decide, on1⟩)), st, A2.2.2.2.1⟩
        · exact ⟨v1, w1, 0, rm1, g1.2 (fun z => z r2), g2.2 (by rw [r1]; decide), Pq, Or.inr (Or.inr (Or.inr ⟨r1, by decide, on1⟩)), st, A2.2.2.2.1⟩
/-- A BLOCK GOES ON ALIKE -/
theorem go_b {GoW : MW → MW → Prop} {ns : List Nod} {nm : List Nm} {ks : List Nat} {off : Int} (hG : GoI GoW) (hP : PfG GoW) : ∀ n : Nat, GoB GoW ns nm ks off (pn_Ru_goOn n) := by
  have main : ∀ n : Nat, ∀ n', n' ≤ n → GoB GoW ns nm ks off (pn_Ru_goOn n') := by
    intro n
    induction n with
    | zero =>
      intro n' h0 k p m N l ap am dep v w Qc Qm hc
      have e : n' = 0 := by omega
      rw [e] at hc
      exact False.elim hc
    | succ n ih =>
      intro n' hn'
      by_cases hz : n' ≤ n
      · exact ih n' hz
      · have en : n' = n + 1 := by omega
        rw [en]
        have hS : GsB GoW ns nm ks off (pn_Ru_goesPast n) := by
          cases n with
          | zero => exact fun _ _ _ _ _ _ _ _ _ _ _ _ _ h => False.elim h
          | succ n => exact go_s hG hP (fun n' h => ih n' (by omega))
        intro k p m N l ap am dep v w Qc Qm hc hm ea em hW on hB hO hL pm d0 d5 hk hD hK sb
        have ap' : ap.toInt.toNat = p := by omega
        have am' : am.toInt.toNat = p := by omega
        have par := hW.2.2.1.2.2.2.2.2.1
        have p5 := par.2.1.2
        rw [pe_Ru_goOn, pb_Ru_goOn.eq_1] at hc
        have dlt : dep.toInt < 100 := by clear hc; omega
        have c1 := (hc.1 dlt).2
        clear hc
        cases N with
        | zero => exact False.elim hm
        | succ N =>
          rw [pe_Mo_go, pb_Mo_go.eq_1] at hm
          have m1 := hm.2
          clear hm
          rw [am'] at m1
          rcases hK with ⟨o1, o2⟩ | ⟨o1, o2, o3, o4⟩
          · -- it begins
            have c2 := c1.2 (fun z => z (by rw [ap']; exact o1))
            have m2 := m1.2 (fun z => z o2)
            clear c1 m1
            obtain ⟨c, d, ec, hd, h35⟩ : ∃ (c : Nat) (d : Nod), (v.1 77 p).toInt = (c : Int) ∧ ns[c]? = some d ∧ d.1 = 35 := by
              rcases hB with z | z
              · rw [p_Ru_mayBegin.eq_1, ap'] at c2
                have t := c2.2.2.1
                clear c2 m2
                omega
              · exact z
            rcases bg_h hG hW c2 m2 ea em (by omega) ec hd (Or.inr h35) with ⟨v', w', a1, a2, a3, a4, a5, a6⟩ | ⟨v1, w1, K, nd, o, a1, a2, eK, end1, eo, W1, F1, G1, u19⟩
            · have A := agr_f (s := 0) (q := 501) a5 a6 rfl rfl
              refine ⟨v', w', 0, 2, a1.2 (fun z => z (by decide)), a2.2 (fun z => z (by decide)), pol_i a3 (fr_lal a5) (agr_m A (Nat.zero_le _) (by omega)) (agr_m A (Nat.zero_le _) (Nat.le_refl _)) (mnr_f a5 a6 rfl rfl), Or.inr (Or.inr (Or.inl ⟨by decide, by decide, a4⟩)), fun _ => Or.inl ⟨?_, ?_⟩, fun _ z => absurd z (by decide), (a6 212 p rfl).1⟩
              · unfold stg
                rw [(a5 80 p rfl).1]
                exact o1
              · unfold bgM
                rw [(a6 210 p rfl).1]
                exact o2
            · have P1 : PoL false GoW ns nm ks off v w v1 w1 p m := pol_i W1 ((FR.refl lrC v).tr F1 rfl) (agr_f F1 G1 rfl rfl _ _) (agr_f F1 G1 rfl rfl _ _) ⟨le_s u19, sgr_f G1 rfl⟩
              have on1 : (v1.1 61 4).toInt = 0 := by rw [(F1 61 4 rfl).1]; exact on
              have c3 := en_x (a1.1 (by decide))
              clear c2 m2 a1
              have eK' : K.toInt = 23 := by rw [eK, h35]; decide
              have o0 := eo.mpr (by rw [h35]; decide)
              have q := b248_d (b133_0 a2 o0 (by omega) W1.2.2.2.2.2.2.2.2.1 am') am' (by omega)
              have ly := W1.2.2.1.2.2.2.2.2.1
              have hL1 : Lz ns v1 l (p + 1) (fiC v1 p) m := by
                rw [(pol_fi P1 p).1]
                exact pol_l P1 hL
              have hp1 : (m : Int) ≤ (v1.1 61 5).toInt := by rw [P1.2.2.2.1]; exact pm.2
              have e78 : (v1.1 78 p).toInt = fiC v1 p := rfl
              have fx : fiC v1 p = -1 ∨ fiC v1 p = ((p + 1 : Nat) : Int) ∧ p + 1 < m := by
                cases l with
                | nil => exact Or.inl (lz_n hL1).1
                | cons y ys =>
                  obtain ⟨t1, _, mm, t2, t3, _, _⟩ := lz_c hL1
                  exact Or.inr ⟨t1, by omega⟩
              rw [ap'] at c3
              have A6b := a6_c (a := ap) (b := v1.1 78 p) pm.1 (a6_0 v1 p m) ap' W1.2.1.1 (by omega) (by omega) (by omega)
              obtain ⟨B, F, f1, f2, f3, f4, f5⟩ := ci_x (v := v1) (a := ap) (b := v1.1 78 p) ap' W1.2.1.1 (by omega) (by omega) (by omega)
              rw [ap'] at A6b B F f1 f2 f3 f4 f5
              generalize chW (sI v1 80 p 1) ap (v1.1 78 p) = v3 at *
              obtain ⟨w', a4, a5, a6, a7, a8, a9⟩ := bt_x (v := v1) q (by rw [← (ly.2.2 p (by omega)).2.1]; rfl) hL1 (fun j hj => by rw [(bx_f w1 p 0 _ 209 j rfl).1]; exact (ly.2.2 j hj).2.2) hp1 (bx_b W1.2.1.2 p 0 _)
              have F3 : FR lpC v1 v3 := (FR.refl _ v1).tr F rfl
              have G3 : FR lpM w1 w' := ((FR.refl _ w1).tr (bx_f w1 p 0 _) rfl).tr a5 rfl
              have bs := bx_s w1 p 0 ((0 : Int64) / (1000 : Int64))
              have sg : SgR false (bxW w1 p 0 ((0 : Int64) / (1000 : Int64))) w' := ⟨(a5 127 74 rfl).1, fun j hj => Or.inl (by
                rcases a9 j with z | z
                · unfold bgM at hj ⊢
                  unfold siM
                  rw [z] at hj
                  rw [(a5 214 j rfl).1]
                  exact ⟨hj, rfl⟩
                · unfold bgM at hj
                  omega)⟩
              have P3 : PoL false GoW ns nm ks off v1 w1 v3 w' p m := bg_p hG W1 B a6 F3 G3 A6b (fun j hj => by
                have t := a8_x w1 p 0 ((0 : Int64) / (1000 : Int64)) j (by omega)
                have q := a8 j (by omega)
                rw [q.1, q.2, (a5 211 j rfl).1, (a5 213 j rfl).1, (a5 214 j rfl).1, (a5 215 j rfl).2.1, (a5 216 j rfl).2.1, (a5 217 j rfl).2.1]
                exact t) (mn_k F3 rfl (sgx w1 p 0 _) sg)
              have P13 := pol_t P1 P3
              have e8 := (pol_fi P3 p).1
              have cu3 : cuC v3 p = fiC v1 p := by unfold cuC; rw [f2]; rfl
              have b210 : bgM w' p = 1 := by
                unfold bgM
                rw [(a8 p (by omega)).1]
                exact bs.1
              have lyp := ly.2.2 p (by omega)
              have e13 : w'.1 213 p = v1.1 78 p := by rw [(a5 213 p rfl).1, bs.2.2.1]; exact lyp.2.1.symm
              have K3 : CuK (Dy ns off v3 w' k) v3 w' l (fiC v3 p) (cuC v3 p) := by
                rw [e8, cu3]
                have ab : AB0 v3 w' l (fiC v1 p) := by
                  have key : ∀ (l : List Nat) (h : Int), AO0 v1 w' l h → AB0 v3 w' l h := by
                    intro l
                    induction l with
                    | nil => exact fun _ _ => trivial
                    | cons c cs ihl => exact fun h t => ⟨t.1, by rw [(pol_fi P3 _).2]; exact ihl _ t.2.2⟩
                  exact key _ _ a7
                refine cuk_1 hL1 (fun c2 cs2 hcs => ?_) ab
                obtain ⟨kk, ek⟩ : ∃ kk, k = kk + 1 := ⟨k - 1, by omega⟩
                rw [ek]
                obtain ⟨d2, hd2, _, _⟩ := hO c2 (by rw [hcs]; exact List.mem_cons_self)
                rw [hcs] at ab
                refine dy_0 hd2 (f3 _ ?_) ab.1
                rw [hcs] at hL1
                have := (lz_c hL1).1
                omega
              have m3 := a4.1 (by decide)
              have MM := gk_t (r3 := 0) am' m3 (k := 23) (fun R q => rt_x P13.1 (by rw [P13.2.2.2.1]; omega) em (by
                right
                exact ⟨c, d, by rw [(P13.2.2.1 p).1]; exact ec, hd, h35⟩) q)
              obtain ⟨v2, w2, rc, rm, h1, h2, P, O, S3, e12⟩ := go_lp (k := k) (p := p) (m := m) (l := l) (Qc := Qc) (Qm := Qm) hG hS ap' am' hO pm.1 d0 hk d5 hD FU FU 0 v3 w' c3 (MM.2.2.2.2.2.2.2.2.2 rfl) P13.1 (by rw [(F3 61 4 rfl).1]; exact on1) (by rw [(pol_fi P13 p).1]; exact pol_l P13 hL) (by rw [P13.2.2.2.1]; exact pm.2) f1 b210 (by rw [cu3]; unfold crM; rw [e13]; rfl) K3 (fun x m2 hx _ => Or.inl (f3 x (by rw [e78, ← cu3]; exact hx))) (by decide) (by rw [cu3, i_0]; omega)
              refine ⟨v2, w2, rc, rm, h1, h2, pol_t P13 P, O, S3, fun _ _ => ?_, ?_⟩
              · have t1 := P.2.2.2.2.2.1
                have t2 := P3.2.2.2.2.2.1
                omega
              · rw [e12, (a8 p (by omega)).2, (bx_f w1 p 0 _ 212 p rfl).1, (G1 212 p rfl).1]
          · -- it has begun
            have c2 := c1.1 (by rw [ap']; exact fun z => absurd (o1.symm.trans z) (by decide))
            rw [ap'] at c2
            have m2 := m1.1 (fun z => absurd (o2.symm.trans z) (by decide))
            clear c1 m1
            have MM := gk_t (r3 := 0) am' m2 (k := 23) (fun R q => rt_x hW (by omega) em hB q)
            have reg : ∀ j : Nat, p < j → j < m → bgM w j = 1 → 0 ≤ siM w j ∧ siM w j < (w.1 127 74).toInt := by
              rcases sb with z | z
              · omega
              · exact z
            have cx : cuC v p = -1 ∨ (p : Int) < cuC v p := by
              rcases cuk_x _ _ _ _ hL o4 with z | ⟨c, m', cs, x1, x2, x3, _⟩
              · exact Or.inl z
              · right
                omega
            obtain ⟨v2, w2, rc, rm, h1, h2, P, O, S3, e12⟩ := go_lp (k := k) (p := p) (m := m) (l := l) (Qc := Qc) (Qm := Qm) hG hS ap' am' hO pm.1 d0 hk d5 hD FU FU 0 v w c2 (MM.2.2.2.2.2.2.2.2.2 rfl) hW on hL pm.2 o1 o2 o3 o4 (fun x m2 hx hm2 => Or.inr (fun j ja jb => reg j (by omega) (by omega))) (by decide) (by rw [i_0]; omega)
            exact ⟨v2, w2, rc, rm, h1, h2, P, O, S3, fun z => by omega, e12⟩
  exact fun n => main n n (Nat.le_refl _)
