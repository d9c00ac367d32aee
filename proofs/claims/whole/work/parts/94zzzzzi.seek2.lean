/-! what stands still: a statement, a block -/
theorem sub1_eq {a b : Int32} (h : a = b) : (a - (1 : Int32)) = (b - (1 : Int32)) := by rw [h]
theorem sub0_eq (a : Int32) : a - (0 : Int32) = a := by simp
theorem sk_s {ns : List Nod} {nm : List Nm} {ks : List Nat} {off : Int} {n k N c s m : Nat} {as am asks dep : Int32} {v w : MW} {Qc Qm : Int32 → MW → Prop} (hR : SkB ns nm ks off (pn_Ru_seek n)) (hc : q_Ru_seek_20 (pn_Ru_seek n) asks dep as v Qc) (hm : pn_Mo_stillAt N w am asks Qm) (ea : as.toInt = (s : Int)) (em : am.toInt = (s : Int)) (ha : asks.toInt = 0 ∨ asks.toInt = 1) (hS : SkS ns nm ks off v w) (ec : (v.1 77 s).toInt = (c : Int)) (hO : OwB ns false c) (hL : Lz ns v (kdl ns c) (s + 1) (fiC v s) m) (sm : s < m) (hp : (m : Int) ≤ (v.1 61 5).toInt) (d0 : 0 ≤ dep.toInt) (d4 : dep.toInt + gD (csl ns []) c ≤ 40) (hD : Dy ns off v w k c s) (s1 : 1 ≤ s) : ∃ (v' w' : MW) (rc rm : Int32), Qc rc v' ∧ Qm rm w' ∧ SqP v w v' w' ∧ FdR rc rm (s - 1) m ∧ AsK ns v asks rc ∧ (asks.toInt = 1 → 0 ≤ rc.toInt → ∀ v2 w2, UpA v w v2 w2 rc.toInt.toNat → Dy ns off v2 w2 k c s) := by
  obtain ⟨d, hd, _, hSS⟩ := hO
  have hSS := hSS rfl
  have pg := hS.1.2.2.2.1
  have stc := hS.1.2.1 c d hd
  have par := hS.1.2.2.2.2.2.1
  have lys := par.2.2 s (by omega)
  have g0 := gd_0 pg.2.1 hd
  have as' : as.toInt.toNat = s := by omega
  have am' : am.toInt.toNat = s := by omega
  have cn : (v.1 77 s).toInt.toNat = c := by omega
  have p5 := par.2.1
  cases k with
  | zero => exact False.elim hD
  | succ k =>
    have hD0 := hD
    rw [Dy_u] at hD
    obtain ⟨d', hd', o⟩ := hD
    have edd : d' = d := Option.some.inj (hd'.symm.trans hd)
    rw [edd] at o
    rw [q_Ru_seek_20.eq_1, as', cn] at hc
    have c1 := (hc.2 (by omega)).2
    cases N with
    | zero => exact False.elim hm
    | succ N =>
      rcases o with ⟨o1, o2⟩ | ⟨o1, o2, Y⟩
      · rw [pe_Mo_stillAt, pb_Mo_stillAt.eq_1, am'] at hm
        exact ⟨v, w, -1, -1, c1.1 o1, hm.2.2 (fun z => z o2), skp_0 hS.2, Or.inl ⟨by decide, by decide⟩, fun _ z => absurd z (by decide), fun _ z => absurd z (by decide)⟩
      · have c2 := ((c1.2 (by unfold stg at o1; omega)).1 (by omega)).2
        have M := sk_m am' hm o2 (fun P q => kn_x (a := am) hS.1.2.2.1 (by rw [am', ← lys.1]; exact ec) hd q)
        have cu81 : (v.1 81 s).toInt = cuC v s := rfl
        have cr13 : (w.1 213 s).toInt = crM w s := rfl
        by_cases k16 : d.1 = 16
        · have y7 := Y.2.2.2.2.2.2.1 k16
          have c3 := ((c2.1 (by omega)).2.2.2).2 (fun z => z (by rw [stc.1]; exact k16))
          have c4 := c3.2
          rw [q_Ru_seek_106.eq_1] at c4
          have m2 := M.1 (by rw [k16]; decide)
          obtain ⟨v', w', rc, rm, g1, g2, P, O, K, U⟩ := sk_sd (k := k - 1) hR d0 (by omega) ha (kdl ns c) FU FU _ _ 0 (fiC v s) (s + 1) m v w c4 m2 rfl (by rw [← lys.2.1]; rfl) hL hp (fun b hb => by
            obtain ⟨db, hdb, h35⟩ := kd_b pg hd hSS hb
            exact ⟨⟨db, hdb, h35⟩, dpl_k pg.2.1 hd d4 hb hdb h35⟩) hS (by
              cases k with
              | zero =>
                rcases hkl : kdl ns c with _ | ⟨b, bs⟩
                · trivial
                · have y := y7.2
                  rw [hkl] at y
                  refine ⟨?_, ?_⟩
                  · rcases y.1 with z | z
                    · exact Or.inl z
                    · exact False.elim z.2.2
                  · have key : ∀ (l : List Nat) (h : Int), SiK (Dy ns off v w 0) v w l h → SiK (Dy ns off v w (0 - 1 + 1)) v w l h := by
                      intro l
                      induction l with
                      | nil => exact fun _ _ => trivial
                      | cons c cs ih =>
                        intro h z
                        refine ⟨?_, ih _ z.2⟩
                        rcases z.1 with t | t
                        · exact Or.inl t
                        · exact False.elim t.2.2
                    exact key _ _ y.2
              | succ k => exact y7.2) (by decide) (by rw [i_0]; omega) (by omega)
          have g1' := g1.1 (by rw [stc.1]; exact k16)
          refine ⟨v', w', rc, rm, g1', g2, P, ?_, K, fun z1 z2 v2 w2 hU => ?_⟩
          · rcases O with z | ⟨z1, z2, z3⟩
            · exact Or.inl z
            · exact Or.inr ⟨z1, by omega, z3⟩
          · have t := upa_s hU s
            have rb : (s : Int) < rc.toInt := by
              rcases O with ⟨z, _⟩ | ⟨_, z, _⟩ <;> omega
            rw [Dy_u]
            refine ⟨d, hd, Or.inr ⟨by rw [t.2.2.1]; exact o1, by rw [t.2.2.2.2.1]; exact o2, ?_⟩⟩
            rw [k16]
            refine bdy_7 ⟨by rw [t.2.2.2.1]; exact y7.1, ?_⟩
            rw [t.1]
            cases k with
            | zero =>
              have q := U z1 z2 v2 w2 hU
              have key : ∀ (l : List Nat) (h : Int), SiK (Dy ns off v w 0) v w l h → SiK (Dy ns off v2 w2 0) v2 w2 l h := by
                intro l
                induction l with
                | nil => exact fun _ _ => trivial
                | cons c cs ih =>
                  intro h z
                  refine ⟨?_, by rw [(upa_s hU _).2.1]; exact ih _ z.2⟩
                  rcases z.1 with t | t
                  · exact Or.inl ⟨by rw [(upa_s hU _).2.2.1]; exact t.1, by rw [(upa_s hU _).2.2.2.2.2.1]; exact t.2⟩
                  · exact False.elim t.2.2
              exact key _ _ y7.2
            | succ k => exact U z1 z2 v2 w2 hU
        · by_cases kx : d.1 = 12 ∨ d.1 = 13 ∨ d.1 = 14 ∨ d.1 = 22
          · have y2 := Y.2.1 kx
            have c3 := ((c2.1 (by omega)).2.2.2).1 (by rw [stc.1]; exact k16)
            rw [q_Ru_seek_106.eq_1] at c3
            have fu : (1000 : Nat) < FU := fu_lt (by decide)
            generalize hFU : FU = F0 at *
            cases F0 with
            | zero => omega
            | succ F0 =>
              rw [q_Ru_seek_114.eq_2] at c3
              have c4 := ((c3.2 (by decide)).1 (by decide)).2 (by rw [stc.1]; exact k16)
              have MM := M.2.2.2 (by rcases kx with z | z | z | z <;> (rw [z]; decide))
              have wk : wht d.1 = 18 ↔ d.1 = 22 := by rcases kx with z | z | z | z <;> (rw [z]; decide)
              -- it is counted
              have cnt : q_Ru_seek_192 (pn_Ru_seek n) as v Qc → q_Mo_stillAt_224 (pn_Mo_stillAt N) am 1 1 (w.1 127 77) w Qm → (asks.toInt = 1 → d.1 = 22) → ∃ (v' w' : MW) (rc rm : Int32), Qc rc v' ∧ Qm rm w' ∧ SqP v w v' w' ∧ FdR rc rm (s - 1) m ∧ AsK ns v asks rc ∧ (asks.toInt = 1 → 0 ≤ rc.toInt → ∀ v2 w2, UpA v w v2 w2 rc.toInt.toNat → Dy ns off v2 w2 (k + 1) c s) := fun h1 h2 h22 => by
                rw [q_Ru_seek_192.eq_1] at h1
                have h3 := (q224_x h2).2 (by decide)
                rw [← hS.2] at h3
                have P : SqP v w (sI v 61 15 ((v.1 61 15) - (1 : Int32))) (sI w 127 77 ((v.1 61 15) - (1 : Int32))) := ⟨FR.I (FR.refl _ v) rfl, FR.I (FR.refl _ w) rfl, by rw [sI_same, sI_same]⟩
                by_cases z : 0 ≤ ((v.1 61 15) - (1 : Int32)).toInt
                · exact ⟨_, _, -1, -1, h1.1 z, h3.1 z, P, Or.inl ⟨by decide, by decide⟩, fun _ z => absurd z (by decide), fun _ z => absurd z (by decide)⟩
                · refine ⟨_, _, as, am, h1.2 z, h3.2 z, P, Or.inr ⟨by omega, by omega, by omega⟩, fun z1 _ => ⟨c, d, by rw [as']; exact ec, hd, h22 z1⟩, fun z1 _ v2 w2 hU => ?_⟩
                  rw [as'] at hU
                  have k22 := h22 z1
                  have t := upa_s hU s
                  rw [Dy_u]
                  refine ⟨d, hd, Or.inr ⟨by rw [t.2.2.1]; exact o1, by rw [t.2.2.2.2.1]; exact o2, bdy_st kx (by rw [t.2.2.2.1]; exact y2) (fun z => by omega) (fun z => by omega) (fun z => by omega) (fun _ => ?_)⟩⟩
                  rw [hU.2.1.2.2.2.2]
                  have e1 : dnM w2 s = 1 := hU.2.2.2.1
                  rw [e1]
                  exact ⟨fun z => absurd z (by decide), fun z => absurd z (by decide)⟩
              rcases ha with a0 | a1
              · exact cnt (c4.1 a0) (MM.1 a0) (fun z => by omega)
              · have c5 := c4.2 (by omega)
                have M2 := MM.2 (by omega)
                -- it is no ask, or has its answer
                have no : Qc (-1) v → (¬ d.1 = 22 ∨ ¬ (w.1 211 s).toInt = 0) → ∃ (v' w' : MW) (rc rm : Int32), Qc rc v' ∧ Qm rm w' ∧ SqP v w v' w' ∧ FdR rc rm (s - 1) m ∧ AsK ns v asks rc ∧ (asks.toInt = 1 → 0 ≤ rc.toInt → ∀ v2 w2, UpA v w v2 w2 rc.toInt.toNat → Dy ns off v2 w2 (k + 1) c s) := fun h1 h2 => by
                  have q := (q224_x (M2.1 (by
                    rcases h2 with z | z
                    · exact Or.inl (fun y => z (wk.mp y))
                    · exact Or.inr z))).1 (by decide)
                  rw [sub0_eq] at q
                  have P : SqP v w v (sI w 127 77 (w.1 127 77)) := ⟨FR.refl _ v, FR.I (FR.refl _ w) rfl, by rw [sI_same]; exact hS.2⟩
                  exact ⟨v, _, -1, -1, h1, q, P, Or.inl ⟨by decide, by decide⟩, fun _ z => absurd z (by decide), fun _ z => absurd z (by decide)⟩
                by_cases k22 : d.1 = 22
                · have c6 := (c5.2 (fun z => z (by rw [stc.1]; exact k22))).2
                  rw [as'] at c6
                  have y6 := Y.2.2.2.2.2.1 k22
                  by_cases z : (lg_cmp (v.2.1 82 s) (0 : Int64)).toInt = 0
                  · exact cnt (c6.1 z) (M2.2 (wk.mpr k22) (y6.mp (lg_0.mp z))) (fun _ => k22)
                  · exact no (c6.2 z) (Or.inr (fun y => z (lg_0.mpr (y6.mpr y))))
                · exact no (c5.1 (by rw [stc.1]; exact k22)) (Or.inl k22)
          · -- inside a block
            have inside : ∀ (b x mx : Nat) (aw : Int32), b ∈ kdl ns c → cuC v s = (x : Int) → (s : Int) < x → x < mx → mx ≤ m → (v.1 77 x).toInt = (b : Int) → Lz ns v (kdl ns b) (x + 1) (fiC v x) mx → Dy ns off v w k b x → aw.toInt = (x : Int) → pn_Mo_stillAt N w aw asks Qm → (∀ v2 w2, (∀ j, fiC v2 j = fiC v j ∧ nxC v2 j = nxC v j ∧ stg v2 j = stg v j ∧ cuC v2 j = cuC v j ∧ bgM w2 j = bgM w j ∧ ovM w2 j = ovM w j ∧ crM w2 j = crM w j) → (v2.2.1 82 s = v.2.1 82 s ∧ w2.2.1 215 s = w.2.1 215 s) → Dy ns off v2 w2 k b x → Dy ns off v2 w2 (k + 1) c s) → ∃ (v' w' : MW) (rc rm : Int32), Qc rc v' ∧ Qm rm w' ∧ SqP v w v' w' ∧ FdR rc rm (s - 1) m ∧ AsK ns v asks rc ∧ (asks.toInt = 1 → 0 ≤ rc.toInt → ∀ v2 w2, UpA v w v2 w2 rc.toInt.toNat → Dy ns off v2 w2 (k + 1) c s) := fun b x mx aw hb hx sx xm mm ex Lb Db eaw hmm back => by
              obtain ⟨db, hdb, h35⟩ := kd_b pg hd hSS hb
              have sd := ti_add2 (Eq.refl dep.toInt) i_1 (by omega) (by omega)
              have c3 := (c2.2 (by omega)).2
              cases k with
              | zero => exact False.elim Db
              | succ k =>
                obtain ⟨v', w', rc, rm, g1, g2, P, O, K, U⟩ := hR k x mx N (kdl ns b) (v.1 81 s) aw asks (dep + (1 : Int32)) v w _ _ c3 hmm (by omega) eaw ha hS (Or.inr ⟨b, db, ex, hdb, h35⟩) (kd_s pg hdb h35) Lb ⟨xm, by omega⟩ (by omega) (by omega) (by rw [sd]; exact dpl_k pg.2.1 hd d4 hb hdb h35) ((dy_b hdb h35).mp Db)
                refine ⟨v', w', rc, rm, g1, g2, P, ?_, K, fun z1 z2 v2 w2 hU => ?_⟩
                · rcases O with z | ⟨z1, z2, z3⟩
                  · exact Or.inl z
                  · exact Or.inr ⟨z1, by omega, by omega⟩
                · have rb : (x : Int) < rc.toInt := by
                    rcases O with ⟨z, _⟩ | ⟨_, z, _⟩ <;> omega
                  have q := hU.1 s (s + 1) (by omega) s (Nat.le_refl _) (by omega)
                  exact back v2 w2 (fun j => upa_s hU j) ⟨q.1.2.2.2.2.1, q.2.2.2.2.2.2.1⟩ ((dy_b hdb h35).mpr (U z1 z2 v2 w2 hU))
            by_cases k19 : d.1 = 19
            · obtain ⟨y1, y3, b, kb1, Db⟩ := Y.2.2.2.2.2.2.2.1 k19
              have hL0 := hL
              rw [kb1] at hL0
              obtain ⟨e1, e2, mx, x1, x2, L1, _⟩ := lz_c hL0
              have fs : (fiC v s).toNat = s + 1 := by omega
              rw [fs] at Db
              refine inside b (s + 1) mx (w.1 208 s) (by rw [kb1]; exact List.mem_cons_self) (by omega) (by omega) x1 x2 e2 L1 Db (by rw [← lys.2.1]; exact e1) (M.2.1 (by rw [k19]; decide)) (fun v2 w2 t q D2 => ?_)
              rw [Dy_u]
              refine ⟨d, hd, Or.inr ⟨by rw [(t s).2.2.1]; exact o1, by rw [(t s).2.2.2.2.1]; exact o2, ?_⟩⟩
              rw [k19]
              refine bdy_8 ⟨by rw [(t s).2.2.2.1, (t s).1]; exact y1, by rw [q.1, q.2]; exact y3, b, kb1, ?_⟩
              rw [(t s).1, fs]
              exact D2
            · have k3 : d.1 = 17 ∨ d.1 = 20 ∨ d.1 = 23 := by
                have t1 := Y.2.2.2.2.2.2.2.2.2
                have t2 := isS_t.mp hSS
                omega
              have y9 := Y.2.2.2.2.2.2.2.2.1 k3
              rcases cui_x _ _ _ _ hL y9.2 with z | ⟨b, mx, hb, z1, z2, z3, z4, z5, z6, z7⟩
              · exfalso
                have y := y9.2
                have key : ∀ (l : List Nat) (a : Nat) (h : Int), Lz ns v l a h m → CuI (Dy ns off v w k) v l h (cuC v s) → False := by
                  intro l
                  induction l with
                  | nil => exact fun _ _ _ t => t
                  | cons c cs ih =>
                    intro a h hl t
                    obtain ⟨q1, _, mm, q2, q3, _, q5⟩ := lz_c hl
                    rcases t with ⟨t1, _⟩ | ⟨_, t2⟩
                    · omega
                    · rw [show h.toNat = a by omega] at t2
                      exact ih mm _ q5 t2
                exact key _ _ _ hL y
              · have m2 := (M.2.2.1 (by rcases k3 with z | z | z <;> (rw [z]; decide))).1 (by rw [cr13, ← y9.1]; omega)
                refine inside b (cuC v s).toNat mx (w.1 213 s) hb (by omega) (by omega) (by omega) z3 z4 z5 z6 (by rw [cr13, ← y9.1]; omega) m2 (fun v2 w2 t q D2 => ?_)
                rw [Dy_u]
                refine ⟨d, hd, Or.inr ⟨by rw [(t s).2.2.1]; exact o1, by rw [(t s).2.2.2.2.1]; exact o2, bdy_9 k3 ⟨by rw [(t s).2.2.2.1, (t s).2.2.2.2.2.2]; exact y9.1, ?_⟩⟩⟩
                rw [(t s).1, (t s).2.2.2.1]
                exact z7 _ v2 (fun j => (t j).2.1) D2
/-- WHAT STANDS STILL IS FOUND ALIKE -/
theorem sk_b {ns : List Nod} {nm : List Nm} {ks : List Nat} {off : Int} : ∀ n : Nat, SkB ns nm ks off (pn_Ru_seek n) := by
  intro n
  induction n with
  | zero => exact fun _ _ _ _ _ _ _ _ _ _ _ _ _ h => False.elim h
  | succ n ih =>
    intro k p m N l ap am asks dep v w Qc Qm hc hm ea em ha hS hB hO hL pm d0 d5 hD hK
    have ap' : ap.toInt.toNat = p := by omega
    have am' : am.toInt.toNat = p := by omega
    have par := hS.1.2.2.2.2.2.1
    have p5 := par.2.1
    have hK0 := hK
    rcases hK with ⟨o1, o2⟩ | ⟨o1, o2, o3, o4⟩
    · cases N with
      | zero => exact False.elim hm
      | succ N =>
        rw [pe_Mo_stillAt, pb_Mo_stillAt.eq_1, am'] at hm
        refine ⟨v, w, -1, -1, sk_no hc ?_, hm.2.2 (fun z => z o2), skp_0 hS.2, Or.inl ⟨by decide, by decide⟩, fun _ z => absurd z (by decide), fun _ z => absurd z (by decide)⟩
        rw [ap']
        unfold stg at o1
        omega
    · rw [pe_Ru_seek, pb_Ru_seek.eq_1, ap'] at hc
      have c1 := (hc.2.2 (fun z => z o1)).2
      cases N with
      | zero => exact False.elim hm
      | succ N =>
        have M := sk_m am' hm o2 (fun P q => rt_k hS (by omega) em hB q)
        have M2 := M.2.2.1 (Or.inl rfl)
        have cu81 : (v.1 81 p).toInt = cuC v p := rfl
        have cr13 : (w.1 213 p).toInt = crM w p := rfl
        rcases cuk_x _ _ _ _ hL o4 with z | ⟨c, m', cs, b1, b2, b3, b4, b5, b6, b7, b8, b9, b10, b11, b12⟩
        · rw [q_Ru_seek_20.eq_1] at c1
          exact ⟨v, w, -1, -1, c1.1 (by omega), M2.2 (by omega), skp_0 hS.2, Or.inl ⟨by decide, by decide⟩, fun _ z => absurd z (by decide), fun _ z => absurd z (by decide)⟩
        · obtain ⟨v', w', rc, rm, q1, q2, P, O, K, U⟩ := sk_s (s := (cuC v p).toNat) (m := m') ih c1 (M2.1 (by omega)) (by omega) (by rw [cr13, ← o3]; omega) ha hS b6 (hO c b1) b7 (by omega) (by omega) d0 (hD c b1) b9 (by omega)
          refine ⟨v', w', rc, rm, q1, q2, P, ?_, K, fun z1 z2 v2 w2 hU => ?_⟩
          · rcases O with z | ⟨z1, z2, z3⟩
            · exact Or.inl z
            · exact Or.inr ⟨z1, by omega, by omega⟩
          · have t := upa_s hU p
            refine Or.inr ⟨by rw [t.2.2.1]; exact o1, by rw [t.2.2.2.2.1]; exact o2, by rw [t.2.2.2.1, t.2.2.2.2.2.2]; exact o3, ?_⟩
            rw [t.1, t.2.2.2.1]
            exact b11 _ v2 w2 (fun j => (upa_s hU j).2.1) (upa_ab hU cs _ b10) (U z1 z2 v2 w2 hU)
