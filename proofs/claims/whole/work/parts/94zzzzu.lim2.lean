/-! limits are looked at: a statement, a block -/
/-- the block that a statement is inside of is looked at -/
theorem lm_in {GoW : MW → MW → Prop} {ns : List Nod} {nm : List Nm} {ks : List Nat} {off : Int} {n k N c s m b x mx : Nat} {d : Nod} {ap am dep : Int32} {v w : MW} {Qc : MW → Prop} {Qm : Int32 → MW → Prop} (hR : LmB GoW ns nm ks off (pn_Ru_lookAtLimits n)) (hc : pn_Ru_lookAtLimits n v ap (dep + (1 : Int32)) Qc) (hm : pn_Mo_limits N w am Qm) (ea : ap.toInt = (x : Int)) (em : am.toInt = (x : Int)) (hW : WS GoW ns nm ks off v w) (on : (v.1 61 4).toInt = 0) (hd : ns[c]? = some d) (hS : isS d.1 = true) (hb : b ∈ kdl ns c) (ex : (v.1 77 x).toInt = (b : Int)) (sx : s < x) (xm : x < mx) (mm : mx ≤ m) (hp : (m : Int) ≤ (v.1 61 5).toInt) (L : Lz ns v (kdl ns b) (x + 1) (fiC v x) mx) (d0 : 0 ≤ dep.toInt) (d4 : dep.toInt + gD (csl ns []) c ≤ 40) (hD : Dy ns off v w k b x) : ∃ (v' w' : MW) (r : Int32), Qc v' ∧ Qm r w' ∧ PoL true GoW ns nm ks off v w v' w' (s + 1) m ∧ Dy ns off v' w' k b x ∧ OkL r v' := by
  have pg := hW.2.2.1.2.2.2.1
  obtain ⟨db, hdb, h35⟩ := kd_b pg hd hS hb
  have g0 := gd_0 pg.2.1 hd
  have sd := ti_add2 (Eq.refl dep.toInt) i_1 (by omega) (by omega)
  cases k with
  | zero => exact False.elim hD
  | succ k =>
    obtain ⟨v', w', r, q1, q2, P, B, O⟩ := hR k x mx N (kdl ns b) ap am (dep + (1 : Int32)) v w Qc Qm hc hm ea em hW on (Or.inr ⟨b, db, ex, hdb, h35⟩) (kd_s pg hdb h35) L ⟨xm, by omega⟩ (by omega) (by omega) (by rw [sd]; exact dpl_k pg.2.1 hd d4 hb hdb h35) ((dy_b hdb h35).mp hD)
    exact ⟨v', w', r, q1, q2, pol_m P (by omega) mm, (dy_b hdb h35).mpr B, O⟩
/-- class: the inside, behind a limit's own test -/
theorem q91_x {n : Nat} {dep a K : Int32} {v : MW} {Q : MW → Prop} (h : q_Ru_lookAtLimits_91 (pn_Ru_lookAtLimits n) dep a K v Q) (hK : ¬ K.toInt = 16) : ((v.1 81 a.toInt.toNat).toInt < 0 → Q v) ∧ (¬ (v.1 81 a.toInt.toNat).toInt < 0 → pn_Ru_lookAtLimits n v (v.1 81 a.toInt.toNat) (dep + (1 : Int32)) (fun v' => q_Ru_lookAtLimits_120 (pn_Ru_lookAtLimits n) dep a K v' Q)) := by
  rw [q_Ru_lookAtLimits_91.eq_1] at h
  have h1 := (h.2 hK).2
  exact ⟨fun z => q120_0 (h1.1 z) hK, fun z => (h1.2 z).2⟩
/-- the reference's wants of a statement -/
def lkM (N : Nat) (w : MW) (a : Int32) (j : Nat) (Q : Int32 → MW → Prop) (k : Int) : Prop := (k = 14 → q_Mo_limits_30 (pn_Mo_limits N) (fun w' => Q 1 w') Q FU (w.1 208 j) w) ∧ (k = 16 → pn_Mo_limits N w (w.1 208 j) Q) ∧ ((k = 23 ∨ k = 15 ∨ k = 19 ∨ k = 17) → ∃ K : Int32, K.toInt = k ∧ q_Mo_limits_107 (pn_Mo_limits N) a K w Q) ∧ ((¬ k = 14 ∧ ¬ k = 16 ∧ ¬ k = 23 ∧ ¬ k = 15 ∧ ¬ k = 19 ∧ ¬ k = 17) → Q 1 w)
theorem lk_m {N j : Nat} {w : MW} {a K : Int32} {Q : Int32 → MW → Prop} (h : ((¬ K.toInt = 14 → ((¬ K.toInt = 16 → ((K.toInt = 23 → (q_Mo_limits_107 (pn_Mo_limits N) a K w Q)) ∧ (¬ (K.toInt = 23) → ((K.toInt = 15 → (q_Mo_limits_107 (pn_Mo_limits N) a K w Q)) ∧ (¬ (K.toInt = 15) → ((K.toInt = 19 → (q_Mo_limits_107 (pn_Mo_limits N) a K w Q)) ∧ (¬ (K.toInt = 19) → ((¬ K.toInt = 17 → (Q 1 w)) ∧ (¬ (¬ K.toInt = 17) → (q_Mo_limits_107 (pn_Mo_limits N) a K w Q)))))))))) ∧ (¬ (¬ K.toInt = 16) → ((0 ≤ a.toInt ∧ a.toInt < 502) ∧ (pn_Mo_limits N w (w.1 208 j) (fun r36 w36 => (Q r36 w36))))))) ∧ (¬ (¬ K.toInt = 14) → ((0 ≤ a.toInt ∧ a.toInt < 502) ∧ (q_Mo_limits_30 (pn_Mo_limits N)  (fun (w45 : MW) => (Q 1 w45)) Q FU (w.1 208 j) w))))) : lkM N w a j Q K.toInt := by
  refine ⟨fun z => (h.2 (fun y => y z)).2, fun z => ?_, fun z => ⟨K, rfl, ?_⟩, fun z => ?_⟩
  · exact ((h.1 (by omega)).2 (fun y => y z)).2
  · have t := (h.1 (by omega)).1 (by omega)
    rcases z with z | z | z | z
    · exact t.1 z
    · exact (t.2 (by omega)).1 z
    · exact ((t.2 (by omega)).2 (by omega)).1 z
    · exact ((((t.2 (by omega)).2 (by omega)).2 (by omega)).2 (fun y => y z))
  · exact (((((h.1 z.1).1 z.2.1).2 z.2.2.1).2 z.2.2.2.1).2 z.2.2.2.2.1).1 z.2.2.2.2.2
theorem kc_19 {ns : List Nod} {nm : List Nm} {c : Nat} {d : Nod} (h : PGS ns nm) (hd : ns[c]? = some d) (k : d.1 = 19) : ∃ b, kdl ns c = [b] := by
  have l := (h.2.2.2.2.2.2.2 c d hd).1 k
  rw [kdl_o hd (by omega), show nxp d.1 = 1 by rw [k]; decide]
  rcases hk : d.2.2.2 with _ | ⟨a, _ | ⟨b, _ | ⟨e, r⟩⟩⟩
  · rw [hk] at l
    exact absurd (show 0 = 2 from l) (by decide)
  · rw [hk] at l
    exact absurd (show 1 = 2 from l) (by decide)
  · exact ⟨b, rfl⟩
  · rw [hk] at l
    have l' : r.length + 1 + 1 + 1 = 2 := l
    omega
theorem kc_20 {ns : List Nod} {nm : List Nm} {c : Nat} {d : Nod} (h : PGS ns nm) (hd : ns[c]? = some d) (k : d.1 = 20) : ∃ b1 b2, kdl ns c = [b1, b2] := by
  have l := (h.2.2.2.2.2.2.2 c d hd).2.1 k
  rw [kdl_o hd (by omega), show nxp d.1 = 1 by rw [k]; decide]
  rcases hk : d.2.2.2 with _ | ⟨a, _ | ⟨b, _ | ⟨e, _ | ⟨g, r⟩⟩⟩⟩
  · rw [hk] at l
    exact absurd (show 0 = 3 from l) (by decide)
  · rw [hk] at l
    exact absurd (show 1 = 3 from l) (by decide)
  · rw [hk] at l
    exact absurd (show 2 = 3 from l) (by decide)
  · exact ⟨b, e, rfl⟩
  · rw [hk] at l
    have l' : r.length + 1 + 1 + 1 + 1 = 3 := l
    omega
theorem kc_17 {ns : List Nod} {nm : List Nm} {c : Nat} {d : Nod} (h : PGS ns nm) (hd : ns[c]? = some d) (k : d.1 = 17) : ∃ b r, kdl ns c = b :: r := by
  have l := (h.2.2.2.2.2.2.2 c d hd).2.2 k
  rw [kdl_o hd (by omega), show nxp d.1 = 1 by rw [k]; decide]
  rcases hk : d.2.2.2 with _ | ⟨a, _ | ⟨b, r⟩⟩
  · rw [hk] at l
    exact absurd (show 2 ≤ 0 from l) (by decide)
  · rw [hk] at l
    exact absurd (show 2 ≤ 1 from l) (by decide)
  · exact ⟨b, r, rfl⟩
theorem k_all {k : Int} (h : isS k = true) (n16 : ¬ k = 16) (nx : ¬ (k = 12 ∨ k = 13 ∨ k = 14 ∨ k = 22)) (n19 : ¬ k = 19) (n3 : ¬ (k = 17 ∨ k = 20 ∨ k = 23)) (t : ¬ k = 11 ∧ ¬ k = 24 ∧ ¬ k = 25 ∧ ¬ k = 26) : False := by
  have := isS_t.mp h
  omega
theorem i1_0 : ¬ (1 : Int32).toInt = 0 := by decide
theorem lm_s {GoW : MW → MW → Prop} {ns : List Nod} {nm : List Nm} {ks : List Nat} {off : Int} {n k N c s m : Nat} {as am dep : Int32} {v w : MW} {Qc : MW → Prop} {Qm : Int32 → MW → Prop} (hG : GoI GoW) (hR : LmB GoW ns nm ks off (pn_Ru_lookAtLimits n)) (hc : q_Ru_lookAtLimits_20 (pn_Ru_lookAtLimits n) dep as v Qc) (hm : pn_Mo_limits N w am Qm) (ea : as.toInt = (s : Int)) (em : am.toInt = (s : Int)) (hW : WS GoW ns nm ks off v w) (on : (v.1 61 4).toInt = 0) (ec : (v.1 77 s).toInt = (c : Int)) (hO : OwB ns false c) (hL : Lz ns v (kdl ns c) (s + 1) (fiC v s) m) (sm : s < m) (hp : (m : Int) ≤ (v.1 61 5).toInt) (d0 : 0 ≤ dep.toInt) (d4 : dep.toInt + gD (csl ns []) c ≤ 40) (hD : Dy ns off v w k c s) : ∃ (v' w' : MW) (r : Int32), Qc v' ∧ Qm r w' ∧ PoL true GoW ns nm ks off v w v' w' s m ∧ Dy ns off v' w' k c s ∧ OkL r v' := by
  obtain ⟨d, hd, _, hS⟩ := hO
  have hS := hS rfl
  have iS := isS_t.mp hS
  have pg := hW.2.2.1.2.2.2.1
  have stc := hW.2.2.1.2.1 c d hd
  have ly := hW.2.2.1.2.2.2.2.2.1
  have lys := ly.2.2 s (by omega)
  have g0 := gd_0 pg.2.1 hd
  have as' : as.toInt.toNat = s := by omega
  have am' : am.toInt.toNat = s := by omega
  have cn : (v.1 77 s).toInt.toNat = c := by omega
  have p5 := ly.2.1
  cases k with
  | zero => exact False.elim hD
  | succ k =>
    have hD0 := hD
    rw [Dy_u] at hD
    obtain ⟨d', hd', o⟩ := hD
    have edd : d' = d := Option.some.inj (hd'.symm.trans hd)
    rw [edd] at o
    rw [q_Ru_lookAtLimits_20.eq_1] at hc
    have c1 := (((io_x hc).1 on).2 (fun z => z (by decide))).2 (by omega)
    rw [as', cn, stc.1] at c1
    have c2 := c1.2
    clear hc c1
    cases N with
    | zero => exact False.elim hm
    | succ N =>
      rw [pe_Mo_limits, pb_Mo_limits.eq_1] at hm
      have m1 := hm.2
      rw [am'] at m1
      rcases o with ⟨o1, o2⟩ | ⟨o1, o2, Y⟩
      · exact ⟨v, w, 1, c2.1 o1, m1.2 (fun z => z o2), pol_0 hW s m, hD0, Or.inl ⟨by decide, on⟩⟩
      · have c3 := ((c2.2 (by unfold stg at o1; omega)).1 (by omega)).2.2.2
        have m2 := m1.1 (by unfold bgM at o2; omega)
        obtain ⟨K, eK, m3⟩ := kn_x (a := am) hW.2.2.1.2.2.1 (by rw [am', ← lys.1]; exact ec) hd m2
        have M := lk_m m3
        rw [eK] at M
        clear c2 m1 m2 m3 hm
        have cu81 : (v.1 81 s).toInt = cuC v s := rfl
        have cr13 : (w.1 213 s).toInt = crM w s := rfl
        -- going inside
        have inside : ∀ (v1 : MW), WS GoW ns nm ks off v1 w → SkT 0 v v1 → (d.1 = 17 ∨ d.1 = 20 ∨ d.1 = 23) → ¬ cuC v s = -1 → q_Ru_lookAtLimits_91 (pn_Ru_lookAtLimits n) dep as (v.1 63 c) v1 Qc → pn_Mo_limits N w (w.1 213 s) Qm → ∃ (v' w' : MW) (r : Int32), Qc v' ∧ Qm r w' ∧ PoL true GoW ns nm ks off v w v' w' s m ∧ Dy ns off v' w' (k + 1) c s ∧ OkL r v' := fun v1 W1 sk kk ncu q91 hl => by
          have y9 := Y.2.2.2.2.2.2.2.2.1 kk
          have e1 : v1.1 = v.1 := sk.1
          rcases cui_x _ _ _ _ hL y9.2 with z | ⟨b, mx, hb, b1, b2, b3, b4, b5, b6, b7⟩
          · exact absurd z ncu
          · have q := (q91_x q91 (by rw [stc.1]; omega)).2 (by rw [as', e1]; omega)
            rw [as', e1] at q
            have L1 : Lz ns v1 (kdl ns b) ((cuC v s).toNat + 1) (fiC v1 (cuC v s).toNat) mx := by
              have e8 : fiC v1 (cuC v s).toNat = fiC v (cuC v s).toNat := by unfold fiC; rw [e1]
              rw [e8]
              exact lz_g b5 (fun j => by rw [e1]) (fun j => by rw [e1]) (fun j => by rw [e1])
            have D1 : Dy ns off v1 w k b (cuC v s).toNat := dy_f k b (cuC v s).toNat mx (by omega) b5 (agr_f ((FR.refl lalC v).tr (sk_l sk) rfl) (FR.refl [] w) rfl rfl _ _) b6
            obtain ⟨v', w', r, q1, q2, P, D2, O⟩ := lm_in (s := s) (m := m) (x := (cuC v s).toNat) (mx := mx) hR q hl (by omega) (by rw [cr13, ← y9.1]; omega) W1 (by rw [e1]; exact on) hd hS hb (by rw [e1]; exact b4) (by omega) (by omega) b3 (by rw [e1]; exact hp) L1 d0 d4 D1
            have Pv : PoL true GoW ns nm ks off v w v' w' (s + 1) m := pol_t (pol_i W1 (sk_f sk) (agr_f (sk_l sk) (FR.refl [] w) rfl rfl _ _) (agr_f (sk_l sk) (FR.refl [] w) rfl rfl _ _) (mnr_f (sk_l sk) (FR.refl [] w) rfl rfl)) P
            have A := agr_i Pv.2.1.1 (Nat.zero_le s) (show s < s + 1 by omega)
            refine ⟨v', w', r, q120_0 q1 (by rw [stc.1]; omega), q2, pol_m Pv (by omega) (Nat.le_refl _), ?_, O⟩
            rw [Dy_u]
            refine ⟨d, hd, Or.inr ⟨by rw [A.2.2.1]; exact o1, by rw [A.2.2.2.2.1]; exact o2, bdy_9 kk ⟨by rw [A.2.2.2.1, A.2.2.2.2.2.2.2.1]; exact y9.1, ?_⟩⟩⟩
            rw [A.1, A.2.2.2.1]
            exact b7 _ v' (fun j => (pol_fi Pv j).2) D2
        have nope : cuC v s = -1 → ¬ d.1 = 16 → q_Ru_lookAtLimits_91 (pn_Ru_lookAtLimits n) dep as (v.1 63 c) v Qc → Qm 1 w → ∃ (v' w' : MW) (r : Int32), Qc v' ∧ Qm r w' ∧ PoL true GoW ns nm ks off v w v' w' s m ∧ Dy ns off v' w' (k + 1) c s ∧ OkL r v' := fun z n16 q q2 => ⟨v, w, 1, (q91_x q (by rw [stc.1]; exact n16)).1 (by rw [as']; omega), q2, pol_0 hW s m, hD0, Or.inl ⟨by decide, on⟩⟩
        by_cases k16 : d.1 = 16
        · have y7 := Y.2.2.2.2.2.2.1 k16
          have q := c3.1 (by omega)
          rw [q_Ru_lookAtLimits_91.eq_1, stc.1] at q
          have q2 := q.1 k16
          rw [q_Ru_lookAtLimits_120.eq_1, stc.1, as'] at q2
          have q3 := (q2.2 (fun z => z k16)).2
          have m4 := M.1 (by rw [k16]; decide)
          obtain ⟨v', w', r, g1, g2, P, S3, O⟩ := lm_sd (k := k) hR d0 (by omega) (kdl ns c) FU FU _ _ 0 (fiC v s) (s + 1) m v w q3 m4 rfl (by rw [← lys.2.1]; rfl) hL hp (fun b hb => by
            obtain ⟨db, hdb, h35⟩ := kd_b pg hd hS hb
            exact ⟨⟨db, hdb, h35⟩, dpl_k pg.2.1 hd d4 hb hdb h35⟩) hW on y7.2 (by decide) (by rw [i_0]; omega) (by omega)
          have A := agr_i P.2.1.1 (Nat.zero_le s) (show s < s + 1 by omega)
          refine ⟨v', w', r, g1, g2, pol_m P (by omega) (Nat.le_refl _), ?_, O⟩
          rw [Dy_u]
          refine ⟨d, hd, Or.inr ⟨by rw [A.2.2.1]; exact o1, by rw [A.2.2.2.2.1]; exact o2, ?_⟩⟩
          rw [k16]
          exact bdy_7 ⟨by rw [A.2.2.2.1]; exact y7.1, by rw [A.1]; exact S3⟩
        · by_cases kx : d.1 = 12 ∨ d.1 = 13 ∨ d.1 = 14 ∨ d.1 = 22
          · have y2 := Y.2.1 kx
            refine nope y2 k16 (c3.1 (by omega)) (M.2.2.2 ?_)
            rcases kx with z | z | z | z <;> (rw [z]; decide)
          · by_cases k19 : d.1 = 19
            · obtain ⟨y1, y3, b, kb1, Db⟩ := Y.2.2.2.2.2.2.2.1 k19
              rw [kb1] at hL
              obtain ⟨e1, e2, mx, x1, x2, L1, _⟩ := lz_c hL
              have fs : (fiC v s).toNat = s + 1 := by omega
              rw [fs] at Db
              have q := (q91_x (c3.1 (by omega)) (by rw [stc.1]; exact k16)).2 (by rw [as']; omega)
              rw [as'] at q
              have m4 := M.2.1 (by rw [k19]; decide)
              obtain ⟨v', w', r, q1, q2, P, D2, O⟩ := lm_in (s := s) (m := m) (x := s + 1) (mx := mx) hR q m4 (by omega) (by rw [← lys.2.1]; show fiC v s = _; omega) hW on hd hS (by rw [kb1]; exact List.mem_cons_self) e2 (by omega) x1 x2 hp L1 d0 d4 Db
              have A := agr_i P.2.1.1 (Nat.zero_le s) (show s < s + 1 by omega)
              have A2 := P.2.1.1 s (Nat.zero_le s) (show s < s + 1 by omega)
              refine ⟨v', w', r, q120_0 q1 (by rw [stc.1]; exact k16), q2, pol_m P (by omega) (Nat.le_refl _), ?_, O⟩
              rw [Dy_u]
              refine ⟨d, hd, Or.inr ⟨by rw [A.2.2.1]; exact o1, by rw [A.2.2.2.2.1]; exact o2, ?_⟩⟩
              rw [k19]
              refine bdy_8 ⟨by rw [A.2.2.2.1, A.1]; exact y1, by rw [A2.1.2.2.2.2.1, A2.2.2.2.2.2.2.1]; exact y3, b, kb1, ?_⟩
              rw [A.1, fs]
              exact D2
            · by_cases k3 : d.1 = 17 ∨ d.1 = 20 ∨ d.1 = 23
              · have y9 := Y.2.2.2.2.2.2.2.2.1 k3
                obtain ⟨K2, eK2, m4⟩ := M.2.2.1 (by rcases k3 with z | z | z <;> (rw [z]; decide))
                rw [q_Mo_limits_107.eq_1, am', eK2] at m4
                have m5 := m4.2
                by_cases cu : cuC v s = -1
                · refine nope cu k16 ?_ (m5.2 (fun z => z (by omega)))
                  by_cases k20 : d.1 = 20
                  · have q := (c3.2 (fun z => z k20)).2.2
                    refine q.1 ?_
                    intro z
                    obtain ⟨b1, b2, hk⟩ := kc_20 pg hd k20
                    rw [hk] at hL
                    have := (lz_c hL).1
                    have z2 : cuC v s = fiC v s := z
                    omega
                  · exact c3.1 k20
                · have m6 := m5.1 (by omega)
                  by_cases k20 : d.1 = 20
                  · have w17 : wht d.1 = 17 := by rw [k20]; decide
                    have q := (c3.2 (fun z => z k20)).2.2
                    have m7 := (m6.2 (fun z => z w17)).2.2
                    have eqv : ((v.1 81 s).toInt = (v.1 78 s).toInt ↔ (w.1 213 s).toInt = (w.1 208 s).toInt) := by
                      rw [← lys.2.1]
                      show cuC v s = _ ↔ crM w s = _
                      rw [y9.1]
                    by_cases f : (v.1 81 s).toInt = (v.1 78 s).toInt
                    · have f2 := eqv.mp f
                      have q2 := q.2 (fun z => z f)
                      rw [p_Ru_lookAtLimit.eq_1, as', cn] at q2
                      have q3 := q2.2.2.2.2.2.2
                      have m8 := (m7.2 (fun z => z f2)).2
                      have rg := stc.2.2.2 (by rw [own_s hS]; decide)
                      rcases rg with ⟨z, _⟩ | ⟨e, lo, rr, hr, to, fr, TXx, _, _⟩
                      · rw [k20] at z
                        exact absurd z (by decide)
                      obtain ⟨kk, hT⟩ := TXx
                      obtain ⟨r18, e18, m9⟩ := kd_x (k := 0) (c := e) (i := c) hW.2.2.1.2.2.1 (by rw [← lys.1]; exact ec) hd (by rw [hr]; rfl) (by decide) m8
                      obtain ⟨b1, b2, hk⟩ := kc_20 pg hd k20
                      have hL0 := hL
                      rw [hk] at hL0
                      obtain ⟨p1, p2, mx, p3, p4, L1, L2⟩ := lz_c hL0
                      obtain ⟨p6, p7, my, p8, p9, L3, _⟩ := lz_c L2
                      have fs : (fiC v s).toNat = s + 1 := by omega
                      have f3 : (v.1 81 s).toInt = ((s + 1 : Nat) : Int) := by rw [f]; exact p1
                      rw [p_Mo_reckon.eq_1] at m9
                      rcases rk_2 hW hT fr to e18 q3 m9 with ⟨x, v1, sk, g1, g2⟩ | ⟨z, v1, x, zl, sk, g1, g2⟩
                      · have W1 := ws_s hG hW sk
                        have e1 : v1.1 = v.1 := sk.1
                        have g3 := ((io_x g1).1 (by rw [e1]; exact on)).2 (fun z => z (by decide))
                        have g4 := (ib_0 g2 hW.2.2.2.2.2.2.2.2.1).1 (by decide)
                        by_cases x0 : (lg_cmp x (0 : Int64)).toInt = 0
                        · have h1 := al_c ((g3.2 (fun z => z x0)).2)
                          have h2 := al_m ((g4.2 (fun z => z x0)).2)
                          have vA := ws_a (n := v1.1 77 s) (k := 3) hG W1
                          have en : w.1 207 s = v1.1 77 s := by rw [e1]; exact lys.1.symm
                          rw [en] at h2
                          have FA : FR lalC v1 (alC v1 (v1.1 7 1) (v1.1 77 s) 3) := alc_l _ _ _ _
                          have GA : FR lalM w (alM w (v1.1 77 s) 3) := alm_l _ _ _
                          have a4 : ((alC v1 (v1.1 7 1) (v1.1 77 s) 3).1 61 4).toInt = 0 := by
                            have t : (alC v1 (v1.1 7 1) (v1.1 77 s) 3).1 61 4 = v1.1 61 4 := by
                              unfold alC
                              by_cases z : 200 ≤ (v1.1 3 0).toInt
                              · rw [if_pos z]
                              · rw [if_neg z]
                                rfl
                            rw [t, e1]
                            exact on
                          have b0 : alC v1 (v1.1 7 1) (v1.1 77 s) 3 = alC v1 (v1.1 7 1) (v1.1 77 s) 3 := rfl
                          generalize alC v1 (v1.1 7 1) (v1.1 77 s) 3 = v3 at *
                          generalize alM w (v1.1 77 s) 3 = w3 at *
                          have h78 : v3.1 78 s = v.1 78 s := by rw [(FA 78 s rfl).1, e1]
                          have h79 : ∀ j, v3.1 79 j = v.1 79 j := fun j => by rw [(FA 79 j rfl).1, e1]
                          have i78 : (v.1 78 s).toInt.toNat = s + 1 := fs
                          have i208 : (w.1 208 s).toInt.toNat = s + 1 := by rw [← lys.2.1]; exact fs
                          have ly1 := ly.2.2 (s + 1) (by omega)
                          have nx : (v.1 79 (s + 1)).toInt = (mx : Int) := p6
                          have h3 := ch_x h1.2.2
                          rw [h78, h79, i78] at h3
                          have c4 : chW v3 as (v.1 79 (s + 1)) = sI (sI v3 81 s (v.1 79 (s + 1))) 80 mx 0 := by
                            unfold chW
                            rw [if_neg (by omega), as', show (v.1 79 (s + 1)).toInt.toNat = mx by omega]
                          rw [c4] at h3
                          have h4 := h2.2.2.2.2.2
                          rw [(GA 208 s rfl).1, (GA 209 _ rfl).1, i208, ← ly1.2.2, sI_same, show (v.1 79 (s + 1)).toInt.toNat = mx by omega] at h4
                          have FB : FR [(80, none), (81, none)] v3 (sI (sI v3 81 s (v.1 79 (s + 1))) 80 mx 0) := FR.I (FR.I (FR.refl _ v3) rfl) rfl
                          have GB : FR [(210, none), (213, none)] w3 (sI (sI w3 213 s (v.1 79 (s + 1))) 210 mx (vp_nar .boolean (0 : Int32))) := FR.I (FR.I (FR.refl _ w3) rfl) rfl
                          have W4 : WS GoW ns nm ks off (sI (sI v3 81 s (v.1 79 (s + 1))) 80 mx 0) (sI (sI w3 213 s (v.1 79 (s + 1))) 210 mx (vp_nar .boolean (0 : Int32))) := ws_f hG vA (wbd_80 (wbd_81 vA.2.1.1 _ (by omega) (by omega)) _ (by decide) (by decide)) (wbd_210 (wbd_213 vA.2.1.2 _ (by omega) (by omega)) _ (by decide) (by decide)) ((FR.refl lrC v3).tr FB rfl) ((FR.refl lrM w3).tr GB rfl) (vlr_f vA.2.2.2.1 FB GB rfl rfl) (alr_f vA.2.2.2.2.1 FB GB rfl rfl) (cnr_f vA.2.2.2.2.2 FB GB rfl rfl (by rw [(GB 127 76 rfl).1]; exact vA.2.2.2.2.2.2.2.2.1))
                          have r80 : ∀ j, ¬ j = mx → (sI (sI v3 81 s (v.1 79 (s + 1))) 80 mx 0).1 80 j = v.1 80 j := fun j hj => by rw [sI_ne _ _ _ _ _ hj, sI_oth _ _ _ _ _ _ (by decide), (FA 80 j rfl).1, e1]
                          have r80m : (sI (sI v3 81 s (v.1 79 (s + 1))) 80 mx 0).1 80 mx = 0 := sI_same _ _ _ _
                          have r81 : ∀ j, ¬ j = s → (sI (sI v3 81 s (v.1 79 (s + 1))) 80 mx 0).1 81 j = v.1 81 j := fun j hj => by rw [sI_oth _ _ _ _ _ _ (by decide), sI_ne _ _ _ _ _ hj, (FA 81 j rfl).1, e1]
                          have r81s : (sI (sI v3 81 s (v.1 79 (s + 1))) 80 mx 0).1 81 s = v.1 79 (s + 1) := by rw [sI_oth _ _ _ _ _ _ (by decide), sI_same]
                          have t10 : ∀ j, ¬ j = mx → (sI (sI w3 213 s (v.1 79 (s + 1))) 210 mx (vp_nar .boolean (0 : Int32))).1 210 j = w.1 210 j := fun j hj => by rw [sI_ne _ _ _ _ _ hj, sI_oth _ _ _ _ _ _ (by decide), (GA 210 j rfl).1]
                          have t10m : ((sI (sI w3 213 s (v.1 79 (s + 1))) 210 mx (vp_nar .boolean (0 : Int32))).1 210 mx).toInt = 0 := by rw [sI_same]; exact nb_bool0
                          have t13 : ∀ j, ¬ j = s → (sI (sI w3 213 s (v.1 79 (s + 1))) 210 mx (vp_nar .boolean (0 : Int32))).1 213 j = w.1 213 j := fun j hj => by rw [sI_oth _ _ _ _ _ _ (by decide), sI_ne _ _ _ _ _ hj, (GA 213 j rfl).1]
                          have t13s : (sI (sI w3 213 s (v.1 79 (s + 1))) 210 mx (vp_nar .boolean (0 : Int32))).1 213 s = v.1 79 (s + 1) := by rw [sI_oth _ _ _ _ _ _ (by decide), sI_same]
                          have on4 : ((sI (sI v3 81 s (v.1 79 (s + 1))) 80 mx 0).1 61 4).toInt = 0 := by rw [(FB 61 4 rfl).1]; exact a4
                          have FC : FR [(3, some 0), (4, none), (5, none), (6, none), (61, some 4), (80, none), (81, none), (86, none)] v (sI (sI v3 81 s (v.1 79 (s + 1))) 80 mx 0) := ((FR.refl _ v).tr ((sk_l sk).tr FA rfl) rfl).tr FB rfl
                          have GC : FR [(127, some 76), (127, some 79), (210, none), (213, none), (218, none), (219, none), (220, none)] w (sI (sI w3 213 s (v.1 79 (s + 1))) 210 mx (vp_nar .boolean (0 : Int32))) := ((FR.refl _ w).tr GA rfl).tr GB rfl
                          generalize (sI (sI v3 81 s (v.1 79 (s + 1))) 80 mx 0) = v4 at *
                          generalize (sI (sI w3 213 s (v.1 79 (s + 1))) 210 mx (vp_nar .boolean (0 : Int32))) = w4 at *
                          have A : ∀ j, ¬ j = s → ¬ j = mx → (v4.1 78 j = v.1 78 j ∧ v4.1 79 j = v.1 79 j ∧ v4.1 80 j = v.1 80 j ∧ v4.1 81 j = v.1 81 j ∧ v4.2.1 82 j = v.2.1 82 j ∧ v4.2.1 83 j = v.2.1 83 j ∧ v4.2.1 84 j = v.2.1 84 j ∧ v4.2.1 85 j = v.2.1 85 j) ∧ (w4.1 210 j = w.1 210 j ∧ w4.1 211 j = w.1 211 j ∧ w4.1 212 j = w.1 212 j ∧ w4.1 213 j = w.1 213 j ∧ w4.1 214 j = w.1 214 j ∧ w4.2.1 215 j = w.2.1 215 j ∧ w4.2.1 216 j = w.2.1 216 j ∧ w4.2.1 217 j = w.2.1 217 j) := fun j j1 j2 => ⟨⟨(FC 78 j rfl).1, (FC 79 j rfl).1, r80 j j2, r81 j j1, (FC 82 j rfl).2.1, (FC 83 j rfl).2.1, (FC 84 j rfl).2.1, (FC 85 j rfl).2.1⟩, t10 j j2, (GC 211 j rfl).1, (GC 212 j rfl).1, t13 j j1, (GC 214 j rfl).1, (GC 215 j rfl).2.1, (GC 216 j rfl).2.1, (GC 217 j rfl).2.1⟩
                          have mn4 : MnR true v w v4 w4 := by
                            refine ⟨by rw [(FC 61 19 rfl).1]; exact Int.le_refl _, (GC 127 74 rfl).1, fun j hj => Or.inl ?_⟩
                            have nj : ¬ j = mx := fun z => by
                              rw [z] at hj
                              unfold bgM at hj
                              omega
                            refine ⟨?_, ?_⟩
                            · unfold bgM at hj ⊢
                              rw [t10 j nj] at hj
                              exact hj
                            · unfold siM
                              rw [(GC 214 j rfl).1]
                          have h5 := (q91_x h3 (by rw [stc.1]; exact k16)).2 (by rw [as', r81s]; omega)
                          rw [as', r81s] at h5
                          have h6 := lo_s0 h5 (by rw [show (v.1 79 (s + 1)).toInt.toNat = mx by omega, r80m]; decide)
                          refine ⟨v4, w4, 1, q120_0 h6 (by rw [stc.1]; exact k16), h4, pol_i W4 ((FR.refl lrC v).tr FC rfl) (fun j ja jb => A j (by omega) (by omega)) (fun j ja jb => A j (by omega) (by omega)) mn4, ?_, Or.inl ⟨by decide, on4⟩⟩
                          have y9c := y9.2
                          rw [hk] at y9c
                          rcases y9c with ⟨_, D1⟩ | ⟨nz, _⟩
                          · cases k with
                            | zero => exact False.elim D1
                            | succ k =>
                              obtain ⟨db2, hdb2, h35⟩ := kd_b pg hd hS (b := b2) (by rw [hk]; exact List.mem_cons_of_mem _ List.mem_cons_self)
                              have D2 : Dy ns off v4 w4 (k + 1) b2 mx := by
                                rw [Dy_u]
                                refine ⟨db2, hdb2, Or.inl ⟨?_, t10m⟩⟩
                                unfold stg
                                rw [r80m]
                                decide
                              have e4 : fiC v4 s = fiC v s := by unfold fiC; rw [(FC 78 s rfl).1]
                              have c4 : cuC v4 s = (mx : Int) := by unfold cuC; rw [r81s]; exact nx
                              rw [Dy_u]
                              refine ⟨d, hd, Or.inr ⟨?_, ?_, bdy_9 k3 ⟨?_, ?_⟩⟩⟩
                              · unfold stg
                                rw [r80 s (by omega)]
                                exact o1
                              · unfold bgM
                                rw [t10 s (by omega)]
                                exact o2
                              · unfold cuC crM
                                rw [r81s, t13s]
                              · rw [hk, e4, c4]
                                refine Or.inr ⟨by omega, Or.inl ⟨?_, ?_⟩⟩
                                · rw [fs]
                                  unfold nxC
                                  rw [(FC 79 _ rfl).1]
                                  exact nx.symm
                                · rw [fs]
                                  have e9 : nxC v4 (s + 1) = (mx : Int) := by
                                    unfold nxC
                                    rw [(FC 79 _ rfl).1]
                                    exact nx
                                  rw [e9, show ((mx : Int)).toNat = mx by omega]
                                  exact D2
                          · exact absurd (show cuC v s = fiC v s from f) nz
                        · have h1 := g3.1 x0
                          have h2 := (g4.1 x0).2
                          exact inside v1 W1 sk k3 cu h1 h2
                      · have B := ws_bad (z := z) hG hW sk
                        have g3 := ((io_x g1).2 (by rw [B.2.1]; decide)).1 (by decide)
                        have z76 : ¬ ((sI w 127 76 (nI z)).1 127 76).toInt = -1 := by
                          rw [sI_same, nI_toInt (by omega)]
                          omega
                        have g4 := (ib_1 g2 z76).2 (by decide)
                        have e81 : (fltC v1 1 (nI z)).1 81 s = v.1 81 s := (B.2.2.1 81 s rfl).1
                        have g5 := (q91_x g3 (by rw [stc.1]; exact k16)).2 (by rw [as', e81]; omega)
                        have g6 := lo_ov g5 (by rw [B.2.1]; decide)
                        have A := agr_f (s := 0) (q := 501) B.2.2.1 B.2.2.2 rfl rfl
                        refine ⟨_, _, 0, q120_0 g6 (by rw [stc.1]; exact k16), g4, pol_i B.1 (fr_lal B.2.2.1) (agr_m A (Nat.zero_le _) (by omega)) (agr_m A (Nat.zero_le _) (Nat.le_refl _)) (mnr_f B.2.2.1 B.2.2.2 rfl rfl), dy_f (k + 1) c s m sm hL (agr_m A (Nat.zero_le _) (by omega)) hD0, Or.inr ⟨by decide, B.2.1⟩⟩
                    · exact inside v hW (sk_0 0 v) k3 cu (q.1 f) (m7.1 (fun z => f (eqv.mpr z))).2
                  · have n17 : ¬ wht d.1 = 17 := by
                      rcases k3 with z | z | z
                      · rw [z]; decide
                      · exact absurd z k20
                      · rw [z]; decide
                    exact inside v hW (sk_0 0 v) k3 cu (c3.1 k20) (m6.1 n17).2
              · exact (k_all hS k16 kx k19 k3 Y.2.2.2.2.2.2.2.2.2).elim
/-- LIMITS ARE LOOKED AT ALIKE -/
theorem lm_b {GoW : MW → MW → Prop} {ns : List Nod} {nm : List Nm} {ks : List Nat} {off : Int} (hG : GoI GoW) : ∀ n : Nat, LmB GoW ns nm ks off (pn_Ru_lookAtLimits n) := by
  intro n
  induction n with
  | zero => exact fun _ _ _ _ _ _ _ _ _ _ _ _ h => False.elim h
  | succ n ih =>
    intro k p m N l ap am dep v w Qc Qm hc hm ea em hW on hB hO hL pm d0 d5 hD hK
    have ap' : ap.toInt.toNat = p := by omega
    have am' : am.toInt.toNat = p := by omega
    have ly := hW.2.2.1.2.2.2.2.2.1
    have p5 := ly.2.1
    have hK0 := hK
    rcases hK with ⟨o1, o2⟩ | ⟨o1, o2, o3, o4⟩
    · cases N with
      | zero => exact False.elim hm
      | succ N =>
        rw [pe_Mo_limits, pb_Mo_limits.eq_1] at hm
        have m1 := hm.2
        rw [am'] at m1
        refine ⟨v, w, 1, lo_s0 hc ?_, m1.2 (fun z => z o2), pol_0 hW _ _, hK0, Or.inl ⟨by decide, on⟩⟩
        rw [ap']
        unfold stg at o1
        omega
    · rw [pe_Ru_lookAtLimits, pb_Ru_lookAtLimits.eq_1, ap'] at hc
      have c1 := (hc.2.2 (fun z => z o1)).2
      cases N with
      | zero => exact False.elim hm
      | succ N =>
        rw [pe_Mo_limits, pb_Mo_limits.eq_1] at hm
        have m1 := hm.2
        rw [am'] at m1
        have m2 := m1.1 (by unfold bgM at o2; omega)
        obtain ⟨K, eK, m3⟩ := rt_x hW (by omega) em hB m2
        have M := lk_m m3
        rw [eK] at M
        obtain ⟨K2, eK2, m4⟩ := M.2.2.1 (Or.inl rfl)
        rw [q_Mo_limits_107.eq_1, am', eK2] at m4
        have m5 := m4.2
        have cu81 : (v.1 81 p).toInt = cuC v p := rfl
        have cr13 : (w.1 213 p).toInt = crM w p := rfl
        rcases cuk_x _ _ _ _ hL o4 with z | ⟨c, m', cs, b1, b2, b3, b4, b5, b6, b7, b8, b9, b10, b11, b12⟩
        · rw [q_Ru_lookAtLimits_20.eq_1] at c1
          have c2 := (((io_x c1).1 on).2 (fun y => y (by decide))).1 (by omega)
          exact ⟨v, w, 1, c2, m5.2 (fun y => y (by omega)), pol_0 hW _ _, hK0, Or.inl ⟨by decide, on⟩⟩
        · have m6 := ((m5.1 (by omega)).1 (by decide)).2
          obtain ⟨v', w', r, q1, q2, P, D2, O⟩ := lm_s (s := (cuC v p).toNat) (m := m') hG ih c1 m6 (by omega) (by rw [cr13, ← o3]; omega) hW on b6 (hO c b1) b7 (by omega) (by omega) d0 (hD c b1) b9
          have A := agr_i P.2.1.1 (Nat.zero_le p) (show p < (cuC v p).toNat by omega)
          refine ⟨v', w', r, q1, q2, pol_m P (by omega) b5, Or.inr ⟨by rw [A.2.2.1]; exact o1, by rw [A.2.2.2.2.1]; exact o2, by rw [A.2.2.2.1, A.2.2.2.2.2.2.2.1]; exact o3, ?_⟩, O⟩
          rw [A.1, A.2.2.2.1]
          exact b11 _ v' w' (fun j => (pol_fi P j).2) (ab0_f cs m' _ m b8 (agr_m P.2.1.2 (Nat.le_refl _) (by omega)) b10) D2
