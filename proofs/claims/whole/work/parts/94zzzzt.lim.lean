/-! limits are looked at, on both sides -/
/-- what is inside a statement is a block -/
theorem kd_b {ns : List Nod} {nm : List Nm} {c b : Nat} {d : Nod} (h : PGS ns nm) (hd : ns[c]? = some d) (hS : isS d.1 = true) (hb : b ∈ kdl ns c) : ∃ db, ns[b]? = some db ∧ db.1 = 35 := by
  have q := isS_t.mp hS
  by_cases k : d.1 = 23
  · rw [kdl_23 hd k] at hb
    rw [List.mem_singleton.mp hb]
    obtain ⟨_, ⟨l, u, el, e0⟩, b0, _⟩ := (h.2.1 c d hd).2 k
    obtain ⟨ix, xn, hxn, ej, x10, xb2, b00⟩ := lkn_x el e0
    obtain ⟨db, hdb, e⟩ := h.2.2.2.2.2.1 ix xn hxn (by omega)
    rw [← xb2]
    exact ⟨db, hdb, e⟩
  · rw [kdl_o hd k] at hb
    obtain ⟨db, hdb, o1, _⟩ := h.1 c d hd (by rw [own_s hS]; decide) b hb
    refine ⟨db, hdb, o1 ?_⟩
    unfold kb
    rw [if_neg (by omega)]
/-- what is inside a block are statements -/
theorem kd_s {ns : List Nod} {nm : List Nm} {c : Nat} {d : Nod} (h : PGS ns nm) (hd : ns[c]? = some d) (h35 : d.1 = 35) : ∀ x ∈ kdl ns c, OwB ns false x := fun x hx => by
  rw [kdl_o hd (by omega)] at hx
  have t := h.1 c d hd (by rw [h35]; decide) x hx
  have e : kb d.1 = false := by
    unfold kb
    rw [if_pos h35]
  rw [e] at t
  exact t
theorem dy_b {ns : List Nod} {off : Int} {v w : MW} {k b x : Nat} {db : Nod} (hdb : ns[b]? = some db) (h35 : db.1 = 35) : Dy ns off v w (k + 1) b x ↔ BlkR ns off k v w (kdl ns b) x := by
  rw [Dy_u]
  refine ⟨fun ⟨d, hd, o⟩ => ?_, fun o => ⟨db, hdb, ?_⟩⟩
  · have e : d = db := Option.some.inj (hd.symm.trans hdb)
    rw [e] at o
    rcases o with o | ⟨o1, o2, o3⟩
    · exact Or.inl o
    · exact Or.inr ⟨o1, o2, o3.1 h35⟩
  · rcases o with o | ⟨o1, o2, o3⟩
    · exact Or.inl o
    · exact Or.inr ⟨o1, o2, fun _ => o3, fun z => by omega, fun z => by omega, fun z => by omega, fun z => by omega, fun z => by omega, fun z => by omega, fun z => by omega, fun z => by omega, by omega⟩
/-- inside a block, of if, limit, do -/
theorem bdy_9 {D : Nat → Nat → Prop} {ns : List Nod} {off : Int} {v w : MW} {c p : Nat} {k : Int} (hk : k = 17 ∨ k = 20 ∨ k = 23) (h : cuC v p = crM w p ∧ CuI D v (kdl ns c) (fiC v p) (cuC v p)) : BdY D ns off v w c p k := ⟨fun z => by omega, fun z => by omega, fun z => by omega, fun z => by omega, fun z => by omega, fun z => by omega, fun z => by omega, fun z => by omega, fun _ => h, by omega⟩
theorem bdy_8 {D : Nat → Nat → Prop} {ns : List Nod} {off : Int} {v w : MW} {c p : Nat} (h : cuC v p = fiC v p ∧ v.2.1 82 p = w.2.1 215 p ∧ ∃ b, kdl ns c = [b] ∧ D b (fiC v p).toNat) : BdY D ns off v w c p 19 := ⟨fun z => by omega, fun z => by omega, fun z => by omega, fun z => by omega, fun z => by omega, fun z => by omega, fun z => by omega, fun _ => h, fun z => by omega, by omega⟩
theorem bdy_7 {D : Nat → Nat → Prop} {ns : List Nod} {off : Int} {v w : MW} {c p : Nat} (h : cuC v p = -1 ∧ SiK D v w (kdl ns c) (fiC v p)) : BdY D ns off v w c p 16 := ⟨fun z => by omega, fun z => by omega, fun z => by omega, fun z => by omega, fun z => by omega, fun z => by omega, fun _ => h, fun z => by omega, fun z => by omega, by omega⟩
/-- what has been looked at -/
def OkL (r : Int32) (v : MW) : Prop := (r.toInt = 1 ∧ (v.1 61 4).toInt = 0) ∨ (r.toInt = 0 ∧ (v.1 61 4).toInt = 2)
def LmB (GoW : MW → MW → Prop) (ns : List Nod) (nm : List Nm) (ks : List Nat) (off : Int) (R : MW → Int32 → Int32 → (MW → Prop) → Prop) : Prop := ∀ (k p m N : Nat) (l : List Nat) (ap am dep : Int32) (v w : MW) (Qc : MW → Prop) (Qm : Int32 → MW → Prop), R v ap dep Qc → pn_Mo_limits N w am Qm → ap.toInt = (p : Int) → am.toInt = (p : Int) → WS GoW ns nm ks off v w → (v.1 61 4).toInt = 0 → RtB ns v p → (∀ c ∈ l, OwB ns false c) → Lz ns v l (p + 1) (fiC v p) m → (p < m ∧ (m : Int) ≤ (v.1 61 5).toInt) → 0 ≤ dep.toInt → dep.toInt ≤ 50 → DpL ns l dep.toInt → BlkR ns off k v w l p → ∃ (v' w' : MW) (r : Int32), Qc v' ∧ Qm r w' ∧ PoL true GoW ns nm ks off v w v' w' (p + 1) m ∧ BlkR ns off k v' w' l p ∧ OkL r v'
/-- where the walk is over nothing more is looked at -/
theorem lo_ov {n : Nat} {v : MW} {a dep : Int32} {Q : MW → Prop} (h : pn_Ru_lookAtLimits n v a dep Q) (ho : ¬ (v.1 61 4).toInt = 0) : Q v := by
  cases n with
  | zero => exact False.elim h
  | succ n =>
    rw [pe_Ru_lookAtLimits, pb_Ru_lookAtLimits.eq_1] at h
    have t : ∀ x : Int32, q_Ru_lookAtLimits_20 (pn_Ru_lookAtLimits n) dep x v Q → Q v := fun x q => by
      rw [q_Ru_lookAtLimits_20.eq_1] at q
      exact ((io_x q).2 ho).1 (by decide)
    by_cases z : (v.1 80 a.toInt.toNat).toInt = 1
    · exact t _ (h.2.2 (fun y => y z)).2
    · exact t _ (h.2.1 z)
/-- a block that has not begun, or has ended -/
theorem lo_s0 {n : Nat} {v : MW} {a dep : Int32} {Q : MW → Prop} (h : pn_Ru_lookAtLimits n v a dep Q) (hs : ¬ (v.1 80 a.toInt.toNat).toInt = 1) : Q v := by
  cases n with
  | zero => exact False.elim h
  | succ n =>
    rw [pe_Ru_lookAtLimits, pb_Ru_lookAtLimits.eq_1] at h
    have q := h.2.1 hs
    rw [q_Ru_lookAtLimits_20.eq_1] at q
    by_cases z : (v.1 61 4).toInt = 0
    · exact ((((io_x q).1 z).2 (fun y => y (by decide))).1 (by decide))
    · exact ((io_x q).2 z).1 (by decide)
theorem lo_lp {n : Nat} {dep : Int32} {v : MW} {E Q : MW → Prop} (ho : ¬ (v.1 61 4).toInt = 0) : ∀ (M : Nat) (x i : Int32), q_Ru_lookAtLimits_142 (pn_Ru_lookAtLimits n) dep E Q M x i v → E v := by
  intro M
  induction M with
  | zero => exact fun _ _ h => False.elim h
  | succ M ih =>
    intro x i h
    rw [q_Ru_lookAtLimits_142.eq_2] at h
    by_cases a : 500 < i.toInt
    · exact h.1 a
    · have h1 := h.2 a
      by_cases b : x.toInt < 0
      · exact h1.1 b
      · have h2 := lo_ov (h1.2 b) ho
        exact ih _ _ h2.2
theorem q120_0 {n : Nat} {dep a K : Int32} {v : MW} {Q : MW → Prop} (h : q_Ru_lookAtLimits_120 (pn_Ru_lookAtLimits n) dep a K v Q) (hK : ¬ K.toInt = 16) : Q v := by
  rw [q_Ru_lookAtLimits_120.eq_1] at h
  have h1 := h.1 hK
  have fu : (1000 : Nat) < FU := fu_lt (by decide)
  generalize hFU : FU = F0 at *
  cases F0 with
  | zero => omega
  | succ F0 =>
    rw [q_Ru_lookAtLimits_142.eq_2] at h1
    exact (h1.2 (by decide)).1 (by decide)
theorem agr_i {s q : Nat} {v v' w w' : MW} (h : AgR s q v v' w w') {j : Nat} (a : s ≤ j) (b : j < q) : fiC v' j = fiC v j ∧ nxC v' j = nxC v j ∧ stg v' j = stg v j ∧ cuC v' j = cuC v j ∧ bgM w' j = bgM w j ∧ dnM w' j = dnM w j ∧ ovM w' j = ovM w j ∧ crM w' j = crM w j ∧ siM w' j = siM w j := by
  have t := h j a b
  unfold fiC nxC stg cuC bgM dnM ovM crM siM
  rw [t.1.1, t.1.2.1, t.1.2.2.1, t.1.2.2.2.1, t.2.1, t.2.2.1, t.2.2.2.1, t.2.2.2.2.1, t.2.2.2.2.2.1]
  exact ⟨rfl, rfl, rfl, rfl, rfl, rfl, rfl, rfl, rfl⟩
/-- the sides of a par -/
theorem lm_sd {GoW : MW → MW → Prop} {ns : List Nod} {nm : List Nm} {ks : List Nat} {off : Int} {n k N : Nat} {dep : Int32} {Qc E2 : MW → Prop} {Qm : Int32 → MW → Prop} (hR : LmB GoW ns nm ks off (pn_Ru_lookAtLimits n)) (d0 : 0 ≤ dep.toInt) (d5 : dep.toInt ≤ 49) : ∀ (l : List Nat) (M M' : Nat) (x y i : Int32) (h : Int) (s q : Nat) (v w : MW), q_Ru_lookAtLimits_142 (pn_Ru_lookAtLimits n) dep Qc E2 M x i v → q_Mo_limits_30 (pn_Mo_limits N) (fun w' => Qm 1 w') Qm M' y w → x.toInt = h → y.toInt = h → Lz ns v l s h q → (q : Int) ≤ (v.1 61 5).toInt → (∀ b ∈ l, (∃ db, ns[b]? = some db ∧ db.1 = 35) ∧ DpL ns (kdl ns b) (dep.toInt + 1)) → WS GoW ns nm ks off v w → (v.1 61 4).toInt = 0 → SiK (Dy ns off v w k) v w l h → 0 ≤ i.toInt → i.toInt ≤ (s : Int) → s ≤ 501 → ∃ (v' w' : MW) (r : Int32), Qc v' ∧ Qm r w' ∧ PoL true GoW ns nm ks off v w v' w' s q ∧ SiK (Dy ns off v' w' k) v' w' l h ∧ OkL r v' := by
  intro l
  induction l with
  | nil =>
    intro M M' x y i h s q v w hC hM ex ey hL hq hB hW on hS i0 i1 s5
    have e := lz_n hL
    cases M with
    | zero => exact False.elim hC
    | succ M =>
      cases M' with
      | zero => exact False.elim hM
      | succ M' =>
        rw [q_Ru_lookAtLimits_142.eq_2] at hC
        rw [q_Mo_limits_30.eq_2] at hM
        have c : Qc v := by
          by_cases z : 500 < i.toInt
          · exact hC.1 z
          · exact (hC.2 z).1 (by omega)
        exact ⟨v, w, 1, c, hM.1 (by omega), pol_0 hW s q, trivial, Or.inl ⟨by decide, on⟩⟩
  | cons b bs ih =>
    intro M M' x y i h s q v w hC hM ex ey hL hq hB hW on hS i0 i1 s5
    obtain ⟨e1, e2, m, sm, mq, L1, L2⟩ := lz_c hL
    have par := hW.2.2.1.2.2.2.2.2.1
    have p5 := par.2.1.2
    have hs : h.toNat = s := by omega
    have xs : x.toInt.toNat = s := by omega
    have ys : y.toInt.toNat = s := by omega
    obtain ⟨⟨db, hdb, h35⟩, hD⟩ := hB b List.mem_cons_self
    have sd := ti_add2 (Eq.refl dep.toInt) i_1 (by omega) (by omega)
    have si := ti_add2 (Eq.refl i.toInt) i_1 (by omega) (by omega)
    cases M with
    | zero => exact False.elim hC
    | succ M =>
      cases M' with
      | zero => exact False.elim hM
      | succ M' =>
        rw [q_Ru_lookAtLimits_142.eq_2] at hC
        rw [q_Mo_limits_30.eq_2] at hM
        have c1 := (hC.2 (by omega)).2 (by omega)
        have m1 := (hM.2 (by omega)).2
        rw [xs] at c1
        rw [ys] at m1
        obtain ⟨S1, S2⟩ := hS
        rw [hs] at S1 S2
        have lyj := par.2.2 s (by omega)
        rcases S1 with ⟨st2, ov1⟩ | ⟨st2, ov0, D1⟩
        · have c2 := (lo_s0 c1 (by rw [xs]; unfold stg at st2; omega)).2
          have m2 := (m1.1 (by unfold ovM at ov1; omega)).2
          obtain ⟨v', w', r, q1, q2, P, S3, O⟩ := ih M M' _ _ _ (nxC v s) m q v w c2 m2 rfl (by rw [← lyj.2.2]; rfl) L2 hq (fun b hb => hB b (List.mem_cons_of_mem _ hb)) hW on S2 (by omega) (by omega) (by omega)
          have A := agr_i P.2.1.1 (Nat.zero_le s) sm
          refine ⟨v', w', r, q1, q2, pol_m P (by omega) (Nat.le_refl _), ⟨?_, ?_⟩, O⟩
          · rw [hs, A.2.2.1, A.2.2.2.2.2.2.1]
            exact Or.inl ⟨st2, ov1⟩
          · rw [hs, A.2.1]
            exact S3
        · cases k with
          | zero => exact False.elim D1
          | succ k =>
            have m2 := m1.2 (fun z => z (by unfold ovM at ov0; exact ov0))
            have B1 := (dy_b hdb h35).mp D1
            obtain ⟨v1, w1, r1, g1, g2, P1, B2, O1⟩ := hR k s m N (kdl ns b) x y (dep + (1 : Int32)) v w _ _ c1 m2 (by omega) (by omega) hW on (Or.inr ⟨b, db, e2, hdb, h35⟩) (kd_s hW.2.2.1.2.2.2.1 hdb h35) L1 ⟨sm, by omega⟩ (by omega) (by omega) (by rw [sd]; exact hD) B1
            have A := agr_i P1.2.1.1 (Nat.zero_le s) (show s < s + 1 by omega)
            have D2 := (dy_b hdb h35).mpr B2
            have st2' : ¬ stg v1 s = 2 := by
              rw [A.2.2.1]
              exact st2
            have ov0' : ovM w1 s = 0 := by
              rw [A.2.2.2.2.2.2.1]
              exact ov0
            have Sr : SiK (Dy ns off v1 w1 (k + 1)) v1 w1 bs (nxC v s) := sik_f bs m _ q L2 (agr_m P1.2.1.2 (Nat.le_refl _) (by omega)) (fun c p mm h1 h2 h3 h4 h5 => dy_f (k + 1) c p mm h2 h4 (agr_m P1.2.1.2 (by omega) (by omega)) h5) S2
            rcases O1 with ⟨r1e, on1⟩ | ⟨r1e, ov⟩
            · have c2 := g1.2
              have m3 := (g2.1 (by omega)).2
              have e9 : (v1.1 79 s).toInt = nxC v s := by
                rw [(P1.2.2.1 s).2.2]
                rfl
              have ly1 := P1.1.2.2.1.2.2.2.2.2.1.2.2 s (by rw [P1.2.2.2.1]; omega)
              obtain ⟨v', w', r, q1, q2, P, S3, O⟩ := ih M M' _ _ _ (nxC v s) m q v1 w1 c2 m3 e9 (by rw [← ly1.2.2]; exact e9) (pol_l P1 L2) (by rw [P1.2.2.2.1]; exact hq) (fun b hb => hB b (List.mem_cons_of_mem _ hb)) P1.1 on1 Sr (by omega) (by omega) (by omega)
              have A2 := agr_i P.2.1.1 (Nat.zero_le s) sm
              refine ⟨v', w', r, q1, q2, pol_t (pol_m P1 (by omega) (by omega)) (pol_m P (by omega) (Nat.le_refl _)), ⟨?_, ?_⟩, O⟩
              · rw [hs]
                refine Or.inr ⟨by rw [A2.2.2.1]; exact st2', by rw [A2.2.2.2.2.2.2.1]; exact ov0', ?_⟩
                exact dy_f (k + 1) b s m sm (by rw [(pol_fi P1 s).1]; exact pol_l P1 L1) (agr_m P.2.1.1 (Nat.zero_le _) (Nat.le_refl _)) D2
              · rw [hs, A2.2.1, A.2.1]
                exact S3
            · refine ⟨v1, w1, r1, lo_lp (by omega) M _ _ g1.2, ?_, pol_m P1 (by omega) (by omega), ⟨?_, ?_⟩, Or.inr ⟨r1e, ov⟩⟩
              · have e0 : r1 = 0 := Int32.toInt_inj.mp (by rw [r1e]; decide)
                rw [e0] at g2 ⊢
                exact g2.2 (fun z => z (by decide))
              · rw [hs]
                exact Or.inr ⟨st2', ov0', D2⟩
              · rw [hs, A.2.1]
                exact Sr
