/-! what stands still, on both sides -/
/-- both sides but for what is counted -/
def SkS (ns : List Nod) (nm : List Nm) (ks : List Nat) (off : Int) (v w : MW) : Prop := STa ns nm ks v w ∧ v.1 61 15 = w.1 127 77
/-- only what is counted has changed -/
def SqP (v w v' w' : MW) : Prop := FR [(61, some 15)] v v' ∧ FR [(127, some 77)] w w' ∧ v'.1 61 15 = w'.1 127 77
theorem skp_0 {v w : MW} (h : v.1 61 15 = w.1 127 77) : SqP v w v w := ⟨FR.refl _ v, FR.refl _ w, h⟩
theorem skp_t {v w v1 w1 v2 w2 : MW} (a : SqP v w v1 w1) (b : SqP v1 w1 v2 w2) : SqP v w v2 w2 := ⟨a.1.tr b.1 rfl, a.2.1.tr b.2.1 rfl, b.2.2⟩
theorem sks_p {ns : List Nod} {nm : List Nm} {ks : List Nat} {off : Int} {v w v' w' : MW} (h : SkS ns nm ks off v w) (p : SqP v w v' w') : SkS ns nm ks off v' w' := ⟨sta_f h.1 p.1 p.2.1 rfl rfl, p.2.2⟩
theorem skp_a {v w v' w' : MW} (p : SqP v w v' w') (a b : Nat) : AgR a b v v' w w' := agr_f p.1 p.2.1 rfl rfl a b
/-- an answer is given at r -/
def UpA (v w v2 w2 : MW) (r : Nat) : Prop := (∀ a b : Nat, (b ≤ r ∨ r < a) → AgR a b v v2 w w2) ∧ (v2.1 78 r = v.1 78 r ∧ v2.1 79 r = v.1 79 r ∧ v2.1 80 r = v.1 80 r ∧ v2.1 81 r = v.1 81 r ∧ v2.2.1 82 r = 1) ∧ (w2.1 210 r = w.1 210 r ∧ (w2.1 211 r).toInt = 1 ∧ w2.1 212 r = w.1 212 r ∧ w2.1 213 r = w.1 213 r ∧ w2.1 214 r = w.1 214 r)
/-- what is found -/
def FdR (rc rm : Int32) (p m : Nat) : Prop := (rc.toInt = -1 ∧ rm.toInt = -1) ∨ (rc.toInt = rm.toInt ∧ (p : Int) < rc.toInt ∧ rc.toInt < (m : Int))
/-- it is an ask where asks are sought -/
def AsK (ns : List Nod) (v : MW) (asks rc : Int32) : Prop := asks.toInt = 1 → 0 ≤ rc.toInt → ∃ (c : Nat) (d : Nod), (v.1 77 rc.toInt.toNat).toInt = (c : Int) ∧ ns[c]? = some d ∧ d.1 = 22
theorem upa_d {ns : List Nod} {off : Int} {k c p m r : Nat} {v w v2 w2 : MW} (U : UpA v w v2 w2 r) (pm : p < m) (hL : Lz ns v (kdl ns c) (p + 1) (fiC v p) m) (h : m ≤ r ∨ r < p) (D : Dy ns off v w k c p) : Dy ns off v2 w2 k c p := dy_f k c p m pm hL (U.1 p m h) D
theorem upa_s {v w v2 w2 : MW} {r : Nat} (U : UpA v w v2 w2 r) (j : Nat) : fiC v2 j = fiC v j ∧ nxC v2 j = nxC v j ∧ stg v2 j = stg v j ∧ cuC v2 j = cuC v j ∧ bgM w2 j = bgM w j ∧ ovM w2 j = ovM w j ∧ crM w2 j = crM w j := by
  by_cases z : j = r
  · rw [z]
    unfold fiC nxC stg cuC bgM ovM crM
    rw [U.2.1.1, U.2.1.2.1, U.2.1.2.2.1, U.2.1.2.2.2.1, U.2.2.1, U.2.2.2.2.1, U.2.2.2.2.2.1]
    exact ⟨rfl, rfl, rfl, rfl, rfl, rfl, rfl⟩
  · have t := agr_i (U.1 j (j + 1) (by omega)) (Nat.le_refl j) (by omega)
    exact ⟨t.1, t.2.1, t.2.2.1, t.2.2.2.1, t.2.2.2.2.1, t.2.2.2.2.2.2.1, t.2.2.2.2.2.2.2.1⟩
theorem upa_ab {v w v2 w2 : MW} {r : Nat} (U : UpA v w v2 w2 r) : ∀ (l : List Nat) (h : Int), AB0 v w l h → AB0 v2 w2 l h := by
  intro l
  induction l with
  | nil => exact fun _ _ => trivial
  | cons c cs ih => exact fun h a => ⟨by rw [(upa_s U _).2.2.2.2.1]; exact a.1, by rw [(upa_s U _).2.1]; exact ih _ a.2⟩
theorem upa_si {ns : List Nod} {off : Int} {k q r : Nat} {v w v2 w2 : MW} (U : UpA v w v2 w2 r) : ∀ (l : List Nat) (s : Nat) (h : Int), Lz ns v l s h q → (q ≤ r ∨ r < s) → SiK (Dy ns off v w k) v w l h → SiK (Dy ns off v2 w2 k) v2 w2 l h := fun l s h hL hr S => sik_f l s h q hL (U.1 s q hr) (fun c p m h1 h2 h3 h4 h5 => dy_f k c p m h2 h4 (agr_m (U.1 s q hr) h1 h3) h5) S
/-- blocks -/
def SkB (ns : List Nod) (nm : List Nm) (ks : List Nat) (off : Int) (R : MW → Int32 → Int32 → Int32 → (Int32 → MW → Prop) → Prop) : Prop := ∀ (k p m N : Nat) (l : List Nat) (ap am asks dep : Int32) (v w : MW) (Qc Qm : Int32 → MW → Prop), R v ap asks dep Qc → pn_Mo_stillAt N w am asks Qm → ap.toInt = (p : Int) → am.toInt = (p : Int) → (asks.toInt = 0 ∨ asks.toInt = 1) → SkS ns nm ks off v w → RtB ns v p → (∀ c ∈ l, OwB ns false c) → Lz ns v l (p + 1) (fiC v p) m → (p < m ∧ (m : Int) ≤ (v.1 61 5).toInt) → 0 ≤ dep.toInt → dep.toInt ≤ 50 → DpL ns l dep.toInt → BlkR ns off k v w l p → ∃ (v' w' : MW) (rc rm : Int32), Qc rc v' ∧ Qm rm w' ∧ SqP v w v' w' ∧ FdR rc rm p m ∧ AsK ns v asks rc ∧ (asks.toInt = 1 → 0 ≤ rc.toInt → ∀ v2 w2, UpA v w v2 w2 rc.toInt.toNat → BlkR ns off k v2 w2 l p)
/-- class: nothing there -/
theorem sk_no {n : Nat} {v : MW} {ap asks dep : Int32} {Q : Int32 → MW → Prop} (h : pn_Ru_seek n v ap asks dep Q) (hs : ¬ (v.1 80 ap.toInt.toNat).toInt = 1) : Q (-1) v := by
  cases n with
  | zero => exact False.elim h
  | succ n =>
    rw [pe_Ru_seek, pb_Ru_seek.eq_1] at h
    have q := h.2.1 hs
    rw [q_Ru_seek_20.eq_1] at q
    exact q.1 (by decide)
theorem rt_k {ns : List Nod} {nm : List Nm} {ks : List Nat} {off : Int} {v w : MW} {p : Nat} {a : Int32} {Q : Int32 → MW → Prop} (h : SkS ns nm ks off v w) (hp : (p : Int) < (v.1 61 5).toInt) (ha : a.toInt = (p : Int)) (hB : RtB ns v p) (q : p_Mo_kind w a Q) : ∃ r : Int32, r.toInt = 23 ∧ Q r w := by
  have e : (w.1 207 a.toInt.toNat).toInt = (v.1 77 p).toInt := by
    rw [ha, show ((p : Int)).toNat = p by omega, (h.1.2.2.2.2.2.1.2.2 p hp).1]
  rcases hB with z | ⟨c, d, z1, z2, z3⟩
  · rw [p_Mo_kind.eq_1] at q
    exact ⟨23, by decide, q.2.2 (by omega)⟩
  · obtain ⟨r, e1, e2⟩ := kn_x h.1.2.2.1 (e.trans z1) z2 q
    refine ⟨r, ?_, e2⟩
    rw [e1, z3]
    decide
/-- the sides of a par -/
theorem sk_sd {ns : List Nod} {nm : List Nm} {ks : List Nat} {off : Int} {n k N : Nat} {asks dep y4 y5 : Int32} {E Qx : Int32 → MW → Prop} {Qm : Int32 → MW → Prop} (hR : SkB ns nm ks off (pn_Ru_seek n)) (d0 : 0 ≤ dep.toInt) (d5 : dep.toInt ≤ 49) (ha : asks.toInt = 0 ∨ asks.toInt = 1) : ∀ (l : List Nat) (M M' : Nat) (x y i : Int32) (h : Int) (s q : Nat) (v w : MW), q_Ru_seek_114 (pn_Ru_seek n) asks dep y4 y5 E Qx M x (-1) i v → q_Mo_stillAt_31 (pn_Mo_stillAt N) asks (fun w' => Qm (-1) w') Qm M' y w → x.toInt = h → y.toInt = h → Lz ns v l s h q → (q : Int) ≤ (v.1 61 5).toInt → (∀ b ∈ l, (∃ db, ns[b]? = some db ∧ db.1 = 35) ∧ DpL ns (kdl ns b) (dep.toInt + 1)) → SkS ns nm ks off v w → SiK (Dy ns off v w (k + 1)) v w l h → 0 ≤ i.toInt → i.toInt ≤ (s : Int) → 1 ≤ s → ∃ (v' w' : MW) (rc rm : Int32), E rc v' ∧ Qm rm w' ∧ SqP v w v' w' ∧ FdR rc rm (s - 1) q ∧ AsK ns v asks rc ∧ (asks.toInt = 1 → 0 ≤ rc.toInt → ∀ v2 w2, UpA v w v2 w2 rc.toInt.toNat → SiK (Dy ns off v2 w2 (k + 1)) v2 w2 l h) := by
  intro l
  induction l with
  | nil =>
    intro M M' x y i h s q v w hC hM ex ey hL hq hB hS hK i0 i1 s1
    have e := lz_n hL
    cases M with
    | zero => exact False.elim hC
    | succ M =>
      cases M' with
      | zero => exact False.elim hM
      | succ M' =>
        rw [q_Ru_seek_114.eq_2] at hC
        rw [q_Mo_stillAt_31.eq_2] at hM
        have c : E (-1) v := by
          by_cases z : 500 < i.toInt
          · exact hC.1 z
          · exact (hC.2 z).1 (by omega)
        exact ⟨v, w, -1, -1, c, hM.1 (by omega), skp_0 hS.2, Or.inl ⟨by decide, by decide⟩, fun _ z => absurd z (by decide), fun _ z => absurd z (by decide)⟩
  | cons b bs ih =>
    intro M M' x y i h s q v w hC hM ex ey hL hq hB hS hK i0 i1 s1
    obtain ⟨e1, e2, m, sm, mq, L1, L2⟩ := lz_c hL
    have par := hS.1.2.2.2.2.2.1
    have p5 := par.2.1.2
    have hs : h.toNat = s := by omega
    have xs : x.toInt.toNat = s := by omega
    have ys : y.toInt.toNat = s := by omega
    obtain ⟨⟨db, hdb, h35⟩, hD⟩ := hB b List.mem_cons_self
    have sd := ti_add2 (Eq.refl dep.toInt) i_1 (by omega) (by omega)
    have si := ti_add2 (Eq.refl i.toInt) i_1 (by omega) (by omega)
    cases M with
    | zero => exact False.elim hC
    | succ M =>
      cases M' with
      | zero => exact False.elim hM
      | succ M' =>
        rw [q_Ru_seek_114.eq_2] at hC
        rw [q_Mo_stillAt_31.eq_2] at hM
        have c1 := ((hC.2 (by omega)).2 (by omega)).2 (by decide)
        have m1 := (hM.2 (by omega)).2
        rw [ys] at m1
        obtain ⟨S1, S2⟩ := hK
        rw [hs] at S1 S2
        have lyj := par.2.2 s (by omega)
        -- the sides behind this one
        have go : ∀ (v1 w1 : MW), SqP v w v1 w1 → q_Ru_seek_114 (pn_Ru_seek n) asks dep y4 y5 E Qx M (v1.1 79 s) (-1) (i + (1 : Int32)) v1 → q_Mo_stillAt_31 (pn_Mo_stillAt N) asks (fun w' => Qm (-1) w') Qm M' (w1.1 209 s) w1 → ∃ (v' w' : MW) (rc rm : Int32), E rc v' ∧ Qm rm w' ∧ SqP v w v' w' ∧ FdR rc rm (s - 1) q ∧ AsK ns v asks rc ∧ (asks.toInt = 1 → 0 ≤ rc.toInt → ∀ v2 w2, UpA v w v2 w2 rc.toInt.toNat → SiK (Dy ns off v2 w2 (k + 1)) v2 w2 (b :: bs) h) := fun v1 w1 P1 hc1 hm1 => by
          have A1 := skp_a P1
          have e79 : (v1.1 79 s).toInt = nxC v s := by
            rw [(P1.1 79 s rfl).1]
            rfl
          obtain ⟨v', w', rc, rm, g1, g2, P, O, K, U⟩ := ih M M' _ _ _ (nxC v s) m q v1 w1 hc1 hm1 e79 (by rw [(P1.2.1 209 s rfl).1, ← lyj.2.2]; rfl) (lz_g L2 (fun j => (P1.1 77 j rfl).1) (fun j => (P1.1 78 j rfl).1) (fun j => (P1.1 79 j rfl).1)) (by rw [(P1.1 61 5 rfl).1]; exact hq) (fun b hb => hB b (List.mem_cons_of_mem _ hb)) (sks_p hS P1) (sik_f bs m _ q L2 (A1 _ _) (fun c p mm h1 h2 h3 h4 h5 => dy_f (k + 1) c p mm h2 h4 (A1 _ _) h5) S2) (by omega) (by omega) (by omega)
          refine ⟨v', w', rc, rm, g1, g2, skp_t P1 P, ?_, fun z1 z2 => ?_, fun z1 z2 v2 w2 hU => ?_⟩
          · rcases O with z | ⟨z1, z2, z3⟩
            · exact Or.inl z
            · exact Or.inr ⟨z1, by omega, z3⟩
          · obtain ⟨c, d, t1, t2⟩ := K z1 z2
            exact ⟨c, d, by rw [← (P1.1 77 _ rfl).1]; exact t1, t2⟩
          · have rb : (m : Int) ≤ rc.toInt := by
              rcases O with ⟨z, _⟩ | ⟨_, z, _⟩
              · omega
              · omega
            have t := upa_s hU s
            have U1 : UpA v1 w1 v2 w2 rc.toInt.toNat := by
              refine ⟨fun a c hac j ja jb => ?_, ?_, ?_⟩
              · have q1 := hU.1 a c hac j ja jb
                have q2 := A1 0 (j + 1) j (Nat.zero_le j) (by omega)
                rw [q2.1.1, q2.1.2.1, q2.1.2.2.1, q2.1.2.2.2.1, q2.1.2.2.2.2.1, q2.1.2.2.2.2.2.1, q2.1.2.2.2.2.2.2.1, q2.1.2.2.2.2.2.2.2, q2.2.1, q2.2.2.1, q2.2.2.2.1, q2.2.2.2.2.1, q2.2.2.2.2.2.1, q2.2.2.2.2.2.2.1, q2.2.2.2.2.2.2.2.1, q2.2.2.2.2.2.2.2.2]
                exact q1
              · rw [(P1.1 78 _ rfl).1, (P1.1 79 _ rfl).1, (P1.1 80 _ rfl).1, (P1.1 81 _ rfl).1]
                exact hU.2.1
              · rw [(P1.2.1 210 _ rfl).1, (P1.2.1 212 _ rfl).1, (P1.2.1 213 _ rfl).1, (P1.2.1 214 _ rfl).1]
                exact hU.2.2
            refine ⟨?_, ?_⟩
            · rw [hs, t.2.2.1, t.2.2.2.2.2.1]
              rcases S1 with z | ⟨z1, z2, z3⟩
              · exact Or.inl z
              · exact Or.inr ⟨z1, z2, upa_d hU sm L1 (by omega) z3⟩
            · rw [hs, t.2.1]
              exact U z1 z2 v2 w2 U1
        rcases S1 with ⟨st2, ov1⟩ | ⟨st2, ov0, D1⟩
        · have c2 := (sk_no c1 (by rw [xs]; unfold stg at st2; omega)).2
          have m2 := (m1.2 (by unfold ovM at ov1; omega)).2
          rw [xs] at c2
          exact go v w (skp_0 hS.2) c2 m2
        · have m2 := m1.1 (by unfold ovM at ov0; exact ov0)
          have B1 := (dy_b hdb h35).mp D1
          obtain ⟨v1, w1, rc, rm, g1, g2, P1, O1, K1, U1⟩ := hR k s m N (kdl ns b) x y asks (dep + (1 : Int32)) v w _ _ c1 m2 (by omega) (by omega) ha hS (Or.inr ⟨b, db, e2, hdb, h35⟩) (kd_s hS.1.2.2.2.1 hdb h35) L1 ⟨sm, by omega⟩ (by omega) (by omega) (by rw [sd]; exact hD) B1
          have c2 := g1.2
          rw [xs] at c2
          rcases O1 with ⟨r1, r2⟩ | ⟨r1, r2, r3⟩
          · have ec : rc = -1 := Int32.toInt_inj.mp (r1.trans (by decide))
            rw [ec] at c2
            have m3 := (g2.1 r2).2
            exact go v1 w1 P1 c2 m3
          · have m3 := g2.2 (by omega)
            have c3 : E rc v1 := by
              cases M with
              | zero => exact False.elim c2
              | succ M =>
                rw [q_Ru_seek_114.eq_2] at c2
                have c4 := c2.2 (by omega)
                by_cases z : (v1.1 79 s).toInt < 0
                · exact c4.1 z
                · exact (c4.2 z).1 (by omega)
            refine ⟨v1, w1, rc, rm, c3, m3, P1, Or.inr ⟨r1, by omega, by omega⟩, K1, fun z1 z2 v2 w2 hU => ?_⟩
            have t := upa_s hU s
            refine ⟨?_, ?_⟩
            · rw [hs, t.2.2.1, t.2.2.2.2.2.1]
              exact Or.inr ⟨st2, ov0, (dy_b hdb h35).mpr (U1 z1 z2 v2 w2 hU)⟩
            · rw [hs, t.2.1]
              exact upa_si hU bs m _ L2 (by omega) S2
/-- the reference counts -/
theorem q224_x {N : Nat} {a y4 s0 s1 : Int32} {w : MW} {Q : Int32 → MW → Prop} (h : q_Mo_stillAt_224 (pn_Mo_stillAt N) a y4 s0 s1 w Q) : (y4.toInt = 0 → Q (-1) (sI w 127 77 (s1 - s0))) ∧ (¬ y4.toInt = 0 → (0 ≤ (s1 - s0).toInt → Q (-1) (sI w 127 77 (s1 - s0))) ∧ (¬ 0 ≤ (s1 - s0).toInt → Q a (sI w 127 77 (s1 - s0)))) := by
  rw [q_Mo_stillAt_224.eq_1] at h
  exact ⟨fun z => h.1 z, fun z => ⟨fun y => (h.2 z).1 y, fun y => (h.2 z).2 y⟩⟩
/-- the reference's wants of a place, where something is sought -/
def skM (N : Nat) (w : MW) (a asks : Int32) (s : Nat) (Q : Int32 → MW → Prop) (k : Int) : Prop := (k = 14 → q_Mo_stillAt_31 (pn_Mo_stillAt N) asks (fun w' => Q (-1) w') Q FU (w.1 208 s) w) ∧ (k = 16 → pn_Mo_stillAt N w (w.1 208 s) asks Q) ∧ ((k = 23 ∨ k = 15 ∨ k = 19 ∨ k = 17) → (¬ (w.1 213 s).toInt = -1 → pn_Mo_stillAt N w (w.1 213 s) asks Q) ∧ ((w.1 213 s).toInt = -1 → Q (-1) w)) ∧ ((k = 11 ∨ k = 12 ∨ k = 13 ∨ k = 18) → (asks.toInt = 0 → q_Mo_stillAt_224 (pn_Mo_stillAt N) a 1 1 (w.1 127 77) w Q) ∧ (¬ asks.toInt = 0 → ((¬ k = 18 ∨ ¬ (w.1 211 s).toInt = 0) → q_Mo_stillAt_224 (pn_Mo_stillAt N) a 0 0 (w.1 127 77) w Q) ∧ (k = 18 → (w.1 211 s).toInt = 0 → q_Mo_stillAt_224 (pn_Mo_stillAt N) a 1 1 (w.1 127 77) w Q)))
theorem sk_m {N s : Nat} {w : MW} {a asks : Int32} {Q : Int32 → MW → Prop} (ea : a.toInt.toNat = s) (h : pn_Mo_stillAt (N + 1) w a asks Q) (hb : bgM w s = 1) {k : Int} (hk : ∀ (P : Int32 → MW → Prop), p_Mo_kind w a P → ∃ r : Int32, r.toInt = k ∧ P r w) : skM N w a asks s Q k := by
  rw [pe_Mo_stillAt, pb_Mo_stillAt.eq_1, ea] at h
  obtain ⟨r, er, h1⟩ := hk _ (h.2.1 (by unfold bgM at hb; omega))
  rw [er] at h1
  refine ⟨fun z => (h1.2 (fun y => y z)).2, fun z => ((h1.1 (by omega)).2 (fun y => y z)).2, fun z => ?_, fun z => ?_⟩
  · have t := (h1.1 (by omega)).1 (by omega)
    have q : q_Mo_stillAt_125 (pn_Mo_stillAt N) a asks w Q := by
      rcases z with z | z | z | z
      · exact t.1 z
      · exact (t.2 (by omega)).1 z
      · exact ((t.2 (by omega)).2 (by omega)).1 z
      · exact ((((t.2 (by omega)).2 (by omega)).2 (by omega)).2 (fun y => y z))
    rw [q_Mo_stillAt_125.eq_1, ea] at q
    exact ⟨fun y => (q.2.1 y).2, fun y => q.2.2 (fun x => x y)⟩
  · have t := (((((h1.1 (by omega)).1 (by omega)).2 (by omega)).2 (by omega)).2 (by omega)).1 (by omega)
    refine ⟨fun y => ?_, fun y => ?_⟩
    · have q := t.1 y
      rcases z with z | z | z | z
      · exact q.1 z
      · exact (q.2 (by omega)).1 z
      · exact ((q.2 (by omega)).2 (by omega)).1 z
      · exact (((q.2 (by omega)).2 (by omega)).2 (by omega)).2 (fun x => x z)
    · have q := t.2 y
      refine ⟨fun x => ?_, fun x x2 => ?_⟩
      · by_cases k18 : k = 18
        · have q2 := (q.2 (fun u => u k18)).2
          exact q2.1 (by omega)
        · exact q.1 k18
      · have q2 := (q.2 (fun u => u x)).2
        exact q2.2 (fun u => u x2)
