/-! a run goes on, on both sides: kinds, answers -/
/-- answers of both sides -/
def GOk (rc rm : Int32) (v : MW) : Prop := (rm.toInt = 1 ∧ rc.toInt = 1 ∧ (v.1 61 4).toInt = 0) ∨ (rm.toInt = 0 ∧ rc.toInt = 0 ∧ (v.1 61 4).toInt = 0) ∨ (rm.toInt = 2 ∧ rc.toInt = 0 ∧ (v.1 61 4).toInt = 2) ∨ (rm.toInt = 3 ∧ rc.toInt = 0 ∧ (v.1 61 4).toInt = 3)
/-- what is to be looked at has begun before, or is to begin -/
def SBq (v w : MW) (p m : Nat) : Prop := stg v p = 0 ∨ ∀ j : Nat, p < j → j < m → bgM w j = 1 → 0 ≤ siM w j ∧ siM w j < (w.1 127 74).toInt
def SBt (v w : MW) (p m : Nat) : Prop := stg v p = 0 ∨ ∀ j : Nat, p ≤ j → j < m → bgM w j = 1 → 0 ≤ siM w j ∧ siM w j < (w.1 127 74).toInt
/-- a block goes on alike -/
def GoB (GoW : MW → MW → Prop) (ns : List Nod) (nm : List Nm) (ks : List Nat) (off : Int) (R : MW → Int32 → Int32 → (Int32 → MW → Prop) → Prop) : Prop := ∀ (k p m N : Nat) (l : List Nat) (ap am dep : Int32) (v w : MW) (Qc Qm : Int32 → MW → Prop), R v ap dep Qc → pn_Mo_go N w am Qm → ap.toInt = (p : Int) → am.toInt = (p : Int) → WS GoW ns nm ks off v w → (v.1 61 4).toInt = 0 → RtB ns v p → (∀ c ∈ l, OwB ns false c) → Lz ns v l (p + 1) (fiC v p) m → (p < m ∧ (m : Int) ≤ (v.1 61 5).toInt) → 0 ≤ dep.toInt → dep.toInt ≤ 50 → (k : Int) + 2 * dep.toInt = 200 → DpL ns l dep.toInt → BlkR ns off k v w l p → SBq v w p m → ∃ (v' w' : MW) (rc rm : Int32), Qc rc v' ∧ Qm rm w' ∧ PoL false GoW ns nm ks off v w v' w' p m ∧ GOk rc rm v' ∧ ((rm.toInt = 0 ∨ rm.toInt = 2) → BlkR ns off k v' w' l p) ∧ (stg v p = 0 → rm.toInt = 1 → (v.1 61 19).toInt + 1 ≤ (v'.1 61 19).toInt) ∧ w'.1 212 p = w.1 212 p
/-- the reference's wants of a place that has begun -/
def gkM (N : Nat) (w : MW) (a : Int32) (s : Nat) (Q : Int32 → MW → Prop) (k : Int) : Prop := (k = 11 → ((lg_cmp (Int32.toInt64 ((w.1 127 74) - (w.1 214 s))) (w.2.1 215 s)).toInt < 0 → Q 0 w) ∧ (¬ (lg_cmp (Int32.toInt64 ((w.1 127 74) - (w.1 214 s))) (w.2.1 215 s)).toInt < 0 → Q 1 w)) ∧ (k = 12 → p_Mo_goUntil w a Q) ∧ (k = 13 → p_Mo_goRamp w a Q) ∧ (k = 14 → pn_Mo_goPar N w a Q) ∧ ((k = 15 ∨ k = 17 ∨ k = 19) → (¬ (w.1 213 s).toInt = -1 → pn_Mo_go N w (w.1 213 s) Q) ∧ ((w.1 213 s).toInt = -1 → Q 1 w)) ∧ (k = 16 → q_Mo_go_207 (pn_Mo_go N) (pn_Mo_goPar N) a (fun w' => Q 1 w') Q FU w) ∧ (k = 18 → ((w.1 211 s).toInt = 0 → Q 0 w) ∧ (¬ (w.1 211 s).toInt = 0 → Q 1 w)) ∧ (k = 20 → Q 3 w) ∧ ((k = 10 ∨ k = 21 ∨ k = 22) → Q 1 w) ∧ (k = 23 → q_Mo_go_92 (pn_Mo_go N) (pn_Mo_goPar N) a (fun w' => Q 1 w') Q FU w)
theorem gk_t {N s : Nat} {w : MW} {a r3 : Int32} {Q : Int32 → MW → Prop} (ea : a.toInt.toNat = s) (h : q_Mo_go_19 (pn_Mo_go N) (pn_Mo_goPar N) a w Q) {k : Int} (hk : ∀ (P : Int32 → MW → Prop), p_Mo_kind w a P → ∃ r : Int32, r.toInt = k ∧ P r w) : gkM N w a s Q k := by
  rw [q_Mo_go_19.eq_1] at h
  obtain ⟨r, er, h1⟩ := hk _ h
  rw [er, ea] at h1
  refine ⟨fun z => ?_, fun z => ?_, fun z => ?_, fun z => ?_, fun z => ?_, fun z => ?_, fun z => ?_, fun z => ?_, fun z => ?_, fun z => ?_⟩
  · have t := (h1.1 z).2.2
    exact ⟨fun y => t.1 y, fun y => t.2 y⟩
  · exact (h1.2 (by omega)).1 z
  · exact ((h1.2 (by omega)).2 (by omega)).1 z
  · exact (((h1.2 (by omega)).2 (by omega)).2 (by omega)).1 z
  · rcases z with z | z | z
    · have t := (((((h1.2 (by omega)).2 (by omega)).2 (by omega)).2 (by omega)).1 z).2
      exact ⟨fun y => (t.1 y).2, fun y => t.2 (fun q => q y)⟩
    · have t := (((((((h1.2 (by omega)).2 (by omega)).2 (by omega)).2 (by omega)).2 (by omega)).2 (by omega)).1 z).2
      exact ⟨fun y => (t.1 y).2, fun y => t.2 (fun q => q y)⟩
    · have t := (((((((((h1.2 (by omega)).2 (by omega)).2 (by omega)).2 (by omega)).2 (by omega)).2 (by omega)).2 (by omega)).2 (by omega)).1 z).2
      exact ⟨fun y => (t.1 y).2, fun y => t.2 (fun q => q y)⟩
  · exact (((((h1.2 (by omega)).2 (by omega)).2 (by omega)).2 (by omega)).2 (by omega)).1 z
  · have t := ((((((((h1.2 (by omega)).2 (by omega)).2 (by omega)).2 (by omega)).2 (by omega)).2 (by omega)).2 (by omega)).1 z).2
    exact ⟨fun y => t.1 y, fun y => t.2 y⟩
  · exact (((((((((h1.2 (by omega)).2 (by omega)).2 (by omega)).2 (by omega)).2 (by omega)).2 (by omega)).2 (by omega)).2 (by omega)).2 (by omega)).1 z
  · have t := (((((((((h1.2 (by omega)).2 (by omega)).2 (by omega)).2 (by omega)).2 (by omega)).2 (by omega)).2 (by omega)).2 (by omega)).2 (by omega)).2 (by omega)
    rcases z with z | z | z
    · exact ((t.2 (by omega)).2 (by omega)).2 (by omega)
    · exact t.1 z
    · exact (t.2 (by omega)).1 z
  · exact ((((((((((((h1.2 (by omega)).2 (by omega)).2 (by omega)).2 (by omega)).2 (by omega)).2 (by omega)).2 (by omega)).2 (by omega)).2 (by omega)).2 (by omega)).2 (by omega)).2 (by omega)).1 z
/-- kinds of a statement -/
theorem gk_s {GoW : MW → MW → Prop} {ns : List Nod} {nm : List Nm} {ks : List Nat} {off : Int} {N c s m : Nat} {d : Nod} {as am : Int32} {v w : MW} {Qm : Int32 → MW → Prop} (hW : WS GoW ns nm ks off v w) (sl : SmL ns v c s m d as am) (h : q_Mo_go_19 (pn_Mo_go N) (pn_Mo_goPar N) am w Qm) : gkM N w am s Qm (wht d.1) := by
  obtain ⟨as', am', ec, hd, hS, hL, sm, hp, on⟩ := sl
  have lys := hW.2.2.1.2.2.2.2.2.1.2.2 s (by omega)
  exact gk_t (r3 := 0) am' h (fun P q => kn_x (a := am) hW.2.2.1.2.2.1 (by rw [am', ← lys.1]; exact ec) hd q)
/-- what has ended at its begin -/
theorem g_end {GoW : MW → MW → Prop} {ns : List Nod} {nm : List Nm} {ks : List Nat} {off : Int} {N k c s m : Nat} {d : Nod} {as am ac : Int32} {v w v' w' : MW} {Qm : Int32 → MW → Prop} (hG : GoI GoW) (sl : SmL ns v' c s m d as am) (b : BgO GoW ns nm ks off k c s m d v w v' w' ac) (a1 : ac.toInt = 1) (h : q_Mo_go_19 (pn_Mo_go N) (pn_Mo_goPar N) am w' Qm) : ∃ w2, Qm 1 w2 ∧ PoL false GoW ns nm ks off v w v' w2 s m := by
  have W' := b.1.1
  have M := gk_s W' sl h
  obtain ⟨as', am', ec, hd, hS, hL, sm, hp, on⟩ := sl
  have st := W'.2.2.1
  rcases b.2.2 with z | z | z | ⟨_, _, z⟩ | z
  · omega
  · omega
  · omega
  rotate_left
  · omega
  · rcases z with z | z | z | ⟨z, z1, z2⟩ | ⟨z, z1⟩ | ⟨z, z1, z2⟩
    · exact ⟨w', M.2.2.2.2.2.2.2.2.1 (by rw [z]; decide), b.1⟩
    · exact ⟨w', M.2.2.2.2.2.2.2.2.1 (by rw [z]; decide), b.1⟩
    · exact ⟨w', M.2.2.2.2.2.2.2.2.1 (by rw [z]; decide), b.1⟩
    · refine ⟨w', (M.1 (by rw [z]; decide)).2 ?_, b.1⟩
      have e : (Int32.toInt64 ((w'.1 127 74) - (w'.1 214 s))).toInt = 0 := by
        rw [nb_i2l, z2, ti_sub2 (Eq.refl (w'.1 127 74).toInt) (Eq.refl (w'.1 127 74).toInt) (by omega) (by omega)]
        omega
      have := nb_cmp (Int32.toInt64 ((w'.1 127 74) - (w'.1 214 s))) (w'.2.1 215 s)
      omega
    · have q := M.2.1 (by rw [z]; decide)
      rw [p_Mo_goUntil.eq_1, am'] at q
      have d1 : ¬ (w'.1 211 s).toInt = 0 := by unfold dnM at z1; omega
      exact ⟨w', (q.2.1 d1).2.2 d1, b.1⟩
    · have q := M.2.2.1 (by rw [z]; decide)
      have lys := st.2.2.2.2.2.1.2.2 s (by omega)
      have cl := (List.getElem?_eq_some_iff.mp hd).1
      have l3 := st.2.2.1.1
      rw [p_Mo_goRamp.eq_1, am', p_Tx_node1.eq_1, ndx st.2.2.1 (show (w'.1 207 s).toInt = (c : Int) by rw [← lys.1]; exact ec) (by omega)] at q
      have d1 : ¬ (w'.1 211 s).toInt = 0 := by unfold dnM at z1; omega
      have n0 := st.2.2.2.1.2.2.2.1 c d hd (Or.inr (Or.inr (Or.inl z)))
      have n4 := st.2.2.2.2.1.2
      have q2 := ((q.2.2.2.2.1 d1)).2.2
      rw [nm_x st.2.2.1 hd rfl (by omega) (by omega) (by omega) (by omega), z2] at q2
      have G : FR [(206, none)] w' (sJ w' 206 d.2.1.toNat (w'.2.1 206 d.2.1.toNat)) := FR.J (FR.refl _ w') rfl
      have vl : VlR v' (sJ w' 206 d.2.1.toNat (w'.2.1 206 d.2.1.toNat)) := fun i hi => by
        rw [sJ_at]
        by_cases t : i = d.2.1.toNat
        · rw [if_pos ⟨rfl, t⟩, t]
          rw [t] at hi
          exact W'.2.2.2.1 _ hi
        · rw [if_neg (fun y => t y.2)]
          exact W'.2.2.2.1 _ hi
      refine ⟨_, q2, pol_t b.1 (pol_b hG W' W'.2.1.1 (bnd_e W'.2.1.2 rfl) (FR.refl _ v') ((FR.refl lrM w').tr G rfl) vl (alr_f W'.2.2.2.2.1 (FR.refl [] v') G rfl rfl) (cnr_f W'.2.2.2.2.2 (FR.refl [] v') G rfl rfl (by rw [(G 127 76 rfl).1]; exact W'.2.2.2.2.2.2.2.2.1)) (a6_0 v' s m) (fun j hj => a8_f (a8_0 w' s) G rfl j (by omega)) (mnr_f (FR.refl [] v') G rfl rfl))⟩
/-- what stands at its begin -/
theorem g_std {GoW : MW → MW → Prop} {ns : List Nod} {nm : List Nm} {ks : List Nat} {off : Int} {N c s m k : Nat} {d : Nod} {as am : Int32} {v w : MW} {Qm : Int32 → MW → Prop} (hW : WS GoW ns nm ks off v w) (sl : SmL ns v c s m d as am) (hD : Dy ns off v w (k + 1) c s) (s1 : stg v s = 1) (e14 : w.1 214 s = w.1 127 74) (hk : d.1 = 12 ∨ d.1 = 13 ∨ d.1 = 14 ∨ d.1 = 22) (h12 : d.1 = 12 → 0 < (w.2.1 215 s).toInt) (h22 : d.1 = 22 → dnM w s = 0) (h : q_Mo_go_19 (pn_Mo_go N) (pn_Mo_goPar N) am w Qm) : Qm 0 w := by
  have M := gk_s hW sl h
  obtain ⟨as', am', ec, hd, hS, hL, sm, hp, on⟩ := sl
  have st := hW.2.2.1
  rw [Dy_u] at hD
  obtain ⟨d', hd', o⟩ := hD
  have edd : d' = d := Option.some.inj (hd'.symm.trans hd)
  rw [edd] at o
  have Y : BdY (Dy ns off v w k) ns off v w c s d.1 := by
    rcases o with o | ⟨_, _, o⟩
    · omega
    · exact o
  have e : (Int32.toInt64 ((w.1 127 74) - (w.1 214 s))).toInt = 0 := by
    rw [nb_i2l, e14, ti_sub2 (Eq.refl (w.1 127 74).toInt) (Eq.refl (w.1 127 74).toInt) (by omega) (by omega)]
    omega
  have cm := nb_cmp (Int32.toInt64 ((w.1 127 74) - (w.1 214 s))) (w.2.1 215 s)
  rcases hk with z | z | z | z
  · exact (M.1 (by rw [z]; decide)).1 (by have := h12 z; omega)
  · have q := M.2.1 (by rw [z]; decide)
    rw [p_Mo_goUntil.eq_1, am'] at q
    have d0 : (w.1 211 s).toInt = 0 := Y.2.2.2.1 z
    exact ((q.2.2 (fun y => y d0)).2.1 (by rw [e14])).2.1 d0
  · have q := M.2.2.1 (by rw [z]; decide)
    have y5 := Y.2.2.2.2.1 z
    have d0 : (w.1 211 s).toInt = 0 := y5.1
    rw [p_Mo_goRamp.eq_1, am', p_Tx_node1.eq_1] at q
    have q2 := (q.2.2.2.2.2 (fun y => y d0)).2.1 (by omega)
    have cm0 := nb_cmp (Int32.toInt64 ((w.1 127 74) - (w.1 214 s))) (0 : Int64)
    have l0 : (0 : Int64).toInt = 0 := by decide
    exact q2.1 (by omega)
  · exact (M.2.2.2.2.2.2.1 (by rw [z]; decide)).1 (h22 z)
/-- floorDiv -/
theorem xo_neg (a b : Int64) (hb : 0 < b.toInt) : ((a ^^^ b).toInt < 0) ↔ a.toInt < 0 := by
  have h1 : (a ^^^ b).toBitVec = a.toBitVec ^^^ b.toBitVec := rfl
  have t : ∀ x : Int64, x.toInt < 0 ↔ x.toBitVec.msb = true := fun x => by
    show x.toBitVec.toInt < 0 ↔ _
    rw [BitVec.msb_eq_toInt]
    exact decide_eq_true_iff.symm
  have b0 : b.toBitVec.msb = false := by
    cases e : b.toBitVec.msb with
    | false => rfl
    | true =>
      have := (t b).mpr e
      omega
  rw [t, t, h1, BitVec.msb_xor, b0, Bool.xor_false]
/-- what is left behind a division -/
theorem rmd_x {a b : Int64} (hb : 0 < b.toInt) : (a / b * b).toInt = a.toInt - a.toInt.tmod b.toInt ∧ (a - a / b * b).toInt = a.toInt.tmod b.toInt ∧ (0 ≤ a.toInt → 0 ≤ a.toInt.tmod b.toInt) ∧ (a.toInt ≤ 0 → a.toInt.tmod b.toInt ≤ 0) := by
  have e : (a / b).toInt = a.toInt.tdiv b.toInt := Int64.toInt_div_of_ne_right a b (fun z => by rw [z] at hb; exact absurd hb (by decide))
  have lo := Int64.le_toInt a
  have hi := Int64.toInt_lt a
  have h1 : (a.toInt.tdiv b.toInt) * b.toInt = a.toInt - a.toInt.tmod b.toInt := by
    have := Int.tdiv_mul_add_tmod a.toInt b.toInt
    omega
  have h2 : (0 ≤ a.toInt → 0 ≤ a.toInt.tmod b.toInt ∧ a.toInt.tmod b.toInt ≤ a.toInt) ∧ (a.toInt ≤ 0 → a.toInt.tmod b.toInt ≤ 0 ∧ a.toInt ≤ a.toInt.tmod b.toInt) := by
    refine ⟨fun z => ?_, fun z => ?_⟩
    · rw [Int.tmod_eq_emod_of_nonneg z]
      have := Int.emod_nonneg a.toInt (by omega : b.toInt ≠ 0)
      have h3 := Int.emod_add_mul_ediv a.toInt b.toInt
      have h4 := Int.ediv_nonneg z (Int.le_of_lt hb)
      have h5 := Int.mul_nonneg (Int.le_of_lt hb) h4
      omega
    · have e2 : a.toInt.tmod b.toInt = -((-a.toInt).tmod b.toInt) := by rw [Int.neg_tmod, Int.neg_neg]
      rw [e2, Int.tmod_eq_emod_of_nonneg (by omega)]
      have := Int.emod_nonneg (-a.toInt) (by omega : b.toInt ≠ 0)
      have h3 := Int.emod_add_mul_ediv (-a.toInt) b.toInt
      have h4 := Int.ediv_nonneg (show 0 ≤ -a.toInt by omega) (Int.le_of_lt hb)
      have h5 := Int.mul_nonneg (Int.le_of_lt hb) h4
      omega
  generalize a.toInt.tmod b.toInt = t at *
  have m : (a / b * b).toInt = a.toInt - t := by
    rw [li_mul e (Eq.refl b.toInt) (by rw [h1]; omega) (by rw [h1]; omega), h1]
  refine ⟨m, ?_, fun z => (h2.1 z).1, fun z => (h2.2 z).1⟩
  rw [li_sub (Eq.refl a.toInt) m (by omega) (by omega)]
  omega
/-- both sides divide downward -/
theorem flo_x {v : MW} {a b : Int64} {Q : Int64 → MW → Prop} (hb : 0 < b.toInt) (h : p_Ma_floorDiv v a b Q) : (0 ≤ (lg_cmp (a - a / b * b) (0 : Int64)).toInt → Q (a / b) v) ∧ (¬ 0 ≤ (lg_cmp (a - a / b * b) (0 : Int64)).toInt → Q (a / b - 1) v) := by
  rw [p_Ma_floorDiv.eq_1] at h
  have l0 : (0 : Int64).toInt = 0 := by decide
  have c1 := nb_cmp (a ^^^ b) (0 : Int64)
  have c2 := nb_cmp ((a / b) * b) a
  have c3 := nb_cmp (a - a / b * b) (0 : Int64)
  have x := xo_neg a b hb
  obtain ⟨r1, r2, r3, r4⟩ := rmd_x (a := a) hb
  by_cases z : 0 ≤ (lg_cmp (a ^^^ b) (0 : Int64)).toInt
  · have q := h.2.1 z
    have a0 : 0 ≤ a.toInt := by omega
    have := r3 a0
    exact ⟨fun _ => q, fun y => absurd (show 0 ≤ (lg_cmp (a - a / b * b) (0 : Int64)).toInt by omega) y⟩
  · have q := h.2.2 z
    have a0 : a.toInt ≤ 0 := by omega
    have n1 := r4 a0
    refine ⟨fun y => q.1 (by omega), fun y => q.2 (by omega)⟩
