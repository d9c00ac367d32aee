/-! the class reads a row -/
/-- a row: its acts, its condition's codes, its seconds, whether it is latching -/
abbrev Rw : Type := List Int × List Int × Int × Bool
def rwF (i : Nat) : Bool × Rw × Nat := (false, ([], [], 0, false), i)
def rwT (f : Int → Int) (n : Int) (as c : List Int) (v : Int) (j : Nat) : Bool × Rw × Nat := if wq f n j (ltr 14 7) = true then (if wq f n (j + 1) (ltr 15 1) = true then (true, (as, c, v, true), j + 2) else rwF (j + 1)) else (if wq f n j (ltr 15 1) = true then (true, (as, c, v, false), j + 1) else rwF j)
/-- all codes of rows -/
def cds (rs : List Rw) : List Int := (rs.map (fun x => x.2.1)).flatten
theorem cds_s (rs : List Rw) (x : Rw) : cds (rs ++ [x]) = cds rs ++ x.2.1 := by
  unfold cds
  rw [List.map_append, List.flatten_append, List.map_cons, List.map_nil, List.flatten_cons, List.flatten_nil, List.append_nil]
/-- row r of the class -/
def RwC (w : MW) (r : Nat) (b : Nat) (x : Rw) : Prop := w.1 100 r = 0 ∧ w.1 101 r = 0 ∧ w.1 102 r = 0 ∧ BtS (w.1 103 r) x.1 ∧ (w.1 104 r).toInt = x.2.2.1 ∧ (w.1 105 r).toInt = (if x.2.2.2 = true then 1 else 0) ∧ (w.1 106 r).toInt = (b : Int) ∧ (w.1 106 (r + 1)).toInt = ((b + x.2.1.length : Nat) : Int)
/-- the class's rows -/
def RosC (w : MW) (rs : List Rw) : Prop := (w.1 99 0).toInt = (rs.length : Int) ∧ Cod w 0 (cds rs) ∧ (w.1 99 15).toInt = 0 ∧ ∀ (r : Nat) (x : Rw), rs[r]? = some x → RwC w r (cds (rs.take r)).length x
def lro : Pl := [(99, some 0), (99, some 10), (99, some 12), (99, some 13), (99, some 14), (99, some 15), (99, some 16), (99, some 17), (100, none), (101, none), (102, none), (103, none), (104, none), (105, none), (106, none), (107, none)]
/-- the row at place C as far as it was read, with the rows before it -/
def GS (w : MW) (rs : List Rw) (as c : List Int) (v : Int) (j : Nat) : Prop := WSt w j ∧ (w.1 99 17).toInt < 0 ∧ (w.1 99 15).toInt = 0 ∧ (w.1 99 0).toInt = (rs.length : Int) ∧ (∀ (r : Nat) (x : Rw), rs[r]? = some x → RwC w r (cds (rs.take r)).length x) ∧ w.1 100 rs.length = 0 ∧ w.1 101 rs.length = 0 ∧ w.1 102 rs.length = 0 ∧ BtS (w.1 103 rs.length) as ∧ (w.1 104 rs.length).toInt = v ∧ (w.1 106 rs.length).toInt = ((cds rs).length : Int) ∧ Cod w 0 (cds rs ++ c)
/-- rows stand where only later places were written -/
theorem roc_tr {w w' : MW} {rs : List Rw} (h : ∀ (r : Nat) (x : Rw), rs[r]? = some x → RwC w r (cds (rs.take r)).length x) (e : ∀ k j, 100 ≤ k → k ≤ 105 → j < rs.length → w'.1 k j = w.1 k j) (e6 : ∀ j, j ≤ rs.length → w'.1 106 j = w.1 106 j) : ∀ (r : Nat) (x : Rw), rs[r]? = some x → RwC w' r (cds (rs.take r)).length x := fun r x hx => by
  have lt := (List.getElem?_eq_some_iff.mp hx).1
  have g := h r x hx
  unfold RwC at *
  rw [e 100 r (by omega) (by omega) lt, e 101 r (by omega) (by omega) lt, e 102 r (by omega) (by omega) lt, e 103 r (by omega) (by omega) lt, e 104 r (by omega) (by omega) lt, e 105 r (by omega) (by omega) lt, e6 r (by omega), e6 (r + 1) (by omega)]
  exact g
/-! with something wrong -/
theorem b185 {w : MW} {i : Nat} {Q : MW → Prop} (hI : BND w) (h : WSt w i) (i5 : i ≤ 100000) (h17 : 0 ≤ (w.1 99 17).toInt) (hC : (w.1 99 0).toInt < 40) (hQ : ∀ w', BND w' → FR lro w w' → w'.1 99 17 = w.1 99 17 → Q w') : q_Ro_readRows99_185 w Q := by
  have b := bd_99_0 hI
  have b10 := bd_99_10 hI
  have s := ti_add2 (Eq.refl (w.1 99 0).toInt) i_1 (by omega) (by omega)
  refine Eq.mpr (q_Ro_readRows99_185.eq_1 _ _) (tkw_15 hI h i5 (fun z => by omega) (fun z => by omega) (fun _ => ⟨⟨by omega, by omega⟩, hQ _ (wbd_106 (wbd_99_0 hI (by omega) (by omega)) _ b10.1 b10.2) (FR.I (FR.I (FR.refl _ w) rfl) rfl) ?_⟩))
  rw [sI_oth _ _ _ _ _ _ (by decide), sI_ne _ _ _ _ _ (by decide)]
theorem b154 {w : MW} {i : Nat} {Q : MW → Prop} (hI : BND w) (h : WSt w i) (i5 : i ≤ 100000) (h17 : 0 ≤ (w.1 99 17).toInt) (hC : (w.1 99 0).toInt < 40) (hQ : ∀ w', BND w' → FR lro w w' → w'.1 99 17 = w.1 99 17 → Q w') : q_Ro_readRows99_154 w Q := by
  have b := bd_99_0 hI
  have gi : 0 ≤ (w.1 99 0).toInt ∧ (w.1 99 0).toInt < 40 := ⟨b.1, hC⟩
  refine Eq.mpr (q_Ro_readRows99_154.eq_1 _ _) (iss_14 hI h (fun z => by omega) (fun z => by omega) (fun _ => ⟨gi, gi, fun z => ?_, fun z => ?_⟩))
  · rw [nar0z]
    have F1 : FR [(105, none)] w (sI w 105 ((w.1 99 0).toInt.toNat) 0) := FR.I (FR.refl _ w) rfl
    have B1 : BND (sI w 105 ((w.1 99 0).toInt.toNat) 0) := wbd_105 hI _ (by decide) (by decide)
    generalize (sI w 105 ((w.1 99 0).toInt.toNat) 0) = w1 at *
    refine b185 B1 (wst_fr h F1 rfl) i5 (by rw [(F1 99 17 rfl).1]; exact h17) (by rw [(F1 99 0 rfl).1]; exact hC) (fun w' B' F' e' => hQ w' B' ((FR.tr (FR.refl _ w) F1 rfl).tr F' rfl) (e'.trans (F1 99 17 rfl).1))
  · rw [nar0z, sI_same] at z
    exact absurd i_0 z
theorem bfor {w : MW} {i : Nat} {Q : MW → Prop} (hI : BND w) (h : WSt w i) (i5 : i ≤ 100000) (h17 : 0 ≤ (w.1 99 17).toInt) (hC : (w.1 99 0).toInt < 40) (hQ : ∀ w', BND w' → FR lro w w' → w'.1 99 17 = w.1 99 17 → Q w') (R : Int32 → MW → Prop) (hR : q_Ro_readRows99_154 w Q → R 0 w) : p_Ro_iss99_2013 w R := iss_13 hI h (fun z => by omega) (fun z => by omega) (fun _ => hR (b154 hI h i5 h17 hC hQ))
/-! a row that goes well -/
theorem g185 {w : MW} {rs : List Rw} {as c : List Int} {v : Int} {j : Nat} {la : Bool} {Q : MW → Prop} (hI : BND w) (h : GS w rs as c v j) (i5 : j ≤ 50000) (c40 : rs.length < 40) (hl : (w.1 105 rs.length).toInt = if la = true then 1 else 0) (hc : (cds rs ++ c).length ≤ 1400) (h1 : wq (cf w) (w.1 1 2).toInt j (ltr 15 1) = true → ∀ w', BND w' → FR lro w w' → WSt w' (j + 1) → (w'.1 99 17).toInt < 0 → RosC w' (rs ++ [(as, c, v, la)]) → Q w') (h0 : wq (cf w) (w.1 1 2).toInt j (ltr 15 1) = false → ∀ w', BND w' → FR lro w w' → (w'.1 99 17).toInt = (j : Int) → Q w') : q_Ro_readRows99_185 w Q := by
  obtain ⟨hS, h17, h15, hC, hO, g0, g1, g2, g3, g4, g6, gc⟩ := h
  have b := bd_99_0 hI
  have s := ti_add2 hC i_1 (by omega) (by omega)
  refine Eq.mpr (q_Ro_readRows99_185.eq_1 _ _) (tkw_15 hI hS (by omega) (fun _ q w1 B1 F1 S1 => ?_) (fun _ q => ?_) (fun z => by omega))
  · have e0 : w1.1 99 0 = w.1 99 0 := (F1 99 0 rfl).1
    have b10 := bd_99_10 B1
    rw [e0]
    have n0 : ((w.1 99 0) + (1 : Int32)).toInt.toNat = rs.length + 1 := by omega
    have B2 : BND (sI (sI w1 99 0 ((w.1 99 0) + (1 : Int32))) 106 (((w.1 99 0) + (1 : Int32)).toInt.toNat) (w1.1 99 10)) := wbd_106 (wbd_99_0 B1 (by omega) (by omega)) _ b10.1 b10.2
    have F2 : FR [(99, some 0), (106, none)] w1 (sI (sI w1 99 0 ((w.1 99 0) + (1 : Int32))) 106 (((w.1 99 0) + (1 : Int32)).toInt.toNat) (w1.1 99 10)) := FR.I (FR.I (FR.refl _ w1) rfl) rfl
    have k0 : ((sI (sI w1 99 0 ((w.1 99 0) + (1 : Int32))) 106 (((w.1 99 0) + (1 : Int32)).toInt.toNat) (w1.1 99 10)).1 99 0).toInt = ((rs.length + 1 : Nat) : Int) := by
      rw [sI_oth _ _ _ _ _ _ (by decide), sI_same, s]
      rfl
    have k6 : ∀ t, (sI (sI w1 99 0 ((w.1 99 0) + (1 : Int32))) 106 (((w.1 99 0) + (1 : Int32)).toInt.toNat) (w1.1 99 10)).1 106 t = if t = rs.length + 1 then w1.1 99 10 else w1.1 106 t := fun t => by
      rw [sI_if, n0, sI_oth _ _ _ _ _ _ (by decide)]
    refine ⟨⟨by omega, by omega⟩, ?_⟩
    generalize (sI (sI w1 99 0 ((w.1 99 0) + (1 : Int32))) 106 (((w.1 99 0) + (1 : Int32)).toInt.toNat) (w1.1 99 10)) = w2 at *
    have G : FR lro w w2 := (FR.tr (FR.refl _ w) F1 rfl).tr F2 rfl
    have H : FR [(99, some 0), (99, some 12), (99, some 13), (99, some 14), (106, none)] w w2 := (FR.tr (FR.refl _ w) F1 rfl).tr F2 rfl
    have gc2 : Cod w2 0 (cds rs ++ c) := cod_fr gc H rfl
    have u10 : (w1.1 99 10).toInt = ((cds rs ++ c).length : Int) := by
      rw [(F1 99 10 rfl).1, gc.1]
      omega
    have e6 : ∀ t, t ≤ rs.length → w2.1 106 t = w.1 106 t := fun t ht => by
      rw [k6, if_neg (by omega), (F1 106 t rfl).1]
    refine h1 q w2 B2 G (wst_fr S1 F2 rfl) (by rw [(H 99 17 rfl).1]; exact h17) ⟨?_, ?_, ?_, fun r x hx => ?_⟩
    · rw [k0, List.length_append]
      rfl
    · rw [cds_s]
      exact gc2
    · rw [(H 99 15 rfl).1]
      exact h15
    · by_cases er : r = rs.length
      · rw [er, List.getElem?_append_right (Nat.le_refl _), Nat.sub_self] at hx
        have ex : (as, c, v, la) = x := Option.some.inj hx
        have et : (rs ++ [(as, c, v, la)]).take r = rs := by rw [er, List.take_left']; rfl
        rw [et, ← ex, er]
        refine ⟨by rw [(H 100 _ rfl).1]; exact g0, by rw [(H 101 _ rfl).1]; exact g1, by rw [(H 102 _ rfl).1]; exact g2, by rw [(H 103 _ rfl).1]; exact g3, by rw [(H 104 _ rfl).1]; exact g4, by rw [(H 105 _ rfl).1]; exact hl, by rw [e6 _ (Nat.le_refl _)]; exact g6, ?_⟩
        rw [k6, if_pos rfl, u10, List.length_append]
      · have l2 := (List.getElem?_eq_some_iff.mp hx).1
        rw [List.length_append] at l2
        have : ([(as, c, v, la)] : List Rw).length = 1 := rfl
        rw [List.getElem?_append_left (by omega)] at hx
        have et : (rs ++ [(as, c, v, la)]).take r = rs.take r := List.take_append_of_le_length (by omega)
        rw [et]
        exact roc_tr hO (fun k t k1 k2 _ => (H k t (by
          have : k = 100 ∨ k = 101 ∨ k = 102 ∨ k = 103 ∨ k = 104 ∨ k = 105 := by omega
          rcases this with rfl | rfl | rfl | rfl | rfl | rfl <;> rfl)).1) e6 r x hx
  · have F1 : FR [(99, some 17)] w (sI w 99 17 (w.1 99 14)) := FR.I (FR.refl _ w) rfl
    have B1 : BND (sI w 99 17 (w.1 99 14)) := wbd_99_17 hI
    have e1 : ((sI w 99 17 (w.1 99 14)).1 99 17).toInt = (j : Int) := by rw [sI_same]; exact hS.2.2.1
    generalize (sI w 99 17 (w.1 99 14)) = w1 at *
    have e0 : w1.1 99 0 = w.1 99 0 := (F1 99 0 rfl).1
    have b10 := bd_99_10 B1
    rw [e0]
    refine ⟨⟨by omega, by omega⟩, h0 q _ (wbd_106 (wbd_99_0 B1 (by omega) (by omega)) _ b10.1 b10.2) ((FR.tr (FR.refl _ w) F1 rfl).tr (FR.I (FR.I (FR.refl lro w1) rfl) rfl) rfl) ?_⟩
    rw [sI_oth _ _ _ _ _ _ (by decide), sI_ne _ _ _ _ _ (by decide)]
    exact e1
theorem nar1z : vp_nar .boolean (1 : Int32) = 1 := by decide
theorem g154 {w : MW} {rs : List Rw} {as c : List Int} {v : Int} {j : Nat} {Q : MW → Prop} (hI : BND w) (h : GS w rs as c v j) (i5 : j ≤ 40000) (c40 : rs.length < 40) (hc : (cds rs ++ c).length ≤ 1400) (hQ : ∀ w', BND w' → FR lro w w' → ((rwT (cf w) (w.1 1 2).toInt as c v j).1 = true → WSt w' (rwT (cf w) (w.1 1 2).toInt as c v j).2.2 ∧ (w'.1 99 17).toInt < 0 ∧ RosC w' (rs ++ [(rwT (cf w) (w.1 1 2).toInt as c v j).2.1])) → ((rwT (cf w) (w.1 1 2).toInt as c v j).1 = false → (w'.1 99 17).toInt = ((rwT (cf w) (w.1 1 2).toInt as c v j).2.2 : Int)) → Q w') : q_Ro_readRows99_154 w Q := by
  have h2 := h
  obtain ⟨hS, h17, h15, hC, hO, g0, g1, g2, g3, g4, g6, gc⟩ := h2
  have b := bd_99_0 hI
  have gi : 0 ≤ (w.1 99 0).toInt ∧ (w.1 99 0).toInt < 40 := ⟨b.1, by omega⟩
  have n0 : (w.1 99 0).toInt.toNat = rs.length := by omega
  -- the row with its mark
  have mk : ∀ y : Int32, 0 ≤ y.toInt → y.toInt ≤ 1 → BND (sI w 105 rs.length y) ∧ FR [(105, none)] w (sI w 105 rs.length y) ∧ GS (sI w 105 rs.length y) rs as c v j ∧ (sI w 105 rs.length y).1 105 rs.length = y := fun y y0 y1 => by
    have F : FR [(105, none)] w (sI w 105 rs.length y) := FR.I (FR.refl _ w) rfl
    refine ⟨wbd_105 hI _ y0 y1, F, ⟨wst_fr hS F rfl, by rw [(F 99 17 rfl).1]; exact h17, by rw [(F 99 15 rfl).1]; exact h15, by rw [(F 99 0 rfl).1]; exact hC, ?_, by rw [(F 100 _ rfl).1]; exact g0, by rw [(F 101 _ rfl).1]; exact g1, by rw [(F 102 _ rfl).1]; exact g2, by rw [(F 103 _ rfl).1]; exact g3, by rw [(F 104 _ rfl).1]; exact g4, by rw [(F 106 _ rfl).1]; exact g6, cod_fr gc F rfl⟩, sI_same _ _ _ _⟩
    refine roc_tr hO (fun k t k1 k2 lt => ?_) (fun t _ => (F 106 t rfl).1)
    by_cases e : k = 105
    · rw [e, sI_ne _ _ _ _ _ (by omega)]
    · exact (F k t (by
        have : k = 100 ∨ k = 101 ∨ k = 102 ∨ k = 103 ∨ k = 104 := by omega
        rcases this with rfl | rfl | rfl | rfl | rfl <;> rfl)).1
  refine Eq.mpr (q_Ro_readRows99_154.eq_1 _ _) (iss_14 hI hS (fun _ q => ⟨gi, gi, ?_, ?_⟩) (fun _ q => ⟨gi, gi, ?_, ?_⟩) (fun z => by omega))
  · intro z
    rw [nar1z, sI_same] at z
    exact absurd z (by decide)
  · intro _
    rw [nar1z, n0]
    have m := mk 1 (by decide) (by decide)
    generalize (sI w 105 rs.length 1) = w1 at *
    obtain ⟨B1, F1, G1, e1⟩ := m
    have cn := cf_n F1 rfl
    have ln := wq_len q
    rw [ltln] at ln
    refine nws B1 G1.1 (by omega) (fun w2 B2 F2 S2 => ?_)
    have cn2 := cf_n F2 rfl
    have G2 : GS w2 rs as c v (j + 1) := by
      obtain ⟨_, k17, k15, kC, kO, k0, k1, k2, k3, k4, k6, kc⟩ := G1
      exact ⟨S2, by rw [(F2 99 17 rfl).1]; exact k17, by rw [(F2 99 15 rfl).1]; exact k15, by rw [(F2 99 0 rfl).1]; exact kC, roc_tr kO (fun k t k1 k2 lt => (F2 k t (by
        have : k = 100 ∨ k = 101 ∨ k = 102 ∨ k = 103 ∨ k = 104 ∨ k = 105 := by omega
        rcases this with rfl | rfl | rfl | rfl | rfl | rfl <;> rfl)).1) (fun t _ => (F2 106 t rfl).1), by rw [(F2 100 _ rfl).1]; exact k0, by rw [(F2 101 _ rfl).1]; exact k1, by rw [(F2 102 _ rfl).1]; exact k2, by rw [(F2 103 _ rfl).1]; exact k3, by rw [(F2 104 _ rfl).1]; exact k4, by rw [(F2 106 _ rfl).1]; exact k6, cod_fr kc F2 rfl⟩
    have FF : FR lro w w2 := (FR.tr (FR.refl _ w) F1 rfl).tr F2 rfl
    refine g185 (la := true) B2 G2 (by omega) c40 (by rw [(F2 105 _ rfl).1, e1]; decide) hc (fun t w' B' F' S' n' R' => ?_) (fun t w' B' F' e' => ?_)
    · rw [cn2.1, cn2.2, cn.1, cn.2] at t
      have e : rwT (cf w) (w.1 1 2).toInt as c v j = (true, (as, c, v, true), j + 2) := by
        unfold rwT
        rw [if_pos q, if_pos t]
      rw [e] at hQ
      exact hQ w' B' (FF.tr F' rfl) (fun _ => ⟨S', n', R'⟩) (fun z => absurd (show true = false from z) (by decide))
    · rw [cn2.1, cn2.2, cn.1, cn.2] at t
      have e : rwT (cf w) (w.1 1 2).toInt as c v j = rwF (j + 1) := by
        unfold rwT
        rw [if_pos q, if_neg (by rw [t]; decide)]
      rw [e] at hQ
      exact hQ w' B' (FF.tr F' rfl) (fun z => absurd (show false = true from z) (by decide)) (fun _ => e')
  · intro _
    rw [nar0z, n0]
    have m := mk 0 (by decide) (by decide)
    generalize (sI w 105 rs.length 0) = w1 at *
    obtain ⟨B1, F1, G1, e1⟩ := m
    have cn := cf_n F1 rfl
    have FF : FR lro w w1 := FR.tr (FR.refl _ w) F1 rfl
    refine g185 (la := false) B1 G1 (by omega) c40 (by rw [e1]; decide) hc (fun t w' B' F' S' n' R' => ?_) (fun t w' B' F' e' => ?_)
    · rw [cn.1, cn.2] at t
      have e : rwT (cf w) (w.1 1 2).toInt as c v j = (true, (as, c, v, false), j + 1) := by
        unfold rwT
        rw [if_neg (by rw [q]; decide), if_pos t]
      rw [e] at hQ
      exact hQ w' B' (FF.tr F' rfl) (fun _ => ⟨S', n', R'⟩) (fun z => absurd (show true = false from z) (by decide))
    · rw [cn.1, cn.2] at t
      have e : rwT (cf w) (w.1 1 2).toInt as c v j = rwF j := by
        unfold rwT
        rw [if_neg (by rw [q]; decide), if_neg (by rw [t]; decide)]
      rw [e] at hQ
      exact hQ w' B' (FF.tr F' rfl) (fun z => absurd (show false = true from z) (by decide)) (fun _ => e')
  · intro z
    rw [nar0z, sI_same] at z
    exact absurd i_0 z
/-! the class reads a row: all of it -/
/-- behind a row: as q says -/
def OuR (w : MW) (rs : List Rw) (q : Bool × Rw × Nat) : Prop := (q.1 = true → WSt w q.2.2 ∧ (w.1 99 17).toInt < 0 ∧ RosC w (rs ++ [q.2.1])) ∧ (q.1 = false → (w.1 99 17).toInt = (q.2.2 : Int))
theorem ou_rF {w : MW} {rs : List Rw} {i : Nat} (h : (w.1 99 17).toInt = (i : Int)) : OuR w rs (rwF i) := ⟨fun z => absurd (show false = true from z) (by decide), fun _ => h⟩
def TFr (w : MW) (Q : MW → Prop) : Prop := p_Ro_iss99_2013 w (fun r12 w12 => ((r12.toInt = 0 → (q_Ro_readRows99_154 w12 Q)) ∧ (¬ (r12.toInt = 0) → (p_Ro_nextWords99 w12 (fun w21 => (p_Ro_numberBehinds99 w21 0 3600 (fun r22 w22 => ((0 ≤ (w21.1 99 0).toInt ∧ (w21.1 99 0).toInt < 40) ∧ ((0 ≤ (w22.1 99 0).toInt ∧ (w22.1 99 0).toInt < 40) ∧ ((0 ≤ ((sI w22 104 ((w21.1 99 0).toInt.toNat) r22).1 104 ((w22.1 99 0).toInt.toNat)).toInt → (p_Ro_nextWords99 (sI w22 104 ((w21.1 99 0).toInt.toNat) r22) (fun w26 => (q_Ro_readRows99_154 w26 Q)))) ∧ (¬ (0 ≤ ((sI w22 104 ((w21.1 99 0).toInt.toNat) r22).1 104 ((w22.1 99 0).toInt.toNat)).toInt) → (p_Ro_fails99 (sI w22 104 ((w21.1 99 0).toInt.toNat) r22) (fun w27 => (p_Ro_nextWords99 w27 (fun w28 => (q_Ro_readRows99_154 w28 Q))))))))))))))))
def TLr (w : MW) (Q : MW → Prop) : Prop := p_Ro_takess99_2007 w (fun r9 w9 => ((0 ≤ (w9.1 99 0).toInt ∧ (w9.1 99 0).toInt < 41) ∧ (p_Ro_readOrs99 (sI (sI w9 106 ((w9.1 99 0).toInt.toNat) (w9.1 99 10)) 99 16 0) (fun w11 => TFr w11 Q))))
theorem tfr_b {w : MW} {i : Nat} {Q : MW → Prop} (hI : BND w) (h : WSt w i) (i5 : i ≤ 100000) (h17 : 0 ≤ (w.1 99 17).toInt) (hC : (w.1 99 0).toInt < 40) (hQ : ∀ w', BND w' → FR lro w w' → w'.1 99 17 = w.1 99 17 → Q w') : TFr w Q := iss_13 hI h (fun z => by omega) (fun z => by omega) (fun _ => ⟨fun _ => b154 hI h i5 h17 hC hQ, fun z => absurd i_0 z⟩)
theorem tlr_b {w : MW} {i : Nat} {Q : MW → Prop} (hI : BND w) (h : WSt w i) (i5 : i ≤ 100000) (h17 : 0 ≤ (w.1 99 17).toInt) (hC : (w.1 99 0).toInt < 40) (hQ : ∀ w', BND w' → FR lro w w' → w'.1 99 17 = w.1 99 17 → Q w') : TLr w Q := by
  have b := bd_99_0 hI
  have b10 := bd_99_10 hI
  refine tkw_7 hI h i5 (fun z => by omega) (fun z => by omega) (fun _ => ⟨⟨b.1, by omega⟩, ?_⟩)
  have B1 : BND (sI (sI w 106 ((w.1 99 0).toInt.toNat) (w.1 99 10)) 99 16 0) := wbd_99_16 (wbd_106 hI _ b10.1 b10.2) (by decide) (by decide)
  have F1 : FR [(99, some 16), (106, none)] w (sI (sI w 106 ((w.1 99 0).toInt.toNat) (w.1 99 10)) 99 16 0) := FR.I (FR.I (FR.refl _ w) rfl) rfl
  generalize (sI (sI w 106 ((w.1 99 0).toInt.toNat) (w.1 99 10)) 99 16 0) = w1 at *
  exact ror_b B1 (wst_fr h F1 rfl) (by rw [(F1 99 17 rfl).1]; exact h17) (tfr_b B1 (wst_fr h F1 rfl) i5 (by rw [(F1 99 17 rfl).1]; exact h17) (by rw [(F1 99 0 rfl).1]; exact hC) (fun w' B' F' e' => hQ w' B' ((FR.tr (FR.refl _ w) F1 rfl).tr F' rfl) (e'.trans (F1 99 17 rfl).1)))
theorem k105 {k : Nat} (k1 : 100 ≤ k) (k2 : k ≤ 105) : k = 100 ∨ k = 101 ∨ k = 102 ∨ k = 103 ∨ k = 104 ∨ k = 105 := by omega
/-- the row stands where nothing of it was written -/
theorem gs_fr {l : Pl} {w w' : MW} {rs : List Rw} {as c : List Int} {v : Int} {j j' : Nat} (h : GS w rs as c v j) (hS : WSt w' j') (hF : FR l w w') (ho : off l [(99, some 0), (99, some 10), (99, some 15), (99, some 17), (100, none), (101, none), (102, none), (103, none), (104, none), (105, none), (106, none), (107, none)] = true) : GS w' rs as c v j' := by
  obtain ⟨_, k17, k15, kC, kO, k0, k1, k2, k3, k4, k6, kc⟩ := h
  have q : ∀ k j, hit [(99, some 0), (99, some 10), (99, some 15), (99, some 17), (100, none), (101, none), (102, none), (103, none), (104, none), (105, none), (106, none), (107, none)] k j = true → w'.1 k j = w.1 k j := fun k j hk => (hF k j (off_hit ho hk)).1
  exact ⟨hS, by rw [q 99 17 rfl]; exact k17, by rw [q 99 15 rfl]; exact k15, by rw [q 99 0 rfl]; exact kC, roc_tr kO (fun k t h1 h2 lt => by
    rcases k105 h1 h2 with rfl | rfl | rfl | rfl | rfl | rfl
    · exact q 100 t rfl
    · exact q 101 t rfl
    · exact q 102 t rfl
    · exact q 103 t rfl
    · exact q 104 t rfl
    · exact q 105 t rfl) (fun t _ => q 106 t rfl), by rw [q 100 _ rfl]; exact k0, by rw [q 101 _ rfl]; exact k1, by rw [q 102 _ rfl]; exact k2, by rw [q 103 _ rfl]; exact k3, by rw [q 104 _ rfl]; exact k4, by rw [q 106 _ rfl]; exact k6, cod_fr kc hF (off_mono ho (by decide))⟩
theorem dgv_m (f : Int → Int) : ∀ (k : Nat) (p v : Int), 0 ≤ v → -1 ≤ dgv f k p v := by
  intro k
  induction k with
  | zero =>
    intro p v h
    show -1 ≤ v
    omega
  | succ k ih =>
    intro p v h
    rw [dgv_u]
    by_cases c : 48 ≤ f p ∧ f p ≤ 57
    · rw [if_pos c]
      exact ih _ _ (by omega)
    · rw [if_neg c]
      decide
/-- the seconds and what stands behind them -/
def tlS (f : Int → Int) (n : Int) (as c : List Int) (j : Nat) : Bool × Rw × Nat := if wq f n j (ltr 13 3) = true then (if nbv f n (j + 1) 0 3600 < 0 then rwF (j + 1) else rwT f n as c (nbv f n (j + 1) 0 3600) (j + 2)) else rwT f n as c 0 j
theorem gtf {w : MW} {rs : List Rw} {as c : List Int} {j : Nat} {Q : MW → Prop} (hI : BND w) (h : GS w rs as c 0 j) (i5 : j ≤ 30000) (c40 : rs.length < 40) (hc : (cds rs ++ c).length ≤ 1400) (hQ : ∀ w', BND w' → FR lro w w' → OuR w' rs (tlS (cf w) (w.1 1 2).toInt as c j) → Q w') : TFr w Q := by
  have hC := h.2.2.2.1
  have h17 := h.2.1
  refine iss_13 hI h.1 (fun _ q => ⟨fun z => absurd z (by decide), fun _ => nws hI h.1 (by omega) (fun w1 B1 F1 S1 => ?_)⟩) (fun _ q => ⟨fun _ => g154 hI h (by omega) c40 hc (fun w' B' F' x y => hQ w' B' F' ?_), fun z => absurd i_0 z⟩) (fun z => by omega)
  · have cn := cf_n F1 rfl
    have G1 : GS w1 rs as c 0 (j + 1) := gs_fr h S1 F1 rfl
    have C1 := G1.2.2.2.1
    have b0 := bd_99_0 B1
    refine nbh B1 S1 i_0 (by decide) (by decide) (by decide : ((3600 : Int32)).toInt = 3600) (by decide) (fun r hr => ?_)
    have n0 : (w1.1 99 0).toInt.toNat = rs.length := by omega
    have rb := nbv_b (f := cf w1) (n := (w1.1 1 2).toInt) (i := j + 1) (s := 0) (m := 3600) (by decide)
    rw [cn.1, cn.2] at hr rb
    have rm : -1 ≤ r.toInt := by
      rw [hr]
      unfold nbv
      by_cases q2 : wnd (cf w) (w.1 1 2).toInt (j + 1) - (wat (cf w) (w.1 1 2).toInt (j + 1) + 0) < 1 ∨ 4 < wnd (cf w) (w.1 1 2).toInt (j + 1) - (wat (cf w) (w.1 1 2).toInt (j + 1) + 0) ∨ (1 < wnd (cf w) (w.1 1 2).toInt (j + 1) - (wat (cf w) (w.1 1 2).toInt (j + 1) + 0) ∧ cf w (wat (cf w) (w.1 1 2).toInt (j + 1) + 0) = 48)
      · rw [if_pos q2]
        decide
      · rw [if_neg q2]
        by_cases q3 : 3600 < dgv (cf w) (wnd (cf w) (w.1 1 2).toInt (j + 1) - (wat (cf w) (w.1 1 2).toInt (j + 1) + 0)).toNat (wat (cf w) (w.1 1 2).toInt (j + 1) + 0) 0
        · rw [if_pos q3]
          decide
        · rw [if_neg q3]
          exact dgv_m _ _ _ _ (by decide)
    rw [n0]
    have F2 : FR [(104, none)] w1 (sI w1 104 rs.length r) := FR.I (FR.refl _ w1) rfl
    have B2 : BND (sI w1 104 rs.length r) := wbd_104 B1 _ rm (by omega)
    have e2 : (sI w1 104 rs.length r).1 104 rs.length = r := sI_same _ _ _ _
    have e3 : ∀ t, ¬ t = rs.length → (sI w1 104 rs.length r).1 104 t = w1.1 104 t := fun t ht => sI_ne _ _ _ _ _ ht
    refine ⟨⟨by omega, by omega⟩, ⟨by omega, by omega⟩, ?_⟩
    generalize (sI w1 104 rs.length r) = w2 at *
    rw [e2]
    have S2 := wst_fr S1 F2 rfl
    have FF : FR lro w w2 := (FR.tr (FR.refl _ w) F1 rfl).tr F2 rfl
    refine ⟨fun z => nws B2 S2 (by omega) (fun w3 B3 F3 S3 => ?_), fun z => ?_⟩
    · have G2 : GS w2 rs as c r.toInt (j + 1) := by
        obtain ⟨_, k17, k15, kC, kO, k0, k1, k2, k3, k4, k6, kc⟩ := G1
        exact ⟨S2, by rw [(F2 99 17 rfl).1]; exact k17, by rw [(F2 99 15 rfl).1]; exact k15, by rw [(F2 99 0 rfl).1]; exact kC, roc_tr kO (fun k t h1 h2 lt => by
          rcases k105 h1 h2 with rfl | rfl | rfl | rfl | rfl | rfl
          · exact (F2 100 t rfl).1
          · exact (F2 101 t rfl).1
          · exact (F2 102 t rfl).1
          · exact (F2 103 t rfl).1
          · exact e3 t (by omega)
          · exact (F2 105 t rfl).1) (fun t _ => (F2 106 t rfl).1), by rw [(F2 100 _ rfl).1]; exact k0, by rw [(F2 101 _ rfl).1]; exact k1, by rw [(F2 102 _ rfl).1]; exact k2, by rw [(F2 103 _ rfl).1]; exact k3, by rw [e2], by rw [(F2 106 _ rfl).1]; exact k6, cod_fr kc F2 rfl⟩
      have G3 : GS w3 rs as c r.toInt (j + 2) := gs_fr G2 S3 F3 rfl
      have cn3 := cf_n (FR.tr (l := lro) (FR.tr (FR.refl _ w) FF rfl) F3 rfl) rfl
      refine g154 B3 G3 (by omega) c40 hc (fun w' B' F' x y => hQ w' B' ((FR.tr FF F3 rfl).tr F' rfl) ?_)
      have e : tlS (cf w) (w.1 1 2).toInt as c j = rwT (cf w) (w.1 1 2).toInt as c r.toInt (j + 2) := by
        unfold tlS
        rw [if_pos q, if_neg (by omega), hr]
      rw [e]
      rw [cn3.1, cn3.2] at x y
      exact ⟨x, y⟩
    · have w17 : (w2.1 99 17).toInt < 0 := by rw [(F2 99 17 rfl).1, (F1 99 17 rfl).1]; exact h17
      have F3 : FR [(99, some 17)] w2 (sI w2 99 17 (w2.1 99 14)) := FR.I (FR.refl _ w2) rfl
      have B3 : BND (sI w2 99 17 (w2.1 99 14)) := wbd_99_17 B2
      have e17 : ((sI w2 99 17 (w2.1 99 14)).1 99 17).toInt = ((j + 1 : Nat) : Int) := by rw [sI_same]; exact S2.2.2.1
      refine flr_x w17 ?_
      generalize (sI w2 99 17 (w2.1 99 14)) = w3 at *
      refine nws B3 (wst_fr S2 F3 rfl) (by omega) (fun w4 B4 F4 S4 => b154 B4 S4 (by omega) (by rw [(F4 99 17 rfl).1]; omega) ?_ (fun w' B' F' e' => hQ w' B' (((FR.tr FF F3 rfl).tr F4 rfl).tr F' rfl) ?_))
      · rw [(F4 99 0 rfl).1, (F3 99 0 rfl).1, (F2 99 0 rfl).1]
        omega
      · have e : tlS (cf w) (w.1 1 2).toInt as c j = rwF (j + 1) := by
          unfold tlS
          rw [if_pos q, if_pos (by omega)]
        rw [e]
        refine ou_rF ?_
        rw [e', (F4 99 17 rfl).1]
        exact e17
  · have e : tlS (cf w) (w.1 1 2).toInt as c j = rwT (cf w) (w.1 1 2).toInt as c 0 j := by
      unfold tlS
      rw [if_neg (by rw [q]; decide)]
    rw [e]
    exact ⟨x, y⟩
/-! the class reads all rows -/
/-- what a row that begins at word i is -/
def RowS (f : Int → Int) (n : Int) (i : Nat) (q : Bool × Rw × Nat) : Prop := if wq f n i (ltr 6 3) = true then (if (acF f n 10 [] (i + 1)).1 = true then ∃ r, (∃ k, SP f n k 2 0 [] 0 ((acF f n 10 [] (i + 1)).2.2 + 1) r) ∧ q = (if r.1 = true then tlS f n (acF f n 10 [] (i + 1)).2.1 r.2.1 r.2.2.2 else rwF r.2.2.2) else q = rwF (acF f n 10 [] (i + 1)).2.2) else q = rwF i
theorem acF_w {f : Int → Int} {n : Int} : ∀ (k : Nat) (as : List Int) (i : Nat), ((acF f n k as i).1 = true → wq f n (acF f n k as i).2.2 (ltr 7 4) = true) ∧ i ≤ (acF f n k as i).2.2 := by
  intro k
  induction k with
  | zero => intro as i; exact ⟨fun z => absurd (show false = true from z) (by decide), Nat.le_refl _⟩
  | succ k ih =>
    intro as i
    rw [acF_u]
    by_cases c : ¬ as = [] ∧ wq f n i (ltr 7 4) = true
    · rw [if_pos c]
      exact ⟨fun _ => c.2, Nat.le_refl _⟩
    · rw [if_neg c]
      by_cases d : actw f n i < 0 ∨ as.length = 8 ∨ actw f n i ∈ as
      · rw [if_pos d]
        exact ⟨fun z => absurd (show false = true from z) (by decide), Nat.le_refl _⟩
      · rw [if_neg d]
        have := ih (as ++ [actw f n i]) (i + 1)
        exact ⟨this.1, by omega⟩
theorem lw_le {f : Int → Int} {n : Int} {i j : Nat} (h : i ≤ j) : lwn f n i ≤ lwn f n j := by
  induction h with
  | refl => exact Nat.le_refl _
  | step _ ih => exact Nat.le_trans ih (lw_m _)
theorem rwT_i {w : MW} (hI : BND w) {as c : List Int} {v : Int} {j : Nat} (h : (rwT (cf w) (w.1 1 2).toInt as c v j).1 = true) : (rwT (cf w) (w.1 1 2).toInt as c v j).2.2 ≤ 4001 ∧ j ≤ (rwT (cf w) (w.1 1 2).toInt as c v j).2.2 ∧ (rwT (cf w) (w.1 1 2).toInt as c v j).2.1.2.1 = c := by
  unfold rwT at *
  by_cases q : wq (cf w) (w.1 1 2).toInt j (ltr 14 7) = true
  · rw [if_pos q] at h ⊢
    by_cases q2 : wq (cf w) (w.1 1 2).toInt (j + 1) (ltr 15 1) = true
    · rw [if_pos q2]
      have ln := wq_len q2
      rw [ltln] at ln
      have := i_le hI (i := j + 1) (by omega)
      exact ⟨by show j + 2 ≤ 4001; omega, by show j ≤ j + 2; omega, rfl⟩
    · rw [if_neg q2] at h
      exact absurd (show false = true from h) (by decide)
  · rw [if_neg q] at h ⊢
    by_cases q2 : wq (cf w) (w.1 1 2).toInt j (ltr 15 1) = true
    · rw [if_pos q2]
      have ln := wq_len q2
      rw [ltln] at ln
      have := i_le hI (i := j) (by omega)
      exact ⟨by show j + 1 ≤ 4001; omega, by show j ≤ j + 1; omega, rfl⟩
    · rw [if_neg q2] at h
      exact absurd (show false = true from h) (by decide)
theorem tlS_i {w : MW} (hI : BND w) {as c : List Int} {j : Nat} (h : (tlS (cf w) (w.1 1 2).toInt as c j).1 = true) : (tlS (cf w) (w.1 1 2).toInt as c j).2.2 ≤ 4001 ∧ j ≤ (tlS (cf w) (w.1 1 2).toInt as c j).2.2 ∧ (tlS (cf w) (w.1 1 2).toInt as c j).2.1.2.1 = c := by
  unfold tlS at *
  by_cases q : wq (cf w) (w.1 1 2).toInt j (ltr 13 3) = true
  · rw [if_pos q] at h ⊢
    by_cases q2 : nbv (cf w) (w.1 1 2).toInt (j + 1) 0 3600 < 0
    · rw [if_pos q2] at h
      exact absurd (show false = true from h) (by decide)
    · rw [if_neg q2] at h ⊢
      have := rwT_i hI h
      exact ⟨this.1, by omega, this.2.2⟩
  · rw [if_neg q] at h ⊢
    exact rwT_i hI h
/-- a row is begun -/
def Z0 (w : MW) (rs : List Rw) (j : Nat) : Prop := WSt w j ∧ (w.1 99 17).toInt < 0 ∧ (w.1 99 15).toInt = 0 ∧ (w.1 99 0).toInt = (rs.length : Int) ∧ (∀ (r : Nat) (x : Rw), rs[r]? = some x → RwC w r (cds (rs.take r)).length x) ∧ w.1 100 rs.length = 0 ∧ w.1 101 rs.length = 0 ∧ w.1 102 rs.length = 0 ∧ w.1 104 rs.length = 0 ∧ Cod w 0 (cds rs)
/-- behind the acts -/
theorem gtl {w : MW} {rs : List Rw} {as : List Int} {j : Nat} {Q : MW → Prop} (hI : BND w) (h : Z0 w rs j) (hb : BtS (w.1 103 rs.length) as) (hw : wq (cf w) (w.1 1 2).toInt j (ltr 7 4) = true) (i5 : j ≤ 4500) (c40 : rs.length < 40) (hl : (cds rs).length ≤ lwn (cf w) (w.1 1 2).toInt j) (hQ : ∀ w' q r, BND w' → FR lro w w' → (∃ k, SP (cf w) (w.1 1 2).toInt k 2 0 [] 0 (j + 1) r) → q = (if r.1 = true then tlS (cf w) (w.1 1 2).toInt as r.2.1 r.2.2.2 else rwF r.2.2.2) → OuR w' rs q → (q.1 = true → q.2.2 ≤ 4001 ∧ (cds (rs ++ [q.2.1])).length ≤ lwn (cf w) (w.1 1 2).toInt q.2.2) → Q w') : TLr w Q := by
  obtain ⟨hS, h17, h15, hC, hO, g0, g1, g2, g4, gc⟩ := h
  have b2 := bd_1_2 hI
  refine tkw_7 hI hS (by omega) (fun _ _ w1 B1 F1 S1 => ?_) (fun _ q => by rw [hw] at q; exact absurd q (by decide)) (fun z => by omega)
  have cn1 := cf_n F1 rfl
  have C1 : (w1.1 99 0).toInt = (rs.length : Int) := by rw [(F1 99 0 rfl).1]; exact hC
  have n0 : (w1.1 99 0).toInt.toNat = rs.length := by omega
  have gc1 : Cod w1 0 (cds rs) := cod_fr gc F1 rfl
  have u1 : (w1.1 99 10).toInt = ((cds rs).length : Int) := by
    rw [gc1.1]
    omega
  have b10 := bd_99_10 B1
  refine ⟨⟨by omega, by omega⟩, ?_⟩
  rw [n0]
  have B2 : BND (sI (sI w1 106 rs.length (w1.1 99 10)) 99 16 0) := wbd_99_16 (wbd_106 B1 _ b10.1 b10.2) (by decide) (by decide)
  have F2 : FR [(99, some 16), (106, none)] w1 (sI (sI w1 106 rs.length (w1.1 99 10)) 99 16 0) := FR.I (FR.I (FR.refl _ w1) rfl) rfl
  have k6 : ∀ t, (sI (sI w1 106 rs.length (w1.1 99 10)) 99 16 0).1 106 t = if t = rs.length then w1.1 99 10 else w1.1 106 t := fun t => by
    rw [sI_oth _ _ _ _ _ _ (by decide), sI_if]
  have k16 : ((sI (sI w1 106 rs.length (w1.1 99 10)) 99 16 0).1 99 16).toInt = ((0 : Nat) : Int) := by
    rw [sI_same]
    exact i_0
  generalize (sI (sI w1 106 rs.length (w1.1 99 10)) 99 16 0) = w2 at *
  have FF : FR [(99, some 12), (99, some 13), (99, some 14), (99, some 16), (106, none)] w w2 := (FR.tr (FR.refl _ w) F1 rfl).tr F2 rfl
  have cn2 := cf_n FF rfl
  have S2 := wst_fr S1 F2 rfl
  have gc2 : Cod w2 0 (cds rs) := cod_fr gc1 F2 rfl
  have O2 : ∀ (r : Nat) (x : Rw), rs[r]? = some x → RwC w2 r (cds (rs.take r)).length x := fun r x hx => by
    have lt := (List.getElem?_eq_some_iff.mp hx).1
    have g := hO r x hx
    unfold RwC at *
    have e6r : w2.1 106 r = w.1 106 r := by rw [k6, if_neg (show ¬ r = rs.length by omega), (F1 106 r rfl).1]
    rw [(FF 100 r rfl).1, (FF 101 r rfl).1, (FF 102 r rfl).1, (FF 103 r rfl).1, (FF 104 r rfl).1, (FF 105 r rfl).1, e6r]
    refine ⟨g.1, g.2.1, g.2.2.1, g.2.2.2.1, g.2.2.2.2.1, g.2.2.2.2.2.1, g.2.2.2.2.2.2.1, ?_⟩
    by_cases e : r + 1 = rs.length
    · rw [k6, if_pos e, u1]
      have et : rs = rs.take r ++ [x] := by
        have q := List.take_succ (l := rs) (i := r)
        rw [hx, e, List.take_length] at q
        exact q
      have el : (cds rs).length = (cds (rs.take r)).length + x.2.1.length := by
        have q := congrArg (fun z => (cds z).length) et
        simp only [cds_s, List.length_append] at q
        exact q
      rw [el]
    · rw [k6, if_neg e, (F1 106 (r + 1) rfl).1]
      exact g.2.2.2.2.2.2.2
  have CS2 : CSt w2 0 0 (cds rs) 0 (j + 1) := ⟨S2, by rw [(FF 99 17 rfl).1]; exact h17, by rw [(FF 99 15 rfl).1]; exact h15, k16, gc2⟩
  have lm := lw_m (f := cf w) (n := (w.1 1 2).toInt) j
  refine ror B2 CS2 (by omega) (by omega) (by rw [cn2.1, cn2.2]; omega) (fun w3 r B3 F3 S3 U3 => ?_)
  rw [cn2.1, cn2.2] at S3
  obtain ⟨k, hk⟩ := S3
  have hk2 : SP (cf w) (w.1 1 2).toInt k 2 0 (cds rs ++ []) 0 (j + 1) r := by
    rw [List.append_nil]
    exact hk
  obtain ⟨r0, h0, e0⟩ := sp_pre (cds rs) k 2 0 [] 0 (j + 1) r hk2
  have ri := sp_i _ _ _ _ _ _ _ h0
  have G3 : FR lro w w3 := (FR.tr (FR.refl _ w) FF rfl).tr F3 rfl
  have cn3 := cf_n G3 rfl
  have i3 := U3.2.2.1
  by_cases ok : r0.1 = true
  · rw [preR_t ok] at e0
    rw [e0] at U3 i3
    rcases U3.2.2.2 with ⟨_, C3, t3, l3⟩ | ⟨z, _⟩
    · have mx := lw_max (f := cf w) b2.1 b2.2 r0.2.2.2
      rw [cn3.1, cn3.2] at l3
      have l3' : (cds rs ++ r0.2.1).length ≤ lwn (cf w) (w.1 1 2).toInt r0.2.2.2 := by
        have : 0 + (cds rs ++ r0.2.1).length + 0 ≤ lwn (cf w) (w.1 1 2).toInt r0.2.2.2 := l3
        omega
      have GS3 : GS w3 rs as r0.2.1 0 r0.2.2.2 := ⟨C3.1, C3.2.1, C3.2.2.1, by rw [(F3 99 0 rfl).1, (FF 99 0 rfl).1]; exact hC, roc_tr O2 (fun kk t h1 h2 lt => by
        rcases k105 h1 h2 with rfl | rfl | rfl | rfl | rfl | rfl
        · exact (F3 100 t rfl).1
        · exact (F3 101 t rfl).1
        · exact (F3 102 t rfl).1
        · exact (F3 103 t rfl).1
        · exact (F3 104 t rfl).1
        · exact (F3 105 t rfl).1) (fun t _ => (F3 106 t rfl).1), by rw [(F3 100 _ rfl).1, (FF 100 _ rfl).1]; exact g0, by rw [(F3 101 _ rfl).1, (FF 101 _ rfl).1]; exact g1, by rw [(F3 102 _ rfl).1, (FF 102 _ rfl).1]; exact g2, by rw [(F3 103 _ rfl).1, (FF 103 _ rfl).1]; exact hb, by rw [(F3 104 _ rfl).1, (FF 104 _ rfl).1, g4]; exact i_0, by rw [(F3 106 _ rfl).1, k6, if_pos rfl]; exact u1, C3.2.2.2.2⟩
      have i3' : r0.2.2.2 ≤ 5000 := i3
      refine gtf B3 GS3 (by omega) c40 (by omega) (fun w' B' F' U' => ?_)
      rw [cn3.1, cn3.2] at U'
      refine hQ w' (tlS (cf w) (w.1 1 2).toInt as r0.2.1 r0.2.2.2) r0 B' (G3.tr F' rfl) ⟨k, h0⟩ (by rw [if_pos ok]) U' (fun q => ?_)
      have ti := tlS_i hI q
      refine ⟨ti.1, ?_⟩
      rw [cds_s, ti.2.2]
      exact Nat.le_trans l3' (lw_le ti.2.1)
    · exact absurd (show true = false from z) (by decide)
  · rw [preR_f ok] at e0
    rw [e0] at U3 i3
    have nk : r0.1 = false := by
      cases hh : r0.1 with
      | false => rfl
      | true => exact absurd hh ok
    rcases U3.2.2.2 with ⟨z, _⟩ | ⟨_, e17⟩
    · exact absurd z ok
    · refine tfr_b B3 U3.1 (by omega) (by omega) (by rw [(F3 99 0 rfl).1, (FF 99 0 rfl).1]; omega) (fun w' B' F' e' => hQ w' (rwF r0.2.2.2) r0 B' (G3.tr F' rfl) ⟨k, h0⟩ (by rw [if_neg ok]) (ou_rF (by rw [e']; exact e17)) (fun z => absurd (show false = true from z) (by decide)))
/-! the class reads interlocks -/
theorem rr_x {w : MW} {rs : List Rw} {i : Nat} {Q : MW → Prop} (hI : BND w) (h : WSt w i) (h17 : (w.1 99 17).toInt < 0) (i5 : i ≤ 4400) (hR : RosC w rs) (c40 : rs.length < 40) (hl : (cds rs).length ≤ lwn (cf w) (w.1 1 2).toInt i) (hQ : ∀ w' q, BND w' → FR lro w w' → RowS (cf w) (w.1 1 2).toInt i q → OuR w' rs q → (q.1 = true → q.2.2 ≤ 4001 ∧ (cds (rs ++ [q.2.1])).length ≤ lwn (cf w) (w.1 1 2).toInt q.2.2) → Q w') : p_Ro_readRows99 w Q := by
  obtain ⟨hC, gc, h15, hO⟩ := hR
  have b0 := bd_99_0 hI
  have gi : 0 ≤ (w.1 99 0).toInt ∧ (w.1 99 0).toInt < 40 := ⟨b0.1, by omega⟩
  have n0 : (w.1 99 0).toInt.toNat = rs.length := by omega
  refine Eq.mpr (p_Ro_readRows99.eq_1 _ _) ⟨fun _ => ⟨gi, gi, gi, gi, gi, ?_⟩, fun z => absurd gi.2 z⟩
  rw [n0, nar0z]
  have B1 : BND (sI (sI (sI (sI (sI w 100 rs.length 0) 101 rs.length 0) 102 rs.length 0) 103 rs.length 0) 104 rs.length 0) := wbd_104 (wbd_103 (wbd_102 (wbd_101 (wbd_100 hI _ (by decide) (by decide)) _ (by decide) (by decide)) _ (by decide) (by decide)) _) _ (by decide) (by decide)
  have F1 : FR [(100, none), (101, none), (102, none), (103, none), (104, none)] w (sI (sI (sI (sI (sI w 100 rs.length 0) 101 rs.length 0) 102 rs.length 0) 103 rs.length 0) 104 rs.length 0) := FR.I (FR.I (FR.I (FR.I (FR.I (FR.refl _ w) rfl) rfl) rfl) rfl) rfl
  have k0 : ∀ t, (sI (sI (sI (sI (sI w 100 rs.length 0) 101 rs.length 0) 102 rs.length 0) 103 rs.length 0) 104 rs.length 0).1 100 t = if t = rs.length then 0 else w.1 100 t := fun t => by
    rw [sI_oth _ _ _ _ _ _ (by decide), sI_oth _ _ _ _ _ _ (by decide), sI_oth _ _ _ _ _ _ (by decide), sI_oth _ _ _ _ _ _ (by decide), sI_if]
  have k1 : ∀ t, (sI (sI (sI (sI (sI w 100 rs.length 0) 101 rs.length 0) 102 rs.length 0) 103 rs.length 0) 104 rs.length 0).1 101 t = if t = rs.length then 0 else w.1 101 t := fun t => by
    rw [sI_oth _ _ _ _ _ _ (by decide), sI_oth _ _ _ _ _ _ (by decide), sI_oth _ _ _ _ _ _ (by decide), sI_if, sI_oth _ _ _ _ _ _ (by decide)]
  have k2 : ∀ t, (sI (sI (sI (sI (sI w 100 rs.length 0) 101 rs.length 0) 102 rs.length 0) 103 rs.length 0) 104 rs.length 0).1 102 t = if t = rs.length then 0 else w.1 102 t := fun t => by
    rw [sI_oth _ _ _ _ _ _ (by decide), sI_oth _ _ _ _ _ _ (by decide), sI_if, sI_oth _ _ _ _ _ _ (by decide), sI_oth _ _ _ _ _ _ (by decide)]
  have k3 : ∀ t, (sI (sI (sI (sI (sI w 100 rs.length 0) 101 rs.length 0) 102 rs.length 0) 103 rs.length 0) 104 rs.length 0).1 103 t = if t = rs.length then 0 else w.1 103 t := fun t => by
    rw [sI_oth _ _ _ _ _ _ (by decide), sI_if, sI_oth _ _ _ _ _ _ (by decide), sI_oth _ _ _ _ _ _ (by decide), sI_oth _ _ _ _ _ _ (by decide)]
  have k4 : ∀ t, (sI (sI (sI (sI (sI w 100 rs.length 0) 101 rs.length 0) 102 rs.length 0) 103 rs.length 0) 104 rs.length 0).1 104 t = if t = rs.length then 0 else w.1 104 t := fun t => by
    rw [sI_if, sI_oth _ _ _ _ _ _ (by decide), sI_oth _ _ _ _ _ _ (by decide), sI_oth _ _ _ _ _ _ (by decide), sI_oth _ _ _ _ _ _ (by decide)]
  generalize (sI (sI (sI (sI (sI w 100 rs.length 0) 101 rs.length 0) 102 rs.length 0) 103 rs.length 0) 104 rs.length 0) = w1 at *
  have S1 := wst_fr h F1 rfl
  have cn1 := cf_n F1 rfl
  have O1 : ∀ (r : Nat) (x : Rw), rs[r]? = some x → RwC w1 r (cds (rs.take r)).length x := roc_tr hO (fun kk t h1 h2 lt => by
    rcases k105 h1 h2 with rfl | rfl | rfl | rfl | rfl | rfl
    · rw [k0, if_neg (by omega)]
    · rw [k1, if_neg (by omega)]
    · rw [k2, if_neg (by omega)]
    · rw [k3, if_neg (by omega)]
    · rw [k4, if_neg (by omega)]
    · exact (F1 105 t rfl).1) (fun t _ => (F1 106 t rfl).1)
  have Z1 : Z0 w1 rs i := ⟨S1, by rw [(F1 99 17 rfl).1]; exact h17, by rw [(F1 99 15 rfl).1]; exact h15, by rw [(F1 99 0 rfl).1]; exact hC, O1, by rw [k0, if_pos rfl], by rw [k1, if_pos rfl], by rw [k2, if_pos rfl], by rw [k4, if_pos rfl], cod_fr gc F1 rfl⟩
  have G1 : FR lro w w1 := FR.tr (FR.refl _ w) F1 rfl
  have C1 : (w1.1 99 0).toInt < 40 := by rw [(F1 99 0 rfl).1]; omega
  refine tkw_6 B1 S1 (by omega) (fun _ q w7 B7 F7 S7 => ?_) (fun n17 q => ?_) (fun z => by rw [(F1 99 17 rfl).1] at z; omega)
  · rw [cn1.1, cn1.2] at q
    have cn7 := cf_n (FR.tr G1 F7 rfl) rfl
    have ln := wq_len q
    rw [ltln] at ln
    have i4 := i_le hI (i := i) (by omega)
    have G7 : FR lro w w7 := G1.tr F7 rfl
    have C7 : (w7.1 99 0).toInt = (rs.length : Int) := by rw [(F7 99 0 rfl).1]; exact Z1.2.2.2.1
    have n7 : (w7.1 99 17).toInt < 0 := by rw [(F7 99 17 rfl).1]; exact Z1.2.1
    refine ra_x B7 S7 n7 (by omega) C7 c40 (by rw [(F7 103 _ rfl).1, k3, if_pos rfl]) (fun w8 B8 F8 U8 => ?_)
    have aw := acF_w (f := cf w) (n := (w.1 1 2).toInt) 10 [] (i + 1)
    rw [cn7.1, cn7.2] at U8
    have G8 : FR lro w w8 := G7.tr F8 rfl
    have cn8 := cf_n G8 rfl
    obtain ⟨S8, i8, o8, U8⟩ := U8
    rcases U8 with ⟨ok, n8, bt⟩ | ⟨nk, e17⟩
    · have ww := aw.1 ok
      have lnw2 := wq_len ww
      rw [ltln] at lnw2
      have a4 := i_le hI (i := (acF (cf w) (w.1 1 2).toInt 10 [] (i + 1)).2.2) (by omega)
      have Z8 : Z0 w8 rs (acF (cf w) (w.1 1 2).toInt 10 [] (i + 1)).2.2 := by
        obtain ⟨_, _, z15, zC, zO, z0, z1, z2, z4, zc⟩ := Z1
        refine ⟨S8, n8, by rw [(F8 99 15 rfl).1, (F7 99 15 rfl).1]; exact z15, by rw [(F8 99 0 rfl).1]; exact C7, roc_tr zO (fun kk t h1 h2 lt => ?_) (fun t _ => by rw [(F8 106 t rfl).1, (F7 106 t rfl).1]), by rw [(F8 100 _ rfl).1, (F7 100 _ rfl).1]; exact z0, by rw [(F8 101 _ rfl).1, (F7 101 _ rfl).1]; exact z1, by rw [(F8 102 _ rfl).1, (F7 102 _ rfl).1]; exact z2, by rw [(F8 104 _ rfl).1, (F7 104 _ rfl).1]; exact z4, cod_fr (cod_fr zc F7 rfl) F8 rfl⟩
        rcases k105 h1 h2 with rfl | rfl | rfl | rfl | rfl | rfl
        · rw [(F8 100 t rfl).1, (F7 100 t rfl).1]
        · rw [(F8 101 t rfl).1, (F7 101 t rfl).1]
        · rw [(F8 102 t rfl).1, (F7 102 t rfl).1]
        · rw [o8 t (by omega), (F7 103 t rfl).1]
        · rw [(F8 104 t rfl).1, (F7 104 t rfl).1]
        · rw [(F8 105 t rfl).1, (F7 105 t rfl).1]
      have lm : lwn (cf w) (w.1 1 2).toInt i ≤ lwn (cf w) (w.1 1 2).toInt (acF (cf w) (w.1 1 2).toInt 10 [] (i + 1)).2.2 := lw_le (by omega)
      refine gtl B8 Z8 bt (by rw [cn8.1, cn8.2]; exact ww) (by omega) c40 (by rw [cn8.1, cn8.2]; omega) (fun w' q' r B' F' hk eq U' b' => ?_)
      rw [cn8.1, cn8.2] at hk eq b'
      refine hQ w' q' B' (G8.tr F' rfl) ?_ U' b'
      unfold RowS
      rw [if_pos q, if_pos ok]
      exact ⟨r, hk, eq⟩
    · refine tlr_b B8 S8 (by omega) (by omega) (by rw [(F8 99 0 rfl).1]; omega) (fun w' B' F' e' => hQ w' (rwF (acF (cf w) (w.1 1 2).toInt 10 [] (i + 1)).2.2) B' (G8.tr F' rfl) ?_ (ou_rF (by rw [e']; exact e17)) (fun z => absurd (show false = true from z) (by decide)))
      unfold RowS
      rw [if_pos q, if_neg (by rw [nk]; decide)]
  · rw [cn1.1, cn1.2] at q
    have F7 : FR [(99, some 17)] w1 (sI w1 99 17 (w1.1 99 14)) := FR.I (FR.refl _ w1) rfl
    have B7 : BND (sI w1 99 17 (w1.1 99 14)) := wbd_99_17 B1
    have e7 : ((sI w1 99 17 (w1.1 99 14)).1 99 17).toInt = (i : Int) := by rw [sI_same]; exact S1.2.2.1
    generalize (sI w1 99 17 (w1.1 99 14)) = w7 at *
    refine ra_b (by omega) (tlr_b B7 (wst_fr S1 F7 rfl) (by omega) (by omega) (by rw [(F7 99 0 rfl).1]; exact C1) (fun w' B' F' e' => hQ w' (rwF i) B' ((G1.tr F7 rfl).tr F' rfl) ?_ (ou_rF (by rw [e']; exact e7)) (fun z => absurd (show false = true from z) (by decide))))
    unfold RowS
    rw [if_neg (by rw [q]; decide)]
/-- all rows from word i on: r the word that is wrong, or -1 -/
def RdQ (f : Int → Int) (n : Int) : Nat → List Rw → Nat → Int → List Rw → Prop
  | 0, _, _, _, _ => False
  | k + 1, rs, i, r, rs' => (n ≤ wat f n i ∧ r = -1 ∧ rs' = rs) ∨ (wat f n i < n ∧ rs.length = 40 ∧ r = (i : Int) ∧ rs' = []) ∨ (wat f n i < n ∧ rs.length < 40 ∧ ∃ q, RowS f n i q ∧ ((q.1 = false ∧ r = (q.2.2 : Int) ∧ rs' = []) ∨ (q.1 = true ∧ RdQ f n k (rs ++ [q.2.1]) q.2.2 r rs')))
theorem row_det {f : Int → Int} {n : Int} {i : Nat} {q q' : Bool × Rw × Nat} (h : RowS f n i q) (h' : RowS f n i q') : q = q' := by
  unfold RowS at *
  by_cases c : wq f n i (ltr 6 3) = true
  · rw [if_pos c] at h h'
    by_cases d : (acF f n 10 [] (i + 1)).1 = true
    · rw [if_pos d] at h h'
      obtain ⟨r, ⟨k, hk⟩, e⟩ := h
      obtain ⟨r', ⟨k', hk'⟩, e'⟩ := h'
      rw [e, e', sp_det k k' 2 0 [] 0 _ r r' hk hk']
    · rw [if_neg d] at h h'
      rw [h, h']
  · rw [if_neg c] at h h'
    rw [h, h']
theorem rds_det {f : Int → Int} {n : Int} : ∀ (k k' : Nat) (rs : List Rw) (i : Nat) (r r' : Int) (x x' : List Rw), RdQ f n k rs i r x → RdQ f n k' rs i r' x' → r = r' ∧ x = x' := by
  intro k
  induction k with
  | zero => intro k' rs i r r' x x' h; exact absurd h (fun z => z)
  | succ k ih =>
    intro k' rs i r r' x x' h h'
    cases k' with
    | zero => exact absurd h' (fun z => z)
    | succ k' =>
      rcases h with ⟨a, b, c⟩ | ⟨a, b, c, d⟩ | ⟨a, b, q, hq, h⟩
      · rcases h' with ⟨a', b', c'⟩ | ⟨a', _⟩ | ⟨a', _⟩
        · exact ⟨b.trans b'.symm, c.trans c'.symm⟩
        · omega
        · omega
      · rcases h' with ⟨a', _⟩ | ⟨a', b', c', d'⟩ | ⟨a', b', _⟩
        · omega
        · exact ⟨c.trans c'.symm, d.trans d'.symm⟩
        · omega
      · rcases h' with ⟨a', _⟩ | ⟨a', b', _⟩ | ⟨a', b', q', hq', h'⟩
        · omega
        · omega
        · have e := row_det hq hq'
          rw [← e] at h'
          rcases h with ⟨u, v, s⟩ | ⟨u, v⟩
          · rcases h' with ⟨u', v', s'⟩ | ⟨u', _⟩
            · exact ⟨v.trans v'.symm, s.trans s'.symm⟩
            · rw [u] at u'
              exact absurd u' (by decide)
          · rcases h' with ⟨u', _⟩ | ⟨_, v'⟩
            · rw [u] at u'
              exact absurd u' (by decide)
            · exact ih k' _ _ _ _ _ _ v v'
theorem rd_41 {w0 : MW} {E : MW → Prop} {Q : Int32 → MW → Prop} (hE : ∀ w' (r : Int) rs', BND w' → FR lro w0 w' → (∃ k, RdQ (cf w0) (w0.1 1 2).toInt k [] 0 r rs') → ((r = -1 ∧ (w'.1 99 17).toInt < 0 ∧ RosC w' rs') ∨ (0 ≤ r ∧ (w'.1 99 17).toInt = r)) → E w') (m : Nat) : ∀ (w : MW) (rs : List Rw) (i : Nat), BND w → FR lro w0 w → WSt w i → (w.1 99 17).toInt < 0 → i ≤ 4400 → RosC w rs → rs.length ≤ 40 → (cds rs).length ≤ lwn (cf w0) (w0.1 1 2).toInt i → (∀ r x, (∃ k, RdQ (cf w0) (w0.1 1 2).toInt k rs i r x) → ∃ k, RdQ (cf w0) (w0.1 1 2).toInt k [] 0 r x) → 42 - rs.length < m → q_Ro_reads99_1_41 E Q m (nI rs.length) w := by
  induction m with
  | zero => intros; omega
  | succ m ih =>
    intro w rs i hI hF h h17 i5 hR c40 hl hc hm
    have cn := cf_n hF rfl
    have ti : (nI rs.length).toInt = (rs.length : Int) := nI_toInt (by omega)
    rw [q_Ro_reads99_1_41.eq_2]
    refine ⟨fun z => by omega, fun _ => ⟨fun z => by omega, fun _ => ⟨fun z => ?_, fun z => ?_⟩⟩⟩
    · rw [h.1, cn.1, cn.2] at z
      exact hE w (-1) rs hI hF (hc _ _ ⟨1, Or.inl ⟨z, rfl, rfl⟩⟩) (Or.inl ⟨rfl, h17, hR⟩)
    rw [h.1, cn.1, cn.2] at z
    by_cases l40 : rs.length < 40
    · refine rr_x hI h h17 i5 hR l40 (by rw [cn.1, cn.2]; exact hl) (fun w' q B' F' S' U' b' => ?_)
      rw [cn.1, cn.2] at S' b'
      have G' : FR lro w0 w' := hF.tr F' rfl
      cases hq : q.1 with
      | false =>
        have e17 := U'.2 hq
        obtain ⟨m', em⟩ : ∃ m', m = m' + 1 := ⟨m - 1, by omega⟩
        rw [em, q_Ro_reads99_1_41.eq_2]
        have fin : E w' := hE w' (q.2.2 : Int) [] B' G' (hc _ _ ⟨1, Or.inr (Or.inr ⟨by omega, l40, q, S', Or.inl ⟨hq, rfl, rfl⟩⟩)⟩) (Or.inr ⟨by omega, e17⟩)
        exact ⟨fun _ => fin, fun _ => ⟨fun _ => fin, fun y => absurd (by omega) y⟩⟩
      | true =>
        have u := U'.1 hq
        have bb := b' hq
        have el : (rs ++ [q.2.1]).length = rs.length + 1 := by
          rw [List.length_append]
          rfl
        rw [nI_1, ← el]
        refine ih w' (rs ++ [q.2.1]) q.2.2 B' G' u.1 u.2.1 (by omega) u.2.2 (by omega) bb.2 (fun r x hk => hc r x ?_) (by omega)
        obtain ⟨k, hk⟩ := hk
        exact ⟨k + 1, Or.inr (Or.inr ⟨by omega, l40, q, S', Or.inr ⟨hq, hk⟩⟩)⟩
    · have hC := hR.1
      refine Eq.mpr (p_Ro_readRows99.eq_1 _ _) ⟨fun y => by omega, fun _ => flr_x h17 ?_⟩
      have F1 : FR [(99, some 17)] w (sI w 99 17 (w.1 99 14)) := FR.I (FR.refl _ w) rfl
      have B1 : BND (sI w 99 17 (w.1 99 14)) := wbd_99_17 hI
      have e1 : ((sI w 99 17 (w.1 99 14)).1 99 17).toInt = (i : Int) := by rw [sI_same]; exact h.2.2.1
      generalize (sI w 99 17 (w.1 99 14)) = w1 at *
      obtain ⟨m', em⟩ : ∃ m', m = m' + 1 := ⟨m - 1, by omega⟩
      rw [em, q_Ro_reads99_1_41.eq_2]
      have fin : E w1 := hE w1 (i : Int) [] B1 (hF.tr F1 rfl) (hc _ _ ⟨1, Or.inr (Or.inl ⟨by omega, by omega, rfl, rfl⟩)⟩) (Or.inr ⟨by omega, e1⟩)
      exact ⟨fun _ => fin, fun _ => ⟨fun _ => fin, fun y => absurd (by omega) y⟩⟩
def lrq : Pl := (99, some 11) :: lro
/-- the class reads interlocks: r the wrong word, or less than 0 -/
theorem rq_read {w : MW} {Q : Int32 → MW → Prop} (hI : BND w) (hQ : ∀ (a : Int32) (w' : MW) (r : Int) rs', BND w' → FR lrq w w' → (∃ k, RdQ (cf w) (w.1 1 2).toInt k [] 0 r rs') → ((r = -1 ∧ a.toInt < 0 ∧ RosC w' rs') ∨ (0 ≤ r ∧ a.toInt = r)) → Q a w') : p_Ro_reads99_1 w Q := by
  have b2 := bd_1_2 hI
  refine Eq.mpr (p_Ro_reads99_1.eq_1 _ _) ?_
  have F0 : FR lrq w (sI (sI (sI (sI (sI (sI (sR w 99 11 (some 1)) 99 0 0) 99 10 0) 99 17 (-1)) 99 15 0) 99 14 (-1)) 99 13 0) := FR.I (FR.I (FR.I (FR.I (FR.I (FR.I (FR.R (FR.refl _ w) rfl) rfl) rfl) rfl) rfl) rfl) rfl
  have B0 : BND (sI (sI (sI (sI (sI (sI (sR w 99 11 (some 1)) 99 0 0) 99 10 0) 99 17 (-1)) 99 15 0) 99 14 (-1)) 99 13 0) := wbd_99_13 (wbd_99_14 (wbd_99_15 (wbd_99_17 (wbd_99_10 (wbd_99_0 (bnd_R hI) (by decide) (by decide)) (by decide) (by decide))) (by decide) (by decide))) (by decide) (by decide)
  have r0 : (sI (sI (sI (sI (sI (sI (sR w 99 11 (some 1)) 99 0 0) 99 10 0) 99 17 (-1)) 99 15 0) 99 14 (-1)) 99 13 0).2.2 99 11 = some 1 := sRs w 99 11 (some 1)
  have e13 : ((sI (sI (sI (sI (sI (sI (sR w 99 11 (some 1)) 99 0 0) 99 10 0) 99 17 (-1)) 99 15 0) 99 14 (-1)) 99 13 0).1 99 13).toInt = 0 := by rw [sI_same]; exact i_0
  have e14 : (sI (sI (sI (sI (sI (sI (sR w 99 11 (some 1)) 99 0 0) 99 10 0) 99 17 (-1)) 99 15 0) 99 14 (-1)) 99 13 0).1 99 14 = -1 := by rw [sI_ne _ _ _ _ _ (by decide), sI_same]
  have e15 : ((sI (sI (sI (sI (sI (sI (sR w 99 11 (some 1)) 99 0 0) 99 10 0) 99 17 (-1)) 99 15 0) 99 14 (-1)) 99 13 0).1 99 15).toInt = 0 := by rw [sI_ne _ _ _ _ _ (by decide), sI_ne _ _ _ _ _ (by decide), sI_same]; exact i_0
  have e17 : ((sI (sI (sI (sI (sI (sI (sR w 99 11 (some 1)) 99 0 0) 99 10 0) 99 17 (-1)) 99 15 0) 99 14 (-1)) 99 13 0).1 99 17).toInt = -1 := by rw [sI_ne _ _ _ _ _ (by decide), sI_ne _ _ _ _ _ (by decide), sI_ne _ _ _ _ _ (by decide), sI_same]; exact i_m1
  have e10 : ((sI (sI (sI (sI (sI (sI (sR w 99 11 (some 1)) 99 0 0) 99 10 0) 99 17 (-1)) 99 15 0) 99 14 (-1)) 99 13 0).1 99 10).toInt = 0 := by rw [sI_ne _ _ _ _ _ (by decide), sI_ne _ _ _ _ _ (by decide), sI_ne _ _ _ _ _ (by decide), sI_ne _ _ _ _ _ (by decide), sI_same]; exact i_0
  have e0 : ((sI (sI (sI (sI (sI (sI (sR w 99 11 (some 1)) 99 0 0) 99 10 0) 99 17 (-1)) 99 15 0) 99 14 (-1)) 99 13 0).1 99 0).toInt = 0 := by rw [sI_ne _ _ _ _ _ (by decide), sI_ne _ _ _ _ _ (by decide), sI_ne _ _ _ _ _ (by decide), sI_ne _ _ _ _ _ (by decide), sI_ne _ _ _ _ _ (by decide), sI_same]; exact i_0
  generalize (sI (sI (sI (sI (sI (sI (sR w 99 11 (some 1)) 99 0 0) 99 10 0) 99 17 (-1)) 99 15 0) 99 14 (-1)) 99 13 0) = z at *
  have cz := cf_n F0 rfl
  have bz := bd_1_2 B0
  refine nw_x B0 r0 e13 bz.1 (fun w1 B1 F1 a1 b1 c1 => ?_)
  have cn1 := cf_n F1 rfl
  have S1 : WSt w1 0 := by
    refine ⟨?_, ?_, ?_, ((F1 99 11 rfl).2.2).trans r0⟩
    · rw [cn1.1, cn1.2]
      exact a1
    · rw [cn1.1, cn1.2]
      exact b1
    · rw [c1, e14]
      decide
  have R1 : RosC w1 [] := ⟨by rw [(F1 99 0 rfl).1]; exact e0, ⟨by rw [(F1 99 10 rfl).1]; exact e10, fun j x q => (by cases q)⟩, by rw [(F1 99 15 rfl).1]; exact e15, fun r x q => (by cases q)⟩
  have cc : cf w1 = cf w ∧ w1.1 1 2 = w.1 1 2 := ⟨cn1.1.trans cz.1, cn1.2.trans cz.2⟩
  refine rd_41 (w0 := w1) (fun w' r rs' B' F' k q => ?_) FU w1 [] 0 B1 (FR.refl _ w1) S1 (by rw [(F1 99 17 rfl).1]; omega) (by omega) R1 (by decide) (Nat.zero_le _) (fun r x hk => hk) (fu_lt (by decide))
  rw [cc.1, cc.2] at k
  exact hQ _ w' r rs' B' ((F0.tr F1 rfl).tr F' rfl) k q
/-! the reference cuts a text into words -/
def MT (w : MW) (f : Int → Int) (n : Int) : Prop := ∀ p : Nat, (p : Int) < n → (w.1 148 p).toInt = f p
def WC (w : MW) (f : Int → Int) (n : Int) (W : Nat) : Prop := (w.1 147 4).toInt = (W : Int) ∧ W ≤ 4000 ∧ ∀ j : Nat, j < W → (w.1 149 j).toInt = wat f n j ∧ (w.1 150 j).toInt = wnd f n j ∧ wat f n j < n
theorem i1n : ¬ (1 : Int32).toInt = 0 := by decide
theorem sg_x {w : MW} {c : Int32} {Q : Int32 → MW → Prop} (h1 : mrk c.toInt = true → Q 1 w) (h0 : mrk c.toInt = false → Q 0 w) : p_Mr_isSign w c Q :=
  Eq.mpr (p_Mr_isSign.eq_1 _ _ _) ⟨fun d => h1 (mrk_t (Or.inl d)), fun d => ⟨fun d2 => h1 (mrk_t (Or.inr (Or.inl d2))), fun d2 => ⟨fun d3 => h0 (mrk_f d d2 d3), fun d3 => h1 (mrk_t (Or.inr (Or.inr (Classical.not_not.mp d3))))⟩⟩⟩
theorem mq_53 {w : MW} {f : Int → Int} {n T : Int} {b : Int32} {E : Int32 → MW → Prop} {Q : MW → Prop} (hs : (w.1 147 1).toInt = n) (n4 : n ≤ 4000) (hM : MT w f n) (hb : mrk b.toInt = false) (hE : ∀ x : Int32, x.toInt = T → E x w) (m : Nat) : ∀ x : Int32, 0 ≤ x.toInt → x.toInt ≤ n → rnw f n 4001 x.toInt = T → (n - x.toInt).toNat < m → q_Mr_cut_53 b E Q m x w := by
  induction m with
  | zero => intros; omega
  | succ m ih =>
    intro x x0 x1 hT hm
    rw [q_Mr_cut_53.eq_2]
    refine sg_x (fun z => absurd (hb.symm.trans z) (by decide)) (fun _ => ⟨fun z => absurd i_0 z, fun _ => ⟨fun c => hE x ?_, fun c => ?_⟩⟩)
    · rw [hs] at c
      rw [rnw_n 4001 (fun z => by have := z.1; omega)] at hT
      exact hT
    · rw [hs] at c
      have ev := hM x.toInt.toNat (by omega)
      rw [show ((x.toInt.toNat : Nat) : Int) = x.toInt by omega] at ev
      have bx : 0 ≤ x.toInt ∧ x.toInt < 4020 := by omega
      rw [ev]
      refine ⟨bx, fun d => hE x ?_, fun d => ⟨bx, fun d2 => hE x ?_, fun d2 => ⟨bx, sg_x (fun q => ⟨fun _ => hE x ?_, fun z => absurd i1n z⟩) (fun q => ⟨fun z => absurd i_0 z, fun _ => ?_⟩)⟩⟩⟩
      · rw [rnw_n 4001 (fun z => by rw [blk_t (Or.inl d)] at z; exact absurd z.2.1 (by decide))] at hT
        exact hT
      · rw [rnw_n 4001 (fun z => by rw [blk_t (Or.inr d2)] at z; exact absurd z.2.1 (by decide))] at hT
        exact hT
      · rw [ev] at q
        rw [rnw_n 4001 (fun z => by rw [q] at z; exact absurd z.2.2 (by decide))] at hT
        exact hT
      · rw [ev] at q
        have s := ti_add2 (Eq.refl x.toInt) i_1 (by omega) (by omega)
        refine ih _ (by omega) (by omega) ?_ (by omega)
        rw [s, ← rnw_1 (by omega) ⟨by omega, blk_f d d2, q⟩]
        exact hT
theorem mq_53s {w : MW} {b : Int32} {E : Int32 → MW → Prop} {Q : MW → Prop} (hb : mrk b.toInt = true) {x : Int32} (hE : E x w) (m : Nat) (hm : 0 < m) : q_Mr_cut_53 b E Q m x w := by
  cases m with
  | zero => omega
  | succ m =>
    rw [q_Mr_cut_53.eq_2]
    exact sg_x (fun _ => ⟨fun _ => hE, fun z => absurd i1n z⟩) (fun z => absurd (z.symm.trans hb) (by decide))
theorem mq_in {w : MW} {f : Int → Int} {n : Int} {b x : Int32} {E : Int32 → MW → Prop} {Q : MW → Prop} (hs : (w.1 147 1).toInt = n) (x0 : 0 ≤ x.toInt) (hx : x.toInt < n) (n4 : n ≤ 4000) (hM : MT w f n) (hb : b.toInt = f x.toInt) (nb : blk (f x.toInt) = false) (hE : ∀ y : Int32, y.toInt = wen f n x.toInt → E y w) : q_Mr_cut_53 b E Q FU (x + (1 : Int32)) w := by
  have s := ti_add2 (Eq.refl x.toInt) i_1 (by omega) (by omega)
  by_cases q : mrk (f x.toInt) = true
  · have er : rnw f n 4001 x.toInt = x.toInt := rnw_n 4001 (fun z => by rw [q] at z; exact absurd z.2.2 (by decide))
    have ew : wen f n x.toInt = x.toInt + 1 := by unfold wen; rw [if_pos ⟨er, hx⟩]
    exact mq_53s (by rw [hb]; exact q) (hE _ (by rw [s, ew])) FU (fu_lt (by decide))
  · have q' : mrk (f x.toInt) = false := by
      cases e : mrk (f x.toInt) with
      | true => exact absurd e q
      | false => rfl
    have er : rnw f n 4001 x.toInt = rnw f n 4001 (x.toInt + 1) := rnw_1 (by omega) ⟨hx, nb, q'⟩
    have b := rnw_b f n 4001 (x.toInt + 1)
    have ew : wen f n x.toInt = rnw f n 4001 (x.toInt + 1) := by
      unfold wen
      rw [if_neg (fun z => by have := z.1; omega)]
      exact er
    exact mq_53 (T := rnw f n 4001 (x.toInt + 1)) hs n4 hM (by rw [hb]; exact q') (fun y hy => hE y (by rw [hy, ew])) FU _ (by omega) (by omega) (by rw [s]) (Nat.lt_of_le_of_lt (show _ ≤ 4000 by omega) (fu_lt (by decide)))
def lct : Pl := [(147, some 4), (149, none), (150, none)]
theorem mq_7 {w0 : MW} {f : Int → Int} {n : Int} {E Q : MW → Prop} (n0 : 0 ≤ n) (n4 : n ≤ 4000) (hs : (w0.1 147 1).toInt = n) (hM : MT w0 f n) (hE : ∀ w' W, FR lct w0 w' → WC w' f n W → wat f n W = n → E w') (m : Nat) : ∀ (W : Nat) (x : Int32) (w : MW), FR lct w0 w → WC w f n W → 0 ≤ x.toInt → x.toInt ≤ n → skp f n 4001 x.toInt = wat f n W → (n - x.toInt).toNat < m → q_Mr_cut_7 E Q m x w := by
  induction m with
  | zero => intros; omega
  | succ m ih =>
    intro W x w hF hW x0 x1 hT hm
    have es : (w.1 147 1).toInt = n := by rw [(hF 147 1 rfl).1]; exact hs
    have hMw : MT w f n := fun p hp => by rw [(hF 148 p rfl).1]; exact hM p hp
    rw [q_Mr_cut_7.eq_2]
    refine ⟨fun c => ?_, fun c => ?_⟩
    · rw [es] at c
      rw [skp_n 4001 (fun z => by have := z.1; omega)] at hT
      exact hE w W hF hW (by omega)
    rw [es] at c
    have ev := hMw x.toInt.toNat (by omega)
    rw [show ((x.toInt.toNat : Nat) : Int) = x.toInt by omega] at ev
    have s := ti_add2 (Eq.refl x.toInt) i_1 (by omega) (by omega)
    have blank : blk (f x.toInt) = true → q_Mr_cut_7 E Q m (x + (1 : Int32)) w := fun d => by
      refine ih W _ w hF hW (by omega) (by omega) ?_ (by omega)
      rw [s, ← skp_1 (by omega) ⟨by omega, d⟩]
      exact hT
    rw [ev]
    refine ⟨⟨x0, by omega⟩, fun d => blank (blk_t (Or.inl d)), fun d => ⟨fun d2 => ?_, fun d2 => blank (blk_t (Or.inr (Classical.not_not.mp d2)))⟩⟩
    have nb := blk_f d d2
    have hx : wat f n W = x.toInt := by
      rw [skp_n 4001 (fun z => by rw [nb] at z; exact absurd z.2 (by decide))] at hT
      exact hT.symm
    have iw := wat_i (f := f) n0 W (by omega)
    have bW : 0 ≤ (w.1 147 4).toInt ∧ (w.1 147 4).toInt < 4021 := by rw [hW.1]; omega
    have eW : (w.1 147 4).toInt.toNat = W := by rw [hW.1]; omega
    refine ⟨bW, ?_⟩
    rw [eW]
    have F1 : FR lct w0 (sI w 149 W x) := FR.I hF rfl
    refine mq_in (f := f) (n := n) ?_ x0 (by omega) n4 ?_ ev nb (fun y hy => ?_)
    · rw [sI_oth _ _ _ _ _ _ (by decide)]
      exact es
    · exact fun p hp => by rw [sI_oth _ _ _ _ _ _ (by decide)]; exact hMw p hp
    have e4 : (sI w 149 W x).1 147 4 = w.1 147 4 := sI_oth _ _ _ _ _ _ (by decide)
    show (0 ≤ ((sI w 149 W x).1 147 4).toInt ∧ ((sI w 149 W x).1 147 4).toInt < 4021) ∧ _
    rw [e4, eW]
    have s4 := ti_add2 hW.1 i_1 (by omega) (by omega)
    have wb := wat_s (f := f) n0 W
    have w4 := wb.2.2.2 (by omega)
    have hy' : y.toInt = wnd f n W := by rw [hy, ← hx]; rfl
    refine ⟨bW, ih (W + 1) y _ (FR.I (FR.I F1 rfl) rfl) ⟨by rw [sI_same, s4]; omega, by omega, fun j hj => ?_⟩ (by omega) (by omega) (by rw [hy']; rfl) (by omega)⟩
    by_cases q : j = W
    · rw [q]
      refine ⟨?_, ?_, ?_⟩
      · rw [sI_oth _ _ _ _ _ _ (by decide), sI_oth _ _ _ _ _ _ (by decide), sI_same]
        exact hx.symm
      · rw [sI_oth _ _ _ _ _ _ (by decide), sI_same]
        exact hy'
      · omega
    · have t := hW.2.2 j (by omega)
      refine ⟨?_, ?_, t.2.2⟩
      · rw [sI_oth _ _ _ _ _ _ (by decide), sI_oth _ _ _ _ _ _ (by decide), sI_ne _ _ _ _ _ q]
        exact t.1
      · rw [sI_oth _ _ _ _ _ _ (by decide), sI_ne _ _ _ _ _ q, sI_oth _ _ _ _ _ _ (by decide)]
        exact t.2.1
theorem mq_cut {w : MW} {f : Int → Int} {n : Int} {Q : MW → Prop} (n0 : 0 ≤ n) (n4 : n ≤ 4000) (hs : (w.1 147 1).toInt = n) (hM : MT w f n) (hQ : ∀ w' W, FR lct w w' → WC w' f n W → wat f n W = n → Q w') : p_Mr_cut w Q := by
  refine Eq.mpr (p_Mr_cut.eq_1 _ _) ?_
  have F0 : FR lct w (sI w 147 4 0) := FR.I (FR.refl _ w) rfl
  exact mq_7 (w0 := w) n0 n4 hs hM hQ FU 0 0 _ F0 ⟨by rw [sI_same]; exact i_0, Nat.zero_le _, fun j hj => absurd hj (Nat.not_lt_zero j)⟩ (by decide) (by rw [i_0]; exact n0) (by rw [i_0]; rfl) (Nat.lt_of_le_of_lt (show _ ≤ 4000 by rw [i_0]; omega) (fu_lt (by decide)))
/-! the reference looks at its word -/
def TXW (f : Int → Int) (n : Int) (W : Nat) : Prop := 0 ≤ n ∧ n ≤ 4000 ∧ wat f n W = n
def MS (w : MW) (f : Int → Int) (n : Int) (W i : Nat) : Prop := MT w f n ∧ WC w f n W ∧ (w.1 147 5).toInt = (i : Int) ∧ i ≤ W
theorem wat_e {f : Int → Int} {n : Int} {W : Nat} (n0 : 0 ≤ n) (h : wat f n W = n) : ∀ d : Nat, wat f n (W + d) = n ∧ wnd f n (W + d) = n := by
  intro d
  induction d with
  | zero =>
    have s := wat_s (f := f) n0 W
    exact ⟨h, by show wnd f n W = n; omega⟩
  | succ d ih =>
    have s := wat_s (f := f) n0 (W + d)
    have b := wat_b (f := f) n0 (W + d + 1)
    have s2 := wat_s (f := f) n0 (W + d + 1)
    have e1 : wat f n (W + d + 1) = n := by omega
    exact ⟨e1, by show wnd f n (W + d + 1) = n; omega⟩
/-- a word that is wide is one of the words -/
theorem lt_W {f : Int → Int} {n : Int} {W i : Nat} (hT : TXW f n W) (h : 0 < wnd f n i - wat f n i) : i < W := by
  by_cases q : W ≤ i
  · have e := wat_e hT.1 hT.2.2 (i - W)
    rw [show W + (i - W) = i by omega] at e
    omega
  · omega
def atv (f : Int → Int) (n : Int) (i : Nat) (a : Int) : Int := if wat f n i + a < wnd f n i then f (wat f n i + a) else 0
theorem mat {w : MW} {f : Int → Int} {n : Int} {W i : Nat} {a : Int32} {A : Int} {Q : Int32 → MW → Prop} (hT : TXW f n W) (h : MS w f n W i) (ha : a.toInt = A) (a0 : 0 ≤ A) (a1 : A ≤ 10000) (hQ : ∀ r : Int32, r.toInt = atv f n i A → Q r w) : p_Mr_at w a Q := by
  have e5 := h.2.2.1
  have e4 := h.2.1.1
  refine Eq.mpr (p_Mr_at.eq_1 _ _ _) ⟨fun c => ?_, fun c => ?_⟩
  · rw [e4, e5] at c
    refine Eq.mpr (q_Mr_at_28.eq_1 _ _ _) ⟨fun _ => hQ 0 ?_, fun z => ?_⟩
    · have e := wat_e hT.1 hT.2.2 (i - W)
      rw [show W + (i - W) = i by omega] at e
      unfold atv
      rw [if_neg (by omega)]
      exact i_0
    · rw [e4, e5] at z
      omega
  · rw [e4, e5] at c
    have iW : i < W := by omega
    have q := h.2.1.2.2 i iW
    have W4 := h.2.1.2.1
    have n4 := hT.2.1
    have ei : (w.1 147 5).toInt.toNat = i := by rw [e5]; omega
    have b5 : 0 ≤ (w.1 147 5).toInt ∧ (w.1 147 5).toInt < 4021 := by rw [e5]; omega
    have wb := wat_b (f := f) hT.1 i
    have ws := wat_s (f := f) hT.1 i
    rw [ei]
    have s := ti_add2 q.1 ha (by omega) (by omega)
    refine ⟨b5, Eq.mpr (q_Mr_at_28.eq_1 _ _ _) ⟨fun z => ?_, fun _ => ⟨b5, ?_⟩⟩⟩
    · rw [e4, e5] at z
      omega
    · rw [ei, q.2.1, s]
      refine ⟨fun d => hQ 0 ?_, fun d => ⟨⟨by omega, by omega⟩, hQ _ ?_⟩⟩
      · unfold atv
        rw [if_neg (by omega)]
        exact i_0
      · have m := h.1 (wat f n i + A).toNat (by omega)
        rw [show (((wat f n i + A).toNat : Nat) : Int) = wat f n i + A by omega] at m
        unfold atv
        rw [if_pos (by omega)]
        exact m
theorem mwd {w : MW} {f : Int → Int} {n : Int} {W i : Nat} {Q : Int32 → MW → Prop} (hT : TXW f n W) (h : MS w f n W i) (hQ : ∀ r : Int32, r.toInt = wnd f n i - wat f n i → Q r w) : p_Mr_wide w Q := by
  have e5 := h.2.2.1
  have e4 := h.2.1.1
  refine Eq.mpr (p_Mr_wide.eq_1 _ _) ⟨fun c => hQ 0 ?_, fun c => ?_⟩
  · rw [e4, e5] at c
    have e := wat_e hT.1 hT.2.2 (i - W)
    rw [show W + (i - W) = i by omega] at e
    rw [i_0]
    omega
  · rw [e4, e5] at c
    have q := h.2.1.2.2 i (by omega)
    have W4 := h.2.1.2.1
    have n4 := hT.2.1
    have ei : (w.1 147 5).toInt.toNat = i := by rw [e5]; omega
    have b5 : 0 ≤ (w.1 147 5).toInt ∧ (w.1 147 5).toInt < 4021 := by rw [e5]; omega
    have wb := wat_b (f := f) hT.1 i
    have ws := wat_s (f := f) hT.1 i
    rw [ei]
    exact ⟨b5, b5, hQ _ (ti_sub2 q.2.1 q.1 (by omega) (by omega))⟩
/-! a word, letter by letter -/
def lsA (f : Int → Int) (n : Int) (i : Nat) : List Int → Int → Prop
  | [], _ => True
  | c :: l, a => atv f n i a = c ∧ lsA f n i l (a + 1)
theorem tk_c {f : Int → Int} {c : Int} {l : List Int} {p : Int} : (tks f (c :: l) p).1 = true ↔ f p = c ∧ (tks f l (p + 1)).1 = true := by
  have u : tks f (c :: l) p = if f p = c then tks f l (p + 1) else (false, p) := rfl
  rw [u]
  by_cases q : f p = c
  · rw [if_pos q]
    exact ⟨fun h => ⟨q, h⟩, fun h => h.2⟩
  · rw [if_neg q]
    exact ⟨fun h => absurd (show false = true from h) (by decide), fun h => absurd h.1 q⟩
theorem ls_t {f : Int → Int} {n : Int} {i : Nat} : ∀ (l : List Int) (a : Int), wat f n i + a + (l.length : Int) ≤ wnd f n i → ((tks f l (wat f n i + a)).1 = true ↔ lsA f n i l a) := by
  intro l
  induction l with
  | nil => exact fun a _ => ⟨fun _ => trivial, fun _ => rfl⟩
  | cons c l ih =>
    intro a ha
    have hl : ((c :: l).length : Int) = (l.length : Int) + 1 := by rw [List.length_cons]; omega
    rw [hl] at ha
    have e : atv f n i a = f (wat f n i + a) := by unfold atv; rw [if_pos (by omega)]
    have I := ih (a + 1) (by omega)
    rw [tk_c]
    show _ ↔ atv f n i a = c ∧ lsA f n i l (a + 1)
    rw [e, ← I, Int.add_assoc]
theorem wq_at {f : Int → Int} {n : Int} {i : Nat} {l : List Int} : wq f n i l = true ↔ wnd f n i - wat f n i = (l.length : Int) ∧ lsA f n i l 0 := by
  unfold wq
  rw [Bool.and_eq_true, decide_eq_true_iff]
  constructor
  · intro h
    have := (ls_t (f := f) (n := n) (i := i) l 0 (by omega))
    rw [Int.add_zero] at this
    exact ⟨h.1, this.mp h.2⟩
  · intro h
    have := (ls_t (f := f) (n := n) (i := i) l 0 (by omega))
    rw [Int.add_zero] at this
    exact ⟨h.1, this.mpr h.2⟩
theorem nwq {f : Int → Int} {n : Int} {i : Nat} {l : List Int} (h : ¬ (wq f n i l = true)) : wq f n i l = false := by
  cases e : wq f n i l with
  | true => exact absurd e h
  | false => rfl
theorem wq_1 {f : Int → Int} {n : Int} {i : Nat} {a : Int} : wq f n i [a] = true ↔ (wnd f n i - wat f n i = 1 ∧ atv f n i 0 = a) := by
  rw [wq_at]
  exact ⟨fun h => ⟨h.1, h.2.1⟩, fun h => ⟨h.1, h.2, trivial⟩⟩
theorem wq_2 {f : Int → Int} {n : Int} {i : Nat} {a b : Int} : wq f n i [a, b] = true ↔ (wnd f n i - wat f n i = 2 ∧ atv f n i 0 = a ∧ atv f n i 1 = b) := by
  rw [wq_at]
  exact ⟨fun h => ⟨h.1, h.2.1, h.2.2.1⟩, fun h => ⟨h.1, h.2.1, h.2.2, trivial⟩⟩
theorem wq_3 {f : Int → Int} {n : Int} {i : Nat} {a b c : Int} : wq f n i [a, b, c] = true ↔ (wnd f n i - wat f n i = 3 ∧ atv f n i 0 = a ∧ atv f n i 1 = b ∧ atv f n i 2 = c) := by
  rw [wq_at]
  exact ⟨fun h => ⟨h.1, h.2.1, h.2.2.1, h.2.2.2.1⟩, fun h => ⟨h.1, h.2.1, h.2.2.1, h.2.2.2, trivial⟩⟩
theorem wq_4 {f : Int → Int} {n : Int} {i : Nat} {a b c d : Int} : wq f n i [a, b, c, d] = true ↔ (wnd f n i - wat f n i = 4 ∧ atv f n i 0 = a ∧ atv f n i 1 = b ∧ atv f n i 2 = c ∧ atv f n i 3 = d) := by
  rw [wq_at]
  exact ⟨fun h => ⟨h.1, h.2.1, h.2.2.1, h.2.2.2.1, h.2.2.2.2.1⟩, fun h => ⟨h.1, h.2.1, h.2.2.1, h.2.2.2.1, h.2.2.2.2, trivial⟩⟩
theorem wq_7 {f : Int → Int} {n : Int} {i : Nat} {a b c d e g k : Int} : wq f n i [a, b, c, d, e, g, k] = true ↔ (wnd f n i - wat f n i = 7 ∧ atv f n i 0 = a ∧ atv f n i 1 = b ∧ atv f n i 2 = c ∧ atv f n i 3 = d ∧ atv f n i 4 = e ∧ atv f n i 5 = g ∧ atv f n i 6 = k) := by
  rw [wq_at]
  exact ⟨fun h => ⟨h.1, h.2.1, h.2.2.1, h.2.2.2.1, h.2.2.2.2.1, h.2.2.2.2.2.1, h.2.2.2.2.2.2.1, h.2.2.2.2.2.2.2.1⟩, fun h => ⟨h.1, h.2.1, h.2.2.1, h.2.2.2.1, h.2.2.2.2.1, h.2.2.2.2.2.1, h.2.2.2.2.2.2.1, h.2.2.2.2.2.2.2, trivial⟩⟩
theorem ltw_6 : ltr 6 3 = [98, 97, 114] := by decide +kernel
theorem ltw_7 : ltr 7 4 = [119, 104, 101, 110] := by decide +kernel
theorem ltw_8 : ltr 8 3 = [110, 111, 116] := by decide +kernel
theorem ltw_9 : ltr 9 1 = [40] := by decide +kernel
theorem ltw_10 : ltr 10 1 = [41] := by decide +kernel
theorem ltw_11 : ltr 11 3 = [97, 110, 100] := by decide +kernel
theorem ltw_12 : ltr 12 2 = [111, 114] := by decide +kernel
theorem ltw_13 : ltr 13 3 = [102, 111, 114] := by decide +kernel
theorem ltw_14 : ltr 14 7 = [108, 97, 116, 99, 104, 101, 100] := by decide +kernel
theorem ltw_15 : ltr 15 1 = [59] := by decide +kernel
theorem b_2 : ((2 : Int32)).toInt = 2 := by decide
theorem b_3 : ((3 : Int32)).toInt = 3 := by decide
theorem b_4 : ((4 : Int32)).toInt = 4 := by decide
theorem b_5 : ((5 : Int32)).toInt = 5 := by decide
theorem b_6 : ((6 : Int32)).toInt = 6 := by decide
theorem b_7 : ((7 : Int32)).toInt = 7 := by decide
theorem mone {w : MW} {f : Int → Int} {n : Int} {W i : Nat} {a : Int32} {A : Int} {Q : Int32 → MW → Prop} (hT : TXW f n W) (h : MS w f n W i) (ha : a.toInt = A) (h1 : wq f n i [A] = true → Q 1 w) (h0 : wq f n i [A] = false → Q 0 w) : p_Mr_isOne w a Q := by
  subst ha
  refine Eq.mpr (p_Mr_isOne.eq_1 _ _ _) (mwd hT h (fun r er => ⟨fun q => h0 (nwq (fun t => ?_)), fun q => mat hT h i_0 (by decide) (by decide) (fun r0 e0 => ⟨fun q0 => h0 (nwq (fun t => ?_)), fun q0 => h1 (wq_1.mpr ?_)⟩)⟩))
  · have T := wq_1.mp t
    omega
  · have T := wq_1.mp t
    omega
  · omega
theorem mis2 {w : MW} {f : Int → Int} {n : Int} {W i : Nat} {a b c d e g k : Int32} {A B : Int} {Q : Int32 → MW → Prop} (hT : TXW f n W) (h : MS w f n W i) (ha : a.toInt = A) (hb : b.toInt = B) (h1 : wq f n i [A, B] = true → Q 1 w) (h0 : wq f n i [A, B] = false → Q 0 w) : p_Mr_is w a b c d e g k 2 Q := by
  subst ha hb
  refine Eq.mpr (p_Mr_is.eq_1 _ _ _ _ _ _ _ _ _ _) (mwd hT h (fun r er => ⟨fun q => h0 (nwq (fun t => ?_)), fun q => mat hT h i_0 (by decide) (by decide) (fun r0 e0 => ⟨fun q0 => h0 (nwq (fun t => ?_)), fun q0 => mat hT h i_1 (by decide) (by decide) (fun r1 e1 => ⟨fun q1 => h0 (nwq (fun t => ?_)), fun q1 => ⟨fun _ => ⟨fun _ => Eq.mpr (q_Mr_is_58.eq_1 _ _ _ _ _ _) ⟨fun _ => ⟨fun _ => Eq.mpr (q_Mr_is_91.eq_1 _ _ _ _) ⟨fun _ => h1 (wq_2.mpr ?_), fun z => absurd (by decide) z⟩, fun z => absurd (by decide) z⟩, fun z => absurd (by decide) z⟩, fun z => absurd (by decide) z⟩, fun z => absurd (by decide) z⟩⟩)⟩)⟩))
  · have T := wq_2.mp t
    rw [b_2] at q
    omega
  · have T := wq_2.mp t
    omega
  · have T := wq_2.mp t
    omega
  · rw [b_2] at q
    omega
theorem mis3 {w : MW} {f : Int → Int} {n : Int} {W i : Nat} {a b c d e g k : Int32} {A B C : Int} {Q : Int32 → MW → Prop} (hT : TXW f n W) (h : MS w f n W i) (ha : a.toInt = A) (hb : b.toInt = B) (hc : c.toInt = C) (h1 : wq f n i [A, B, C] = true → Q 1 w) (h0 : wq f n i [A, B, C] = false → Q 0 w) : p_Mr_is w a b c d e g k 3 Q := by
  subst ha hb hc
  refine Eq.mpr (p_Mr_is.eq_1 _ _ _ _ _ _ _ _ _ _) (mwd hT h (fun r er => ⟨fun q => h0 (nwq (fun t => ?_)), fun q => mat hT h i_0 (by decide) (by decide) (fun r0 e0 => ⟨fun q0 => h0 (nwq (fun t => ?_)), fun q0 => mat hT h i_1 (by decide) (by decide) (fun r1 e1 => ⟨fun q1 => h0 (nwq (fun t => ?_)), fun q1 => ⟨fun z => absurd z (by decide), fun _ => mat hT h b_2 (by decide) (by decide) (fun r2 e2 => ⟨fun q2 => h0 (nwq (fun t => ?_)), fun q2 => ⟨fun _ => Eq.mpr (q_Mr_is_58.eq_1 _ _ _ _ _ _) ⟨fun _ => ⟨fun _ => Eq.mpr (q_Mr_is_91.eq_1 _ _ _ _) ⟨fun _ => h1 (wq_3.mpr ?_), fun z => absurd (by decide) z⟩, fun z => absurd (by decide) z⟩, fun z => absurd (by decide) z⟩, fun z => absurd (by decide) z⟩⟩)⟩⟩)⟩)⟩))
  · have T := wq_3.mp t
    rw [b_3] at q
    omega
  · have T := wq_3.mp t
    omega
  · have T := wq_3.mp t
    omega
  · have T := wq_3.mp t
    omega
  · rw [b_3] at q
    omega
theorem mis4 {w : MW} {f : Int → Int} {n : Int} {W i : Nat} {a b c d e g k : Int32} {A B C D : Int} {Q : Int32 → MW → Prop} (hT : TXW f n W) (h : MS w f n W i) (ha : a.toInt = A) (hb : b.toInt = B) (hc : c.toInt = C) (hd : d.toInt = D) (h1 : wq f n i [A, B, C, D] = true → Q 1 w) (h0 : wq f n i [A, B, C, D] = false → Q 0 w) : p_Mr_is w a b c d e g k 4 Q := by
  subst ha hb hc hd
  refine Eq.mpr (p_Mr_is.eq_1 _ _ _ _ _ _ _ _ _ _) (mwd hT h (fun r er => ⟨fun q => h0 (nwq (fun t => ?_)), fun q => mat hT h i_0 (by decide) (by decide) (fun r0 e0 => ⟨fun q0 => h0 (nwq (fun t => ?_)), fun q0 => mat hT h i_1 (by decide) (by decide) (fun r1 e1 => ⟨fun q1 => h0 (nwq (fun t => ?_)), fun q1 => ⟨fun z => absurd z (by decide), fun _ => mat hT h b_2 (by decide) (by decide) (fun r2 e2 => ⟨fun q2 => h0 (nwq (fun t => ?_)), fun q2 => ⟨fun z => absurd z (by decide), fun _ => mat hT h b_3 (by decide) (by decide) (fun r3 e3 => ⟨fun q3 => h0 (nwq (fun t => ?_)), fun q3 => Eq.mpr (q_Mr_is_58.eq_1 _ _ _ _ _ _) ⟨fun _ => ⟨fun _ => Eq.mpr (q_Mr_is_91.eq_1 _ _ _ _) ⟨fun _ => h1 (wq_4.mpr ?_), fun z => absurd (by decide) z⟩, fun z => absurd (by decide) z⟩, fun z => absurd (by decide) z⟩⟩)⟩⟩)⟩⟩)⟩)⟩))
  · have T := wq_4.mp t
    rw [b_4] at q
    omega
  · have T := wq_4.mp t
    omega
  · have T := wq_4.mp t
    omega
  · have T := wq_4.mp t
    omega
  · have T := wq_4.mp t
    omega
  · rw [b_4] at q
    omega
theorem mis7 {w : MW} {f : Int → Int} {n : Int} {W i : Nat} {a b c d e g k : Int32} {A B C D X Y Z : Int} {Q : Int32 → MW → Prop} (hT : TXW f n W) (h : MS w f n W i) (ha : a.toInt = A) (hb : b.toInt = B) (hc : c.toInt = C) (hd : d.toInt = D) (hx : e.toInt = X) (hy : g.toInt = Y) (hz : k.toInt = Z) (h1 : wq f n i [A, B, C, D, X, Y, Z] = true → Q 1 w) (h0 : wq f n i [A, B, C, D, X, Y, Z] = false → Q 0 w) : p_Mr_is w a b c d e g k 7 Q := by
  subst ha hb hc hd hx hy hz
  refine Eq.mpr (p_Mr_is.eq_1 _ _ _ _ _ _ _ _ _ _) (mwd hT h (fun r er => ⟨fun q => h0 (nwq (fun t => ?_)), fun q => mat hT h i_0 (by decide) (by decide) (fun r0 e0 => ⟨fun q0 => h0 (nwq (fun t => ?_)), fun q0 => mat hT h i_1 (by decide) (by decide) (fun r1 e1 => ⟨fun q1 => h0 (nwq (fun t => ?_)), fun q1 => ⟨fun z => absurd z (by decide), fun _ => mat hT h b_2 (by decide) (by decide) (fun r2 e2 => ⟨fun q2 => h0 (nwq (fun t => ?_)), fun q2 => ⟨fun z => absurd z (by decide), fun _ => mat hT h b_3 (by decide) (by decide) (fun r3 e3 => ⟨fun q3 => h0 (nwq (fun t => ?_)), fun q3 => Eq.mpr (q_Mr_is_58.eq_1 _ _ _ _ _ _) ⟨fun z => absurd z (by decide), fun _ => mat hT h b_4 (by decide) (by decide) (fun r4 e4 => ⟨fun q4 => h0 (nwq (fun t => ?_)), fun q4 => ⟨fun z => absurd z (by decide), fun _ => mat hT h b_5 (by decide) (by decide) (fun r5 e5 => ⟨fun q5 => h0 (nwq (fun t => ?_)), fun q5 => Eq.mpr (q_Mr_is_91.eq_1 _ _ _ _) ⟨fun z => absurd z (by decide), fun _ => mat hT h b_6 (by decide) (by decide) (fun r6 e6 => ⟨fun q6 => h0 (nwq (fun t => ?_)), fun q6 => h1 (wq_7.mpr ?_)⟩)⟩⟩)⟩⟩)⟩⟩)⟩⟩)⟩⟩)⟩)⟩))
  · have T := wq_7.mp t
    rw [b_7] at q
    omega
  · have T := wq_7.mp t
    omega
  · have T := wq_7.mp t
    omega
  · have T := wq_7.mp t
    omega
  · have T := wq_7.mp t
    omega
  · have T := wq_7.mp t
    omega
  · have T := wq_7.mp t
    omega
  · have T := wq_7.mp t
    omega
  · rw [b_7] at q
    omega
/-! the reference's numbers, conditions, acts -/
theorem atv_in {f : Int → Int} {n : Int} {i : Nat} {a : Int} (h : wat f n i + a < wnd f n i) : atv f n i a = f (wat f n i + a) := by
  unfold atv
  rw [if_pos h]
theorem b_10 : ((10 : Int32)).toInt = 10 := by decide
theorem b_48 : ((48 : Int32)).toInt = 48 := by decide
theorem mnb_42 {w : MW} {f : Int → Int} {n : Int} {W i : Nat} {m r1 : Int32} {T S : Int} {D : Nat} {E Q : Int32 → MW → Prop} (hT : TXW f n W) (h : MS w f n W i) (s0 : 0 ≤ S) (s1 : S ≤ 1) (d4 : D ≤ 4) (hr : r1.toInt = S + (D : Int)) (hL : wnd f n i - wat f n i = S + (D : Int)) (hE : ∀ v : Int32, v.toInt = T → E v w) (hQ : T = -1 → Q (-1) w) (k : Nat) : ∀ (j : Nat) (v x : Int32), j ≤ D → x.toInt = S + (j : Int) → 0 ≤ v.toInt → v.toInt < 10 ^ j → dgv f (D - j) (wat f n i + S + (j : Int)) v.toInt = T → D - j < k → q_Mr_number_42 m r1 E Q k v x w := by
  induction k with
  | zero => intros; omega
  | succ k ih =>
    intro j v x hj hx v0 v1 hd hm
    have pw : (10 : Int) ^ j ≤ 10000 := by
      have : j = 0 ∨ j = 1 ∨ j = 2 ∨ j = 3 ∨ j = 4 := by omega
      rcases this with rfl | rfl | rfl | rfl | rfl <;> decide
    rw [q_Mr_number_42.eq_2]
    refine ⟨fun c => ?_, fun c => mat hT h hx (by omega) (by omega) (fun r er => ?_)⟩
    · rw [hr, hx] at c
      have e : D - j = 0 := by omega
      rw [e] at hd
      exact hE v hd
    · rw [hr, hx] at c
      have ev : atv f n i (S + (j : Int)) = f (wat f n i + S + (j : Int)) := by
        rw [atv_in (by omega), Int.add_assoc]
      rw [ev] at er
      obtain ⟨q, eq⟩ : ∃ q, D - j = q + 1 := ⟨D - j - 1, by omega⟩
      rw [eq, dgv_u] at hd
      refine ⟨fun d => hQ ?_, fun d => ⟨fun d2 => ?_, fun d2 => hQ ?_⟩⟩
      · rw [if_neg (by omega)] at hd
        exact hd.symm
      · rw [if_pos (by omega)] at hd
        have t1 := ti_mul2 b_10 (Eq.refl v.toInt) (by omega) (by omega)
        have t2 := ti_add2 t1 er (by omega) (by omega)
        have t3 := ti_sub2 t2 b_48 (by omega) (by omega)
        have pj : (10 : Int) ^ (j + 1) = 10 ^ j * 10 := Int.pow_succ 10 j
        have tx := ti_add2 hx i_1 (by omega) (by omega)
        refine ih (j + 1) _ _ (by omega) (by rw [tx]; omega) (by omega) (by omega) ?_ (by omega)
        rw [show D - (j + 1) = q by omega, show wat f n i + S + ((j + 1 : Nat) : Int) = wat f n i + S + (j : Int) + 1 by omega, t3, show 10 * v.toInt + f (wat f n i + S + (j : Int)) - 48 = v.toInt * 10 + f (wat f n i + S + (j : Int)) - 48 by omega]
        exact hd
      · rw [if_neg (by omega)] at hd
        exact hd.symm
theorem mnb {w : MW} {f : Int → Int} {n : Int} {W i : Nat} {s m : Int32} {S M : Int} {Q : Int32 → MW → Prop} (hT : TXW f n W) (h : MS w f n W i) (hs : s.toInt = S) (s0 : 0 ≤ S) (s1 : S ≤ 1) (hm : m.toInt = M) (m0 : 0 ≤ M) (hQ : ∀ r : Int32, r.toInt = nbv f n i S M → Q r w) : p_Mr_number w s m Q := by
  have wb := wat_b (f := f) hT.1 i
  have ws := wat_s (f := f) hT.1 i
  have n4 := hT.2.1
  unfold nbv at hQ
  have x4 := ti_add2 hs b_4 (by omega) (by omega)
  have x1 := ti_add2 hs i_1 (by omega) (by omega)
  refine Eq.mpr (p_Mr_number.eq_1 _ _ _ _) (mwd hT h (fun r er => ?_))
  have bad : (wnd f n i - (wat f n i + S) < 1 ∨ 4 < wnd f n i - (wat f n i + S) ∨ (1 < wnd f n i - (wat f n i + S) ∧ f (wat f n i + S) = 48)) → Q (-1) w := fun c => hQ _ (by rw [if_pos c]; exact i_m1)
  have go : 1 ≤ wnd f n i - (wat f n i + S) → ¬ (1 < wnd f n i - (wat f n i + S) ∧ f (wat f n i + S) = 48) → q_Mr_number_27 s m r w Q := fun c1 c48 => by
    refine Eq.mpr (q_Mr_number_27.eq_1 _ _ _ _ _) ⟨fun c4 => ?_, fun c4 => bad (Or.inr (Or.inl (by rw [er, x4] at c4; omega)))⟩
    rw [er, x4] at c4
    have c : ¬ (wnd f n i - (wat f n i + S) < 1 ∨ 4 < wnd f n i - (wat f n i + S) ∨ (1 < wnd f n i - (wat f n i + S) ∧ f (wat f n i + S) = 48)) := fun z => by
      rcases z with z | z | z
      · omega
      · omega
      · exact c48 z
    rw [if_neg c] at hQ
    generalize eT : dgv f (wnd f n i - (wat f n i + S)).toNat (wat f n i + S) 0 = T at hQ
    have h1 : ∀ v : Int32, v.toInt = T → ((m.toInt < v.toInt → (Q (-1) w)) ∧ (¬ (m.toInt < v.toInt) → (Q v w))) := fun v hv => ⟨fun q => hQ _ (by rw [if_pos (by omega)]; exact i_m1), fun q => hQ _ (by rw [if_neg (by omega)]; exact hv)⟩
    have h2 : T = -1 → Q (-1) w := fun q => hQ _ (by rw [if_neg (by omega), q]; exact i_m1)
    refine mnb_42 (D := (wnd f n i - (wat f n i + S)).toNat) (T := T) hT h s0 s1 (by omega) (by omega) (by omega) h1 h2 FU 0 0 s (Nat.zero_le _) (by rw [hs]; omega) (by decide) (by decide) ?_ (Nat.lt_of_le_of_lt (show _ ≤ 4 by omega) (fu_lt (by decide)))
    rw [i_0, Nat.sub_zero, show wat f n i + S + ((0 : Nat) : Int) = wat f n i + S by omega]
    exact eT
  refine ⟨fun c => bad (Or.inl (by rw [er, hs] at c; omega)), fun c => mat hT h hs s0 (by omega) (fun r3 e3 => ?_)⟩
  rw [er, hs] at c
  rw [atv_in (by omega)] at e3
  refine ⟨fun d => go (by omega) (fun z => d (by rw [e3]; exact z.2)), fun d => ⟨fun d2 => bad (Or.inr (Or.inr ⟨by rw [x1, er] at d2; omega, by rw [← e3]; exact Classical.not_not.mp d⟩)), fun d2 => go (by omega) (fun z => d2 (by rw [x1, er]; have := z.1; omega))⟩⟩
theorem nbv_0 {f : Int → Int} {n : Int} {i : Nat} {s m : Int} (h : wnd f n i - (wat f n i + s) < 1) : nbv f n i s m = -1 := by
  unfold nbv
  rw [if_pos (Or.inl h)]
theorem ltq {f : Int → Int} {n : Int} {i : Nat} {c m : Int} (hc : ¬ 0 = c) : (atv f n i 0 = c → (if f (wat f n i) = c then nbv f n i 1 m else -1) = nbv f n i 1 m) ∧ (¬ atv f n i 0 = c → (if f (wat f n i) = c then nbv f n i 1 m else -1) = -1) := by
  have e : atv f n i 0 = if wat f n i < wnd f n i then f (wat f n i) else 0 := by
    unfold atv
    rw [Int.add_zero]
  rw [e]
  by_cases q : wat f n i < wnd f n i
  · rw [if_pos q]
    exact ⟨fun h => by rw [if_pos h], fun h => by rw [if_neg h]⟩
  · rw [if_neg q]
    refine ⟨fun h => absurd h hc, fun _ => ?_⟩
    rw [nbv_0 (by omega)]
    by_cases z : f (wat f n i) = c
    · rw [if_pos z]
    · rw [if_neg z]
theorem b_15 : ((15 : Int32)).toInt = 15 := by decide
theorem b_31 : ((31 : Int32)).toInt = 31 := by decide
theorem mcn {w : MW} {f : Int → Int} {n : Int} {W i : Nat} {Q : Int32 → MW → Prop} (hT : TXW f n W) (h : MS w f n W i) (hQ : ∀ r : Int32, r.toInt = cnw f n i → Q r w) : p_Mr_conditionWord w Q := by
  unfold cnw at hQ
  have L := ltq (f := f) (n := n) (i := i) (c := 99) (m := 15) (by decide)
  refine Eq.mpr (p_Mr_conditionWord.eq_1 _ _) (mat hT h i_0 (by decide) (by decide) (fun r er => ⟨fun q => hQ _ ?_, fun q => mnb hT h i_1 (by decide) (by decide) b_15 (by decide) (fun r3 e3 => hQ r3 ?_)⟩))
  · rw [er] at q
    rw [L.2 q]
    exact i_m1
  · rw [er] at q
    rw [L.1 (Classical.not_not.mp q)]
    exact e3
theorem mac {w : MW} {f : Int → Int} {n : Int} {W i : Nat} {Q : Int32 → MW → Prop} (hT : TXW f n W) (h : MS w f n W i) (hQ : ∀ r : Int32, r.toInt = actw f n i → Q r w) : p_Mr_act0 w Q := by
  unfold actw at hQ
  have L := ltq (f := f) (n := n) (i := i) (c := 97) (m := 31) (by decide)
  refine Eq.mpr (p_Mr_act0.eq_1 _ _) (mat hT h i_0 (by decide) (by decide) (fun r er => ⟨fun q => hQ _ ?_, fun q => mnb hT h i_1 (by decide) (by decide) b_31 (by decide) (fun r3 e3 => hQ r3 ?_)⟩))
  · rw [er] at q
    rw [L.2 q]
    exact i_m1
  · rw [er] at q
    rw [L.1 (Classical.not_not.mp q)]
    exact e3
/-! nodes, trees in postorder -/
theorem b_3000 : ((3000 : Int32)).toInt = 3000 := by decide
def lnd : Pl := [(147, some 11), (151, none), (152, none), (153, none)]
/-- w' is w with node N made at x -/
def ND (w w' : MW) (H : Int) (N : Nat) (x a b c : Int32) : Prop := x.toInt = 3000 * (1 - H) + (N : Int) ∧ (w'.1 147 11).toInt = ((N + 1 : Nat) : Int) ∧ FR lnd w w' ∧ (∀ (p j : Nat), (p = 151 ∨ p = 152 ∨ p = 153) → ¬ (j : Int) = 3000 * (1 - H) + (N : Int) → w'.1 p j = w.1 p j) ∧ w'.1 151 x.toInt.toNat = a ∧ w'.1 152 x.toInt.toNat = b ∧ w'.1 153 x.toInt.toNat = c
theorem mnd {w : MW} {H : Int} {N : Nat} {a b c : Int32} {Q : Int32 → MW → Prop} (hH : (w.1 147 12).toInt = H) (h01 : H = 0 ∨ H = 1) (hN : (w.1 147 11).toInt = (N : Int)) (N1 : N < 3000) (hQ : ∀ (x : Int32) (w' : MW), ND w w' H N x a b c → Q x w') : p_Mr_node w a b c Q := by
  have e1 := ti_sub2 i_1 hH (by omega) (by omega)
  have e2 := ti_mul2 b_3000 e1 (by omega) (by omega)
  have e3 := ti_add2 e2 hN (by omega) (by omega)
  have e4 := ti_add2 hN i_1 (by omega) (by omega)
  have bb : 0 ≤ (((3000 : Int32) * ((1 : Int32) - (w.1 147 12))) + (w.1 147 11)).toInt ∧ (((3000 : Int32) * ((1 : Int32) - (w.1 147 12))) + (w.1 147 11)).toInt < 6000 := by rw [e3]; omega
  refine Eq.mpr (p_Mr_node.eq_1 _ _ _ _ _) ⟨bb, bb, bb, hQ _ _ ⟨e3, ?_, FR.I (FR.I (FR.I (FR.I (FR.refl _ w) rfl) rfl) rfl) rfl, fun p j hp hj => ?_, ?_, ?_, ?_⟩⟩
  · rw [sI_same, e4]
    omega
  · have hq : j ≠ (((3000 : Int32) * ((1 : Int32) - (w.1 147 12))) + (w.1 147 11)).toInt.toNat := fun z => by
      rw [e3] at z
      omega
    rcases hp with rfl | rfl | rfl
    · rw [sI_oth _ _ _ _ _ _ (by decide), sI_oth _ _ _ _ _ _ (by decide), sI_oth _ _ _ _ _ _ (by decide), sI_ne _ _ _ _ _ hq]
    · rw [sI_oth _ _ _ _ _ _ (by decide), sI_oth _ _ _ _ _ _ (by decide), sI_ne _ _ _ _ _ hq, sI_oth _ _ _ _ _ _ (by decide)]
    · rw [sI_oth _ _ _ _ _ _ (by decide), sI_ne _ _ _ _ _ hq, sI_oth _ _ _ _ _ _ (by decide), sI_oth _ _ _ _ _ _ (by decide)]
  · rw [sI_oth _ _ _ _ _ _ (by decide), sI_oth _ _ _ _ _ _ (by decide), sI_oth _ _ _ _ _ _ (by decide), sI_same]
  · rw [sI_oth _ _ _ _ _ _ (by decide), sI_oth _ _ _ _ _ _ (by decide), sI_same]
  · rw [sI_oth _ _ _ _ _ _ (by decide), sI_same]
/-- the tree at node x, read in postorder; its nodes lie from lo to x -/
def TRe (w : MW) (lo : Int) : Nat → Int → List Int → Prop
  | 0, _, _ => False
  | k + 1, x, l => lo ≤ x ∧ ((0 ≤ (w.1 151 x.toNat).toInt ∧ (w.1 151 x.toNat).toInt ≤ 15 ∧ l = [(w.1 151 x.toNat).toInt]) ∨ ((w.1 151 x.toNat).toInt = 16 ∧ (w.1 152 x.toNat).toInt < x ∧ ∃ l1, TRe w lo k (w.1 152 x.toNat).toInt l1 ∧ l = l1 ++ [16]) ∨ (((w.1 151 x.toNat).toInt = 17 ∨ (w.1 151 x.toNat).toInt = 18) ∧ (w.1 152 x.toNat).toInt < x ∧ (w.1 153 x.toNat).toInt < x ∧ ∃ l1 l2, TRe w lo k (w.1 152 x.toNat).toInt l1 ∧ TRe w lo k (w.1 153 x.toNat).toInt l2 ∧ l = l1 ++ l2 ++ [(w.1 151 x.toNat).toInt]))
theorem TRe_u (w : MW) (lo : Int) (k : Nat) (x : Int) (l : List Int) : TRe w lo (k + 1) x l = (lo ≤ x ∧ ((0 ≤ (w.1 151 x.toNat).toInt ∧ (w.1 151 x.toNat).toInt ≤ 15 ∧ l = [(w.1 151 x.toNat).toInt]) ∨ ((w.1 151 x.toNat).toInt = 16 ∧ (w.1 152 x.toNat).toInt < x ∧ ∃ l1, TRe w lo k (w.1 152 x.toNat).toInt l1 ∧ l = l1 ++ [16]) ∨ (((w.1 151 x.toNat).toInt = 17 ∨ (w.1 151 x.toNat).toInt = 18) ∧ (w.1 152 x.toNat).toInt < x ∧ (w.1 153 x.toNat).toInt < x ∧ ∃ l1 l2, TRe w lo k (w.1 152 x.toNat).toInt l1 ∧ TRe w lo k (w.1 153 x.toNat).toInt l2 ∧ l = l1 ++ l2 ++ [(w.1 151 x.toNat).toInt]))) := rfl
theorem tr_lo {w : MW} {lo : Int} {k : Nat} {x : Int} {l : List Int} (h : TRe w lo k x l) : lo ≤ x := by
  cases k with
  | zero => exact False.elim h
  | succ k =>
    rw [TRe_u] at h
    exact h.1
theorem tr_fr {w w' : MW} {lo : Int} : ∀ (k : Nat) (x : Int) (l : List Int), TRe w lo k x l → (∀ (c j : Nat), (c = 151 ∨ c = 152 ∨ c = 153) → lo ≤ (j : Int) → (j : Int) ≤ x → w'.1 c j = w.1 c j) → 0 ≤ lo → TRe w' lo k x l := by
  intro k
  induction k with
  | zero => exact fun x l h _ _ => h
  | succ k ih =>
    intro x l h hf h0
    rw [TRe_u] at h ⊢
    have hx := h.1
    have e1 := hf 151 x.toNat (Or.inl rfl) (by omega) (by omega)
    have e2 := hf 152 x.toNat (Or.inr (Or.inl rfl)) (by omega) (by omega)
    have e3 := hf 153 x.toNat (Or.inr (Or.inr rfl)) (by omega) (by omega)
    rw [e1, e2, e3]
    refine ⟨hx, ?_⟩
    rcases h.2 with h | ⟨a, b, l1, h1, el⟩ | ⟨a, b, c, l1, l2, h1, h2, el⟩
    · exact Or.inl h
    · exact Or.inr (Or.inl ⟨a, b, l1, ih _ _ h1 (fun c j hc j0 j1 => hf c j hc j0 (by omega)) h0, el⟩)
    · exact Or.inr (Or.inr ⟨a, b, c, l1, l2, ih _ _ h1 (fun c j hc j0 j1 => hf c j hc j0 (by omega)) h0, ih _ _ h2 (fun c j hc j0 j1 => hf c j hc j0 (by omega)) h0, el⟩)
theorem tr_s {w : MW} {lo : Int} : ∀ (k : Nat) (x : Int) (l : List Int), TRe w lo k x l → TRe w lo (k + 1) x l := by
  intro k
  induction k with
  | zero => exact fun x l h => False.elim h
  | succ k ih =>
    intro x l h
    rw [TRe_u] at h ⊢
    refine ⟨h.1, ?_⟩
    rcases h.2 with h | ⟨a, b, l1, h1, el⟩ | ⟨a, b, c, l1, l2, h1, h2, el⟩
    · exact Or.inl h
    · exact Or.inr (Or.inl ⟨a, b, l1, ih _ _ h1, el⟩)
    · exact Or.inr (Or.inr ⟨a, b, c, l1, l2, ih _ _ h1, ih _ _ h2, el⟩)
theorem tr_le {w : MW} {lo : Int} {k k' : Nat} {x : Int} {l : List Int} (h : TRe w lo k x l) (hk : k ≤ k') : TRe w lo k' x l := by
  induction hk with
  | refl => exact h
  | step _ ih => exact tr_s _ _ _ ih
theorem tr_low {w : MW} {lo lo' : Int} (hl : lo' ≤ lo) : ∀ (k : Nat) (x : Int) (l : List Int), TRe w lo k x l → TRe w lo' k x l := by
  intro k
  induction k with
  | zero => exact fun x l h => h
  | succ k ih =>
    intro x l h
    rw [TRe_u] at h ⊢
    refine ⟨by have := h.1; omega, ?_⟩
    rcases h.2 with h | ⟨a, b, l1, h1, el⟩ | ⟨a, b, c, l1, l2, h1, h2, el⟩
    · exact Or.inl h
    · exact Or.inr (Or.inl ⟨a, b, l1, ih _ _ h1, el⟩)
    · exact Or.inr (Or.inr ⟨a, b, c, l1, l2, ih _ _ h1, ih _ _ h2, el⟩)
/-! the reference reads a condition: its tree in postorder is what SP tells -/
def lmr : Pl := [(147, some 5), (147, some 6), (147, some 7), (147, some 11), (151, none), (152, none), (153, none)]
theorem ms_fr {l : Pl} {w w' : MW} {f : Int → Int} {n : Int} {W i i' : Nat} (h : MS w f n W i) (hF : FR l w w') (ho : off l [(147, some 4), (148, none), (149, none), (150, none)] = true) (e : (w'.1 147 5).toInt = (i' : Int)) (hi : i' ≤ W) : MS w' f n W i' :=
  ⟨fun p hp => by rw [(hF 148 p (off_hit ho rfl)).1]; exact h.1 p hp, ⟨by rw [(hF 147 4 (off_hit ho rfl)).1]; exact h.2.1.1, h.2.1.2.1, fun j hj => by rw [(hF 149 j (off_hit ho rfl)).1, (hF 150 j (off_hit ho rfl)).1]; exact h.2.1.2.2 j hj⟩, e, hi⟩
def ES (w : MW) (f : Int → Int) (n : Int) (W : Nat) (H : Int) (N o t i : Nat) : Prop := MS w f n W i ∧ (w.1 147 12).toInt = H ∧ (w.1 147 11).toInt = (N : Int) ∧ (w.1 147 6).toInt = (o : Int) ∧ (w.1 147 7).toInt = (t : Int)
def OU (w : MW) (f : Int → Int) (n : Int) (W : Nat) (H : Int) (N o : Nat) (c : List Int) (i : Nat) (res : Bool × List Int × Nat × Nat) (r : Int32) (w' : MW) : Prop := MS w' f n W res.2.2.2 ∧ FR lmr w w' ∧ ∃ N' : Nat, (w'.1 147 11).toInt = (N' : Int) ∧ N ≤ N' ∧ N' + lwn f n i ≤ N + lwn f n res.2.2.2 ∧ (∀ (p j : Nat), (p = 151 ∨ p = 152 ∨ p = 153) → ((j : Int) < 3000 * (1 - H) + (N : Int) ∨ 3000 * (1 - H) + (N' : Int) ≤ (j : Int)) → w'.1 p j = w.1 p j) ∧ (res.1 = true → (w'.1 147 6).toInt = (o : Int) ∧ (w'.1 147 7).toInt = (res.2.2.1 : Int) ∧ res.2.2.1 ≤ 32 ∧ ∃ l k, res.2.1 = c ++ l ∧ TRe w' (3000 * (1 - H) + (N : Int)) k r.toInt l ∧ r.toInt < 3000 * (1 - H) + (N' : Int)) ∧ (res.1 = false → r.toInt < 0)
def PMr (md : Nat) (X : MW → (Int32 → MW → Prop) → Prop) (dn d : Nat) : Prop := ∀ (w : MW) (f : Int → Int) (n : Int) (W : Nat) (H : Int) (N o t i : Nat) (c : List Int) (Q : Int32 → MW → Prop), TXW f n W → (H = 0 ∨ H = 1) → ES w f n W H N o t i → o ≤ 20 → t ≤ 32 → N ≤ lwn f n i → 3 * (20 - o) + dn ≤ d → (∀ res r w', (∃ k, SP f n k md o c t i res) → OU w f n W H N o c i res r w' → Q r w') → X w Q
theorem nt {b : Bool} (h : b = false) : ¬ (b = true) := fun z => absurd (h.symm.trans z) (by decide)
theorem sp_not {f : Int → Int} {n : Int} {k o : Nat} {c : List Int} {t i : Nat} {r1 : Bool × List Int × Nat × Nat} (q : wq f n i (ltr 8 3) = true) (ho : ¬ o = 20) (h : SP f n k 0 (o + 1) c t (i + 1) r1) : SP f n (k + 1) 0 o c t i (if r1.1 = true then (true, r1.2.1 ++ [16], r1.2.2.1, r1.2.2.2) else r1) := by
  rw [SP0, if_pos q, if_neg ho]
  exact ⟨r1, h, rfl⟩
theorem sp_f1 {f : Int → Int} {n : Int} {o : Nat} {c : List Int} {t i : Nat} (q : wq f n i (ltr 8 3) = true) (ho : o = 20) : SP f n 1 0 o c t i (rsF i) := by
  rw [SP0, if_pos q, if_pos ho]
theorem sp_f2 {f : Int → Int} {n : Int} {o : Nat} {c : List Int} {t i : Nat} (q : wq f n i (ltr 8 3) = false) (q2 : wq f n i (ltr 9 1) = true) (ho : o = 20) : SP f n 1 0 o c t i (rsF i) := by
  rw [SP0, if_neg (nt q), if_pos q2, if_pos ho]
theorem sp_par {f : Int → Int} {n : Int} {k o : Nat} {c : List Int} {t i : Nat} {r1 : Bool × List Int × Nat × Nat} (q : wq f n i (ltr 8 3) = false) (q2 : wq f n i (ltr 9 1) = true) (ho : ¬ o = 20) (h : SP f n k 2 (o + 1) c t (i + 1) r1) : SP f n (k + 1) 0 o c t i (if r1.1 = true then (if wq f n r1.2.2.2 (ltr 10 1) = true then (true, r1.2.1, r1.2.2.1, r1.2.2.2 + 1) else rsF r1.2.2.2) else r1) := by
  rw [SP0, if_neg (nt q), if_pos q2, if_neg ho]
  exact ⟨r1, h, rfl⟩
theorem sp_con {f : Int → Int} {n : Int} {o : Nat} {c : List Int} {t i : Nat} (q : wq f n i (ltr 8 3) = false) (q2 : wq f n i (ltr 9 1) = false) : SP f n 1 0 o c t i (if cnw f n i < 0 ∨ t = 32 then rsF i else (true, c ++ [cnw f n i], t + 1, i + 1)) := by
  rw [SP0, if_neg (nt q), if_neg (nt q2)]
theorem cnw_b {f : Int → Int} {n : Int} {i : Nat} : cnw f n i ≤ 15 ∧ (¬ cnw f n i < 0 → 2 ≤ wnd f n i - wat f n i) := by
  unfold cnw
  by_cases q : f (wat f n i) = 99
  · rw [if_pos q]
    exact ⟨nbv_b (by decide), fun z => by have := nbv_p z; omega⟩
  · rw [if_neg q]
    exact ⟨by decide, fun z => absurd (by decide) z⟩
theorem tin {x y : Int32} {a : Int} (hx : x.toInt = a) (hy : y.toInt = 0) (h1 : -2147483648 ≤ a) (h2 : a ≤ 2147483647) : (x + y).toInt = a := by
  rw [ti_add2 hx hy (by omega) (by omega)]
  omega
/-- what a failed reading leaves -/
theorem ou_no {w w' : MW} {f : Int → Int} {n : Int} {W : Nat} {H : Int} {N o N' : Nat} {c : List Int} {i j : Nat} {r : Int32} (m : MS w' f n W j) (F : FR lmr w w') (e : (w'.1 147 11).toInt = (N' : Int)) (hn : N ≤ N') (hl : N' + lwn f n i ≤ N + lwn f n j) (hk : ∀ (p j : Nat), (p = 151 ∨ p = 152 ∨ p = 153) → ((j : Int) < 3000 * (1 - H) + (N : Int) ∨ 3000 * (1 - H) + (N' : Int) ≤ (j : Int)) → w'.1 p j = w.1 p j) (hr : r.toInt < 0) (res : Bool × List Int × Nat × Nat) (h1 : res.1 = false) (h2 : res.2.2.2 = j) : OU w f n W H N o c i res r w' := by
  subst h2
  exact ⟨m, F, N', e, hn, hl, hk, fun z => absurd (h1.symm.trans z) (by decide), fun _ => hr⟩
theorem mp_not {ra ro rp : MW → (Int32 → MW → Prop) → Prop} {d : Nat} (hP : PMr 0 rp 1 d) {w : MW} {f : Int → Int} {n : Int} {W : Nat} {H : Int} {N o t i : Nat} {c : List Int} {Q : Int32 → MW → Prop} (hT : TXW f n W) (h01 : H = 0 ∨ H = 1) (hS : ES w f n W H N o t i) (o2 : o ≤ 20) (t2 : t ≤ 32) (hN : N ≤ lwn f n i) (hd : 3 * (20 - o) + 1 ≤ d + 1) (q : wq f n i (ltr 8 3) = true) (hQ : ∀ res r w', (∃ k, SP f n k 0 o c t i res) → OU w f n W H N o c i res r w' → Q r w') : q_Mr_part_29 ra ro rp 1 w Q := by
  have q3 := q
  rw [ltw_8] at q3
  have wd := (wq_3.mp q3).1
  have iW := lt_W hT (show 0 < wnd f n i - wat f n i by omega)
  have W4 := hS.1.2.1.2.1
  have lwi := lw_l (f := f) (n := n) (i := i) (by omega)
  have mx := fun j => lw_max (f := f) hT.1 hT.2.1 j
  refine Eq.mpr (q_Mr_part_29.eq_1 _ _ _ _ _ _) ⟨fun c0 => ⟨fun z => absurd z i1n, fun _ => ?_⟩, fun c0 => ?_⟩
  · rw [hS.2.2.2.1] at c0
    have s5 := ti_add2 hS.1.2.2.1 i_1 (by omega) (by omega)
    have s6 := ti_add2 hS.2.2.2.1 i_1 (by omega) (by omega)
    have F1 : FR lmr w (sI (sI w 147 5 ((w.1 147 5) + (1 : Int32))) 147 6 ((w.1 147 6) + (1 : Int32))) := FR.I (FR.I (FR.refl _ w) rfl) rfl
    have r5 : ((sI (sI w 147 5 ((w.1 147 5) + (1 : Int32))) 147 6 ((w.1 147 6) + (1 : Int32))).1 147 5).toInt = ((i + 1 : Nat) : Int) := by
      rw [sI_ne _ _ _ _ _ (by decide), sI_same, s5]
      omega
    have r6 : ((sI (sI w 147 5 ((w.1 147 5) + (1 : Int32))) 147 6 ((w.1 147 6) + (1 : Int32))).1 147 6).toInt = ((o + 1 : Nat) : Int) := by
      rw [sI_same, s6]
      omega
    have ky : ∀ (p j : Nat), (p = 151 ∨ p = 152 ∨ p = 153) → (sI (sI w 147 5 ((w.1 147 5) + (1 : Int32))) 147 6 ((w.1 147 6) + (1 : Int32))).1 p j = w.1 p j := fun p j hp => by
      rw [sI_oth _ _ _ _ _ _ (by omega), sI_oth _ _ _ _ _ _ (by omega)]
    have r7 : ((sI (sI w 147 5 ((w.1 147 5) + (1 : Int32))) 147 6 ((w.1 147 6) + (1 : Int32))).1 147 7).toInt = (t : Int) := by
      rw [sI_ne _ _ _ _ _ (by decide), sI_ne _ _ _ _ _ (by decide)]
      exact hS.2.2.2.2
    have r11 : ((sI (sI w 147 5 ((w.1 147 5) + (1 : Int32))) 147 6 ((w.1 147 6) + (1 : Int32))).1 147 11).toInt = (N : Int) := by
      rw [sI_ne _ _ _ _ _ (by decide), sI_ne _ _ _ _ _ (by decide)]
      exact hS.2.2.1
    have r12 : ((sI (sI w 147 5 ((w.1 147 5) + (1 : Int32))) 147 6 ((w.1 147 6) + (1 : Int32))).1 147 12).toInt = H := by
      rw [sI_ne _ _ _ _ _ (by decide), sI_ne _ _ _ _ _ (by decide)]
      exact hS.2.1
    generalize (sI (sI w 147 5 ((w.1 147 5) + (1 : Int32))) 147 6 ((w.1 147 6) + (1 : Int32))) = w1 at *
    refine hP w1 f n W H N (o + 1) t (i + 1) c _ hT h01 ⟨ms_fr hS.1 F1 rfl r5 (by omega), r12, r11, r6, r7⟩ (by omega) t2 (by omega) (by omega) (fun res r w5 hk ou => ?_)
    obtain ⟨k, hk⟩ := hk
    have sp := sp_not q (by omega) hk
    obtain ⟨m5, F5, N5, e5, n5, l5, k5, ok, bad⟩ := ou
    have F05 : FR lmr w w5 := FR.tr F1 F5 rfl
    have K05 : ∀ (p j : Nat), (p = 151 ∨ p = 152 ∨ p = 153) → ((j : Int) < 3000 * (1 - H) + (N : Int) ∨ 3000 * (1 - H) + (N5 : Int) ≤ (j : Int)) → w5.1 p j = w.1 p j := fun p j hp hj => (k5 p j hp hj).trans (ky p j hp)
    have mr := mx res.2.2.2
    cases hb : res.1 with
    | false =>
      rw [if_neg (nt hb)] at sp
      exact Eq.mpr (q_Mr_part_75.eq_1 _ _ _ _ _ _ _) ⟨fun _ => hQ _ _ _ ⟨_, sp⟩ (ou_no m5 F05 e5 n5 (by omega) K05 (by decide) res hb rfl), fun z => absurd (bad hb) z⟩
    | true =>
      rw [if_pos hb] at sp
      obtain ⟨o5, t5, tb, l, kk, el, tr, rl⟩ := ok hb
      have r0 := tr_lo tr
      refine Eq.mpr (q_Mr_part_75.eq_1 _ _ _ _ _ _ _) ⟨fun z => absurd z (by omega), fun _ => ⟨fun _ => ⟨fun z => absurd z i1n, fun _ => ?_⟩, fun z => absurd i1n z⟩⟩
      refine Eq.mpr (q_Mr_part_109.eq_1 _ _ _ _ _ _ _ _ _) ⟨fun z => absurd z i1n, fun _ => ?_⟩
      have iR : res.2.2.2 ≤ W := m5.2.2.2
      have s7 := tin m5.2.2.1 i_0 (by omega) (by omega)
      have s8 := ti_sub2 o5 i_1 (by omega) (by omega)
      have F6 : FR lmr w (sI (sI w5 147 5 ((w5.1 147 5) + (0 : Int32))) 147 6 ((w5.1 147 6) - (1 : Int32))) := FR.I (FR.I F05 rfl) rfl
      have F56 : FR lmr w5 (sI (sI w5 147 5 ((w5.1 147 5) + (0 : Int32))) 147 6 ((w5.1 147 6) - (1 : Int32))) := FR.I (FR.I (FR.refl _ w5) rfl) rfl
      have v5 : ((sI (sI w5 147 5 ((w5.1 147 5) + (0 : Int32))) 147 6 ((w5.1 147 6) - (1 : Int32))).1 147 5).toInt = (res.2.2.2 : Int) := by
        rw [sI_ne _ _ _ _ _ (by decide), sI_same, s7]
      have v6 : ((sI (sI w5 147 5 ((w5.1 147 5) + (0 : Int32))) 147 6 ((w5.1 147 6) - (1 : Int32))).1 147 6).toInt = (o : Int) := by
        rw [sI_same, s8]
        omega
      have v7 : ((sI (sI w5 147 5 ((w5.1 147 5) + (0 : Int32))) 147 6 ((w5.1 147 6) - (1 : Int32))).1 147 7).toInt = (res.2.2.1 : Int) := by
        rw [sI_ne _ _ _ _ _ (by decide), sI_ne _ _ _ _ _ (by decide)]
        exact t5
      have v11 : ((sI (sI w5 147 5 ((w5.1 147 5) + (0 : Int32))) 147 6 ((w5.1 147 6) - (1 : Int32))).1 147 11).toInt = (N5 : Int) := by
        rw [sI_ne _ _ _ _ _ (by decide), sI_ne _ _ _ _ _ (by decide)]
        exact e5
      have vy : ∀ (p j : Nat), (p = 151 ∨ p = 152 ∨ p = 153) → (sI (sI w5 147 5 ((w5.1 147 5) + (0 : Int32))) 147 6 ((w5.1 147 6) - (1 : Int32))).1 p j = w5.1 p j := fun p j hp => by
        rw [sI_oth _ _ _ _ _ _ (by omega), sI_oth _ _ _ _ _ _ (by omega)]
      generalize (sI (sI w5 147 5 ((w5.1 147 5) + (0 : Int32))) 147 6 ((w5.1 147 6) - (1 : Int32))) = w6 at *
      have v12 : (w6.1 147 12).toInt = H := by rw [(F6 147 12 rfl).1]; exact hS.2.1
      refine mnd v12 h01 v11 (by omega) (fun x w7 nd => hQ _ _ _ ⟨_, sp⟩ ?_)
      obtain ⟨ex, e7, F7, K7, x1, x2, x3⟩ := nd
      have F67 : FR lmr w w7 := FR.tr F6 F7 rfl
      have K57 : ∀ (p j : Nat), (p = 151 ∨ p = 152 ∨ p = 153) → ¬ (j : Int) = 3000 * (1 - H) + (N5 : Int) → w7.1 p j = w5.1 p j := fun p j hp hj => (K7 p j hp hj).trans (vy p j hp)
      refine ⟨ms_fr m5 (FR.tr F56 F7 rfl) rfl (by rw [(F7 147 5 rfl).1]; exact v5) iR, F67, N5 + 1, e7, by omega, by show N5 + 1 + lwn f n i ≤ N + lwn f n res.2.2.2; omega, fun p j hp hj => (K57 p j hp (by omega)).trans (K05 p j hp (by omega)), fun _ => ⟨by rw [(F7 147 6 rfl).1]; exact v6, by rw [(F7 147 7 rfl).1]; exact v7, tb, l ++ [16], kk + 1, by show res.2.1 ++ [16] = c ++ (l ++ [16]); rw [el, List.append_assoc], ?_, by omega⟩, fun z => absurd (show true = false from z) (by decide)⟩
      rw [TRe_u, x1, x2]
      exact ⟨by omega, Or.inr (Or.inl ⟨b16, by omega, l, tr_fr _ _ _ tr (fun p j hp j0 j1 => K57 p j hp (by omega)) (by omega), rfl⟩)⟩
  · have e20 : o = 20 := by
      have := Classical.not_not.mp c0
      rw [hS.2.2.2.1] at this
      omega
    exact hQ _ _ _ ⟨1, sp_f1 q e20⟩ (ou_no hS.1 (FR.refl _ w) hS.2.2.1 (Nat.le_refl _) (Nat.le_refl _) (fun _ _ _ _ => rfl) (by decide) (rsF i) rfl rfl)
