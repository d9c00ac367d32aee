/-! the class reads a row -/
/-- a row: its acts, its condition's codes, its seconds, whether it is latching -/
abbrev Rw : Type := List Int × List Int × Int × Bool
def rwF (i : Nat) : Bool × Rw × Nat := (false, ([], [], 0, false), i)
def rwT (f : Int → Int) (n : Int) (as c : List Int) (v : Int) (j : Nat) : Bool × Rw × Nat := if wq f n j (ltr 14 7) = true then (if wq f n (j + 1) (ltr 15 1) = true then (true, (as, c, v, true), j + 2) else rwF (j + 1)) else (if wq f n j (ltr 15 1) = true then (true, (as, c, v, false), j + 1) else rwF j)
/-- all codes of rows -/
def cds (rs : List Rw) : List Int := (rs.map (fun x => x.2.1)).flatten
theorem cds_s (rs : List Rw) (x : Rw) : cds (rs ++ [x]) = cds rs ++ x.2.1 := by
  unfold cds
  rw [List.map_append, List.flatten_append, List.map_cons, List.map_nil, List.flatten_cons, List.flatten_nil, List.append_nil]
/-- row r of the class -/
def RwC (w : MW) (r : Nat) (b : Nat) (x : Rw) : Prop := w.1 100 r = 0 ∧ w.1 101 r = 0 ∧ w.1 102 r = 0 ∧ BtS (w.1 103 r) x.1 ∧ (w.1 104 r).toInt = x.2.2.1 ∧ (w.1 105 r).toInt = (if x.2.2.2 = true then 1 else 0) ∧ (w.1 106 r).toInt = (b : Int) ∧ (w.1 106 (r + 1)).toInt = ((b + x.2.1.length : Nat) : Int)
/-- the class's rows -/
def RosC (w : MW) (rs : List Rw) : Prop := (w.1 99 0).toInt = (rs.length : Int) ∧ Cod w 0 (cds rs) ∧ (w.1 99 15).toInt = 0 ∧ ∀ (r : Nat) (x : Rw), rs[r]? = some x → RwC w r (cds (rs.take r)).length x
def lro : Pl := [(99, some 0), (99, some 10), (99, some 12), (99, some 13), (99, some 14), (99, some 15), (99, some 16), (99, some 17), (100, none), (101, none), (102, none), (103, none), (104, none), (105, none), (106, none), (107, none)]
/-- the row at place C as far as it was read, with the rows before it -/
def GS (w : MW) (rs : List Rw) (as c : List Int) (v : Int) (j : Nat) : Prop := WSt w j ∧ (w.1 99 17).toInt < 0 ∧ (w.1 99 15).toInt = 0 ∧ (w.1 99 0).toInt = (rs.length : Int) ∧ (∀ (r : Nat) (x : Rw), rs[r]? = some x → RwC w r (cds (rs.take r)).length x) ∧ w.1 100 rs.length = 0 ∧ w.1 101 rs.length = 0 ∧ w.1 102 rs.length = 0 ∧ BtS (w.1 103 rs.length) as ∧ (w.1 104 rs.length).toInt = v ∧ (w.1 106 rs.length).toInt = ((cds rs).length : Int) ∧ Cod w 0 (cds rs ++ c)
/-- rows stand where only later places were written -/
theorem roc_tr {w w' : MW} {rs : List Rw} (h : ∀ (r : Nat) (x : Rw), rs[r]? = some x → RwC w r (cds (rs.take r)).length x) (e : ∀ k j, 100 ≤ k → k ≤ 105 → j < rs.length → w'.1 k j = w.1 k j) (e6 : ∀ j, j ≤ rs.length → w'.1 106 j = w.1 106 j) : ∀ (r : Nat) (x : Rw), rs[r]? = some x → RwC w' r (cds (rs.take r)).length x := fun r x hx => by
  have lt := (List.getElem?_eq_some_iff.mp hx).1
  have g := h r x hx
  unfold RwC at *
  rw [e 100 r (by omega) (by omega) lt, e 101 r (by omega) (by omega) lt, e 102 r (by omega) (by omega) lt, e 103 r (by omega) (by omega) lt, e 104 r (by omega) (by omega) lt, e 105 r (by omega) (by omega) lt, e6 r (by omega), e6 (r + 1) (by omega)]
  exact g
/-! with something wrong -/
theorem b185 {w : MW} {i : Nat} {Q : MW → Prop} (hI : BND w) (h : WSt w i) (i5 : i ≤ 100000) (h17 : 0 ≤ (w.1 99 17).toInt) (hC : (w.1 99 0).toInt < 40) (hQ : ∀ w', BND w' → FR lro w w' → w'.1 99 17 = w.1 99 17 → Q w') : q_Ro_readRows99_185 w Q := by
  have b := bd_99_0 hI
  have b10 := bd_99_10 hI
  have s := ti_add2 (Eq.refl (w.1 99 0).toInt) i_1 (by omega) (by omega)
  refine Eq.mpr (q_Ro_readRows99_185.eq_1 _ _) (tkw_15 hI h i5 (fun z => by omega) (fun z => by omega) (fun _ => ⟨⟨by omega, by omega⟩, hQ _ (wbd_106 (wbd_99_0 hI (by omega) (by omega)) _ b10.1 b10.2) (FR.I (FR.I (FR.refl _ w) rfl) rfl) ?_⟩))
  rw [sI_oth _ _ _ _ _ _ (by decide), sI_ne _ _ _ _ _ (by decide)]
theorem b154 {w : MW} {i : Nat} {Q : MW → Prop} (hI : BND w) (h : WSt w i) (i5 : i ≤ 100000) (h17 : 0 ≤ (w.1 99 17).toInt) (hC : (w.1 99 0).toInt < 40) (hQ : ∀ w', BND w' → FR lro w w' → w'.1 99 17 = w.1 99 17 → Q w') : q_Ro_readRows99_154 w Q := by
  have b := bd_99_0 hI
  have gi : 0 ≤ (w.1 99 0).toInt ∧ (w.1 99 0).toInt < 40 := ⟨b.1, hC⟩
  refine Eq.mpr (q_Ro_readRows99_154.eq_1 _ _) (iss_14 hI h (fun z => by omega) (fun z => by omega) (fun _ => ⟨gi, gi, fun z => ?_, fun z => ?_⟩))
  · rw [nar0z]
    have F1 : FR [(105, none)] w (sI w 105 ((w.1 99 0).toInt.toNat) 0) := FR.I (FR.refl _ w) rfl
    have B1 : BND (sI w 105 ((w.1 99 0).toInt.toNat) 0) := wbd_105 hI _ (by decide) (by decide)
    generalize (sI w 105 ((w.1 99 0).toInt.toNat) 0) = w1 at *
    refine b185 B1 (wst_fr h F1 rfl) i5 (by rw [(F1 99 17 rfl).1]; exact h17) (by rw [(F1 99 0 rfl).1]; exact hC) (fun w' B' F' e' => hQ w' B' ((FR.tr (FR.refl _ w) F1 rfl).tr F' rfl) (e'.trans (F1 99 17 rfl).1))
  · rw [nar0z, sI_same] at z
    exact absurd i_0 z
theorem bfor {w : MW} {i : Nat} {Q : MW → Prop} (hI : BND w) (h : WSt w i) (i5 : i ≤ 100000) (h17 : 0 ≤ (w.1 99 17).toInt) (hC : (w.1 99 0).toInt < 40) (hQ : ∀ w', BND w' → FR lro w w' → w'.1 99 17 = w.1 99 17 → Q w') (R : Int32 → MW → Prop) (hR : q_Ro_readRows99_154 w Q → R 0 w) : p_Ro_iss99_2013 w R := iss_13 hI h (fun z => by omega) (fun z => by omega) (fun _ => hR (b154 hI h i5 h17 hC hQ))
/-! a row that goes well -/
theorem g185 {w : MW} {rs : List Rw} {as c : List Int} {v : Int} {j : Nat} {la : Bool} {Q : MW → Prop} (hI : BND w) (h : GS w rs as c v j) (i5 : j ≤ 50000) (c40 : rs.length < 40) (hl : (w.1 105 rs.length).toInt = if la = true then 1 else 0) (hc : (cds rs ++ c).length ≤ 1400) (h1 : wq (cf w) (w.1 1 2).toInt j (ltr 15 1) = true → ∀ w', BND w' → FR lro w w' → WSt w' (j + 1) → (w'.1 99 17).toInt < 0 → RosC w' (rs ++ [(as, c, v, la)]) → Q w') (h0 : wq (cf w) (w.1 1 2).toInt j (ltr 15 1) = false → ∀ w', BND w' → FR lro w w' → (w'.1 99 17).toInt = (j : Int) → Q w') : q_Ro_readRows99_185 w Q := by
  obtain ⟨hS, h17, h15, hC, hO, g0, g1, g2, g3, g4, g6, gc⟩ := h
  have b := bd_99_0 hI
  have s := ti_add2 hC i_1 (by omega) (by omega)
  refine Eq.mpr (q_Ro_readRows99_185.eq_1 _ _) (tkw_15 hI hS (by omega) (fun _ q w1 B1 F1 S1 => ?_) (fun _ q => ?_) (fun z => by omega))
  · have e0 : w1.1 99 0 = w.1 99 0 := (F1 99 0 rfl).1
    have b10 := bd_99_10 B1
    rw [e0]
    have n0 : ((w.1 99 0) + (1 : Int32)).toInt.toNat = rs.length + 1 := by omega
    have B2 : BND (sI (sI w1 99 0 ((w.1 99 0) + (1 : Int32))) 106 (((w.1 99 0) + (1 : Int32)).toInt.toNat) (w1.1 99 10)) := wbd_106 (wbd_99_0 B1 (by omega) (by omega)) _ b10.1 b10.2
    have F2 : FR [(99, some 0), (106, none)] w1 (sI (sI w1 99 0 ((w.1 99 0) + (1 : Int32))) 106 (((w.1 99 0) + (1 : Int32)).toInt.toNat) (w1.1 99 10)) := FR.I (FR.I (FR.refl _ w1) rfl) rfl
    have k0 : ((sI (sI w1 99 0 ((w.1 99 0) + (1 : Int32))) 106 (((w.1 99 0) + (1 : Int32)).toInt.toNat) (w1.1 99 10)).1 99 0).toInt = ((rs.length + 1 : Nat) : Int) := by
      rw [sI_oth _ _ _ _ _ _ (by decide), sI_same, s]
      rfl
    have k6 : ∀ t, (sI (sI w1 99 0 ((w.1 99 0) + (1 : Int32))) 106 (((w.1 99 0) + (1 : Int32)).toInt.toNat) (w1.1 99 10)).1 106 t = if t = rs.length + 1 then w1.1 99 10 else w1.1 106 t := fun t => by
      rw [sI_if, n0, sI_oth _ _ _ _ _ _ (by decide)]
    refine ⟨⟨by omega, by omega⟩, ?_⟩
    generalize (sI (sI w1 99 0 ((w.1 99 0) + (1 : Int32))) 106 (((w.1 99 0) + (1 : Int32)).toInt.toNat) (w1.1 99 10)) = w2 at *
    have G : FR lro w w2 := (FR.tr (FR.refl _ w) F1 rfl).tr F2 rfl
    have H : FR [(99, some 0), (99, some 12), (99, some 13), (99, some 14), (106, none)] w w2 := (FR.tr (FR.refl _ w) F1 rfl).tr F2 rfl
    have gc2 : Cod w2 0 (cds rs ++ c) := cod_fr gc H rfl
    have u10 : (w1.1 99 10).toInt = ((cds rs ++ c).length : Int) := by
      rw [(F1 99 10 rfl).1, gc.1]
      omega
    have e6 : ∀ t, t ≤ rs.length → w2.1 106 t = w.1 106 t := fun t ht => by
      rw [k6, if_neg (by omega), (F1 106 t rfl).1]
    refine h1 q w2 B2 G (wst_fr S1 F2 rfl) (by rw [(H 99 17 rfl).1]; exact h17) ⟨?_, ?_, ?_, fun r x hx => ?_⟩
    · rw [k0, List.length_append]
      rfl
    · rw [cds_s]
      exact gc2
    · rw [(H 99 15 rfl).1]
      exact h15
    · by_cases er : r = rs.length
      · rw [er, List.getElem?_append_right (Nat.le_refl _), Nat.sub_self] at hx
        have ex : (as, c, v, la) = x := Option.some.inj hx
        have et : (rs ++ [(as, c, v, la)]).take r = rs := by rw [er, List.take_left']; rfl
        rw [et, ← ex, er]
        refine ⟨by rw [(H 100 _ rfl).1]; exact g0, by rw [(H 101 _ rfl).1]; exact g1, by rw [(H 102 _ rfl).1]; exact g2, by rw [(H 103 _ rfl).1]; exact g3, by rw [(H 104 _ rfl).1]; exact g4, by rw [(H 105 _ rfl).1]; exact hl, by rw [e6 _ (Nat.le_refl _)]; exact g6, ?_⟩
        rw [k6, if_pos rfl, u10, List.length_append]
      · have l2 := (List.getElem?_eq_some_iff.mp hx).1
        rw [List.length_append] at l2
        have : ([(as, c, v, la)] : List Rw).length = 1 := rfl
        rw [List.getElem?_append_left (by omega)] at hx
        have et : (rs ++ [(as, c, v, la)]).take r = rs.take r := List.take_append_of_le_length (by omega)
        rw [et]
        exact roc_tr hO (fun k t k1 k2 _ => (H k t (by
          have : k = 100 ∨ k = 101 ∨ k = 102 ∨ k = 103 ∨ k = 104 ∨ k = 105 := by omega
          rcases this with rfl | rfl | rfl | rfl | rfl | rfl <;> rfl)).1) e6 r x hx
  · have F1 : FR [(99, some 17)] w (sI w 99 17 (w.1 99 14)) := FR.I (FR.refl _ w) rfl
    have B1 : BND (sI w 99 17 (w.1 99 14)) := wbd_99_17 hI
    have e1 : ((sI w 99 17 (w.1 99 14)).1 99 17).toInt = (j : Int) := by rw [sI_same]; exact hS.2.2.1
    generalize (sI w 99 17 (w.1 99 14)) = w1 at *
    have e0 : w1.1 99 0 = w.1 99 0 := (F1 99 0 rfl).1
    have b10 := bd_99_10 B1
    rw [e0]
    refine ⟨⟨by omega, by omega⟩, h0 q _ (wbd_106 (wbd_99_0 B1 (by omega) (by omega)) _ b10.1 b10.2) ((FR.tr (FR.refl _ w) F1 rfl).tr (FR.I (FR.I (FR.refl lro w1) rfl) rfl) rfl) ?_⟩
    rw [sI_oth _ _ _ _ _ _ (by decide), sI_ne _ _ _ _ _ (by decide)]
    exact e1
theorem nar1z : vp_nar .boolean (1 : Int32) = 1 := by decide
theorem g154 {w : MW} {rs : List Rw} {as c : List Int} {v : Int} {j : Nat} {Q : MW → Prop} (hI : BND w) (h : GS w rs as c v j) (i5 : j ≤ 40000) (c40 : rs.length < 40) (hc : (cds rs ++ c).length ≤ 1400) (hQ : ∀ w', BND w' → FR lro w w' → ((rwT (cf w) (w.1 1 2).toInt as c v j).1 = true → WSt w' (rwT (cf w) (w.1 1 2).toInt as c v j).2.2 ∧ (w'.1 99 17).toInt < 0 ∧ RosC w' (rs ++ [(rwT (cf w) (w.1 1 2).toInt as c v j).2.1])) → ((rwT (cf w) (w.1 1 2).toInt as c v j).1 = false → (w'.1 99 17).toInt = ((rwT (cf w) (w.1 1 2).toInt as c v j).2.2 : Int)) → Q w') : q_Ro_readRows99_154 w Q := by
  have h2 := h
  obtain ⟨hS, h17, h15, hC, hO, g0, g1, g2, g3, g4, g6, gc⟩ := h2
  have b := bd_99_0 hI
  have gi : 0 ≤ (w.1 99 0).toInt ∧ (w.1 99 0).toInt < 40 := ⟨b.1, by omega⟩
  have n0 : (w.1 99 0).toInt.toNat = rs.length := by omega
  -- the row with its mark
  have mk : ∀ y : Int32, 0 ≤ y.toInt → y.toInt ≤ 1 → BND (sI w 105 rs.length y) ∧ FR [(105, none)] w (sI w 105 rs.length y) ∧ GS (sI w 105 rs.length y) rs as c v j ∧ (sI w 105 rs.length y).1 105 rs.length = y := fun y y0 y1 => by
    have F : FR [(105, none)] w (sI w 105 rs.length y) := FR.I (FR.refl _ w) rfl
    refine ⟨wbd_105 hI _ y0 y1, F, ⟨wst_fr hS F rfl, by rw [(F 99 17 rfl).1]; exact h17, by rw [(F 99 15 rfl).1]; exact h15, by rw [(F 99 0 rfl).1]; exact hC, ?_, by rw [(F 100 _ rfl).1]; exact g0, by rw [(F 101 _ rfl).1]; exact g1, by rw [(F 102 _ rfl).1]; exact g2, by rw [(F 103 _ rfl).1]; exact g3, by rw [(F 104 _ rfl).1]; exact g4, by rw [(F 106 _ rfl).1]; exact g6, cod_fr gc F rfl⟩, sI_same _ _ _ _⟩
    refine roc_tr hO (fun k t k1 k2 lt => ?_) (fun t _ => (F 106 t rfl).1)
    by_cases e : k = 105
    · rw [e, sI_ne _ _ _ _ _ (by omega)]
    · exact (F k t (by
        have : k = 100 ∨ k = 101 ∨ k = 102 ∨ k = 103 ∨ k = 104 := by omega
        rcases this with rfl | rfl | rfl | rfl | rfl <;> rfl)).1
  refine Eq.mpr (q_Ro_readRows99_154.eq_1 _ _) (iss_14 hI hS (fun _ q => ⟨gi, gi, ?_, ?_⟩) (fun _ q => ⟨gi, gi, ?_, ?_⟩) (fun z => by omega))
  · intro z
    rw [nar1z, sI_same] at z
    exact absurd z (by decide)
  · intro _
    rw [nar1z, n0]
    have m := mk 1 (by decide) (by decide)
    generalize (sI w 105 rs.length 1) = w1 at *
    obtain ⟨B1, F1, G1, e1⟩ := m
    have cn := cf_n F1 rfl
    have ln := wq_len q
    rw [ltln] at ln
    refine nws B1 G1.1 (by omega) (fun w2 B2 F2 S2 => ?_)
    have cn2 := cf_n F2 rfl
    have G2 : GS w2 rs as c v (j + 1) := by
      obtain ⟨_, k17, k15, kC, kO, k0, k1, k2, k3, k4, k6, kc⟩ := G1
      exact ⟨S2, by rw [(F2 99 17 rfl).1]; exact k17, by rw [(F2 99 15 rfl).1]; exact k15, by rw [(F2 99 0 rfl).1]; exact kC, roc_tr kO (fun k t k1 k2 lt => (F2 k t (by
        have : k = 100 ∨ k = 101 ∨ k = 102 ∨ k = 103 ∨ k = 104 ∨ k = 105 := by omega
        rcases this with rfl | rfl | rfl | rfl | rfl | rfl <;> rfl)).1) (fun t _ => (F2 106 t rfl).1), by rw [(F2 100 _ rfl).1]; exact k0, by rw [(F2 101 _ rfl).1]; exact k1, by rw [(F2 102 _ rfl).1]; exact k2, by rw [(F2 103 _ rfl).1]; exact k3, by rw [(F2 104 _ rfl).1]; exact k4, by rw [(F2 106 _ rfl).1]; exact k6, cod_fr kc F2 rfl⟩
    have FF : FR lro w w2 := (FR.tr (FR.refl _ w) F1 rfl).tr F2 rfl
    refine g185 (la := true) B2 G2 (by omega) c40 (by rw [(F2 105 _ rfl).1, e1]; decide) hc (fun t w' B' F' S' n' R' => ?_) (fun t w' B' F' e' => ?_)
    · rw [cn2.1, cn2.2, cn.1, cn.2] at t
      have e : rwT (cf w) (w.1 1 2).toInt as c v j = (true, (as, c, v, true), j + 2) := by
        unfold rwT
        rw [if_pos q, if_pos t]
      rw [e] at hQ
      exact hQ w' B' (FF.tr F' rfl) (fun _ => ⟨S', n', R'⟩) (fun z => absurd (show true = false from z) (by decide))
    · rw [cn2.1, cn2.2, cn.1, cn.2] at t
      have e : rwT (cf w) (w.1 1 2).toInt as c v j = rwF (j + 1) := by
        unfold rwT
        rw [if_pos q, if_neg (by rw [t]; decide)]
      rw [e] at hQ
      exact hQ w' B' (FF.tr F' rfl) (fun z => absurd (show false = true from z) (by decide)) (fun _ => e')
  · intro _
    rw [nar0z, n0]
    have m := mk 0 (by decide) (by decide)
    generalize (sI w 105 rs.length 0) = w1 at *
    obtain ⟨B1, F1, G1, e1⟩ := m
    have cn := cf_n F1 rfl
    have FF : FR lro w w1 := FR.tr (FR.refl _ w) F1 rfl
    refine g185 (la := false) B1 G1 (by omega) c40 (by rw [e1]; decide) hc (fun t w' B' F' S' n' R' => ?_) (fun t w' B' F' e' => ?_)
    · rw [cn.1, cn.2] at t
      have e : rwT (cf w) (w.1 1 2).toInt as c v j = (true, (as, c, v, false), j + 1) := by
        unfold rwT
        rw [if_neg (by rw [q]; decide), if_pos t]
      rw [e] at hQ
      exact hQ w' B' (FF.tr F' rfl) (fun _ => ⟨S', n', R'⟩) (fun z => absurd (show true = false from z) (by decide))
    · rw [cn.1, cn.2] at t
      have e : rwT (cf w) (w.1 1 2).toInt as c v j = rwF j := by
        unfold rwT
        rw [if_neg (by rw [q]; decide), if_neg (by rw [t]; decide)]
      rw [e] at hQ
      exact hQ w' B' (FF.tr F' rfl) (fun z => absurd (show false = true from z) (by decide)) (fun _ => e')
  · intro z
    rw [nar0z, sI_same] at z
    exact absurd i_0 z
