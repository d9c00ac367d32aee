/-! the class reads a row: all of it -/
/-- behind a row: as q says -/
def OuR (w : MW) (rs : List Rw) (q : Bool × Rw × Nat) : Prop := (q.1 = true → WSt w q.2.2 ∧ (w.1 99 17).toInt < 0 ∧ RosC w (rs ++ [q.2.1])) ∧ (q.1 = false → (w.1 99 17).toInt = (q.2.2 : Int))
theorem ou_rF {w : MW} {rs : List Rw} {i : Nat} (h : (w.1 99 17).toInt = (i : Int)) : OuR w rs (rwF i) := ⟨fun z => absurd (show false = true from z) (by decide), fun _ => h⟩
def TFr (w : MW) (Q : MW → Prop) : Prop := p_Ro_iss99_2013 w (fun r12 w12 => ((r12.toInt = 0 → (q_Ro_readRows99_154 w12 Q)) ∧ (¬ (r12.toInt = 0) → (p_Ro_nextWords99 w12 (fun w21 => (p_Ro_numberBehinds99 w21 0 3600 (fun r22 w22 => ((0 ≤ (w21.1 99 0).toInt ∧ (w21.1 99 0).toInt < 40) ∧ ((0 ≤ (w22.1 99 0).toInt ∧ (w22.1 99 0).toInt < 40) ∧ ((0 ≤ ((sI w22 104 ((w21.1 99 0).toInt.toNat) r22).1 104 ((w22.1 99 0).toInt.toNat)).toInt → (p_Ro_nextWords99 (sI w22 104 ((w21.1 99 0).toInt.toNat) r22) (fun w26 => (q_Ro_readRows99_154 w26 Q)))) ∧ (¬ (0 ≤ ((sI w22 104 ((w21.1 99 0).toInt.toNat) r22).1 104 ((w22.1 99 0).toInt.toNat)).toInt) → (p_Ro_fails99 (sI w22 104 ((w21.1 99 0).toInt.toNat) r22) (fun w27 => (p_Ro_nextWords99 w27 (fun w28 => (q_Ro_readRows99_154 w28 Q))))))))))))))))
def TLr (w : MW) (Q : MW → Prop) : Prop := p_Ro_takess99_2007 w (fun r9 w9 => ((0 ≤ (w9.1 99 0).toInt ∧ (w9.1 99 0).toInt < 41) ∧ (p_Ro_readOrs99 (sI (sI w9 106 ((w9.1 99 0).toInt.toNat) (w9.1 99 10)) 99 16 0) (fun w11 => TFr w11 Q))))
theorem tfr_b {w : MW} {i : Nat} {Q : MW → Prop} (hI : BND w) (h : WSt w i) (i5 : i ≤ 100000) (h17 : 0 ≤ (w.1 99 17).toInt) (hC : (w.1 99 0).toInt < 40) (hQ : ∀ w', BND w' → FR lro w w' → w'.1 99 17 = w.1 99 17 → Q w') : TFr w Q := iss_13 hI h (fun z => by omega) (fun z => by omega) (fun _ => ⟨fun _ => b154 hI h i5 h17 hC hQ, fun z => absurd i_0 z⟩)
theorem tlr_b {w : MW} {i : Nat} {Q : MW → Prop} (hI : BND w) (h : WSt w i) (i5 : i ≤ 100000) (h17 : 0 ≤ (w.1 99 17).toInt) (hC : (w.1 99 0).toInt < 40) (hQ : ∀ w', BND w' → FR lro w w' → w'.1 99 17 = w.1 99 17 → Q w') : TLr w Q := by
  have b := bd_99_0 hI
  have b10 := bd_99_10 hI
  refine tkw_7 hI h i5 (fun z => by omega) (fun z => by omega) (fun _ => ⟨⟨b.1, by omega⟩, ?_⟩)
  have B1 : BND (sI (sI w 106 ((w.1 99 0).toInt.toNat) (w.1 99 10)) 99 16 0) := wbd_99_16 (wbd_106 hI _ b10.1 b10.2) (by decide) (by decide)
  have F1 : FR [(99, some 16), (106, none)] w (sI (sI w 106 ((w.1 99 0).toInt.toNat) (w.1 99 10)) 99 16 0) := FR.I (FR.I (FR.refl _ w) rfl) rfl
  generalize (sI (sI w 106 ((w.1 99 0).toInt.toNat) (w.1 99 10)) 99 16 0) = w1 at *
  exact ror_b B1 (wst_fr h F1 rfl) (by rw [(F1 99 17 rfl).1]; exact h17) (tfr_b B1 (wst_fr h F1 rfl) i5 (by rw [(F1 99 17 rfl).1]; exact h17) (by rw [(F1 99 0 rfl).1]; exact hC) (fun w' B' F' e' => hQ w' B' ((FR.tr (FR.refl _ w) F1 rfl).tr F' rfl) (e'.trans (F1 99 17 rfl).1)))
theorem k105 {k : Nat} (k1 : 100 ≤ k) (k2 : k ≤ 105) : k = 100 ∨ k = 101 ∨ k = 102 ∨ k = 103 ∨ k = 104 ∨ k = 105 := by omega
/-- the row stands where nothing of it was written -/
theorem gs_fr {l : Pl} {w w' : MW} {rs : List Rw} {as c : List Int} {v : Int} {j j' : Nat} (h : GS w rs as c v j) (hS : WSt w' j') (hF : FR l w w') (ho : off l [(99, some 0), (99, some 10), (99, some 15), (99, some 17), (100, none), (101, none), (102, none), (103, none), (104, none), (105, none), (106, none), (107, none)] = true) : GS w' rs as c v j' := by
  obtain ⟨_, k17, k15, kC, kO, k0, k1, k2, k3, k4, k6, kc⟩ := h
  have q : ∀ k j, hit [(99, some 0), (99, some 10), (99, some 15), (99, some 17), (100, none), (101, none), (102, none), (103, none), (104, none), (105, none), (106, none), (107, none)] k j = true → w'.1 k j = w.1 k j := fun k j hk => (hF k j (off_hit ho hk)).1
  exact ⟨hS, by rw [q 99 17 rfl]; exact k17, by rw [q 99 15 rfl]; exact k15, by rw [q 99 0 rfl]; exact kC, roc_tr kO (fun k t h1 h2 lt => by
    rcases k105 h1 h2 with rfl | rfl | rfl | rfl | rfl | rfl
    · exact q 100 t rfl
    · exact q 101 t rfl
    · exact q 102 t rfl
    · exact q 103 t rfl
    · exact q 104 t rfl
    · exact q 105 t rfl) (fun t _ => q 106 t rfl), by rw [q 100 _ rfl]; exact k0, by rw [q 101 _ rfl]; exact k1, by rw [q 102 _ rfl]; exact k2, by rw [q 103 _ rfl]; exact k3, by rw [q 104 _ rfl]; exact k4, by rw [q 106 _ rfl]; exact k6, cod_fr kc hF (off_mono ho (by decide))⟩
theorem dgv_m (f : Int → Int) : ∀ (k : Nat) (p v : Int), 0 ≤ v → -1 ≤ dgv f k p v := by
  intro k
  induction k with
  | zero =>
    intro p v h
    show -1 ≤ v
    omega
  | succ k ih =>
    intro p v h
    rw [dgv_u]
    by_cases c : 48 ≤ f p ∧ f p ≤ 57
    · rw [if_pos c]
      exact ih _ _ (by omega)
    · rw [if_neg c]
      decide
/-- the seconds and what stands behind them -/
def tlS (f : Int → Int) (n : Int) (as c : List Int) (j : Nat) : Bool × Rw × Nat := if wq f n j (ltr 13 3) = true then (if nbv f n (j + 1) 0 3600 < 0 then rwF (j + 1) else rwT f n as c (nbv f n (j + 1) 0 3600) (j + 2)) else rwT f n as c 0 j
theorem gtf {w : MW} {rs : List Rw} {as c : List Int} {j : Nat} {Q : MW → Prop} (hI : BND w) (h : GS w rs as c 0 j) (i5 : j ≤ 30000) (c40 : rs.length < 40) (hc : (cds rs ++ c).length ≤ 1400) (hQ : ∀ w', BND w' → FR lro w w' → OuR w' rs (tlS (cf w) (w.1 1 2).toInt as c j) → Q w') : TFr w Q := by
  have hC := h.2.2.2.1
  have h17 := h.2.1
  refine iss_13 hI h.1 (fun _ q => ⟨fun z => absurd z (by decide), fun _ => nws hI h.1 (by omega) (fun w1 B1 F1 S1 => ?_)⟩) (fun _ q => ⟨fun _ => g154 hI h (by omega) c40 hc (fun w' B' F' x y => hQ w' B' F' ?_), fun z => absurd i_0 z⟩) (fun z => by omega)
  · have cn := cf_n F1 rfl
    have G1 : GS w1 rs as c 0 (j + 1) := gs_fr h S1 F1 rfl
    have C1 := G1.2.2.2.1
    have b0 := bd_99_0 B1
    refine nbh B1 S1 i_0 (by decide) (by decide) (by decide : ((3600 : Int32)).toInt = 3600) (by decide) (fun r hr => ?_)
    have n0 : (w1.1 99 0).toInt.toNat = rs.length := by omega
    have rb := nbv_b (f := cf w1) (n := (w1.1 1 2).toInt) (i := j + 1) (s := 0) (m := 3600) (by decide)
    rw [cn.1, cn.2] at hr rb
    have rm : -1 ≤ r.toInt := by
      rw [hr]
      unfold nbv
      by_cases q2 : wnd (cf w) (w.1 1 2).toInt (j + 1) - (wat (cf w) (w.1 1 2).toInt (j + 1) + 0) < 1 ∨ 4 < wnd (cf w) (w.1 1 2).toInt (j + 1) - (wat (cf w) (w.1 1 2).toInt (j + 1) + 0) ∨ (1 < wnd (cf w) (w.1 1 2).toInt (j + 1) - (wat (cf w) (w.1 1 2).toInt (j + 1) + 0) ∧ cf w (wat (cf w) (w.1 1 2).toInt (j + 1) + 0) = 48)
      · rw [if_pos q2]
        decide
      · rw [if_neg q2]
        by_cases q3 : 3600 < dgv (cf w) (wnd (cf w) (w.1 1 2).toInt (j + 1) - (wat (cf w) (w.1 1 2).toInt (j + 1) + 0)).toNat (wat (cf w) (w.1 1 2).toInt (j + 1) + 0) 0
        · rw [if_pos q3]
          decide
        · rw [if_neg q3]
          exact dgv_m _ _ _ _ (by decide)
    rw [n0]
    have F2 : FR [(104, none)] w1 (sI w1 104 rs.length r) := FR.I (FR.refl _ w1) rfl
    have B2 : BND (sI w1 104 rs.length r) := wbd_104 B1 _ rm (by omega)
    have e2 : (sI w1 104 rs.length r).1 104 rs.length = r := sI_same _ _ _ _
    have e3 : ∀ t, ¬ t = rs.length → (sI w1 104 rs.length r).1 104 t = w1.1 104 t := fun t ht => sI_ne _ _ _ _ _ ht
    refine ⟨⟨by omega, by omega⟩, ⟨by omega, by omega⟩, ?_⟩
    generalize (sI w1 104 rs.length r) = w2 at *
    rw [e2]
    have S2 := wst_fr S1 F2 rfl
    have FF : FR lro w w2 := (FR.tr (FR.refl _ w) F1 rfl).tr F2 rfl
    refine ⟨fun z => nws B2 S2 (by omega) (fun w3 B3 F3 S3 => ?_), fun z => ?_⟩
    · have G2 : GS w2 rs as c r.toInt (j + 1) := by
        obtain ⟨_, k17, k15, kC, kO, k0, k1, k2, k3, k4, k6, kc⟩ := G1
        exact ⟨S2, by rw [(F2 99 17 rfl).1]; exact k17, by rw [(F2 99 15 rfl).1]; exact k15, by rw [(F2 99 0 rfl).1]; exact kC, roc_tr kO (fun k t h1 h2 lt => by
          rcases k105 h1 h2 with rfl | rfl | rfl | rfl | rfl | rfl
          · exact (F2 100 t rfl).1
          · exact (F2 101 t rfl).1
          · exact (F2 102 t rfl).1
          · exact (F2 103 t rfl).1
          · exact e3 t (by omega)
          · exact (F2 105 t rfl).1) (fun t _ => (F2 106 t rfl).1), by rw [(F2 100 _ rfl).1]; exact k0, by rw [(F2 101 _ rfl).1]; exact k1, by rw [(F2 102 _ rfl).1]; exact k2, by rw [(F2 103 _ rfl).1]; exact k3, by rw [e2], by rw [(F2 106 _ rfl).1]; exact k6, cod_fr kc F2 rfl⟩
      have G3 : GS w3 rs as c r.toInt (j + 2) := gs_fr G2 S3 F3 rfl
      have cn3 := cf_n (FR.tr (l := lro) (FR.tr (FR.refl _ w) FF rfl) F3 rfl) rfl
      refine g154 B3 G3 (by omega) c40 hc (fun w' B' F' x y => hQ w' B' ((FR.tr FF F3 rfl).tr F' rfl) ?_)
      have e : tlS (cf w) (w.1 1 2).toInt as c j = rwT (cf w) (w.1 1 2).toInt as c r.toInt (j + 2) := by
        unfold tlS
        rw [if_pos q, if_neg (by omega), hr]
      rw [e]
      rw [cn3.1, cn3.2] at x y
      exact ⟨x, y⟩
    · have w17 : (w2.1 99 17).toInt < 0 := by rw [(F2 99 17 rfl).1, (F1 99 17 rfl).1]; exact h17
      have F3 : FR [(99, some 17)] w2 (sI w2 99 17 (w2.1 99 14)) := FR.I (FR.refl _ w2) rfl
      have B3 : BND (sI w2 99 17 (w2.1 99 14)) := wbd_99_17 B2
      have e17 : ((sI w2 99 17 (w2.1 99 14)).1 99 17).toInt = ((j + 1 : Nat) : Int) := by rw [sI_same]; exact S2.2.2.1
      refine flr_x w17 ?_
      generalize (sI w2 99 17 (w2.1 99 14)) = w3 at *
      refine nws B3 (wst_fr S2 F3 rfl) (by omega) (fun w4 B4 F4 S4 => b154 B4 S4 (by omega) (by rw [(F4 99 17 rfl).1]; omega) ?_ (fun w' B' F' e' => hQ w' B' (((FR.tr FF F3 rfl).tr F4 rfl).tr F' rfl) ?_))
      · rw [(F4 99 0 rfl).1, (F3 99 0 rfl).1, (F2 99 0 rfl).1]
        omega
      · have e : tlS (cf w) (w.1 1 2).toInt as c j = rwF (j + 1) := by
          unfold tlS
          rw [if_pos q, if_pos (by omega)]
        rw [e]
        refine ou_rF ?_
        rw [e', (F4 99 17 rfl).1]
        exact e17
  · have e : tlS (cf w) (w.1 1 2).toInt as c j = rwT (cf w) (w.1 1 2).toInt as c 0 j := by
      unfold tlS
      rw [if_neg (by rw [q]; decide)]
    rw [e]
    exact ⟨x, y⟩
