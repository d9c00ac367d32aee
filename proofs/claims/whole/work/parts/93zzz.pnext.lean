/-! the class's next word of a program -/
def lsnm : Pl := [(87, some 2), (87, some 3), (87, some 6), (87, some 7)]
theorem snu_x {w : MW} {Q : MW → Prop} (hI : BND w) (hr : w.2.2 87 0 = some 1) (hQ : ∀ w', BND w' → FR lsnm w w' → (w'.2.1 87 6).toInt = dgz (cf w) (w.1 87 2).toInt → (w'.1 87 2).toInt = dgn (cf w) (w.1 87 2).toInt → (w'.1 87 3).toInt = 31 → (w'.1 87 7).toInt = (if dgp (cf w) (w.1 87 2).toInt = true then 1 else 0) → Q w') : p_Rd_scanNumber w Q := by
  have B1 : BND (sJ (sI w 87 3 31) 87 6 0) := wbd_87_3 (v := 31) hI
  have F1 : FR lsnm w (sJ (sI w 87 3 31) 87 6 0) := FR.J (FR.I (FR.refl _ w) rfl) rfl
  have a6 : (sJ (sI w 87 3 31) 87 6 0).2.1 87 6 = 0 := sJ_same _ _ _ _
  have a2 : (sJ (sI w 87 3 31) 87 6 0).1 87 2 = w.1 87 2 := by
    show (sI w 87 3 31).1 87 2 = w.1 87 2
    exact sI_ne _ _ _ _ _ (by decide)
  have a3 : ((sJ (sI w 87 3 31) 87 6 0).1 87 3).toInt = 31 := by
    show ((sI w 87 3 31).1 87 3).toInt = 31
    rw [sI_same]
    decide
  have z0 : (0 : Int64).toInt = 0 := by decide
  refine Eq.mpr (p_Rd_scanNumber.eq_1 _ _) ?_
  generalize (sJ (sI w 87 3 31) 87 6 0) = w1 at *
  have r1 : w1.2.2 87 0 = some 1 := ((F1 87 0 rfl).2.2).trans hr
  have ec : cf w1 = cf w := cf_fr F1 rfl
  refine sn_13 (w0 := w1) r1 (fun w8 B8 F8 e6 e2 t0 t1 => ?_) FU 0 w1 B1 (FR.refl _ w1) (Nat.zero_le _) (by rw [a6, z0]; decide) (by rw [a6, z0]; decide) (by rw [a6, z0]) rfl (fu_lt (by decide))
  rw [a2, ec] at e2
  rw [ec, a2] at e6 t0 t1
  have hd : (w8.1 87 2).toInt = dge (cf w) (w.1 87 2).toInt := e2.trans rfl
  have e6' : (w8.2.1 87 6).toInt = vlu 0 (dgl (cf w) 9 (w.1 87 2).toInt) := e6
  have F18 : FR lsnm w w8 := F1.tr F8 rfl
  have eM := li_mul (Eq.refl (w8.2.1 87 6).toInt) (show (1000 : Int64).toInt = 1000 by decide) (by omega) (by omega)
  have B9 : BND (sJ w8 87 6 ((w8.2.1 87 6) * (1000 : Int64))) := B8
  have F9 : FR lsnm w (sJ w8 87 6 ((w8.2.1 87 6) * (1000 : Int64))) := FR.J F18 rfl
  have c6 : (sJ w8 87 6 ((w8.2.1 87 6) * (1000 : Int64))).2.1 87 6 = (w8.2.1 87 6) * (1000 : Int64) := sJ_same _ _ _ _
  have c2 : (sJ w8 87 6 ((w8.2.1 87 6) * (1000 : Int64))).1 87 2 = w8.1 87 2 := rfl
  have c3 : ((sJ w8 87 6 ((w8.2.1 87 6) * (1000 : Int64))).1 87 3).toInt = 31 := by
    show (w8.1 87 3).toInt = 31
    rw [(F8 87 3 rfl).1]
    exact a3
  refine ⟨((F18 87 0 rfl).2.2).trans hr, at_x B9 ?_⟩
  rw [← c2]
  generalize (sJ w8 87 6 ((w8.2.1 87 6) * (1000 : Int64))) = w9 at *
  have r9 : w9.2.2 87 0 = some 1 := ((F9 87 0 rfl).2.2).trans hr
  have ec9 : cf w9 = cf w := cf_fr F9 rfl
  have v9 : (cv w9 (w9.1 87 2)).toInt = cf w (dge (cf w) (w.1 87 2).toInt) := by rw [cv_cf, ec9, c2, hd]
  have d2 : (w9.1 87 2).toInt = dge (cf w) (w.1 87 2).toInt := by rw [c2]; exact hd
  have n6 : (w9.2.1 87 6).toInt = vlu 0 (dgl (cf w) 9 (w.1 87 2).toInt) * 1000 := by rw [c6, eM, e6']
  have t0' : 0 ≤ vlu 0 (dgl (cf w) 9 (w.1 87 2).toInt) := t0
  have t1' : vlu 0 (dgl (cf w) 9 (w.1 87 2).toInt) < 1000000000 := t1
  have b2 := bd_87_2 B9
  have no : dgp (cf w) (w.1 87 2).toInt = false → q_Rd_scanNumber_154 0 (w9.1 87 2) (sI w9 87 7 0) Q := fun np => by
    have B10 : BND (sI (sI w9 87 7 0) 87 2 ((w9.1 87 2) + (0 : Int32))) := wbd_87_2 (wbd_87_7 B9 (by decide) (by decide)) (by rw [Int32.add_zero]; exact b2.1) (by rw [Int32.add_zero]; exact b2.2)
    have F10 : FR lsnm w (sI (sI w9 87 7 0) 87 2 ((w9.1 87 2) + (0 : Int32))) := FR.I (FR.I F9 rfl) rfl
    have g2 : (sI (sI w9 87 7 0) 87 2 ((w9.1 87 2) + (0 : Int32))).1 87 2 = w9.1 87 2 := by rw [sI_same, Int32.add_zero]
    have g7 : ((sI (sI w9 87 7 0) 87 2 ((w9.1 87 2) + (0 : Int32))).1 87 7).toInt = 0 := by rw [sI_ne _ _ _ _ _ (by decide), sI_same]; exact i_0
    have g3 : ((sI (sI w9 87 7 0) 87 2 ((w9.1 87 2) + (0 : Int32))).1 87 3).toInt = 31 := by rw [sI_ne _ _ _ _ _ (by decide), sI_ne _ _ _ _ _ (by decide)]; exact c3
    have g6 : ((sI (sI w9 87 7 0) 87 2 ((w9.1 87 2) + (0 : Int32))).2.1 87 6).toInt = vlu 0 (dgl (cf w) 9 (w.1 87 2).toInt) * 1000 := n6
    have s7 : ((sI w9 87 7 0).1 87 7).toInt = 0 := by rw [sI_same]; exact i_0
    refine Eq.mpr (q_Rd_scanNumber_154.eq_1 _ _ _ _) ⟨fun _ => ?_, fun z => absurd s7 z⟩
    generalize (sI (sI w9 87 7 0) 87 2 ((w9.1 87 2) + (0 : Int32))) = w10 at *
    have r10 : w10.2.2 87 0 = some 1 := ((F10 87 0 rfl).2.2).trans hr
    refine sn_172 (w0 := w10) r10 (fun w' B' F' f6 f2 => hQ w' B' (F10.tr F' rfl) ?_ ?_ (by rw [(F' 87 3 rfl).1]; exact g3) ?_) FU 0 0 w10 (Or.inr (Or.inr (Or.inr ⟨rfl, rfl⟩))) B10 (FR.refl _ w10) (by rw [g6]; omega) (by rw [g6]; omega) rfl rfl (fu_lt (by decide))
    · rw [f6, g6]
      unfold dgz dgf
      rw [if_neg (nt np)]
      rfl
    · rw [f2, g2, d2]
      unfold dgn
      rw [if_neg (nt np)]
      show _ + ((0 : Nat) : Int) = _
      omega
    · rw [(F' 87 7 rfl).1, g7, if_neg (nt np)]
  refine ⟨fun z => no ?_, fun z => ⟨r9, at_x B9 ?_⟩⟩
  · unfold dgp
    rw [v9] at z
    exact decide_eq_false (fun q => z q.1)
  · have z0' := Classical.not_not.mp z
    rw [v9] at z0'
    have lt := cf_lt (w := w) (p := dge (cf w) (w.1 87 2).toInt) (by rw [z0']; decide)
    have en : w9.1 1 2 = w.1 1 2 := (F9 1 2 rfl).1
    have bn := bd_1_2 hI
    have s := ti_add2 (Eq.refl (w9.1 87 2).toInt) i_1 (by omega) (by omega)
    have v10 : (cv w9 ((w9.1 87 2) + (1 : Int32))).toInt = cf w (dge (cf w) (w.1 87 2).toInt + 1) := by rw [cv_cf, ec9, s, d2]
    refine pd_x (fun d => ⟨fun q => absurd q i1n, fun _ => ?_⟩) (fun d => ⟨fun _ => no ?_, fun q => absurd i_0 q⟩)
    · rw [v10] at d
      have yes : dgp (cf w) (w.1 87 2).toInt = true := decide_eq_true ⟨z0', d⟩
      have B10 : BND (sI (sI w9 87 7 1) 87 2 ((w9.1 87 2) + (1 : Int32))) := wbd_87_2 (wbd_87_7 B9 (by decide) (by decide)) (by omega) (by omega)
      have F10 : FR lsnm w (sI (sI w9 87 7 1) 87 2 ((w9.1 87 2) + (1 : Int32))) := FR.I (FR.I F9 rfl) rfl
      have g2 : (sI (sI w9 87 7 1) 87 2 ((w9.1 87 2) + (1 : Int32))).1 87 2 = (w9.1 87 2) + (1 : Int32) := sI_same _ _ _ _
      have g7 : ((sI (sI w9 87 7 1) 87 2 ((w9.1 87 2) + (1 : Int32))).1 87 7).toInt = 1 := by rw [sI_ne _ _ _ _ _ (by decide), sI_same]; exact i_1
      have g3 : ((sI (sI w9 87 7 1) 87 2 ((w9.1 87 2) + (1 : Int32))).1 87 3).toInt = 31 := by rw [sI_ne _ _ _ _ _ (by decide), sI_ne _ _ _ _ _ (by decide)]; exact c3
      have g6 : ((sI (sI w9 87 7 1) 87 2 ((w9.1 87 2) + (1 : Int32))).2.1 87 6).toInt = vlu 0 (dgl (cf w) 9 (w.1 87 2).toInt) * 1000 := n6
      have s7 : ¬ ((sI w9 87 7 1).1 87 7).toInt = 0 := by rw [sI_same]; decide
      refine Eq.mpr (q_Rd_scanNumber_154.eq_1 _ _ _ _) ⟨fun z => absurd z s7, fun _ => ?_⟩
      generalize (sI (sI w9 87 7 1) 87 2 ((w9.1 87 2) + (1 : Int32))) = w10 at *
      have r10 : w10.2.2 87 0 = some 1 := ((F10 87 0 rfl).2.2).trans hr
      have ec10 : cf w10 = cf w := cf_fr F10 rfl
      refine sn_172 (w0 := w10) r10 (fun w' B' F' f6 f2 => hQ w' B' (F10.tr F' rfl) ?_ ?_ (by rw [(F' 87 3 rfl).1]; exact g3) ?_) FU 3 100 w10 (Or.inl ⟨rfl, rfl⟩) B10 (FR.refl _ w10) (by rw [g6]; omega) (by rw [g6]; omega) rfl rfl (fu_lt (by decide))
      · rw [f6, g6, g2, s, d2, ec10]
        unfold dgz dgf
        rw [if_pos yes]
        rfl
      · rw [f2, g2, s, d2, ec10]
        unfold dgn
        rw [if_pos yes]
      · rw [(F' 87 7 rfl).1, g7, if_pos yes]
    · rw [v10] at d
      unfold dgp
      exact decide_eq_false (fun q => absurd q.2 (nt d))
/-- the word t stands in the reader -/
def TkC (w : MW) (t : Tk) : Prop := (w.1 87 3).toInt = t.1 ∧ (w.1 87 4).toInt = t.2.1 ∧ (w.1 87 2).toInt = t.2.2.1 ∧ (t.1 ≤ 30 → (w.2.1 87 5).toInt = cod 0 t.2.2.2.1) ∧ (t.1 = 31 → (w.2.1 87 6).toInt = t.2.2.2.2.1 ∧ (w.1 87 7).toInt = (if t.2.2.2.2.2 = true then 1 else 0))
/-- what stands in 'wrong' behind the word t -/
def WrC (w w' : MW) (t : Tk) : Prop := (w'.1 87 9).toInt = (if t.1 = 33 ∧ ¬ 0 ≤ (w.1 87 9).toInt then t.2.1 else (w.1 87 9).toInt)
def lpw : Pl := [(87, some 2), (87, some 3), (87, some 4), (87, some 5), (87, some 6), (87, some 7), (87, some 9)]
theorem pn_0 {w0 : MW} {T : Int} {E Q : MW → Prop} (hr : w0.2.2 87 0 = some 1) (hE : ∀ w', BND w' → FR [(87, some 2)] w0 w' → (w'.1 87 2).toInt = T → E w') (m : Nat) : ∀ w : MW, BND w → FR [(87, some 2)] w0 w → skp (cf w0) (w0.1 1 2).toInt 4001 (w.1 87 2).toInt = T → (4001 - (w.1 87 2).toInt).toNat < m → q_Rd_nextWord_0 E Q m w := by
  induction m with
  | zero => intros; omega
  | succ m ih =>
    intro w hB hF hT hm
    have b12 := bd_87_2 hB
    have en : w.1 1 2 = w0.1 1 2 := (hF 1 2 rfl).1
    have ec : cf w = cf w0 := cf_fr hF rfl
    have b2 := bd_1_2 hB
    have rr : w.2.2 87 0 = some 1 := ((hF 87 0 rfl).2.2).trans hr
    rw [q_Rd_nextWord_0.eq_2]
    rw [en] at b2 ⊢
    refine ⟨rr, fun c => hE w hB hF ?_, fun c => ⟨rr, at_x hB ?_⟩⟩
    · rw [skp_n 4001 (fun z => by have := z.1; omega)] at hT
      exact hT
    · have v := cv_cf w (w.1 87 2)
      rw [ec] at v
      refine ib_x (fun d => ⟨fun z => absurd z (by decide), fun _ => ?_⟩) (fun d => ⟨fun _ => hE w hB hF ?_, fun z => absurd i_0 z⟩)
      · rw [v] at d
        have s := ti_add2 (Eq.refl (w.1 87 2).toInt) i_1 (by omega) (by omega)
        refine ih _ (wbd_87_2 hB (by omega) (by omega)) (FR.I hF rfl) ?_ ?_
        · rw [sI_same, s, ← skp_1 (by omega) ⟨by omega, d⟩]
          exact hT
        · rw [sI_same, s]
          omega
      · rw [v] at d
        rw [skp_n 4001 (fun z => by rw [d] at z; exact absurd z.2 (by decide))] at hT
        exact hT
theorem rf_x {w : MW} {a : Int32} {Q : MW → Prop} (hI : BND w) (hQ : ∀ w', BND w' → FR [(87, some 3), (87, some 4), (87, some 9)] w w' → (w'.1 87 3).toInt = 33 → w'.1 87 4 = a → (w'.1 87 9).toInt = (if ¬ 0 ≤ (w.1 87 9).toInt then a.toInt else (w.1 87 9).toInt) → Q w') : p_Rd_refuseByte w a Q := by
  have B1 : BND (sI (sI w 87 3 33) 87 4 a) := wbd_87_4 (wbd_87_3 hI)
  have F1 : FR [(87, some 3), (87, some 4), (87, some 9)] w (sI (sI w 87 3 33) 87 4 a) := FR.I (FR.I (FR.refl _ w) rfl) rfl
  have a3 : ((sI (sI w 87 3 33) 87 4 a).1 87 3).toInt = 33 := by rw [sI_ne _ _ _ _ _ (by decide), sI_same]; decide
  have a4 : (sI (sI w 87 3 33) 87 4 a).1 87 4 = a := sI_same _ _ _ _
  have a9 : (sI (sI w 87 3 33) 87 4 a).1 87 9 = w.1 87 9 := by rw [sI_ne _ _ _ _ _ (by decide), sI_ne _ _ _ _ _ (by decide)]
  refine Eq.mpr (p_Rd_refuseByte.eq_1 _ _ _) (Eq.mpr (p_Rd_fail.eq_1 _ _) ⟨fun c => ?_, fun c => ?_⟩)
  · refine hQ _ B1 F1 a3 a4 ?_
    rw [a9] at c ⊢
    rw [if_neg (fun z => z c)]
  · refine hQ _ (wbd_87_9 B1) (FR.I F1 rfl) (by rw [sI_ne _ _ _ _ _ (by decide)]; exact a3) (by rw [sI_ne _ _ _ _ _ (by decide)]; exact a4) ?_
    rw [a9] at c
    rw [sI_same, a4, if_pos c]
/-- behind a word's letters or digits -/
theorem pn_144 {w : MW} {e : Int} {Q : MW → Prop} (hI : BND w) (hr : w.2.2 87 0 = some 1) (he : (w.1 87 2).toInt = e) (h0 : bd1 (cf w e) = false → Q w) (h1 : bd1 (cf w e) = true → ∀ w', BND w' → FR [(87, some 3), (87, some 4), (87, some 9)] w w' → (w'.1 87 3).toInt = 33 → (w'.1 87 4).toInt = e → (w'.1 87 9).toInt = (if ¬ 0 ≤ (w.1 87 9).toInt then e else (w.1 87 9).toInt) → Q w') : q_Rd_nextWord_144 w Q := by
  have v : (cv w (w.1 87 2)).toInt = cf w e := by rw [cv_cf, he]
  have bad : bd1 (cf w e) = true → p_Rd_refuseByte w (w.1 87 2) (fun w24 => Q w24) := fun b => rf_x hI (fun w' B' F' a3 a4 a9 => h1 b w' B' F' a3 (by rw [a4]; exact he) (by rw [he] at a9; exact a9))
  refine Eq.mpr (q_Rd_nextWord_144.eq_1 _ _) ⟨hr, at_x hI (pl_x (fun d => ⟨fun _ => bad (bd1_t.mpr (Or.inl (Or.inl (by rw [← v]; exact lt1_t.mp d)))), fun q => absurd i1n q⟩) (fun d => ⟨fun q => absurd i_0 q, fun _ => pd_x (fun d2 => ⟨fun _ => bad (bd1_t.mpr (Or.inl (Or.inr (by rw [← v]; exact dg1_t.mp d2)))), fun q => absurd i1n q⟩) (fun d2 => ⟨fun q => absurd i_0 q, fun _ => ⟨fun z => h0 (bd1_f.mpr ⟨⟨by rw [← v]; exact lt1_f.mp d, by rw [← v]; exact dg1_f.mp d2⟩, by rw [← v]; exact z⟩), fun z => bad (bd1_t.mpr (Or.inr (by rw [← v]; exact Classical.not_not.mp z)))⟩⟩)⟩))⟩
theorem pnw_x {w : MW} {p : Int} {Q : MW → Prop} (hI : BND w) (hr : w.2.2 87 0 = some 1) (hK : KWc w) (hp : (w.1 87 2).toInt = p) (p1 : p ≤ (w.1 1 2).toInt) (hQ : ∀ w', BND w' → FR lpw w w' → TkC w' (wrd (cf w) (w.1 1 2).toInt p) → WrC w w' (wrd (cf w) (w.1 1 2).toInt p) → Q w') : p_Rd_nextWord w Q := by
  have b2 := bd_87_2 hI
  have bn := bd_1_2 hI
  refine Eq.mpr (p_Rd_nextWord.eq_1 _ _) (pn_0 (w0 := w) hr (fun w7 B7 F7 e7 => ?_) FU w hI (FR.refl _ w) rfl (fu_lt (by omega)))
  rw [hp] at e7
  have kb := skp_b (cf w) (w.1 1 2).toInt 4001 p
  have ew : wrd (cf w) (w.1 1 2).toInt p = wrq (cf w) (w.1 1 2).toInt (skp (cf w) (w.1 1 2).toInt 4001 p) := rfl
  rw [ew] at hQ
  have q1 := kb.2 p1
  have q0 := kb.1
  generalize skp (cf w) (w.1 1 2).toInt 4001 p = q at *
  have B8 : BND (sI w7 87 4 (w7.1 87 2)) := wbd_87_4 B7
  have F8 : FR lpw w (sI w7 87 4 (w7.1 87 2)) := FR.I (FR.tr (FR.refl _ w) F7 rfl) rfl
  have a2 : (sI w7 87 4 (w7.1 87 2)).1 87 2 = w7.1 87 2 := sI_ne _ _ _ _ _ (by decide)
  have a4 : ((sI w7 87 4 (w7.1 87 2)).1 87 4).toInt = q := by rw [sI_same]; exact e7
  have a9 : (sI w7 87 4 (w7.1 87 2)).1 87 9 = w.1 87 9 := by rw [sI_ne _ _ _ _ _ (by decide)]; exact (F7 87 9 rfl).1
  refine ⟨((F7 87 0 rfl).2.2).trans hr, at_x B8 ?_⟩
  have e2 : ((sI w7 87 4 (w7.1 87 2)).1 87 2).toInt = q := by rw [a2]; exact e7
  generalize (sI w7 87 4 (w7.1 87 2)) = w8 at *
  rw [← a2]
  have r8 : w8.2.2 87 0 = some 1 := ((F8 87 0 rfl).2.2).trans hr
  have en : w8.1 1 2 = w.1 1 2 := (F8 1 2 rfl).1
  have ec : cf w8 = cf w := cf_fr F8 rfl
  have v : (cv w8 (w8.1 87 2)).toInt = cf w q := by rw [cv_cf, ec, e2]
  have K8 : KWc w8 := fun i k hk => by rw [(F8 90 i rfl).2.1]; exact hK i k hk
  refine ⟨r8, fun c => ?_, fun c => ?_⟩
  · rw [en, e2] at c
    have nq : ¬ (w.1 1 2).toInt ≤ q := by omega
    refine pl_x (fun d => ⟨fun z => absurd z i1n, fun _ => ?_⟩) (fun d => ⟨fun _ => pd_x (fun d2 => ⟨fun z => absurd z i1n, fun _ => ?_⟩) (fun d2 => ⟨fun _ => ?_, fun z => absurd i_0 z⟩), fun z => absurd i_0 z⟩)
    · rw [v] at d
      have ew : wrq (cf w) (w.1 1 2).toInt q = wrL (cf w) q := by
        unfold wrq
        rw [if_neg nq, if_pos d]
      rw [ew] at hQ
      refine sl_x B8 r8 K8 (fun w9 B9 F9 f5 f2 f3 => ?_)
      rw [ec, e2] at f5 f2 f3
      have F19 : FR lpw w w9 := F8.tr F9 rfl
      have g4 : (w9.1 87 4).toInt = q := by rw [(F9 87 4 rfl).1]; exact a4
      have g9 : w9.1 87 9 = w.1 87 9 := ((F9 87 9 rfl).1).trans a9
      have ec9 : cf w9 = cf w := cf_fr F19 rfl
      have kb := kwd_b (lts (cf w) 12 q)
      refine pn_144 B9 (((F19 87 0 rfl).2.2).trans hr) f2 (fun b => ?_) (fun b w' B' F' h3 h4 h9 => ?_)
      · rw [ec9] at b
        have e : wrL (cf w) q = (kwd (lts (cf w) 12 q), q, q + ((lts (cf w) 12 q).length : Int), lts (cf w) 12 q, 0, false) := by
          unfold wrL
          rw [if_neg (nt b)]
        rw [e] at hQ
        refine hQ w9 B9 F19 ⟨f3, g4, f2, fun _ => f5, fun z => ?_⟩ ?_
        · have z' : kwd (lts (cf w) 12 q) = 31 := z
          omega
        · unfold WrC
          rw [if_neg (fun z => by have z' : kwd (lts (cf w) 12 q) = 33 := z.1; omega), g9]
      · rw [ec9] at b
        have e : wrL (cf w) q = (33, q + ((lts (cf w) 12 q).length : Int), q + ((lts (cf w) 12 q).length : Int), lts (cf w) 12 q, 0, false) := by
          unfold wrL
          rw [if_pos b]
        rw [e] at hQ
        refine hQ w' B' (F19.tr F' rfl) ⟨h3, h4, by rw [(F' 87 2 rfl).1]; exact f2, fun z => absurd z (by show ¬ (33 : Int) ≤ 30; decide), fun z => absurd z (by show ¬ (33 : Int) = 31; decide)⟩ ?_
        unfold WrC
        rw [h9, g9]
        by_cases z : 0 ≤ (w.1 87 9).toInt
        · rw [if_neg (fun y => y z), if_neg (fun y => y.2 z)]
        · rw [if_pos z, if_pos ⟨rfl, z⟩]
    · rw [v] at d d2
      have ew : wrq (cf w) (w.1 1 2).toInt q = wrN (cf w) q := by
        unfold wrq
        rw [if_neg nq, if_neg (nt d), if_pos d2]
      rw [ew] at hQ
      refine snu_x B8 r8 (fun w9 B9 F9 f6 f2 f3 f7 => ?_)
      rw [ec, e2] at f6 f2 f7
      have F19 : FR lpw w w9 := F8.tr F9 rfl
      have g4 : (w9.1 87 4).toInt = q := by rw [(F9 87 4 rfl).1]; exact a4
      have g9 : w9.1 87 9 = w.1 87 9 := ((F9 87 9 rfl).1).trans a9
      have ec9 : cf w9 = cf w := cf_fr F19 rfl
      refine pn_144 B9 (((F19 87 0 rfl).2.2).trans hr) f2 (fun b => ?_) (fun b w' B' F' h3 h4 h9 => ?_)
      · rw [ec9] at b
        have e : wrN (cf w) q = (31, q, dgn (cf w) q, [], dgz (cf w) q, dgp (cf w) q) := by
          unfold wrN
          rw [if_neg (nt b)]
        rw [e] at hQ
        refine hQ w9 B9 F19 ⟨f3, g4, f2, fun z => absurd z (by show ¬ (31 : Int) ≤ 30; decide), fun _ => ⟨f6, f7⟩⟩ ?_
        unfold WrC
        rw [if_neg (fun z => absurd z.1 (by show ¬ (31 : Int) = 33; decide)), g9]
      · rw [ec9] at b
        have e : wrN (cf w) q = (33, dgn (cf w) q, dgn (cf w) q, [], dgz (cf w) q, dgp (cf w) q) := by
          unfold wrN
          rw [if_pos b]
        rw [e] at hQ
        refine hQ w' B' (F19.tr F' rfl) ⟨h3, h4, by rw [(F' 87 2 rfl).1]; exact f2, fun z => absurd z (by show ¬ (33 : Int) ≤ 30; decide), fun z => absurd z (by show ¬ (33 : Int) = 31; decide)⟩ ?_
        unfold WrC
        rw [h9, g9]
        by_cases z : 0 ≤ (w.1 87 9).toInt
        · rw [if_neg (fun y => y z), if_neg (fun y => y.2 z)]
        · rw [if_pos z, if_pos ⟨rfl, z⟩]
    · rw [v] at d d2
      have s := ti_add2 e2 i_1 (by omega) (by omega)
      have B9 : BND (sI (sI w8 87 3 (cv w8 (w8.1 87 2))) 87 2 ((w8.1 87 2) + (1 : Int32))) := wbd_87_2 (wbd_87_3 B8) (by omega) (by omega)
      have F9 : FR lpw w (sI (sI w8 87 3 (cv w8 (w8.1 87 2))) 87 2 ((w8.1 87 2) + (1 : Int32))) := FR.I (FR.I F8 rfl) rfl
      have g2 : ((sI (sI w8 87 3 (cv w8 (w8.1 87 2))) 87 2 ((w8.1 87 2) + (1 : Int32))).1 87 2).toInt = q + 1 := by rw [sI_same]; exact s
      have g3 : ((sI (sI w8 87 3 (cv w8 (w8.1 87 2))) 87 2 ((w8.1 87 2) + (1 : Int32))).1 87 3).toInt = cf w q := by rw [sI_ne _ _ _ _ _ (by decide), sI_same]; exact v
      have g4 : ((sI (sI w8 87 3 (cv w8 (w8.1 87 2))) 87 2 ((w8.1 87 2) + (1 : Int32))).1 87 4).toInt = q := by rw [sI_ne _ _ _ _ _ (by decide), sI_ne _ _ _ _ _ (by decide)]; exact a4
      have g9 : (sI (sI w8 87 3 (cv w8 (w8.1 87 2))) 87 2 ((w8.1 87 2) + (1 : Int32))).1 87 9 = w.1 87 9 := by rw [sI_ne _ _ _ _ _ (by decide), sI_ne _ _ _ _ _ (by decide)]; exact a9
      generalize hw9 : (sI (sI w8 87 3 (cv w8 (w8.1 87 2))) 87 2 ((w8.1 87 2) + (1 : Int32))) = w9 at *
      refine pm_x (fun b => ⟨fun _ => ?_, fun z => absurd i1n z⟩) (fun b => ⟨fun z => absurd i_0 z, fun _ => ?_⟩)
      · rw [v] at b
        have ew : wrq (cf w) (w.1 1 2).toInt q = (cf w q, q, q + 1, [], 0, false) := by
          unfold wrq
          rw [if_neg nq, if_neg (nt d), if_neg (nt d2), if_pos b]
        rw [ew] at hQ
        have bb := mk1_t.mp b
        refine hQ w9 B9 F9 ⟨g3, g4, g2, fun z => ?_, fun z => ?_⟩ ?_
        · have z' : cf w q ≤ 30 := z
          omega
        · have z' : cf w q = 31 := z
          omega
        · unfold WrC
          rw [if_neg (fun z => by have z' : cf w q = 33 := z.1; omega), g9]
      · rw [v] at b
        have ew : wrq (cf w) (w.1 1 2).toInt q = (33, q, q + 1, [], 0, false) := by
          unfold wrq
          rw [if_neg nq, if_neg (nt d), if_neg (nt d2), if_neg (nt b)]
        rw [ew] at hQ
        refine rf_x B9 (fun w' B' F' h3 h4 h9 => hQ w' B' (F9.tr F' rfl) ⟨h3, by rw [h4]; exact g4, by rw [(F' 87 2 rfl).1]; exact g2, fun z => absurd z (by show ¬ (33 : Int) ≤ 30; decide), fun z => absurd z (by show ¬ (33 : Int) = 31; decide)⟩ ?_)
        unfold WrC
        rw [h9, g9, g4]
        by_cases z : 0 ≤ (w.1 87 9).toInt
        · rw [if_neg (fun y => y z), if_neg (fun y => y.2 z)]
        · rw [if_pos z, if_pos ⟨rfl, z⟩]
  · rw [en, e2] at c
    have ew : wrq (cf w) (w.1 1 2).toInt q = (32, q, q, [], 0, false) := by
      unfold wrq
      rw [if_pos (by omega)]
    rw [ew] at hQ
    refine hQ _ (wbd_87_3 B8) (FR.I F8 rfl) ⟨by rw [sI_same]; rfl, by rw [sI_ne _ _ _ _ _ (by decide)]; exact a4, by rw [sI_ne _ _ _ _ _ (by decide)]; exact e2, fun z => absurd z (by show ¬ (32 : Int) ≤ 30; decide), fun z => absurd z (by show ¬ (32 : Int) = 31; decide)⟩ ?_
    unfold WrC
    rw [if_neg (fun z => absurd z.1 (by show ¬ (32 : Int) = 33; decide)), sI_ne _ _ _ _ _ (by decide), a9]
