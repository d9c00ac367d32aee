/-! the reference's text: the half that stands; read -/
def fl (w : MW) : MW := sI (sI (sI (sI (sI w 129 12 ((1 : Int32) - (w.1 129 12))) 129 13 (w.1 129 30)) 129 21 300) 129 23 (w.1 129 31)) 129 24 (w.1 129 32)
theorem fl_b {w : MW} (h : BND w) : BND (fl w) := by
  have b := bd_129_12 h
  have s := ti_sub2 (by decide : ((1 : Int32)).toInt = 1) (Eq.refl (w.1 129 12).toInt) (by omega) (by omega)
  have b30 := bd_129_30 h
  have b31 := bd_129_31 h
  have b32 := bd_129_32 h
  exact wbd_129_24 (wbd_129_23 (wbd_129_21 (wbd_129_13 (wbd_129_12 h (by omega) (by omega)) b30.1 b30.2) (by decide) (by decide)) b31.1 b31.2) b32.1 b32.2
theorem fl_h {w : MW} (h : BND w) : bhf (fl w) = (w.1 129 12).toInt := by
  have b := bd_129_12 h
  have s := ti_sub2 (by decide : ((1 : Int32)).toInt = 1) (Eq.refl (w.1 129 12).toInt) (by omega) (by omega)
  show 1 - ((1 : Int32) - (w.1 129 12)).toInt = (w.1 129 12).toInt
  omega
def TLb (v : MW) : Prop := (∀ n, 0 ≤ n → n < (v.1 129 13).toInt → TbN v n) ∧ TpT v ∧ ∃ c, CST v c
def TLx (w : MW) : Prop := TLb (fl w)
def VE (v v' : MW) : Prop := (v'.1 129 12 = v.1 129 12 ∧ v'.1 129 13 = v.1 129 13 ∧ v'.1 129 21 = v.1 129 21 ∧ v'.1 129 23 = v.1 129 23 ∧ v'.1 129 24 = v.1 129 24) ∧ (∀ j : Nat, 300 * bhf v ≤ (j : Int) → (j : Int) < 300 * bhf v + 300 → v'.1 131 j = v.1 131 j ∧ v'.2.1 132 j = v.2.1 132 j ∧ v'.1 135 j = v.1 135 j ∧ v'.1 136 j = v.1 136 j ∧ v'.1 137 j = v.1 137 j ∧ v'.1 138 j = v.1 138 j) ∧ (∀ j : Nat, 40 * bhf v ≤ (j : Int) → (j : Int) < 40 * bhf v + 40 → v'.1 143 j = v.1 143 j)
theorem tn_do {v : MW} {m : Int} (hI : BND v) (hN : ∀ n, 0 ≤ n → n < (v.1 129 13).toInt → TbN v n) (m0 : 0 ≤ m) (m1 : m < (v.1 129 13).toInt) (hk : Kb v m = 19) : (0 ≤ numB v m ∧ numB v m < 40 ∧ numB v m < (v.1 129 24).toInt) ∧ (0 ≤ stB v (numB v m) ∧ stB v (numB v m) < m) ∧ ((v.1 135 (nb v (stB v (numB v m)))).toInt < 300 ∧ 0 ≤ kidB v (stB v (numB v m)) 0 ∧ kidB v (stB v (numB v m)) 0 < stB v (numB v m) ∧ 10 ≤ Kb v (kidB v (stB v (numB v m)) 0) ∧ Kb v (kidB v (stB v (numB v m)) 0) ≤ 23) := by
  have T := hN m m0 m1
  have n := T.2.2.1 (by omega)
  have s := T.2.2.2.2.2.2.2.2.2.2.2 hk
  have T2 := hN (stB v (numB v m)) s.2.1 (by have := s.2.2.1; omega)
  have c := T2.2.2.2.2.2.2.2.2.2.2.1 s.2.2.2
  have d := T2.2.1 0 (by omega) (by omega)
  have b21 := bd_129_21 hI
  have t := T2.1
  exact ⟨⟨n.1, n.2, s.1⟩, ⟨s.2.1, s.2.2.1⟩, by omega, d.1, d.2.1, c.2, d.2.2⟩
theorem tl_ve {v v' : MW} (hI : BND v) (h : TLb v) (e : VE v v') : TLb v' := by
  have bh := bhf_b hI
  have b13 := bd_129_13 hI
  have b21 := bd_129_21 hI
  have b23 := bd_129_23 hI
  have b24 := bd_129_24 hI
  have eh : bhf v' = bhf v := by unfold bhf; rw [e.1.1]
  have en : ∀ n, nb v' n = nb v n := fun n => by unfold nb; rw [eh]
  have eR : ∀ n, 0 ≤ n → n < 300 → (v'.1 131 (nb v n) = v.1 131 (nb v n) ∧ v'.2.1 132 (nb v n) = v.2.1 132 (nb v n) ∧ v'.1 135 (nb v n) = v.1 135 (nb v n) ∧ v'.1 136 (nb v n) = v.1 136 (nb v n)) := fun n n0 n1 => by
    have q := e.2.1 (nb v n) (by unfold nb; omega) (by unfold nb; omega)
    exact ⟨q.1, q.2.1, q.2.2.1, q.2.2.2.1⟩
  have eK : ∀ n, 0 ≤ n → n < 300 → Kb v' n = Kb v n := fun n n0 n1 => by unfold Kb; rw [en, (eR n n0 n1).1]
  have eM : ∀ n, 0 ≤ n → n < 300 → numB v' n = numB v n := fun n n0 n1 => by unfold numB; rw [en, (eR n n0 n1).2.1]
  have eC : ∀ n, 0 ≤ n → n < 300 → cnt v' n = cnt v n := fun n n0 n1 => by unfold cnt; rw [en, (eR n n0 n1).2.2.2]
  have eD : ∀ n k, 0 ≤ n → n < 300 → 0 ≤ k → (v.1 135 (nb v n)).toInt + k < 300 → kidB v' n k = kidB v n k := fun n k n0 n1 k0 k1 => by
    have b := bd_135 hI (nb v n)
    unfold kidB
    rw [en, eh, (eR n n0 n1).2.2.1, (e.2.1 _ (by omega) (by omega)).2.2.2.2.1]
  have eS : ∀ m, 0 ≤ m → m < 40 → stB v' m = stB v m := fun m m0 m1 => by
    unfold stB
    rw [eh, e.2.2 _ (by omega) (by omega)]
  have eT : ∀ t, 0 ≤ t → t < 300 → topB v' t = topB v t := fun t t0 t1 => by
    unfold topB
    rw [eh, (e.2.1 _ (by omega) (by omega)).2.2.2.2.2]
  refine ⟨fun n n0 n1 => ?_, fun t t0 t1 => ?_, ?_⟩
  · rw [e.1.2.1] at n1
    have T := h.1 n n0 n1
    have r := eR n n0 (by omega)
    unfold TbN
    rw [en, r.2.2.1, r.2.2.2, e.1.2.2.1, eK n n0 (by omega), eM n n0 (by omega)]
    have ek : ∀ k, 0 ≤ k → k < (v.1 136 (nb v n)).toInt → kidB v' n k = kidB v n k := fun k k0 k1 => eD n k n0 (by omega) k0 (by have := T.1; omega)
    refine ⟨T.1, fun k k0 k1 => ?_, TbC.mono T.2.2 (fun k k0 k1 => ?_) (fun k19 q => ?_)⟩
    · have t := T.2.1 k k0 k1
      rw [ek k k0 k1, eK _ t.1 (by omega)]
      exact t
    · have t := T.2.1 k k0 k1
      show Kb v' (kidB v' n k) = Kb v (kidB v n k)
      rw [ek k k0 k1, eK _ t.1 (by omega)]
    · have d := T.2.2.1 (by omega)
      unfold sn
      rw [eS _ d.1 d.2, e.1.2.2.2.2, eK _ q.2.1 (by have := q.2.2.1; omega)]
      exact q
  · rw [e.1.2.2.2.1] at t1
    have q := h.2.1 t t0 t1
    rw [eT t t0 (by omega), eK _ q.1 (by omega), e.1.2.1]
    exact q
  · obtain ⟨c, hc⟩ := h.2.2
    refine ⟨c, hc.1, fun m m0 m1 q k0 k1 => ?_, ?_⟩
    · rw [e.1.2.1] at m1
      rw [eK m m0 (by omega)] at k0 k1
      have z := hc.2.1 m m0 m1 q k0 k1
      have T := h.1 m m0 m1
      rw [eC m m0 (by omega), eK m m0 (by omega)]
      have ec : csum (fun k => c (kidB v' m k)) (cnt v m).toNat = csum (fun k => c (kidB v m k)) (cnt v m).toNat := csum_c _ (fun k a b => by
        have bc := bd_136 hI (nb v m)
        have ecn : (v.1 136 (nb v m)).toInt = cnt v m := rfl
        have t := T.1
        rw [eD m k m0 (by omega) a (by omega)])
      rw [ec]
      refine ⟨z.1, fun q19 => ?_⟩
      have d := tn_do hI h.1 m0 m1 q19
      rw [eM m m0 (by omega), eS _ d.1.1 d.1.2.1, eD _ 0 d.2.1.1 (by omega) (by omega) (by have := d.2.2.1; omega)]
      exact z.2 q19
    · rw [e.1.2.2.2.1]
      have ec : csum (ctp v' c) (v.1 129 23).toInt.toNat = csum (ctp v c) (v.1 129 23).toInt.toNat := csum_c _ (fun t a b => by
        have q := h.2.1 t a (by omega)
        unfold ctp
        rw [eT t a (by omega), eK _ q.1 (by omega)])
      rw [ec]
      exact hc.2.2
def lTL : Pl := [(129, some 12), (129, some 30), (129, some 31), (129, some 32), (131, none), (132, none), (135, none), (136, none), (137, none), (138, none), (143, none)]
theorem tlx_fr {l : Pl} {w w' : MW} (hI : BND w) (hF : FR l w w') (ho : off l lTL = true) (h : TLx w) : TLx w' := by
  have hq : ∀ k j, hit lTL k j = true → w'.1 k j = w.1 k j ∧ w'.2.1 k j = w.2.1 k j := fun k j hk => ⟨(hF k j (off_hit ho hk)).1, (hF k j (off_hit ho hk)).2.1⟩
  refine tl_ve (fl_b hI) h ⟨⟨?_, (hq 129 30 rfl).1, rfl, (hq 129 31 rfl).1, (hq 129 32 rfl).1⟩, fun j _ _ => ⟨(hq 131 j rfl).1, (hq 132 j rfl).2, (hq 135 j rfl).1, (hq 136 j rfl).1, (hq 137 j rfl).1, (hq 138 j rfl).1⟩, fun j _ _ => (hq 143 j rfl).1⟩
  show (1 : Int32) - (w'.1 129 12) = (1 : Int32) - (w.1 129 12)
  rw [(hq 129 12 rfl).1]
theorem tlx_sh {w w' : MW} (hI : BND w) (hF : w'.1 129 12 = w.1 129 12 ∧ w'.1 129 30 = w.1 129 30 ∧ w'.1 129 31 = w.1 129 31 ∧ w'.1 129 32 = w.1 129 32) (h1 : SHh w w') (h2 : SH2 w w') (h : TLx w) : TLx w' := by
  refine tl_ve (fl_b hI) h ⟨⟨?_, hF.2.1, rfl, hF.2.2.1, hF.2.2.2⟩, fun j a b => ?_, fun j a b => ?_⟩
  · show (1 : Int32) - (w'.1 129 12) = (1 : Int32) - (w.1 129 12)
    rw [hF.1]
  · rw [fl_h hI] at a b
    have p := h1 j a b
    exact ⟨p.1, p.2.1, p.2.2.1, p.2.2.2.1, p.2.2.2.2, h2.1 j a b⟩
  · rw [fl_h hI] at a b
    exact h2.2 j a b
theorem fl_n {w : MW} (h : BND w) (n : Int) : nb (fl w) n = nd1 w n := by
  unfold nb nd1
  rw [fl_h h]
theorem fl_K {w : MW} (h : BND w) (n : Int) : Kb (fl w) n = (w.1 131 (nd1 w n)).toInt := by
  unfold Kb
  rw [fl_n h]
  rfl
theorem fl_kid {w : MW} (h : BND w) (n k : Int) : kidB (fl w) n k = (kidV w n k).toInt := by
  unfold kidB kidV
  rw [fl_n h, fl_h h]
  rfl
theorem fl_num {w : MW} (h : BND w) (n : Int) : numB (fl w) n = (Int64.toInt32 (w.2.1 132 (nd1 w n))).toInt := by
  unfold numB
  rw [fl_n h]
  rfl
theorem fl_nds {w : MW} : (fl w).1 129 13 = w.1 129 30 := rfl
theorem tl_kide {w : MW} {n k : Int} (hI : BND w) (T : TbN (fl w) n) (k0 : 0 ≤ k) (k1 : k < ((fl w).1 136 (nb (fl w) n)).toInt) (k9 : Kb (fl w) (kidB (fl w) n k) ≤ 9) : KIDe w n k := by
  have t := T.2.1 k k0 k1
  have t1 := T.1
  have b21 : ((fl w).1 129 21).toInt = 300 := by show (300 : Int32).toInt = 300; decide
  have e : (fl w).1 135 (nb (fl w) n) = w.1 135 (nd1 w n) := by rw [fl_n hI]; rfl
  rw [e] at t1
  rw [fl_K hI, fl_kid hI] at k9
  rw [fl_kid hI] at t
  exact ⟨by omega, t.1, t.2.1, k9⟩
theorem tl_tex {w : MW} (hI : BND w) (h : TLx w) : TEx w ∧ TSx w := by
  refine ⟨fun n n0 n1 k9 => ?_, fun n n0 n1 => ?_⟩
  · have T := h.1 n.toInt n0 n1
    have C := T.2.2
    rw [fl_K hI, fl_num hI] at C
    refine ⟨fun q => C.1 (by omega), fun q0 q1 => ⟨?_, fun q6 => ?_⟩⟩
    · have z := C.2.2.1 k9 q0 q1
      exact tl_kide hI T (by omega) (by have := z.1; omega) z.2
    · have z := C.2.2.2.1 k9 q0 q1 q6
      exact tl_kide hI T (by omega) (by have := z.1; omega) z.2
  · have T := h.1 n.toInt n0 n1
    have C := T.2.2
    rw [fl_K hI, fl_num hI] at C
    have eW : Wn w n = (w.1 131 (nd1 w n.toInt)).toInt := rfl
    rw [eW]
    refine ⟨fun q => ?_, fun q => ?_, fun q => C.1 (by omega), fun q => C.2.1 q⟩
    · have z := C.2.2.2.2.1 q
      exact tl_kide hI T (by omega) (by have := z.1; omega) z.2
    · have z := C.2.2.2.2.2.1 q
      exact tl_kide hI T (by omega) (by have := z.1; omega) z.2
def lrd : Pl := [(129, some 1), (129, some 12), (129, some 30), (129, some 31), (129, some 32), (129, some 33), (145, none), (146, none), (129, some 2), (129, some 3), (129, some 4), (129, some 5), (129, some 6), (129, some 7), (129, some 8), (129, some 9), (129, some 10), (129, some 11), (129, some 13), (129, some 21), (129, some 23), (129, some 24), (129, some 35), (129, some 38), (131, none), (132, none), (133, none), (134, none), (135, none), (136, none), (137, none), (138, none), (139, none), (140, none), (141, none), (142, none), (143, none), (144, none)]
def lr0 : Pl := [(129, some 2), (129, some 3), (129, some 11), (129, some 13), (129, some 21), (129, some 23), (129, some 24), (129, some 35), (129, some 38), (129, some 10)]
theorem rd_start {w : MW} (hI : BND w) (hV : VG w) : PgI (sI (sI (sI (sI (sI (sI (sI (sI (sI (sI w 129 2 0) 129 3 1) 129 11 0) 129 13 0) 129 21 0) 129 23 0) 129 24 0) 129 35 0) 129 38 0) 129 10 (-1)) := by
  have b1 := bd_129_1 hI
  refine ⟨⟨wbd_129_10 (wbd_129_38 (wbd_129_35 (wbd_129_24 (wbd_129_23 (wbd_129_21 (wbd_129_13 (wbd_129_11 (wbd_129_3 (wbd_129_2 hI (by decide) (by decide))) (by decide) (by decide)) (by decide) (by decide)) (by decide) (by decide)) (by decide) (by decide)) (by decide) (by decide)) (by decide) (by decide))), ⟨?_, hV⟩, by omega, ?_, fun n n0 n1 => ?_, fun k k0 k1 => ?_, fun m m0 m1 => ?_⟩, fun t t0 t1 => ?_⟩
  · show (0 : Int32).toInt ≤ (w.1 129 1).toInt
    rw [i_0]
    exact b1.1
  · show (0 : Int32).toInt + (0 : Int32).toInt + (0 : Int32).toInt + 0 ≤ (0 : Int32).toInt
    decide
  · have q : n < (0 : Int32).toInt := n1
    rw [i_0] at q
    omega
  · have q : k < (0 : Int32).toInt := k1
    rw [i_0] at q
    omega
  · have q : m < (0 : Int32).toInt := m1
    rw [i_0] at q
    omega
  · have q : t < (0 : Int32).toInt := t1
    rw [i_0] at q
    omega
/-- read: a program more, or the one that stood -/
theorem t_read {w : MW} {Q : Int32 → MW → Prop} (hI : BND w) (hV : VG w) (hT : TLx w) (hQ : ∀ (r : Int32) (w' : MW), BND w' → FR lrd w w' → VG w' → TLx w' → (r.toInt < 0 → SHh w w' ∧ w'.1 129 12 = w.1 129 12 ∧ w'.1 129 30 = w.1 129 30) → Q r w') : p_Tx_read w Q := by
  have h0 := rd_start hI hV
  have f0 : FR lr0 w (sI (sI (sI (sI (sI (sI (sI (sI (sI (sI w 129 2 0) 129 3 1) 129 11 0) 129 13 0) 129 21 0) 129 23 0) 129 24 0) 129 35 0) 129 38 0) 129 10 (-1)) := FR.I (FR.I (FR.I (FR.I (FR.I (FR.I (FR.I (FR.I (FR.I (FR.I (FR.refl _ w) rfl) rfl) rfl) rfl) rfl) rfl) rfl) rfl) rfl) rfl
  have m0 : MD (sI (sI (sI (sI (sI (sI (sI (sI (sI (sI w 129 2 0) 129 3 1) 129 11 0) 129 13 0) 129 21 0) 129 23 0) 129 24 0) 129 35 0) 129 38 0) 129 10 (-1)) := by
    show 0 ≤ (0 : Int32).toInt ∧ (0 : Int32).toInt ≤ (0 : Int32).toInt
    decide
  refine Eq.mpr (p_Tx_read.eq_1 _ _) ?_
  generalize (sI (sI (sI (sI (sI (sI (sI (sI (sI (sI w 129 2 0) 129 3 1) 129 11 0) 129 13 0) 129 21 0) 129 23 0) 129 24 0) 129 35 0) 129 38 0) 129 10 (-1)) = w0 at *
  have g0 : SHh w w0 := fun j _ _ => ⟨(f0 131 j rfl).1, (f0 132 j rfl).2.1, (f0 135 j rfl).1, (f0 136 j rfl).1, (f0 137 j rfl).1⟩
  have k0 : SH2 w w0 := ⟨fun j _ _ => (f0 138 j rfl).1, fun j _ _ => (f0 143 j rfl).1⟩
  have e0 : w0.1 129 12 = w.1 129 12 := (f0 129 12 rfl).1
  have N : ∀ w1 : MW, BND w1 → FR lrd w w1 → VG w1 → SHh w w1 → SH2 w w1 → w1.1 129 12 = w.1 129 12 → w1.1 129 30 = w.1 129 30 → w1.1 129 31 = w.1 129 31 → w1.1 129 32 = w.1 129 32 → q_Tx_read_69 0 w1 Q := fun w1 i1 f1 v1 s1 t1 a b c d => Eq.mpr (q_Tx_read_69.eq_1 _ _ _) ⟨fun q => absurd i_0 q, fun _ => hQ _ _ (wbd_129_1 i1 (by decide) (by decide)) (FR.I f1 rfl) v1 (tlx_sh hI ⟨a, b, c, d⟩ s1 t1 hT) (fun _ => ⟨s1, a, b⟩)⟩
  refine t_program h0 (fun r1 w1 h1 s1 k1 => ?_)
  have E1 : SHh w w1 := SHh.tr2 e0 g0 s1.2.1
  have E2 : SH2 w w1 := ⟨fun j a b => (s1.2.2.1 j (by rw [e0]; exact a) (by rw [e0]; exact b)).trans (k0.1 j a b), fun j a b => (s1.2.2.2 j (by rw [e0]; exact a) (by rw [e0]; exact b)).trans (k0.2 j a b)⟩
  have F1 : FR lrd w w1 := ((FR.refl lrd w).tr f0 rfl).tr s1.1 rfl
  have q12 : w1.1 129 12 = w.1 129 12 := ((s1.1 129 12 rfl).1).trans e0
  have q30 : w1.1 129 30 = w.1 129 30 := ((s1.1 129 30 rfl).1).trans (f0 129 30 rfl).1
  have q31 : w1.1 129 31 = w.1 129 31 := ((s1.1 129 31 rfl).1).trans (f0 129 31 rfl).1
  have q32 : w1.1 129 32 = w.1 129 32 := ((s1.1 129 32 rfl).1).trans (f0 129 32 rfl).1
  refine ⟨fun _ => N w1 h1.1.1 F1 h1.1.2.1.2 E1 E2 q12 q30 q31 q32, fun c1 => t_small h1 (fun r4 w4 i4 f4 k4 => ?_)⟩
  have M1 := (k1.resolve_left c1).2 m0
  have F4 : FR lrd w w4 := F1.tr f4 rfl
  have v4 : VG w4 := by unfold VG; rw [(f4 129 8 rfl).2.1]; exact h1.1.2.1.2
  have E14 : SHh w w4 := SHh.tr2 q12 E1 (fun j _ _ => ⟨(f4 131 j rfl).1, (f4 132 j rfl).2.1, (f4 135 j rfl).1, (f4 136 j rfl).1, (f4 137 j rfl).1⟩)
  have E24 : SH2 w w4 := ⟨fun j a b => ((f4 138 j rfl).1).trans (E2.1 j a b), fun j a b => ((f4 143 j rfl).1).trans (E2.2 j a b)⟩
  refine ⟨fun _ => N w4 i4 F4 v4 E14 E24 (((f4 129 12 rfl).1).trans q12) (((f4 129 30 rfl).1).trans q30) (((f4 129 31 rfl).1).trans q31) (((f4 129 32 rfl).1).trans q32), fun c4 => ?_⟩
  have k := (k4.resolve_left c4).2
  have b13 := bd_129_13 i4
  have b23 := bd_129_23 i4
  have b24 := bd_129_24 i4
  have b12 := bd_129_12 i4
  have sh := ti_sub2 (by decide : ((1 : Int32)).toInt = 1) (Eq.refl (w4.1 129 12).toInt) (by omega) (by omega)
  refine Eq.mpr (q_Tx_read_69.eq_1 _ _ _) ⟨fun _ => hQ _ _ (wbd_129_33 (wbd_129_32 (wbd_129_31 (wbd_129_30 (wbd_129_12 (wbd_129_1 i4 (by decide) (by decide)) (by omega) (by omega)) b13.1 b13.2) b23.1 b23.2) b24.1 b24.2)) (FR.I (FR.I (FR.I (FR.I (FR.I (FR.I F4 rfl) rfl) rfl) rfl) rfl) rfl) v4 ?_ (fun q => ?_), fun q => absurd (by decide) q⟩
  · have hL : TLb w1 := ⟨h1.1.2.2.2.2.1, h1.2, k⟩
    have z : TLb (sI w1 129 21 300) := by
      have e13 : (sI w1 129 21 300).1 129 13 = w1.1 129 13 := rfl
      have b21 := bd_129_21 h1.1.1
      refine ⟨fun n n0 n1 => ?_, hL.2.1, hL.2.2⟩
      have T := hL.1 n n0 n1
      refine ⟨?_, T.2⟩
      show (w1.1 135 (nb w1 n)).toInt + (w1.1 136 (nb w1 n)).toInt ≤ (300 : Int32).toInt
      rw [(by decide : ((300 : Int32)).toInt = 300)]
      have := T.1
      omega
    have bz : BND (sI w1 129 21 300) := wbd_129_21 h1.1.1 (by decide) (by decide)
    have zh : bhf (sI w1 129 21 300) = bhf w1 := rfl
    refine tl_ve bz z ⟨⟨?_, (f4 129 13 rfl).1, rfl, (f4 129 23 rfl).1, (f4 129 24 rfl).1⟩, fun j _ _ => ⟨(f4 131 j rfl).1, (f4 132 j rfl).2.1, (f4 135 j rfl).1, (f4 136 j rfl).1, (f4 137 j rfl).1, (f4 138 j rfl).1⟩, fun j _ _ => (f4 143 j rfl).1⟩
    show (1 : Int32) - ((1 : Int32) - (w4.1 129 12)) = w1.1 129 12
    have s2 := ti_sub2 (by decide : ((1 : Int32)).toInt = 1) sh (by omega) (by omega)
    rw [← (f4 129 12 rfl).1]
    exact Int32.toInt_inj.mp (by rw [s2]; omega)
  · have q' : (w4.1 129 38).toInt < 0 := q
    rw [(f4 129 38 rfl).1] at q'
    have := M1.1
    omega
