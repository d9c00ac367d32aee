/-! the reference's text: the tree that is built -/
def bhf (w : MW) : Int := 1 - (w.1 129 12).toInt
def nb (w : MW) (n : Int) : Nat := (300 * bhf w + n).toNat
def Kb (w : MW) (n : Int) : Int := (w.1 131 (nb w n)).toInt
def kidB (w : MW) (n k : Int) : Int := (w.1 137 (300 * bhf w + (w.1 135 (nb w n)).toInt + k).toNat).toInt
def numB (w : MW) (n : Int) : Int := (Int64.toInt32 (w.2.1 132 (nb w n))).toInt
def stB (w : MW) (m : Int) : Int := (w.1 143 (40 * bhf w + m).toNat).toInt
def pil (w : MW) (k : Int) : Int := (w.1 144 k.toNat).toInt
/-- what a node of kind K with number m and c kids of kinds kk keeps -/
def TbC (K m c : Int) (kk : Int → Int) (sn : Prop) : Prop :=
  ((K = 1 ∨ K = 10 ∨ K = 13 ∨ K = 18 ∨ K = 19) → 0 ≤ m ∧ m < 40) ∧ (K = 22 → 0 ≤ m ∧ m ≤ 31) ∧ (K ≤ 9 → ¬ K = 0 → ¬ K = 1 → 1 ≤ c ∧ kk 0 ≤ 9) ∧ (K ≤ 9 → ¬ K = 0 → ¬ K = 1 → ¬ K = 6 → 2 ≤ c ∧ kk 1 ≤ 9) ∧ ((K = 10 ∨ K = 11 ∨ K = 12 ∨ K = 13 ∨ K = 15 ∨ K = 16 ∨ K = 17) → 1 ≤ c ∧ kk 0 ≤ 9) ∧ (K = 13 → 2 ≤ c ∧ kk 1 ≤ 9) ∧ ((K = 15 ∨ K = 16 ∨ K = 17) → 2 ≤ c ∧ 10 ≤ kk 1) ∧ (K = 17 → 3 ≤ c ∧ 10 ≤ kk 2) ∧ (K = 24 → 1 ≤ c ∧ 10 ≤ kk 0) ∧ (K = 19 → sn)
theorem TbC.mono {K m c : Int} {kk kk' : Int → Int} {sn sn' : Prop} (h : TbC K m c kk sn) (hk : ∀ k, 0 ≤ k → k < c → kk' k = kk k) (hs : K = 19 → sn → sn') : TbC K m c kk' sn' := by
  refine ⟨h.1, h.2.1, fun a b e => ?_, fun a b e f => ?_, fun a => ?_, fun a => ?_, fun a => ?_, fun a => ?_, fun a => ?_, fun a => hs a (h.2.2.2.2.2.2.2.2.2 a)⟩
  · have q := h.2.2.1 a b e
    rw [hk 0 (by omega) (by omega)]
    exact q
  · have q := h.2.2.2.1 a b e f
    rw [hk 1 (by omega) (by omega)]
    exact q
  · have q := h.2.2.2.2.1 a
    rw [hk 0 (by omega) (by omega)]
    exact q
  · have q := h.2.2.2.2.2.1 a
    rw [hk 1 (by omega) (by omega)]
    exact q
  · have q := h.2.2.2.2.2.2.1 a
    rw [hk 1 (by omega) (by omega)]
    exact q
  · have q := h.2.2.2.2.2.2.2.1 a
    rw [hk 2 (by omega) (by omega)]
    exact q
  · have q := h.2.2.2.2.2.2.2.2.1 a
    rw [hk 0 (by omega) (by omega)]
    exact q
def sn (w : MW) (m n : Int) : Prop := m < (w.1 129 24).toInt ∧ 0 ≤ stB w m ∧ stB w m < n ∧ Kb w (stB w m) = 24
def TbN (w : MW) (n : Int) : Prop := (w.1 135 (nb w n)).toInt + (w.1 136 (nb w n)).toInt ≤ (w.1 129 21).toInt ∧ (∀ k, 0 ≤ k → k < (w.1 136 (nb w n)).toInt → 0 ≤ kidB w n k ∧ kidB w n k < n ∧ Kb w (kidB w n k) ≤ 23) ∧ TbC (Kb w n) (numB w n) (w.1 136 (nb w n)).toInt (fun k => Kb w (kidB w n k)) (sn w (numB w n) n)
def TbI (e : Int) (w : MW) : Prop := BND w ∧ PV w ∧ 0 ≤ e ∧ (w.1 129 35).toInt + (w.1 129 21).toInt + (w.1 129 23).toInt + e ≤ (w.1 129 13).toInt ∧ (∀ n, 0 ≤ n → n < (w.1 129 13).toInt → TbN w n) ∧ (∀ k, 0 ≤ k → k < (w.1 129 35).toInt → 0 ≤ pil w k ∧ pil w k < (w.1 129 13).toInt ∧ Kb w (pil w k) ≤ 23) ∧ (∀ m, 0 ≤ m → m < (w.1 129 24).toInt → 0 ≤ stB w m → stB w m < (w.1 129 13).toInt ∧ Kb w (stB w m) = 24)
/-- the half that stands is not touched -/
def SHh (w w' : MW) : Prop := ∀ j : Nat, 300 * (w.1 129 12).toInt ≤ (j : Int) → (j : Int) < 300 * (w.1 129 12).toInt + 300 → w'.1 131 j = w.1 131 j ∧ w'.2.1 132 j = w.2.1 132 j ∧ w'.1 135 j = w.1 135 j ∧ w'.1 136 j = w.1 136 j ∧ w'.1 137 j = w.1 137 j
def lpa : Pl := [(129, some 2), (129, some 3), (129, some 4), (129, some 5), (129, some 6), (129, some 7), (129, some 8), (129, some 9), (129, some 10), (129, some 11), (129, some 13), (129, some 21), (129, some 35), (129, some 38), (131, none), (132, none), (133, none), (134, none), (135, none), (136, none), (137, none), (144, none)]
def TbS (m : Int) (w w' : MW) : Prop := FR lpa w w' ∧ SHh w w' ∧ (w.1 129 13).toInt ≤ (w'.1 129 13).toInt ∧ (∀ n, 0 ≤ n → n < (w.1 129 13).toInt → Kb w' n = Kb w n) ∧ (∀ k, 0 ≤ k → k < m → pil w' k = pil w k)
theorem SHh.refl (w : MW) : SHh w w := fun _ _ _ => ⟨rfl, rfl, rfl, rfl, rfl⟩
theorem SHh.tr {w w1 w2 : MW} (hF : FR lpa w w1) (h : SHh w w1) (h2 : SHh w1 w2) : SHh w w2 := fun j a b => by
  have e : w1.1 129 12 = w.1 129 12 := (hF 129 12 rfl).1
  have q := h2 j (by rw [e]; exact a) (by rw [e]; exact b)
  have p := h j a b
  exact ⟨q.1.trans p.1, q.2.1.trans p.2.1, q.2.2.1.trans p.2.2.1, q.2.2.2.1.trans p.2.2.2.1, q.2.2.2.2.trans p.2.2.2.2⟩
theorem TbS.refl {m : Int} (w : MW) : TbS m w w := ⟨FR.refl _ w, SHh.refl w, Int.le_refl _, fun _ _ _ => rfl, fun _ _ _ => rfl⟩
theorem TbS.tr {m m2 : Int} {w w1 w2 : MW} (h : TbS m w w1) (h2 : TbS m2 w1 w2) (hm : m ≤ m2) : TbS m w w2 :=
  ⟨h.1.tr h2.1 rfl, SHh.tr h.1 h.2.1 h2.2.1, Int.le_trans h.2.2.1 h2.2.2.1, fun n a b => (h2.2.2.2.1 n a (by have := h.2.2.1; omega)).trans (h.2.2.2.1 n a b), fun k a b => (h2.2.2.2.2 k a (by omega)).trans (h.2.2.2.2 k a b)⟩
theorem TbS.wk {m m2 : Int} {w w1 : MW} (h : TbS m w w1) (hm : m2 ≤ m) : TbS m2 w w1 := ⟨h.1, h.2.1, h.2.2.1, h.2.2.2.1, fun k a b => h.2.2.2.2 k a (by omega)⟩
def lTb : Pl := [(129, some 12), (129, some 13), (129, some 21), (129, some 23), (129, some 24), (129, some 35), (131, none), (132, none), (135, none), (136, none), (137, none), (143, none), (144, none)]
theorem tb_eq {l : Pl} {w w' : MW} (hF : FR l w w') (ho : off l lTb = true) : (∀ k j, hit lTb k j = true → w'.1 k j = w.1 k j ∧ w'.2.1 k j = w.2.1 k j) := fun k j hk => ⟨(hF k j (off_hit ho hk)).1, (hF k j (off_hit ho hk)).2.1⟩
theorem TbI_fr {l : Pl} {e : Int} {w w' : MW} (h : TbI e w) (hF : FR l w w') (hI : BND w') (hZ : PV w') (ho : off l lTb = true) : TbI e w' := by
  have hq := tb_eq hF ho
  have q12 := (hq 129 12 rfl).1
  have q13 := (hq 129 13 rfl).1
  have q21 := (hq 129 21 rfl).1
  have q23 := (hq 129 23 rfl).1
  have q24 := (hq 129 24 rfl).1
  have q35 := (hq 129 35 rfl).1
  have q131 : ∀ j, w'.1 131 j = w.1 131 j := fun j => (hq 131 j rfl).1
  have q132 : ∀ j, w'.2.1 132 j = w.2.1 132 j := fun j => (hq 132 j rfl).2
  have q135 : ∀ j, w'.1 135 j = w.1 135 j := fun j => (hq 135 j rfl).1
  have q136 : ∀ j, w'.1 136 j = w.1 136 j := fun j => (hq 136 j rfl).1
  have q137 : ∀ j, w'.1 137 j = w.1 137 j := fun j => (hq 137 j rfl).1
  have q143 : ∀ j, w'.1 143 j = w.1 143 j := fun j => (hq 143 j rfl).1
  have q144 : ∀ j, w'.1 144 j = w.1 144 j := fun j => (hq 144 j rfl).1
  refine ⟨hI, hZ, ?_⟩
  have g := h.2.2
  unfold TbN sn stB kidB Kb numB nb bhf pil at *
  simp only [q12, q13, q21, q23, q24, q35, q131, q132, q135, q136, q137, q143, q144]
  exact g
theorem TbS_fr {l : Pl} {m : Int} {w w' : MW} (hF : FR l w w') (ho : off l lTb = true) (hs : sub l lpa = true) : TbS m w w' := by
  have hq := tb_eq hF ho
  have q12 := (hq 129 12 rfl).1
  refine ⟨(FR.refl lpa w).tr hF hs, fun j _ _ => ⟨(hq 131 j rfl).1, (hq 132 j rfl).2, (hq 135 j rfl).1, (hq 136 j rfl).1, (hq 137 j rfl).1⟩, by rw [(hq 129 13 rfl).1]; omega, fun n _ _ => ?_, fun k _ _ => ?_⟩
  · unfold Kb nb bhf
    rw [q12, (hq 131 _ rfl).1]
  · unfold pil
    rw [(hq 144 _ rfl).1]
theorem bb_ix {w : MW} {n : Int32} (hI : BND w) (n0 : 0 ≤ n.toInt) (n1 : n.toInt < 600) : (((300 : Int32) * ((1 : Int32) - (w.1 129 12))) + n).toInt = 300 * bhf w + n.toInt := by
  have b := bd_129_12 hI
  have s := ti_sub2 (by decide : ((1 : Int32)).toInt = 1) (Eq.refl (w.1 129 12).toInt) (by omega) (by omega)
  have m := ti_mul2 (by decide : ((300 : Int32)).toInt = 300) s (by omega) (by omega)
  exact ti_add2 m (Eq.refl n.toInt) (by unfold bhf at *; omega) (by unfold bhf at *; omega)
theorem bhf_b {w : MW} (hI : BND w) : 0 ≤ bhf w ∧ bhf w ≤ 1 := by
  have b := bd_129_12 hI
  unfold bhf
  omega
theorem TbI.wk {e e2 : Int} {w : MW} (h : TbI e w) (h0 : 0 ≤ e2) (h1 : e2 ≤ e) : TbI e2 w := ⟨h.1, h.2.1, h0, by have := h.2.2.2.1; omega, h.2.2.2.2⟩
theorem kb_fr {l : Pl} {w w' : MW} (hF : FR l w w') (ho : off l lTb = true) (n : Int) : Kb w' n = Kb w n := by
  have hq := tb_eq hF ho
  unfold Kb nb bhf
  rw [(hq 129 12 rfl).1, (hq 131 _ rfl).1]
theorem pil_fr {l : Pl} {w w' : MW} (hF : FR l w w') (ho : off l lTb = true) (n : Int) : pil w' n = pil w n := by
  have hq := tb_eq hF ho
  unfold pil
  rw [(hq 144 _ rfl).1]
theorem stB_fr {l : Pl} {w w' : MW} (hF : FR l w w') (ho : off l lTb = true) (n : Int) : stB w' n = stB w n := by
  have hq := tb_eq hF ho
  unfold stB bhf
  rw [(hq 129 12 rfl).1, (hq 143 _ rfl).1]
/-- a way from w to w1 that leaves pile and depth as they were -/
def MD (w : MW) : Prop := 0 ≤ (w.1 129 38).toInt ∧ (w.1 129 38).toInt ≤ (w.1 129 13).toInt
def TbM (w w1 : MW) : Prop := TbS (w.1 129 35).toInt w w1 ∧ w1.1 129 35 = w.1 129 35 ∧ w1.1 129 11 = w.1 129 11 ∧ (MD w → MD w1)
theorem TbM.refl (w : MW) : TbM w w := ⟨TbS.refl w, rfl, rfl, id⟩
theorem TbM.tr {w w1 w2 : MW} (h : TbM w w1) (h2 : TbM w1 w2) : TbM w w2 := ⟨h.1.tr h2.1 (by rw [h.2.1]; exact Int.le_refl _), h2.2.1.trans h.2.1, h2.2.2.1.trans h.2.2.1, fun q => h2.2.2.2 (h.2.2.2 q)⟩
theorem TbM.fr {l : Pl} {w w' : MW} (hF : FR l w w') (ho : off l ((129, some 11) :: (129, some 38) :: lTb) = true) (hs : sub l lpa = true) : TbM w w' := ⟨TbS_fr hF (off_mono ho (by decide)) hs, (hF 129 35 (off_hit ho rfl)).1, (hF 129 11 (off_hit ho rfl)).1, fun q => by unfold MD; rw [(hF 129 38 (off_hit ho rfl)).1, (hF 129 13 (off_hit ho rfl)).1]; exact q⟩
def TxO (e lo hi : Int) (w : MW) (r : Int32) (w' : MW) : Prop := TbI e w' ∧ TbS (w.1 129 35).toInt w w' ∧ (0 ≤ r.toInt → r.toInt < (w'.1 129 13).toInt ∧ lo ≤ Kb w' r.toInt ∧ Kb w' r.toInt ≤ hi ∧ TbI (e + 1) w' ∧ TbM w w' ∧ (w.1 129 13).toInt < (w'.1 129 13).toInt)
theorem TxO.seq {e lo hi : Int} {w w1 w' : MW} {r : Int32} (h : TbM w w1) (h2 : TxO e lo hi w1 r w') : TxO e lo hi w r w' :=
  ⟨h2.1, h.1.tr h2.2.1 (by rw [h.2.1]; exact Int.le_refl _), fun c => ⟨(h2.2.2 c).1, (h2.2.2 c).2.1, (h2.2.2 c).2.2.1, (h2.2.2 c).2.2.2.1, h.tr (h2.2.2 c).2.2.2.2.1, Int.lt_of_le_of_lt h.1.2.2.1 (h2.2.2 c).2.2.2.2.2⟩⟩
theorem TxO.bad {e lo hi : Int} {w w' : MW} {r : Int32} (h : TbI e w') (hs : TbS (w.1 129 35).toInt w w') (hr : r.toInt < 0) : TxO e lo hi w r w' := ⟨h, hs, fun c => by omega⟩
theorem TxO.wd {e lo hi lo2 hi2 : Int} {w w' : MW} {r : Int32} (h : TxO e lo hi w r w') (h1 : lo2 ≤ lo) (h2 : hi ≤ hi2) : TxO e lo2 hi2 w r w' := ⟨h.1, h.2.1, fun c => ⟨(h.2.2 c).1, by have := (h.2.2 c).2.1; omega, by have := (h.2.2 c).2.2.1; omega, (h.2.2 c).2.2.2⟩⟩
/-- a token more -/
theorem t_go {e : Int} {w : MW} {Q : Int32 → MW → Prop} (h : TbI e w) (hQ : ∀ (r : Int32) (w' : MW), TbI e w' → FR l_Tx_go w w' → 0 ≤ r.toInt → r.toInt ≤ 1 → r.toInt = 0 ∨ (w'.1 129 4).toInt < 900 ∨ 2000 ≤ (w'.1 129 4).toInt ∨ ((w'.1 129 5).toInt ≤ (w'.1 129 6).toInt ∧ (w'.1 129 6).toInt ≤ (w'.1 129 5).toInt + 12) → Q r w') : p_Tx_go w Q :=
  g_go h.1 h.2.1.1 h.2.1.2 (fun r w' hI hF hZ hV r0 r1 hr => hQ r w' (TbI_fr h hF hI ⟨hZ, hV⟩ rfl) hF r0 r1 hr)
theorem t_go' {e : Int} {w : MW} {Q : Int32 → MW → Prop} (h : TbI e w) (hQ : ∀ (r : Int32) (w' : MW), TbI e w' → TbM w w' → Q r w') : p_Tx_go w Q :=
  t_go h (fun r w' hI hF _ _ _ => hQ r w' hI (TbM.fr hF rfl rfl))
/-- a failure: a token's place is told -/
theorem t_wrong {e : Int} {w : MW} {v : Int32} (h : TbI e w) : TbI e (sI w 129 10 v) := TbI_fr (l := [(129, some 10)]) h (FR.I (FR.refl _ w) rfl) (wbd_129_10 h.1) (PV_fr (l := [(129, some 10)]) (FR.I (FR.refl _ w) rfl) rfl h.2.1) rfl
theorem s_wrong {w : MW} {v : Int32} : TbM w (sI w 129 10 v) := TbM.fr (l := [(129, some 10)]) (FR.I (FR.refl _ w) rfl) rfl rfl
theorem t_made {e : Int} {w : MW} {v : Int32} (h : TbI e w) : TbI e (sI w 129 38 v) := TbI_fr (l := [(129, some 38)]) h (FR.I (FR.refl _ w) rfl) (wbd_129_38 h.1) (PV_fr (l := [(129, some 38)]) (FR.I (FR.refl _ w) rfl) rfl h.2.1) rfl
theorem t_open {e : Int} {w : MW} {v : Int32} (h : TbI e w) (v0 : 0 ≤ v.toInt) (v1 : v.toInt ≤ 20) : TbI e (sI w 129 11 v) := TbI_fr (l := [(129, some 11)]) h (FR.I (FR.refl _ w) rfl) (wbd_129_11 h.1 v0 v1) (PV_fr (l := [(129, some 11)]) (FR.I (FR.refl _ w) rfl) rfl h.2.1) rfl
theorem s_open {m : Int} {w : MW} {v : Int32} : TbS m w (sI w 129 11 v) := TbS_fr (l := [(129, some 11)]) (FR.I (FR.refl _ w) rfl) rfl rfl
theorem t_over {e : Int} {w : MW} {a : Int32} {Q : Int32 → MW → Prop} (h : TbI e w) (hQ : ∀ (r : Int32) (w' : MW), TbI e w' → FR l_Tx_go w w' → Q r w') : p_Tx_over w a Q :=
  Eq.mpr (p_Tx_over.eq_1 _ _ _) ⟨fun _ => t_go h (fun r w' hI hF _ _ _ => hQ r w' hI hF), fun _ => hQ _ _ (t_wrong h) (FR.I (FR.refl _ w) rfl)⟩
theorem t_bad {e : Int} {w : MW} {Q : Int32 → MW → Prop} (h : TbI e w) (hQ : ∀ (r : Int32) (w' : MW), r.toInt < 0 → TbI e w' → TbM w w' → Q r w') : p_Tx_bad w Q :=
  Eq.mpr (p_Tx_bad.eq_1 _ _) (hQ _ _ (by decide) (t_wrong h) s_wrong)
/-- the kids of a node, one by one -/
def NdL (w1 : MW) (f t : Int) (w : MW) : Prop := BND w ∧ FR [(129, some 21), (137, none)] w1 w ∧ (w.1 129 21).toInt = (w1.1 129 21).toInt + (t - f) ∧ (∀ i : Int, 0 ≤ i → i < t - f → w.1 137 (300 * bhf w1 + (w1.1 129 21).toInt + i).toNat = w1.1 144 (f + i).toNat) ∧ (∀ j : Nat, ((j : Int) < 300 * bhf w1 + (w1.1 129 21).toInt ∨ 300 * bhf w1 + (w1.1 129 21).toInt + (t - f) ≤ (j : Int)) → w.1 137 j = w1.1 137 j)
theorem nd_step {w1 w : MW} {f t : Int} {ix : Nat} {v x : Int32} (h : NdL w1 f t w) (ht : f ≤ t) (hx : (ix : Int) = 300 * bhf w1 + (w1.1 129 21).toInt + (t - f)) (h0 : 0 ≤ 300 * bhf w1 + (w1.1 129 21).toInt) (hv1 : v = w1.1 144 t.toNat) (hv0 : 0 ≤ v.toInt) (hv9 : v.toInt ≤ 299) (x1 : x.toInt = (w1.1 129 21).toInt + (t - f) + 1) (x0 : 0 ≤ x.toInt) (x9 : x.toInt ≤ 300) : NdL w1 f (t + 1) (sI (sI w 137 ix v) 129 21 x) := by
  have r : ∀ j, (sI (sI w 137 ix v) 129 21 x).1 137 j = (sI w 137 ix v).1 137 j := fun j => sI_oth _ _ _ _ _ _ (by decide)
  refine ⟨wbd_129_21 (wbd_137 h.1 ix hv0 hv9) x0 x9, FR.I (FR.I h.2.1 rfl) rfl, ?_, fun i i0 i1 => ?_, fun j hj => ?_⟩
  · rw [sI_same, x1]
    omega
  · rw [r]
    by_cases c : i = t - f
    · subst c
      have e : (300 * bhf w1 + (w1.1 129 21).toInt + (t - f)).toNat = ix := by omega
      have e2 : (f + (t - f)).toNat = t.toNat := by omega
      rw [e, sI_same, hv1, e2]
    · rw [sI_ne _ _ _ _ _ (by omega)]
      exact h.2.2.2.1 i i0 (by omega)
  · rw [r, sI_ne _ _ _ _ _ (by omega)]
    exact h.2.2.2.2 j (by omega)
theorem nd_loop {w1 : MW} {f : Int32} {E : MW → Prop} {Q : Int32 → MW → Prop} (hf : 0 ≤ f.toInt) (hk0 : 0 ≤ (w1.1 129 21).toInt) (hk : (w1.1 129 35).toInt + (w1.1 129 21).toInt - f.toInt ≤ 300) (hE : ∀ w', NdL w1 f.toInt (w1.1 129 35).toInt w' → E w') (n : Nat) : ∀ (t : Int32) (w : MW), NdL w1 f.toInt t.toInt w → f.toInt ≤ t.toInt → t.toInt ≤ (w1.1 129 35).toInt → ((w1.1 129 35).toInt - t.toInt).toNat < n → q_Tx_node0_89 f E Q n t w := by
  induction n with
  | zero => intros; omega
  | succ n ih =>
    intro t w hL ht0 ht1 hm
    have e35 : w.1 129 35 = w1.1 129 35 := (hL.2.1 129 35 rfl).1
    have e12 : bhf w = bhf w1 := by unfold bhf; rw [(hL.2.1 129 12 rfl).1]
    have e144 : ∀ j, w.1 144 j = w1.1 144 j := fun j => (hL.2.1 144 j rfl).1
    have h21 := hL.2.2.1
    have b35 := bd_129_35 hL.1
    have b21 := bd_129_21 hL.1
    have bh := bhf_b hL.1
    rw [e35] at b35
    rw [q_Tx_node0_89.eq_2]
    refine ⟨fun c => hE w ?_, fun c => Eq.mpr (p_Tx_base.eq_1 _ _) ?_⟩
    · rw [e35] at c
      have : (w1.1 129 35).toInt = t.toInt := by omega
      rw [this]
      exact hL
    · rw [e35] at c
      have ei := bb_ix (n := w.1 129 21) hL.1 (by omega) (by omega)
      have ti := ti_add2 (Eq.refl t.toInt) i_1 (by omega) (by omega)
      have xi := ti_add2 (Eq.refl (w.1 129 21).toInt) i_1 (by omega) (by omega)
      have b144 := bd_144 hL.1 t.toInt.toNat
      rw [e12] at ei bh
      have hS := nd_step (ix := ((((300 : Int32) * ((1 : Int32) - (w.1 129 12))) + (w.1 129 21)).toInt.toNat)) (v := w.1 144 t.toInt.toNat) (x := (w.1 129 21) + (1 : Int32)) hL ht0 (by rw [ei]; omega) (by omega) (e144 _) b144.1 b144.2 (by omega) (by omega) (by omega)
      rw [← ti] at hS
      exact ⟨⟨by omega, by omega⟩, ⟨by omega, by omega⟩, ih _ _ hS (by omega) (by omega) (by omega)⟩
/-- what node writes -/
def NdF (w : MW) (a : Int32) (b : Int64) (f : Int32) (w' : MW) : Prop := BND w' ∧ FR l_Tx_node0 w w' ∧ (w'.1 129 13).toInt = (w.1 129 13).toInt + 1 ∧ (w'.1 129 21).toInt = (w.1 129 21).toInt + ((w.1 129 35).toInt - f.toInt) ∧ w'.1 129 35 = f ∧ (∀ j, j ≠ nb w (w.1 129 13).toInt → w'.1 131 j = w.1 131 j ∧ w'.2.1 132 j = w.2.1 132 j ∧ w'.1 135 j = w.1 135 j ∧ w'.1 136 j = w.1 136 j) ∧ w'.1 131 (nb w (w.1 129 13).toInt) = a ∧ w'.2.1 132 (nb w (w.1 129 13).toInt) = b ∧ (w'.1 135 (nb w (w.1 129 13).toInt)).toInt = (w.1 129 21).toInt ∧ (w'.1 136 (nb w (w.1 129 13).toInt)).toInt = (w.1 129 35).toInt - f.toInt ∧ (∀ i : Int, 0 ≤ i → i < (w.1 129 35).toInt - f.toInt → w'.1 137 (300 * bhf w + (w.1 129 21).toInt + i).toNat = w.1 144 (f.toInt + i).toNat) ∧ (∀ j : Nat, ((j : Int) < 300 * bhf w + (w.1 129 21).toInt ∨ 300 * bhf w + (w.1 129 21).toInt + ((w.1 129 35).toInt - f.toInt) ≤ (j : Int)) → w'.1 137 j = w.1 137 j)
theorem nd_all {e : Int} {w : MW} {a : Int32} {b : Int64} {c u f : Int32} {Q : Int32 → MW → Prop} (h : TbI e w) (a0 : 0 ≤ a.toInt) (a1 : a.toInt ≤ 24) (u0 : -1 ≤ u.toInt) (u1 : u.toInt ≤ 5) (f0 : 0 ≤ f.toInt) (f1 : f.toInt ≤ (w.1 129 35).toInt) (hB : Q (-1) (sI w 129 10 (w.1 129 5))) (hQ : ∀ (r : Int32) (w' : MW), r.toInt = (w.1 129 13).toInt → NdF w a b f w' → Q r w') : p_Tx_node0 w a b c u f Q := by
  have hI := h.1
  have b13 := bd_129_13 hI
  have b21 := bd_129_21 hI
  have b23 := bd_129_23 hI
  have b35 := bd_129_35 hI
  have bh := bhf_b hI
  have hs := h.2.2.2.1
  have he := h.2.2.1
  refine Eq.mpr (p_Tx_node0.eq_1 _ _ _ _ _ _ _) ⟨fun c13 => Eq.mpr (p_Tx_base.eq_1 _ _) ?_, fun _ => Eq.mpr (p_Tx_bad.eq_1 _ _) hB⟩
  have ei := bb_ix (n := w.1 129 13) hI (by omega) (by omega)
  have en : (((300 : Int32) * ((1 : Int32) - (w.1 129 12))) + (w.1 129 13)).toInt.toNat = nb w (w.1 129 13).toInt := by rw [ei]; rfl
  have hr : 0 ≤ (((300 : Int32) * ((1 : Int32) - (w.1 129 12))) + (w.1 129 13)).toInt ∧ (((300 : Int32) * ((1 : Int32) - (w.1 129 12))) + (w.1 129 13)).toInt < 600 := ⟨by omega, by omega⟩
  refine ⟨hr, hr, hr, hr, hr, hr, ?_⟩
  rw [en]
  have ed := ti_sub2 (Eq.refl (w.1 129 35).toInt) (Eq.refl f.toInt) (by omega) (by omega)
  have hG : ∀ X : Nat, BND (sI (sI (sI (sI (sJ (sI w 131 X a) 132 X b) 133 X c) 134 X u) 135 X (w.1 129 21)) 136 X ((w.1 129 35) - f)) := fun X => wbd_136 (wbd_135 (wbd_134 (wbd_133 (bnd_J (wbd_131 hI X a0 a1)) X) X u0 u1) X b21.1 b21.2) X (by omega) (by omega)
  have hI1 := hG (nb w (w.1 129 13).toInt)
  have q131 : ∀ X j : Nat, (sI (sI (sI (sI (sJ (sI w 131 X a) 132 X b) 133 X c) 134 X u) 135 X (w.1 129 21)) 136 X ((w.1 129 35) - f)).1 131 j = (sI w 131 X a).1 131 j := fun X j => rfl
  have q132 : ∀ X j : Nat, (sI (sI (sI (sI (sJ (sI w 131 X a) 132 X b) 133 X c) 134 X u) 135 X (w.1 129 21)) 136 X ((w.1 129 35) - f)).2.1 132 j = (sJ w 132 X b).2.1 132 j := fun X j => rfl
  have q135 : ∀ X j : Nat, (sI (sI (sI (sI (sJ (sI w 131 X a) 132 X b) 133 X c) 134 X u) 135 X (w.1 129 21)) 136 X ((w.1 129 35) - f)).1 135 j = (sI w 135 X (w.1 129 21)).1 135 j := fun X j => rfl
  have q136 : ∀ X j : Nat, (sI (sI (sI (sI (sJ (sI w 131 X a) 132 X b) 133 X c) 134 X u) 135 X (w.1 129 21)) 136 X ((w.1 129 35) - f)).1 136 j = (sI w 136 X ((w.1 129 35) - f)).1 136 j := fun X j => rfl
  have hF : ∀ X : Nat, FR [(131, none), (132, none), (133, none), (134, none), (135, none), (136, none)] w (sI (sI (sI (sI (sJ (sI w 131 X a) 132 X b) 133 X c) 134 X u) 135 X (w.1 129 21)) 136 X ((w.1 129 35) - f)) := fun X => FR.I (FR.I (FR.I (FR.I (FR.J (FR.I (FR.refl _ w) rfl) rfl) rfl) rfl) rfl) rfl
  have hF1 := hF (nb w (w.1 129 13).toInt)
  have r131 := q131 (nb w (w.1 129 13).toInt)
  have r132 := q132 (nb w (w.1 129 13).toInt)
  have r135 := q135 (nb w (w.1 129 13).toInt)
  have r136 := q136 (nb w (w.1 129 13).toInt)
  clear q131 q132 q135 q136 hF hG
  generalize (sI (sI (sI (sI (sJ (sI w 131 (nb w (w.1 129 13).toInt) a) 132 (nb w (w.1 129 13).toInt) b) 133 (nb w (w.1 129 13).toInt) c) 134 (nb w (w.1 129 13).toInt) u) 135 (nb w (w.1 129 13).toInt) (w.1 129 21)) 136 (nb w (w.1 129 13).toInt) ((w.1 129 35) - f)) = w1 at *
  have e12 : bhf w1 = bhf w := by unfold bhf; rw [(hF1 129 12 rfl).1]
  have e13 : w1.1 129 13 = w.1 129 13 := (hF1 129 13 rfl).1
  have e21 : w1.1 129 21 = w.1 129 21 := (hF1 129 21 rfl).1
  have e35 : w1.1 129 35 = w.1 129 35 := (hF1 129 35 rfl).1
  have e137 : ∀ j, w1.1 137 j = w.1 137 j := fun j => (hF1 137 j rfl).1
  have e144 : ∀ j, w1.1 144 j = w.1 144 j := fun j => (hF1 144 j rfl).1
  refine nd_loop f0 (by rw [e21]; omega) (by rw [e35, e21]; omega) (fun w3 hL => ?_) FU f w1 ⟨hI1, FR.refl _ w1, by omega, fun i i0 i1 => by omega, fun j _ => rfl⟩ (Int.le_refl _) (by rw [e35]; exact f1) (fu_lt (by rw [e35]; omega))
  have f13 : w3.1 129 13 = w.1 129 13 := ((hL.2.1 129 13 rfl).1).trans e13
  have s13 := ti_add2 (Eq.refl (w.1 129 13).toInt) i_1 (by omega) (by omega)
  have t13 := ti_sub2 s13 i_1 (by omega) (by omega)
  have h21 := hL.2.2.1
  rw [e21, e35] at h21
  rw [f13]
  refine hQ _ _ (by rw [t13]; omega) ⟨wbd_129_13 (wbd_129_35 hL.1 f0 (by omega)) (by omega) (by omega), FR.I (FR.I ((((FR.refl l_Tx_node0 w).tr hF1 rfl)).tr hL.2.1 rfl) rfl) rfl, ?_, ?_, ?_, fun j hj => ?_, ?_, ?_, ?_, ?_, fun i i0 i1 => ?_, fun j hj => ?_⟩
  · rw [sI_same]; exact s13
  · exact h21
  · rfl
  · refine ⟨?_, ?_, ?_, ?_⟩
    · exact (hL.2.1 131 j rfl).1.trans ((r131 j).trans (sI_ne _ _ _ _ _ hj))
    · exact (hL.2.1 132 j rfl).2.1.trans ((r132 j).trans (by rw [sJ_at, if_neg (fun q => hj q.2)]))
    · exact (hL.2.1 135 j rfl).1.trans ((r135 j).trans (sI_ne _ _ _ _ _ hj))
    · exact (hL.2.1 136 j rfl).1.trans ((r136 j).trans (sI_ne _ _ _ _ _ hj))
  · exact (hL.2.1 131 _ rfl).1.trans ((r131 _).trans (sI_same _ _ _ _))
  · exact (hL.2.1 132 _ rfl).2.1.trans ((r132 _).trans (sJ_same _ _ _ _))
  · exact congrArg Int32.toInt ((hL.2.1 135 _ rfl).1.trans ((r135 _).trans (sI_same _ _ _ _)))
  · exact (congrArg Int32.toInt ((hL.2.1 136 _ rfl).1.trans ((r136 _).trans (sI_same _ _ _ _)))).trans ed
  · have q := hL.2.2.2.1 i i0 (by rw [e35]; exact i1)
    rw [e12, e21, e144] at q
    exact q
  · have q := hL.2.2.2.2 j (by rw [e12, e21, e35]; exact hj)
    rw [e137] at q
    exact q
theorem nb_inj {w : MW} {n m : Int} (hI : BND w) (n0 : 0 ≤ n) (m0 : 0 ≤ m) (h : n ≠ m) : nb w n ≠ nb w m := by
  have := bhf_b hI
  unfold nb
  omega
theorem nf_nb {w w' : MW} {a : Int32} {b : Int64} {f : Int32} (hN : NdF w a b f w') : bhf w' = bhf w ∧ (∀ n, nb w' n = nb w n) := by
  have e : w'.1 129 12 = w.1 129 12 := (hN.2.1 129 12 rfl).1
  unfold nb bhf
  rw [e]
  exact ⟨rfl, fun _ => rfl⟩
theorem nf_kb {w w' : MW} {a : Int32} {b : Int64} {f : Int32} (hI : BND w) (hN : NdF w a b f w') {n : Int} (n0 : 0 ≤ n) (n1 : n < (w.1 129 13).toInt) : Kb w' n = Kb w n := by
  unfold Kb
  rw [(nf_nb hN).2, (hN.2.2.2.2.2.1 _ (nb_inj hI n0 (by omega) (by omega))).1]
theorem nf_kid {w w' : MW} {a : Int32} {b : Int64} {f : Int32} (hI : BND w) (hN : NdF w a b f w') {n k : Int} (n0 : 0 ≤ n) (n1 : n < (w.1 129 13).toInt) (k1 : (w.1 135 (nb w n)).toInt + k < (w.1 129 21).toInt) (k0 : 0 ≤ k) : kidB w' n k = kidB w n k := by
  have bh := bhf_b hI
  have b := bd_135 hI (nb w n)
  unfold kidB
  rw [(nf_nb hN).2, (nf_nb hN).1, (hN.2.2.2.2.2.1 _ (nb_inj hI n0 (by omega) (by omega))).2.2.1, hN.2.2.2.2.2.2.2.2.2.2.2 _ (by left; omega)]
theorem nf_st {w w' : MW} {a : Int32} {b : Int64} {f : Int32} (hN : NdF w a b f w') (m : Int) : stB w' m = stB w m := by
  unfold stB
  rw [(nf_nb hN).1, (hN.2.1 143 _ rfl).1]
theorem nf_pil {w w' : MW} {a : Int32} {b : Int64} {f : Int32} (hN : NdF w a b f w') (m : Int) : pil w' m = pil w m := by
  unfold pil
  rw [(hN.2.1 144 _ rfl).1]
theorem nf_sn {w w' : MW} {a : Int32} {b : Int64} {f : Int32} (hI : BND w) (hN : NdF w a b f w') {m n : Int} (n1 : n ≤ (w.1 129 13).toInt) (h : sn w m n) : sn w' m n := by
  unfold sn
  rw [nf_st hN, (hN.2.1 129 24 rfl).1, nf_kb hI hN h.2.1 (by have := h.2.2.1; omega)]
  exact h
theorem nf_old {w w' : MW} {a : Int32} {b : Int64} {f : Int32} (hI : BND w) (hN : NdF w a b f w') (hf : f.toInt ≤ (w.1 129 35).toInt) {n : Int} (n0 : 0 ≤ n) (n1 : n < (w.1 129 13).toInt) (h : TbN w n) : TbN w' n := by
  have e := hN.2.2.2.2.2.1 _ (nb_inj hI n0 (by omega : (0:Int) ≤ (w.1 129 13).toInt) (by omega))
  have h1 := h.1
  have e21 := hN.2.2.2.1
  unfold TbN
  rw [(nf_nb hN).2, e.2.2.1, e.2.2.2]
  refine ⟨by omega, fun k k0 k1 => ?_, ?_⟩
  · have q := h.2.1 k k0 k1
    rw [nf_kid hI hN n0 n1 (by omega) k0, nf_kb hI hN q.1 (by omega)]
    exact q
  · have en : numB w' n = numB w n := by
      unfold numB
      rw [(nf_nb hN).2, e.2.1]
    rw [nf_kb hI hN n0 n1, en]
    refine TbC.mono h.2.2 (fun k k0 k1 => ?_) (fun _ q => nf_sn hI hN (by omega) q)
    have q := h.2.1 k k0 k1
    show Kb w' (kidB w' n k) = Kb w (kidB w n k)
    rw [nf_kid hI hN n0 n1 (by omega) k0, nf_kb hI hN q.1 (by omega)]
theorem nf_new {e : Int} {w w' : MW} {a : Int32} {b : Int64} {f : Int32} (h : TbI e w) (hN : NdF w a b f w') (f0 : 0 ≤ f.toInt) (f1 : f.toInt ≤ (w.1 129 35).toInt) (hc : TbC a.toInt (Int64.toInt32 b).toInt ((w.1 129 35).toInt - f.toInt) (fun k => Kb w (pil w (f.toInt + k))) (sn w (Int64.toInt32 b).toInt (w.1 129 13).toInt)) : TbN w' (w.1 129 13).toInt := by
  have hI := h.1
  have bh := bhf_b hI
  have b21 := bd_129_21 hI
  have N := hN.2.2.2.2.2.2
  have ek : ∀ k, 0 ≤ k → k < (w.1 129 35).toInt - f.toInt → kidB w' (w.1 129 13).toInt k = pil w (f.toInt + k) := fun k k0 k1 => by
    unfold kidB pil
    rw [(nf_nb hN).2, (nf_nb hN).1, N.2.2.1, N.2.2.2.2.1 k k0 k1]
  have e21 := hN.2.2.2.1
  unfold TbN
  rw [(nf_nb hN).2, N.2.2.1, N.2.2.2.1]
  refine ⟨by omega, fun k k0 k1 => ?_, ?_⟩
  · have q := h.2.2.2.2.2.1 (f.toInt + k) (by omega) (by omega)
    rw [ek k k0 k1, nf_kb hI hN q.1 q.2.1]
    exact q
  · have e1 : Kb w' (w.1 129 13).toInt = a.toInt := by
      unfold Kb
      rw [(nf_nb hN).2, N.1]
    have e2 : numB w' (w.1 129 13).toInt = (Int64.toInt32 b).toInt := by
      unfold numB
      rw [(nf_nb hN).2, N.2.1]
    rw [e1, e2]
    refine TbC.mono hc (fun k k0 k1 => ?_) (fun _ q => nf_sn hI hN (Int.le_refl _) q)
    have q := h.2.2.2.2.2.1 (f.toInt + k) (by omega) (by omega)
    show Kb w' (kidB w' (w.1 129 13).toInt k) = Kb w (pil w (f.toInt + k))
    rw [ek k k0 k1, nf_kb hI hN q.1 q.2.1]
theorem nf_tb {e : Int} {w w' : MW} {a : Int32} {b : Int64} {f : Int32} (h : TbI e w) (hN : NdF w a b f w') (f0 : 0 ≤ f.toInt) (f1 : f.toInt ≤ (w.1 129 35).toInt) (hc : TbC a.toInt (Int64.toInt32 b).toInt ((w.1 129 35).toInt - f.toInt) (fun k => Kb w (pil w (f.toInt + k))) (sn w (Int64.toInt32 b).toInt (w.1 129 13).toInt)) : TbI (e + 1) w' := by
  have hI := h.1
  have e13 := hN.2.2.1
  have e21 := hN.2.2.2.1
  have e35 := hN.2.2.2.2.1
  have e23 : w'.1 129 23 = w.1 129 23 := (hN.2.1 129 23 rfl).1
  have e24 : w'.1 129 24 = w.1 129 24 := (hN.2.1 129 24 rfl).1
  have hs := h.2.2.2.1
  have he := h.2.2.1
  refine ⟨hN.1, PV_fr hN.2.1 rfl h.2.1, by omega, by rw [e35, e23]; omega, fun n n0 n1 => ?_, fun k k0 k1 => ?_, fun m m0 m1 m2 => ?_⟩
  · by_cases c : n = (w.1 129 13).toInt
    · rw [c]
      exact nf_new h hN f0 f1 hc
    · exact nf_old hI hN f1 n0 (by omega) (h.2.2.2.2.1 n n0 (by omega))
  · rw [e35] at k1
    have q := h.2.2.2.2.2.1 k k0 (by omega)
    rw [nf_pil hN, nf_kb hI hN q.1 q.2.1]
    exact ⟨q.1, by omega, q.2.2⟩
  · rw [e24] at m1
    rw [nf_st hN] at m2
    have q := h.2.2.2.2.2.2 m m0 m1 m2
    rw [nf_st hN, nf_kb hI hN m2 q.1]
    exact ⟨by omega, q.2⟩
theorem nf_ts {e : Int} {w w' : MW} {a : Int32} {b : Int64} {f : Int32} (h : TbI e w) (hN : NdF w a b f w') (f0 : 0 ≤ f.toInt) (f1 : f.toInt ≤ (w.1 129 35).toInt) (m : Int) : TbS m w w' := by
  have hI := h.1
  have b12 := bd_129_12 hI
  have b13 := bd_129_13 hN.1
  have e13 := hN.2.2.1
  have hs := h.2.2.2.1
  have he := h.2.2.1
  have b23 := bd_129_23 hI
  have b21 := bd_129_21 hI
  have b30 := bd_129_13 hI
  refine ⟨(FR.refl lpa w).tr hN.2.1 rfl, fun j j0 j1 => ?_, by omega, fun n n0 n1 => nf_kb hI hN n0 n1, fun k _ _ => nf_pil hN k⟩
  have q := hN.2.2.2.2.2.1 j (by unfold nb bhf; omega)
  exact ⟨q.1, q.2.1, q.2.2.1, q.2.2.2, hN.2.2.2.2.2.2.2.2.2.2.2 j (by unfold bhf; omega)⟩
/-- node: with kids that its kind wants -/
theorem t_node {e : Int} {w : MW} {a : Int32} {b : Int64} {c u f : Int32} {Q : Int32 → MW → Prop} (h : TbI e w) (a0 : 0 ≤ a.toInt) (a1 : a.toInt ≤ 24) (u0 : -1 ≤ u.toInt) (u1 : u.toInt ≤ 5) (f0 : 0 ≤ f.toInt) (f1 : f.toInt ≤ (w.1 129 35).toInt) (hc : TbC a.toInt (Int64.toInt32 b).toInt ((w.1 129 35).toInt - f.toInt) (fun k => Kb w (pil w (f.toInt + k))) (sn w (Int64.toInt32 b).toInt (w.1 129 13).toInt)) (hQ : ∀ (r : Int32) (w' : MW), TbI e w' → (∀ m, TbS m w w') → (0 ≤ r.toInt → r.toInt < (w'.1 129 13).toInt ∧ Kb w' r.toInt = a.toInt ∧ TbI (e + 1) w' ∧ w'.1 129 35 = f ∧ w'.1 129 11 = w.1 129 11 ∧ (w'.1 129 13).toInt = (w.1 129 13).toInt + 1 ∧ w'.1 129 38 = w.1 129 38) → Q r w') : p_Tx_node0 w a b c u f Q :=
  nd_all h a0 a1 u0 u1 f0 f1 (hQ _ _ (t_wrong h) (fun m => TbS_fr (l := [(129, some 10)]) (FR.I (FR.refl _ w) rfl) rfl rfl) (fun c => by rw [i_m1] at c; omega)) (fun r w' hr hN => hQ r w' ((nf_tb h hN f0 f1 hc).wk h.2.2.1 (by omega)) (fun m => nf_ts h hN f0 f1 m) (fun _ => ⟨by have := hN.2.2.1; omega, by
    rw [hr]
    unfold Kb
    rw [(nf_nb hN).2, hN.2.2.2.2.2.2.1], nf_tb h hN f0 f1 hc, hN.2.2.2.2.1, (hN.2.1 129 11 rfl).1, hN.2.2.1, (hN.2.1 129 38 rfl).1⟩))
/-- push: a node more on the pile -/
def TpS (a : Int32) (w w' : MW) : Prop := TbS (w.1 129 35).toInt w w' ∧ (w'.1 129 35).toInt = (w.1 129 35).toInt + 1 ∧ pil w' (w.1 129 35).toInt = a.toInt ∧ w'.1 129 11 = w.1 129 11 ∧ w'.1 129 13 = w.1 129 13 ∧ (∀ n, Kb w' n = Kb w n) ∧ FR [(129, some 35), (144, none)] w w'
theorem t_push {e : Int} {w : MW} {a : Int32} {Q : MW → Prop} (h : TbI (e + 1) w) (he : 0 ≤ e) (a0 : 0 ≤ a.toInt) (a1 : a.toInt < (w.1 129 13).toInt) (hk : Kb w a.toInt ≤ 23) (hQ : ∀ w', TbI e w' → TpS a w w' → Q w') : p_Tx_push w a Q := by
  have hI := h.1
  have b13 := bd_129_13 hI
  have b21 := bd_129_21 hI
  have b23 := bd_129_23 hI
  have b35 := bd_129_35 hI
  have hs := h.2.2.2.1
  have s35 := ti_add2 (Eq.refl (w.1 129 35).toInt) i_1 (by omega) (by omega)
  refine Eq.mpr (p_Tx_push.eq_1 _ _ _) ⟨⟨by omega, by omega⟩, ?_⟩
  have hF : FR [(129, some 35), (144, none)] w (sI (sI w 144 ((w.1 129 35).toInt.toNat) a) 129 35 ((w.1 129 35) + (1 : Int32))) := FR.I (FR.I (FR.refl _ w) rfl) rfl
  have hB : BND (sI (sI w 144 ((w.1 129 35).toInt.toNat) a) 129 35 ((w.1 129 35) + (1 : Int32))) := wbd_129_35 (wbd_144 hI _ a0 (by omega)) (by omega) (by omega)
  have h35 : ((sI (sI w 144 ((w.1 129 35).toInt.toNat) a) 129 35 ((w.1 129 35) + (1 : Int32))).1 129 35).toInt = (w.1 129 35).toInt + 1 := by rw [sI_same]; exact s35
  have h144 : ∀ j, (sI (sI w 144 ((w.1 129 35).toInt.toNat) a) 129 35 ((w.1 129 35) + (1 : Int32))).1 144 j = (sI w 144 ((w.1 129 35).toInt.toNat) a).1 144 j := fun j => rfl
  generalize (sI (sI w 144 ((w.1 129 35).toInt.toNat) a) 129 35 ((w.1 129 35) + (1 : Int32))) = w' at *
  have q12 := (hF 129 12 rfl).1
  have q13 := (hF 129 13 rfl).1
  have q21 := (hF 129 21 rfl).1
  have q23 := (hF 129 23 rfl).1
  have q24 := (hF 129 24 rfl).1
  have q131 : ∀ j, w'.1 131 j = w.1 131 j := fun j => (hF 131 j rfl).1
  have q132 : ∀ j, w'.2.1 132 j = w.2.1 132 j := fun j => (hF 132 j rfl).2.1
  have q135 : ∀ j, w'.1 135 j = w.1 135 j := fun j => (hF 135 j rfl).1
  have q136 : ∀ j, w'.1 136 j = w.1 136 j := fun j => (hF 136 j rfl).1
  have q137 : ∀ j, w'.1 137 j = w.1 137 j := fun j => (hF 137 j rfl).1
  have q143 : ∀ j, w'.1 143 j = w.1 143 j := fun j => (hF 143 j rfl).1
  have eK : ∀ n, Kb w' n = Kb w n := fun n => by
    unfold Kb nb bhf
    rw [q12, q131]
  have eP : ∀ k, 0 ≤ k → k < (w.1 129 35).toInt → pil w' k = pil w k := fun k k0 k1 => by
    unfold pil
    rw [h144, sI_ne _ _ _ _ _ (by omega)]
  have eA : pil w' (w.1 129 35).toInt = a.toInt := by
    unfold pil
    rw [h144, sI_same]
  have eN : ∀ n, TbN w n → TbN w' n := fun n g => by
    unfold TbN sn stB kidB Kb numB nb bhf at *
    simp only [q12, q13, q21, q23, q24, q131, q132, q135, q136, q137, q143]
    exact g
  have eS : ∀ n, stB w' n = stB w n := fun n => by
    unfold stB bhf
    rw [q12, q143]
  refine hQ w' ⟨hB, PV_fr hF rfl h.2.1, he, by rw [h35, q21, q23, q13]; omega, fun n n0 n1 => eN n (h.2.2.2.2.1 n n0 (by rw [q13] at n1; exact n1)), fun k k0 k1 => ?_, fun m m0 m1 m2 => ?_⟩ ⟨⟨(FR.refl lpa w).tr hF rfl, fun j _ _ => ⟨q131 j, q132 j, q135 j, q136 j, q137 j⟩, by rw [q13]; omega, fun n _ _ => eK n, eP⟩, h35, eA, (hF 129 11 rfl).1, q13, eK, hF⟩
  · rw [h35] at k1
    by_cases c : k = (w.1 129 35).toInt
    · rw [c, eA, eK, q13]
      exact ⟨a0, a1, hk⟩
    · rw [eP k k0 (by omega), eK, q13]
      exact h.2.2.2.2.2.1 k k0 (by omega)
  · rw [q24] at m1
    rw [eS] at m2
    rw [eS, eK, q13]
    exact h.2.2.2.2.2.2 m m0 m1 m2
theorem t_unit {w : MW} {a : Int32} {Q : Int32 → MW → Prop} (hI : BND w) (a0 : 0 ≤ a.toInt) (a1 : a.toInt < 300) (hQ : ∀ r : Int32, -1 ≤ r.toInt → r.toInt ≤ 5 → Q r w) : p_Tx_unitIn w a Q := by
  have ei := bb_ix (n := a) hI a0 (by omega)
  have bh := bhf_b hI
  refine Eq.mpr (p_Tx_unitIn.eq_1 _ _ _) (Eq.mpr (p_Tx_base.eq_1 _ _) ⟨⟨by omega, by omega⟩, hQ _ ?_ ?_⟩)
  · exact (bd_134 hI _).1
  · exact (bd_134 hI _).2
/-- two kids -/
theorem t_two {e : Int} {w : MW} {k a b u : Int32} {Q : Int32 → MW → Prop} (h : TbI (e + 1 + 1) w) (he : 0 ≤ e) (k0 : 2 ≤ k.toInt) (k1 : k.toInt ≤ 9) (u0 : -1 ≤ u.toInt) (u1 : u.toInt ≤ 5) (a0 : 0 ≤ a.toInt) (a1 : a.toInt < (w.1 129 13).toInt) (ka : Kb w a.toInt ≤ 9) (b0 : 0 ≤ b.toInt) (b1 : b.toInt < (w.1 129 13).toInt) (kb : Kb w b.toInt ≤ 9) (hQ : ∀ (r : Int32) (w' : MW), TxO e 0 9 w r w' → Q r w') : p_Tx_two w k a b u Q := by
  refine Eq.mpr (p_Tx_two.eq_1 _ _ _ _ _ _) (t_push h (by omega) a0 a1 (by omega) (fun w1 h1 s1 => ?_))
  have b35 := bd_129_35 h.1
  have e1 := s1.2.1
  refine t_push h1 he b0 (by rw [s1.2.2.2.2.1]; exact b1) (by rw [s1.2.2.2.2.2.1]; omega) (fun w2 h2 s2 => ?_)
  have e2 := s2.2.1
  have b13 := bd_129_13 h.1
  have ei := bb_ix (n := a) h2.1 a0 (by omega)
  have bh := bhf_b h2.1
  have p1 : pil w2 (w.1 129 35).toInt = a.toInt := by rw [s2.1.2.2.2.2 _ (by omega) (by omega), s1.2.2.1]
  have p2 : pil w2 ((w.1 129 35).toInt + 1) = b.toInt := by rw [← e1, s2.2.2.1]
  have K : ∀ n, Kb w2 n = Kb w n := fun n => by rw [s2.2.2.2.2.2.1, s1.2.2.2.2.2.1]
  have e13 : w2.1 129 13 = w.1 129 13 := s2.2.2.2.2.1.trans s1.2.2.2.2.1
  have e11 : w2.1 129 11 = w.1 129 11 := s2.2.2.2.1.trans s1.2.2.2.1
  refine Eq.mpr (p_Tx_base.eq_1 _ _) ⟨⟨by omega, by omega⟩, t_node h2 (by omega) (by omega) u0 u1 (by omega) (by omega) ?_ (fun r w' hI' hS hr => hQ r w' ?_)⟩
  · refine ⟨fun q => by omega, fun q => by omega, fun _ _ _ => ⟨by omega, ?_⟩, fun _ _ _ _ => ⟨by omega, ?_⟩, fun q => by omega, fun q => by omega, fun q => by omega, fun q => by omega, fun q => by omega, fun q => by omega⟩
    · show Kb w2 (pil w2 ((w.1 129 35).toInt + 0)) ≤ 9
      rw [Int.add_zero, p1, K]
      exact ka
    · show Kb w2 (pil w2 ((w.1 129 35).toInt + 1)) ≤ 9
      rw [p2, K]
      exact kb
  · have S : TbS (w.1 129 35).toInt w w' := (s1.1.tr (s2.1.wk (by omega)) (Int.le_refl _)).tr (hS (w.1 129 35).toInt) (Int.le_refl _)
    refine ⟨hI', S, fun c => ?_⟩
    have q := hr c
    have bk := bd_131 hI'.1 (nb w' r.toInt)
    have e38 : w2.1 129 38 = w.1 129 38 := ((s2.2.2.2.2.2.2 129 38 rfl).1).trans (s1.2.2.2.2.2.2 129 38 rfl).1
    have n' := q.2.2.2.2.2.1
    rw [e13] at n'
    refine ⟨q.1, bk.1, by rw [q.2.1]; exact k1, q.2.2.1, ⟨S, q.2.2.2.1, q.2.2.2.2.1.trans e11, fun m => by unfold MD; rw [q.2.2.2.2.2.2, e38]; exact ⟨m.1, by have := m.2; omega⟩⟩, by omega⟩
