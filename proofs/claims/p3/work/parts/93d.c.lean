/-! the reference while it reads a program: what its cells say -/
/-- room for e nodes more that are no kid yet -/
def YJ (e : Int) (w : MW) : Prop := BND w ∧ 0 ≤ e ∧ (w.1 129 35).toInt + (w.1 129 21).toInt + (w.1 129 23).toInt + e ≤ (w.1 129 13).toInt
/-- the class's kind as the reference has it -/
def wht (k : Int) : Int := if k = 31 then 0 else if k = 30 then 1 else if k = 43 then 2 else if k = 45 then 3 else if k = 42 then 4 else if k = 47 then 5 else if k = 34 then 6 else if k = 60 then 7 else if k = 61 then 8 else if k = 62 then 9 else if k = 35 then 23 else mng k
def mrl (k : Int) : Int := if k = 8 then 30 else if k = 9 then 31 else 24
/-- names by letters -/
def NmM (w : MW) (nm : List Nm) : Prop := (w.1 129 24).toInt = (nm.length : Int) ∧ nm.length ≤ 40 ∧ ∀ (i : Nat) (x : Nm), nm[i]? = some x → (w.1 140 (40 * bhf w + (i : Int)).toNat).toInt = (x.1.length : Int) ∧ x.1.length ≤ 12 ∧ (∀ (k : Nat) (c : Int), x.1[k]? = some c → (w.1 139 (12 * (40 * bhf w + (i : Int)) + (k : Int)).toNat).toInt = c) ∧ (w.1 141 (40 * bhf w + (i : Int)).toNat).toInt = mrl x.2.1 ∧ (w.1 142 (40 * bhf w + (i : Int)).toNat).toInt = x.2.2.1 ∧ (w.1 143 (40 * bhf w + (i : Int)).toNat).toInt = (if x.2.2.2 < 0 then -1 else x.2.2.2 + 1) ∧ (x.2.1 = 8 ∨ x.2.1 = 9 ∨ x.2.1 = 10)
/-- the nodes, with their kids -/
def PNd (w : MW) (i : Int) (d : Nod) : Prop := (w.1 131 (nb w i)).toInt = wht d.1 ∧ (d.1 = 31 → (w.2.1 132 (nb w i)).toInt = d.2.2.1) ∧ (¬ d.1 = 31 → ¬ d.1 = 10 → (w.2.1 132 (nb w i)).toInt = d.2.1) ∧ (w.1 136 (nb w i)).toInt = (d.2.2.2.length : Int) ∧ (w.1 135 (nb w i)).toInt + (d.2.2.2.length : Int) ≤ (w.1 129 21).toInt ∧ ∀ (k c : Nat), d.2.2.2[k]? = some c → (w.1 137 (nb w ((w.1 135 (nb w i)).toInt + (k : Int)))).toInt = (c : Int)
def PNm (w : MW) (ns : List Nod) : Prop := (w.1 129 13).toInt = (ns.length : Int) ∧ ∀ (i : Nat) (d : Nod), ns[i]? = some d → PNd w (i : Int) d
/-- nodes and kids that are made stay, and what stands outside -/
def KNm (w w' : MW) : Prop := w'.1 129 12 = w.1 129 12 ∧ (w.1 129 13).toInt ≤ (w'.1 129 13).toInt ∧ (w.1 129 21).toInt ≤ (w'.1 129 21).toInt ∧ (∀ i : Int, 0 ≤ i → i < (w.1 129 13).toInt → w'.1 131 (nb w i) = w.1 131 (nb w i) ∧ w'.2.1 132 (nb w i) = w.2.1 132 (nb w i) ∧ w'.1 134 (nb w i) = w.1 134 (nb w i) ∧ w'.1 135 (nb w i) = w.1 135 (nb w i) ∧ w'.1 136 (nb w i) = w.1 136 (nb w i)) ∧ (∀ j : Int, 0 ≤ j → j < (w.1 129 21).toInt → w'.1 137 (nb w j) = w.1 137 (nb w j)) ∧ w'.1 129 23 = w.1 129 23 ∧ ∀ j : Nat, w'.1 138 j = w.1 138 j
theorem knm_b {w w' : MW} (h : KNm w w') : bhf w' = bhf w ∧ ∀ i, nb w' i = nb w i := by
  unfold nb bhf
  rw [h.1]
  exact ⟨rfl, fun _ => rfl⟩
theorem KNm.refl (w : MW) : KNm w w := ⟨rfl, Int.le_refl _, Int.le_refl _, fun _ _ _ => ⟨rfl, rfl, rfl, rfl, rfl⟩, fun _ _ _ => rfl, rfl, fun _ => rfl⟩
theorem KNm.tr {w w1 w2 : MW} (h : KNm w w1) (h2 : KNm w1 w2) : KNm w w2 := by
  have a := h.2.1
  have b := h2.2.1
  have c := h.2.2.1
  have d := h2.2.2.1
  have e := (knm_b h).2
  refine ⟨h2.1.trans h.1, by omega, by omega, fun i i0 i1 => ?_, fun j j0 j1 => ?_, h2.2.2.2.2.2.1.trans h.2.2.2.2.2.1, fun j => (h2.2.2.2.2.2.2 j).trans (h.2.2.2.2.2.2 j)⟩
  · have t := h2.2.2.2.1 i i0 (by omega)
    rw [e] at t
    have s := h.2.2.2.1 i i0 i1
    exact ⟨t.1.trans s.1, t.2.1.trans s.2.1, t.2.2.1.trans s.2.2.1, t.2.2.2.1.trans s.2.2.2.1, t.2.2.2.2.trans s.2.2.2.2⟩
  · have t := h2.2.2.2.2.1 j j0 (by omega)
    rw [e] at t
    exact t.trans (h.2.2.2.2.1 j j0 j1)
def lynm : Pl := [(129, some 12), (129, some 13), (129, some 21), (129, some 23), (131, none), (132, none), (134, none), (135, none), (136, none), (137, none), (138, none)]
theorem KNm.fr {l : Pl} {w w' : MW} (hF : FR l w w') (ho : off l lynm = true) : KNm w w' :=
  ⟨(hF 129 12 (off_hit ho rfl)).1, by rw [(hF 129 13 (off_hit ho rfl)).1]; exact Int.le_refl _, by rw [(hF 129 21 (off_hit ho rfl)).1]; exact Int.le_refl _, fun i _ _ => ⟨(hF 131 _ (off_hit ho rfl)).1, (hF 132 _ (off_hit ho rfl)).2.1, (hF 134 _ (off_hit ho rfl)).1, (hF 135 _ (off_hit ho rfl)).1, (hF 136 _ (off_hit ho rfl)).1⟩, fun j _ _ => (hF 137 _ (off_hit ho rfl)).1, (hF 129 23 (off_hit ho rfl)).1, fun j => (hF 138 j (off_hit ho rfl)).1⟩
theorem pnd_k {w w' : MW} {i : Int} {d : Nod} (h : PNd w i d) (K : KNm w w') (hI : BND w) (i0 : 0 ≤ i) (i1 : i < (w.1 129 13).toInt) : PNd w' i d := by
  have e := (knm_b K).2
  have s := K.2.2.2.1 i i0 i1
  have b := bd_135 hI (nb w i)
  have c := K.2.2.1
  have g := h.2.2.2.2.1
  unfold PNd
  rw [e, s.1, s.2.1, s.2.2.2.1, s.2.2.2.2]
  refine ⟨h.1, h.2.1, h.2.2.1, h.2.2.2.1, by omega, fun k cc hk => ?_⟩
  have lk := (List.getElem?_eq_some_iff.mp hk).1
  rw [e, K.2.2.2.2.1 ((w.1 135 (nb w i)).toInt + (k : Int)) (by omega) (by omega)]
  exact h.2.2.2.2.2 k cc hk
theorem pnm_k {w w' : MW} {ns : List Nod} (h : PNm w ns) (K : KNm w w') (hI : BND w) (e : w'.1 129 13 = w.1 129 13) : PNm w' ns :=
  ⟨by rw [e]; exact h.1, fun i d hd => pnd_k (h.2 i d hd) K hI (by omega) (by have := (List.getElem?_eq_some_iff.mp hd).1; rw [h.1]; omega)⟩
/-- and the pile below its top, and how many statements are read -/
def KX (w w' : MW) : Prop := KNm w w' ∧ w'.1 129 35 = w.1 129 35 ∧ (∀ k : Int, 0 ≤ k → k < (w.1 129 35).toInt → w'.1 144 k.toNat = w.1 144 k.toNat) ∧ w'.1 129 38 = w.1 129 38
theorem KX.refl (w : MW) : KX w w := ⟨KNm.refl w, rfl, fun _ _ _ => rfl, rfl⟩
theorem KX.tr {w w1 w2 : MW} (h : KX w w1) (h2 : KX w1 w2) : KX w w2 :=
  ⟨h.1.tr h2.1, h2.2.1.trans h.2.1, fun k k0 k1 => (h2.2.2.1 k k0 (by rw [h.2.1]; exact k1)).trans (h.2.2.1 k k0 k1), h2.2.2.2.trans h.2.2.2⟩
theorem KX.fr {l : Pl} {w w' : MW} (hF : FR l w w') (ho : off l ((129, some 35) :: (129, some 38) :: (144, none) :: lynm) = true) : KX w w' :=
  ⟨KNm.fr hF (off_mono ho (by decide)), (hF 129 35 (off_hit ho rfl)).1, fun k _ _ => (hF 144 _ (off_hit ho rfl)).1, (hF 129 38 (off_hit ho rfl)).1⟩
def lnam : Pl := [(129, some 12), (129, some 24), (139, none), (140, none), (141, none), (142, none), (143, none)]
theorem nmm_fr {l : Pl} {w w' : MW} {nm : List Nm} (h : NmM w nm) (hF : FR l w w') (ho : off l lnam = true) : NmM w' nm := by
  have e : bhf w' = bhf w := by
    unfold bhf
    rw [(hF 129 12 (off_hit ho rfl)).1]
  refine ⟨by rw [(hF 129 24 (off_hit ho rfl)).1]; exact h.1, h.2.1, fun i x hx => ?_⟩
  have t := h.2.2 i x hx
  rw [e, (hF 140 _ (off_hit ho rfl)).1, (hF 141 _ (off_hit ho rfl)).1, (hF 142 _ (off_hit ho rfl)).1, (hF 143 _ (off_hit ho rfl)).1]
  exact ⟨t.1, t.2.1, fun k c hk => by rw [(hF 139 _ (off_hit ho rfl)).1]; exact t.2.2.1 k c hk, t.2.2.2⟩
def YB (w : MW) (f : Int → Int) (n : Int) (nm : List Nm) (op : Nat) (e : Int) : Prop := YJ e w ∧ TXm w f n ∧ NmM w nm ∧ (w.1 129 11).toInt = (op : Int)
/-- nothing is wrong yet: the word from p on is next -/
def YS (w : MW) (f : Int → Int) (n : Int) (nm : List Nm) (op : Nat) (e p : Int) (ns : List Nod) : Prop := YB w f n nm op e ∧ TkM w (wrd f n p) ∧ ¬ (wrd f n p).1 = 33 ∧ PNm w ns ∧ 0 ≤ p ∧ p ≤ n
def lyb : Pl := [(129, some 1), (129, some 11), (129, some 12), (129, some 24), (130, none), (139, none), (140, none), (141, none), (142, none), (143, none)]
/-- YB over a step; its own room is told -/
theorem yb_fr {l : Pl} {w w' : MW} {f : Int → Int} {n : Int} {nm : List Nm} {op : Nat} {e e' : Int} (h : YB w f n nm op e) (hF : FR l w w') (hJ : YJ e' w') (ho : off l lyb = true) : YB w' f n nm op e' :=
  ⟨hJ, txm_fr h.2.1 hF (off_mono ho (by decide)), nmm_fr h.2.2.1 hF (off_mono ho (by decide)), by rw [(hF 129 11 (off_hit ho rfl)).1]; exact h.2.2.2⟩
theorem yj_fr {l : Pl} {w w' : MW} {e : Int} (h : YJ e w) (hF : FR l w w') (hB : BND w') (ho : off l [(129, some 13), (129, some 21), (129, some 23), (129, some 35)] = true) : YJ e w' :=
  ⟨hB, h.2.1, by rw [(hF 129 13 (off_hit ho rfl)).1, (hF 129 21 (off_hit ho rfl)).1, (hF 129 23 (off_hit ho rfl)).1, (hF 129 35 (off_hit ho rfl)).1]; exact h.2.2⟩
theorem yj_wk {w : MW} {e e' : Int} (h : YJ e w) (h0 : 0 ≤ e') (h1 : e' ≤ e) : YJ e' w := ⟨h.1, h0, by have := h.2.2; omega⟩
theorem ys_wk {w : MW} {f : Int → Int} {n : Int} {nm : List Nm} {op : Nat} {e e' p : Int} {ns : List Nod} (h : YS w f n nm op e p ns) (h0 : 0 ≤ e') (h1 : e' ≤ e) : YS w f n nm op e' p ns := ⟨⟨yj_wk h.1.1 h0 h1, h.1.2⟩, h.2⟩
/-- the word at p' from which the reader stands -/
theorem y_go0 {w : MW} {f : Int → Int} {n : Int} {nm : List Nm} {op : Nat} {e p : Int} {ns : List Nod} {Q : Int32 → MW → Prop} (hB : YB w f n nm op e) (hp : (w.1 129 2).toInt = p) (pn : p ≤ n) (hN : PNm w ns) (h1 : ¬ (wrd f n p).1 = 33 → ∀ w', FR lgt w w' → YS w' f n nm op e p ns → KX w w' → Q 1 w') (h0 : (wrd f n p).1 = 33 → ∀ w', (w'.1 129 10).toInt = (wrd f n p).2.1 → Q 0 w') : p_Tx_go w Q := by
  have b2 := bd_129_2 hB.1.1
  refine pg_x hB.1.1 hB.2.1 hp pn (fun c w' B' F' T' _ => h1 c w' F' ⟨yb_fr hB F' (yj_fr hB.1 F' B' rfl) rfl, T', c, pnm_k hN (KNm.fr F' rfl) hB.1.1 (F' 129 13 rfl).1, by omega, pn⟩ (KX.fr F' rfl)) (fun c w' _ _ e' => h0 c w' e')
theorem y_go {w : MW} {f : Int → Int} {n : Int} {nm : List Nm} {op : Nat} {e p : Int} {ns : List Nod} {Q : Int32 → MW → Prop} (h : YS w f n nm op e p ns) (h1 : ¬ (wrd f n (wrd f n p).2.2.1).1 = 33 → ∀ w', FR lgt w w' → YS w' f n nm op e (wrd f n p).2.2.1 ns → KX w w' → p ≤ (wrd f n p).2.2.1 → Q 1 w') (h0 : (wrd f n (wrd f n p).2.2.1).1 = 33 → ∀ w', (w'.1 129 10).toInt = (wrd f n (wrd f n p).2.2.1).2.1 → Q 0 w') : p_Tx_go w Q := by
  have wn := wrd_n (f := f) (n := n) (p := p) h.1.2.1.2.2.2 h.2.2.2.2.1 h.2.2.2.2.2
  exact y_go0 h.1 h.2.1.2.2.1 wn.2.1 h.2.2.2.1 (fun c w' F' Y' K' => h1 c w' F' Y' K' wn.1) h0
theorem y_bad {w : MW} {f : Int → Int} {n : Int} {nm : List Nm} {op : Nat} {e p : Int} {ns : List Nod} {Q : Int32 → MW → Prop} (h : YS w f n nm op e p ns) (hQ : ∀ w', (w'.1 129 10).toInt = (wrd f n p).2.1 → Q (-1) w') : p_Tx_bad w Q :=
  Eq.mpr (p_Tx_bad.eq_1 _ _) (hQ _ (by rw [sI_same]; exact h.2.1.2.1))
theorem y_bg {w : MW} {f : Int → Int} {n : Int} {nm : List Nm} {op : Nat} {e p : Int} {ns : List Nod} {v : Int32} (h : YS w f n nm op e p ns) (hv : v = w.1 129 5) (w' : MW) : ((sI w' 129 10 v).1 129 10).toInt = (wrd f n p).2.1 := by
  rw [sI_same, hv]
  exact h.2.1.2.1
/-- what node writes, with the unit -/
def NdG (w : MW) (a : Int32) (b : Int64) (u f : Int32) (w' : MW) : Prop := NdF w a b f w' ∧ w'.1 134 (nb w (w.1 129 13).toInt) = u ∧ ∀ j, j ≠ nb w (w.1 129 13).toInt → w'.1 134 j = w.1 134 j
theorem ny_all {e : Int} {w : MW} {a : Int32} {b : Int64} {c u f : Int32} {Q : Int32 → MW → Prop} (h : YJ e w) (a0 : 0 ≤ a.toInt) (a1 : a.toInt ≤ 24) (u0 : -1 ≤ u.toInt) (u1 : u.toInt ≤ 5) (f0 : 0 ≤ f.toInt) (f1 : f.toInt ≤ (w.1 129 35).toInt) (hB : (w.1 129 13).toInt = 300 → Q (-1) (sI w 129 10 (w.1 129 5))) (hQ : ¬ (w.1 129 13).toInt = 300 → ∀ (r : Int32) (w' : MW), r.toInt = (w.1 129 13).toInt → NdG w a b u f w' → Q r w') : p_Tx_node0 w a b c u f Q := by
  have hI := h.1
  have b13 := bd_129_13 hI
  have b21 := bd_129_21 hI
  have b23 := bd_129_23 hI
  have b35 := bd_129_35 hI
  have bh := bhf_b hI
  have hs := h.2.2
  have he := h.2.1
  refine Eq.mpr (p_Tx_node0.eq_1 _ _ _ _ _ _ _) ⟨fun c13 => Eq.mpr (p_Tx_base.eq_1 _ _) ?_, fun c13 => Eq.mpr (p_Tx_bad.eq_1 _ _) (hB (Classical.not_not.mp c13))⟩
  have hQ := hQ c13
  have ei := bb_ix (n := w.1 129 13) hI (by omega) (by omega)
  have en : (((300 : Int32) * ((1 : Int32) - (w.1 129 12))) + (w.1 129 13)).toInt.toNat = nb w (w.1 129 13).toInt := by rw [ei]; rfl
  have hr : 0 ≤ (((300 : Int32) * ((1 : Int32) - (w.1 129 12))) + (w.1 129 13)).toInt ∧ (((300 : Int32) * ((1 : Int32) - (w.1 129 12))) + (w.1 129 13)).toInt < 600 := ⟨by omega, by omega⟩
  refine ⟨hr, hr, hr, hr, hr, hr, ?_⟩
  rw [en]
  have ed := ti_sub2 (Eq.refl (w.1 129 35).toInt) (Eq.refl f.toInt) (by omega) (by omega)
  have hG : ∀ X : Nat, BND (sI (sI (sI (sI (sJ (sI w 131 X a) 132 X b) 133 X c) 134 X u) 135 X (w.1 129 21)) 136 X ((w.1 129 35) - f)) := fun X => wbd_136 (wbd_135 (wbd_134 (wbd_133 (bnd_J (wbd_131 hI X a0 a1)) X) X u0 u1) X b21.1 b21.2) X (by omega) (by omega)
  have hI1 := hG (nb w (w.1 129 13).toInt)
  have q131 : ∀ X j : Nat, (sI (sI (sI (sI (sJ (sI w 131 X a) 132 X b) 133 X c) 134 X u) 135 X (w.1 129 21)) 136 X ((w.1 129 35) - f)).1 131 j = (sI w 131 X a).1 131 j := fun X j => rfl
  have q132 : ∀ X j : Nat, (sI (sI (sI (sI (sJ (sI w 131 X a) 132 X b) 133 X c) 134 X u) 135 X (w.1 129 21)) 136 X ((w.1 129 35) - f)).2.1 132 j = (sJ w 132 X b).2.1 132 j := fun X j => rfl
  have q134 : ∀ X j : Nat, (sI (sI (sI (sI (sJ (sI w 131 X a) 132 X b) 133 X c) 134 X u) 135 X (w.1 129 21)) 136 X ((w.1 129 35) - f)).1 134 j = (sI w 134 X u).1 134 j := fun X j => rfl
  have q135 : ∀ X j : Nat, (sI (sI (sI (sI (sJ (sI w 131 X a) 132 X b) 133 X c) 134 X u) 135 X (w.1 129 21)) 136 X ((w.1 129 35) - f)).1 135 j = (sI w 135 X (w.1 129 21)).1 135 j := fun X j => rfl
  have q136 : ∀ X j : Nat, (sI (sI (sI (sI (sJ (sI w 131 X a) 132 X b) 133 X c) 134 X u) 135 X (w.1 129 21)) 136 X ((w.1 129 35) - f)).1 136 j = (sI w 136 X ((w.1 129 35) - f)).1 136 j := fun X j => rfl
  have hF : ∀ X : Nat, FR [(131, none), (132, none), (133, none), (134, none), (135, none), (136, none)] w (sI (sI (sI (sI (sJ (sI w 131 X a) 132 X b) 133 X c) 134 X u) 135 X (w.1 129 21)) 136 X ((w.1 129 35) - f)) := fun X => FR.I (FR.I (FR.I (FR.I (FR.J (FR.I (FR.refl _ w) rfl) rfl) rfl) rfl) rfl) rfl
  have hF1 := hF (nb w (w.1 129 13).toInt)
  have r131 := q131 (nb w (w.1 129 13).toInt)
  have r132 := q132 (nb w (w.1 129 13).toInt)
  have r134 := q134 (nb w (w.1 129 13).toInt)
  have r135 := q135 (nb w (w.1 129 13).toInt)
  have r136 := q136 (nb w (w.1 129 13).toInt)
  clear q131 q132 q134 q135 q136 hF hG
  generalize (sI (sI (sI (sI (sJ (sI w 131 (nb w (w.1 129 13).toInt) a) 132 (nb w (w.1 129 13).toInt) b) 133 (nb w (w.1 129 13).toInt) c) 134 (nb w (w.1 129 13).toInt) u) 135 (nb w (w.1 129 13).toInt) (w.1 129 21)) 136 (nb w (w.1 129 13).toInt) ((w.1 129 35) - f)) = w1 at *
  have e12 : bhf w1 = bhf w := by unfold bhf; rw [(hF1 129 12 rfl).1]
  have e13 : w1.1 129 13 = w.1 129 13 := (hF1 129 13 rfl).1
  have e21 : w1.1 129 21 = w.1 129 21 := (hF1 129 21 rfl).1
  have e35 : w1.1 129 35 = w.1 129 35 := (hF1 129 35 rfl).1
  have e137 : ∀ j, w1.1 137 j = w.1 137 j := fun j => (hF1 137 j rfl).1
  have e144 : ∀ j, w1.1 144 j = w.1 144 j := fun j => (hF1 144 j rfl).1
  refine nd_loop f0 (by rw [e21]; omega) (by rw [e35, e21]; omega) (fun w3 hL => ?_) FU f w1 ⟨hI1, FR.refl _ w1, by omega, fun i i0 i1 => by omega, fun j _ => rfl⟩ (Int.le_refl _) (by rw [e35]; exact f1) (fu_lt (by rw [e35]; omega))
  have f13 : w3.1 129 13 = w.1 129 13 := ((hL.2.1 129 13 rfl).1).trans e13
  have s13 := ti_add2 (Eq.refl (w.1 129 13).toInt) i_1 (by omega) (by omega)
  have t13 := ti_sub2 s13 i_1 (by omega) (by omega)
  have h21 := hL.2.2.1
  rw [e21, e35] at h21
  rw [f13]
  refine hQ _ _ (by rw [t13]; omega) ⟨⟨wbd_129_13 (wbd_129_35 hL.1 f0 (by omega)) (by omega) (by omega), FR.I (FR.I ((((FR.refl l_Tx_node0 w).tr hF1 rfl)).tr hL.2.1 rfl) rfl) rfl, ?_, ?_, ?_, fun j hj => ?_, ?_, ?_, ?_, ?_, fun i i0 i1 => ?_, fun j hj => ?_⟩, ?_, fun j hj => ?_⟩
  · rw [sI_same]; exact s13
  · exact h21
  · rfl
  · refine ⟨?_, ?_, ?_, ?_⟩
    · exact (hL.2.1 131 j rfl).1.trans ((r131 j).trans (sI_ne _ _ _ _ _ hj))
    · exact (hL.2.1 132 j rfl).2.1.trans ((r132 j).trans (by rw [sJ_at, if_neg (fun q => hj q.2)]))
    · exact (hL.2.1 135 j rfl).1.trans ((r135 j).trans (sI_ne _ _ _ _ _ hj))
    · exact (hL.2.1 136 j rfl).1.trans ((r136 j).trans (sI_ne _ _ _ _ _ hj))
  · exact (hL.2.1 131 _ rfl).1.trans ((r131 _).trans (sI_same _ _ _ _))
  · exact (hL.2.1 132 _ rfl).2.1.trans ((r132 _).trans (sJ_same _ _ _ _))
  · exact congrArg Int32.toInt ((hL.2.1 135 _ rfl).1.trans ((r135 _).trans (sI_same _ _ _ _)))
  · exact (congrArg Int32.toInt ((hL.2.1 136 _ rfl).1.trans ((r136 _).trans (sI_same _ _ _ _)))).trans ed
  · have q := hL.2.2.2.1 i i0 (by rw [e35]; exact i1)
    rw [e12, e21, e144] at q
    exact q
  · have q := hL.2.2.2.2 j (by rw [e12, e21, e35]; exact hj)
    rw [e137] at q
    exact q
  · exact (hL.2.1 134 _ rfl).1.trans ((r134 _).trans (sI_same _ _ _ _))
  · exact (hL.2.1 134 j rfl).1.trans ((r134 j).trans (sI_ne _ _ _ _ _ hj))
theorem ndg_k {e : Int} {w w' : MW} {a : Int32} {b : Int64} {u f : Int32} (h : YJ e w) (hN : NdG w a b u f w') (f1 : f.toInt ≤ (w.1 129 35).toInt) : KNm w w' := by
  have hI := h.1
  have b21 := bd_129_21 hI
  have bh := bhf_b hI
  have e13 := hN.1.2.2.1
  have e21 := hN.1.2.2.2.1
  refine ⟨(hN.1.2.1 129 12 rfl).1, by omega, by omega, fun i i0 i1 => ?_, fun j j0 j1 => ?_, (hN.1.2.1 129 23 rfl).1, fun j => (hN.1.2.1 138 j rfl).1⟩
  · have ne := nb_inj hI i0 (show 0 ≤ (w.1 129 13).toInt by omega) (show i ≠ (w.1 129 13).toInt by omega)
    have t := hN.1.2.2.2.2.2.1 _ ne
    exact ⟨t.1, t.2.1, hN.2.2 _ ne, t.2.2.1, t.2.2.2⟩
  · exact hN.1.2.2.2.2.2.2.2.2.2.2.2 (nb w j) (Or.inl (by unfold nb; omega))
/-- the numbers l lie on the pile from lo to its top -/
def PiL (w : MW) (lo : Int) (l : List Nat) : Prop := (w.1 129 35).toInt = lo + (l.length : Int) ∧ 0 ≤ lo ∧ ∀ (k c : Nat), l[k]? = some c → (w.1 144 (lo + (k : Int)).toNat).toInt = (c : Int)
theorem app_get {α : Type} {l : List α} {d x : α} {i : Nat} (h : (l ++ [d])[i]? = some x) : l[i]? = some x ∨ (i = l.length ∧ x = d) := by
  by_cases c : i < l.length
  · rw [List.getElem?_append_left c] at h
    exact Or.inl h
  · rw [List.getElem?_append_right (by omega)] at h
    have t := (List.getElem?_eq_some_iff.mp h).1
    rw [List.length_singleton] at t
    have e : i - l.length = 0 := by omega
    rw [e, List.getElem?_cons_zero] at h
    injection h with h
    exact Or.inr ⟨by omega, h.symm⟩
/-- a node more -/
theorem y_node {w : MW} {f : Int → Int} {n : Int} {nm : List Nm} {op : Nat} {e p lo : Int} {ns : List Nod} {a : Int32} {b : Int64} {c u x : Int32} {d : Nod} {Q : Int32 → MW → Prop} (h : YS w f n nm op e p ns) (ha : a.toInt = wht d.1) (a0 : 0 ≤ wht d.1) (a1 : wht d.1 ≤ 24) (u0 : -1 ≤ u.toInt) (u1 : u.toInt ≤ 5) (hx : x.toInt = lo) (hP : PiL w lo d.2.2.2) (b1 : d.1 = 31 → b.toInt = d.2.2.1) (b2 : ¬ d.1 = 31 → ¬ d.1 = 10 → b.toInt = d.2.1) (h0 : ns.length = 300 → ∀ w', (w'.1 129 10).toInt = (wrd f n p).2.1 → Q (-1) w') (h1 : ¬ ns.length = 300 → ∀ (r : Int32) (w' : MW), r.toInt = (ns.length : Int) → YS w' f n nm op (e + 1) p (ns ++ [d]) → KNm w w' → w'.1 129 35 = x → (∀ k, w'.1 144 k = w.1 144 k) → (w'.1 134 (nb w' (ns.length : Int))) = u → w'.1 129 38 = w.1 129 38 → w'.1 129 23 = w.1 129 23 → Q r w') : p_Tx_node0 w a b c u x Q := by
  have hI := h.1.1.1
  have b35 := bd_129_35 hI
  have e13 := h.2.2.2.1.1
  have f0 := hP.2.1
  have f1 : x.toInt ≤ (w.1 129 35).toInt := by rw [hx, hP.1]; omega
  refine ny_all h.1.1 (by omega) (by omega) u0 u1 (by omega) f1 (fun z => h0 (by omega) _ (y_bg h rfl w)) (fun z r w' hr hN => ?_)
  have K := ndg_k h.1.1 hN f1
  have g13 := hN.1.2.2.1
  have g21 := hN.1.2.2.2.1
  have g35 := hN.1.2.2.2.2.1
  have g23 : w'.1 129 23 = w.1 129 23 := (hN.1.2.1 129 23 rfl).1
  have hs := h.1.1.2.2
  have he := h.1.1.2.1
  have bh := bhf_b hI
  have b21 := bd_129_21 hI
  have en := (knm_b K).2
  refine h1 (by omega) r w' (by rw [hr, e13]) ⟨yb_fr h.1 hN.1.2.1 ⟨hN.1.1, by omega, by rw [g35, g23]; omega⟩ rfl, ?_, h.2.2.1, ⟨by rw [g13, e13, List.length_append, List.length_singleton]; omega, fun i d' hd => ?_⟩, h.2.2.2.2⟩ K g35 (fun k => (hN.1.2.1 144 k rfl).1) (by rw [en, ← e13]; exact hN.2.1) (hN.1.2.1 129 38 rfl).1 g23
  · have t := h.2.1
    unfold TkM at t ⊢
    rw [(hN.1.2.1 129 4 rfl).1, (hN.1.2.1 129 5 rfl).1, (hN.1.2.1 129 2 rfl).1, (hN.1.2.1 129 6 rfl).1, (hN.1.2.1 129 8 rfl).2.1, (hN.1.2.1 129 9 rfl).1]
    exact t
  · rcases app_get hd with q | ⟨q, q2⟩
    · exact pnd_k (h.2.2.2.1.2 i d' q) K hI (by omega) (by have := (List.getElem?_eq_some_iff.mp q).1; rw [e13]; omega)
    · rw [q, q2]
      have N := hN.1.2.2.2.2.2.2
      unfold PNd
      rw [en, ← e13, N.1, N.2.1, N.2.2.1, N.2.2.2.1]
      have pl := hP.1
      refine ⟨ha, b1, b2, by omega, by omega, fun k cc hk => ?_⟩
      have lk := (List.getElem?_eq_some_iff.mp hk).1
      have t := N.2.2.2.2.1 (k : Int) (by omega) (by omega)
      have s := hP.2.2 k cc hk
      rw [en]
      unfold nb
      rw [show (300 * bhf w + ((w.1 129 21).toInt + (k : Int))).toNat = (300 * bhf w + (w.1 129 21).toInt + (k : Int)).toNat by omega, t, hx]
      exact s
theorem y_unit {w : MW} {a : Int32} {Q : Int32 → MW → Prop} (hI : BND w) (a0 : 0 ≤ a.toInt) (a1 : a.toInt < 300) (hQ : Q (w.1 134 (nb w a.toInt)) w) : p_Tx_unitIn w a Q := by
  have ei := bb_ix (n := a) hI a0 (by omega)
  have bh := bhf_b hI
  refine Eq.mpr (p_Tx_unitIn.eq_1 _ _ _) (Eq.mpr (p_Tx_base.eq_1 _ _) ⟨⟨by omega, by omega⟩, ?_⟩)
  rw [ei]
  exact hQ
/-- a node on the pile -/
theorem y_push {w : MW} {f : Int → Int} {n : Int} {nm : List Nm} {op : Nat} {e p : Int} {ns : List Nod} {a : Int32} {Q : MW → Prop} (h : YS w f n nm op (e + 1) p ns) (he : 0 ≤ e) (a0 : 0 ≤ a.toInt) (a1 : a.toInt < (ns.length : Int)) (hQ : ∀ w', FR [(129, some 35), (144, none)] w w' → YS w' f n nm op e p ns → KNm w w' → (w'.1 129 35).toInt = (w.1 129 35).toInt + 1 → (∀ k : Int, 0 ≤ k → k < (w.1 129 35).toInt → w'.1 144 k.toNat = w.1 144 k.toNat) → w'.1 144 (w.1 129 35).toInt.toNat = a → Q w') : p_Tx_push w a Q := by
  have hI := h.1.1.1
  have b13 := bd_129_13 hI
  have b21 := bd_129_21 hI
  have b23 := bd_129_23 hI
  have b35 := bd_129_35 hI
  have hs := h.1.1.2.2
  have e13 := h.2.2.2.1.1
  have s35 := ti_add2 (Eq.refl (w.1 129 35).toInt) i_1 (by omega) (by omega)
  refine Eq.mpr (p_Tx_push.eq_1 _ _ _) ⟨⟨by omega, by omega⟩, ?_⟩
  have hF : FR [(129, some 35), (144, none)] w (sI (sI w 144 ((w.1 129 35).toInt.toNat) a) 129 35 ((w.1 129 35) + (1 : Int32))) := FR.I (FR.I (FR.refl _ w) rfl) rfl
  have hB : BND (sI (sI w 144 ((w.1 129 35).toInt.toNat) a) 129 35 ((w.1 129 35) + (1 : Int32))) := wbd_129_35 (wbd_144 hI _ a0 (by omega)) (by omega) (by omega)
  have h35 : ((sI (sI w 144 ((w.1 129 35).toInt.toNat) a) 129 35 ((w.1 129 35) + (1 : Int32))).1 129 35).toInt = (w.1 129 35).toInt + 1 := by rw [sI_same]; exact s35
  have h144 : ∀ j, (sI (sI w 144 ((w.1 129 35).toInt.toNat) a) 129 35 ((w.1 129 35) + (1 : Int32))).1 144 j = (sI w 144 ((w.1 129 35).toInt.toNat) a).1 144 j := fun j => rfl
  generalize (sI (sI w 144 ((w.1 129 35).toInt.toNat) a) 129 35 ((w.1 129 35) + (1 : Int32))) = w' at *
  have K : KNm w w' := KNm.fr hF rfl
  refine hQ w' hF ⟨yb_fr h.1 hF ⟨hB, he, ?_⟩ rfl, ?_, h.2.2.1, pnm_k h.2.2.2.1 K hI (hF 129 13 rfl).1, h.2.2.2.2⟩ K h35 (fun k k0 k1 => by rw [h144, sI_ne _ _ _ _ _ (by omega)]) (by rw [h144, sI_same])
  · rw [h35, (hF 129 21 rfl).1, (hF 129 23 rfl).1, (hF 129 13 rfl).1]
    omega
  · have t := h.2.1
    unfold TkM at t ⊢
    rw [(hF 129 4 rfl).1, (hF 129 5 rfl).1, (hF 129 2 rfl).1, (hF 129 6 rfl).1, (hF 129 8 rfl).2.1, (hF 129 9 rfl).1]
    exact t
/-! the reference's names; which word a token is -/
theorem wrd_k (f : Int → Int) (n p : Int) : (wrd f n p).1 = 33 ∨ (wrd f n p).1 = 32 ∨ (wrd f n p).1 = 31 ∨ (40 ≤ (wrd f n p).1 ∧ (wrd f n p).1 ≤ 125) ∨ (((wrd f n p).1 = 30 ∨ (1 ≤ (wrd f n p).1 ∧ (wrd f n p).1 ≤ 26)) ∧ (wrd f n p).2.2.1 = (wrd f n p).2.1 + ((wrd f n p).2.2.2.1.length : Int) ∧ ∀ (i : Nat) (c : Int), (wrd f n p).2.2.2.1[i]? = some c → c = f ((wrd f n p).2.1 + (i : Int))) := by
  have e : wrd f n p = wrq f n (skp f n 4001 p) := rfl
  rw [e]
  generalize skp f n 4001 p = q
  unfold wrq
  by_cases c : n ≤ q
  · rw [if_pos c]
    exact Or.inr (Or.inl rfl)
  · rw [if_neg c]
    by_cases d : lt1 (f q) = true
    · rw [if_pos d]
      unfold wrL
      by_cases b : bd1 (f (q + ((lts f 12 q).length : Int))) = true
      · rw [if_pos b]
        exact Or.inl rfl
      · rw [if_neg b]
        exact Or.inr (Or.inr (Or.inr (Or.inr ⟨kwd_b _, rfl, fun i c h => lts_g f 12 q i c h⟩)))
    · rw [if_neg d]
      by_cases g : dg1 (f q) = true
      · rw [if_pos g]
        unfold wrN
        by_cases b : bd1 (f (dgn f q)) = true
        · rw [if_pos b]
          exact Or.inl rfl
        · rw [if_neg b]
          exact Or.inr (Or.inr (Or.inl rfl))
      · rw [if_neg g]
        by_cases k : mk1 (f q) = true
        · rw [if_pos k]
          have t := mk1_t.mp k
          refine Or.inr (Or.inr (Or.inr (Or.inl ?_)))
          show 40 ≤ f q ∧ f q ≤ 125
          omega
        · rw [if_neg k]
          exact Or.inl rfl
theorem mng_r (k : Int) (h : k = 30 ∨ (1 ≤ k ∧ k ≤ 26)) : -1 ≤ mng k ∧ mng k ≤ 46 := mng_b k (h.symm)
theorem mng_30 (k : Int) (h : k = 30 ∨ (1 ≤ k ∧ k ≤ 26)) : mng k = -1 ↔ k = 30 := by
  have t : ∀ j : Nat, j < 31 → ((j : Int) = 30 ∨ (1 ≤ (j : Int) ∧ (j : Int) ≤ 26)) → (mng (j : Int) = -1 ↔ (j : Int) = 30) := by decide +kernel
  have := t k.toNat (by omega)
  rw [show ((k.toNat : Nat) : Int) = k by omega] at this
  exact this h
/-- the words of the class, by the reference's numbers -/
theorem mng_i {k c : Int} (h : k = 30 ∨ (1 ≤ k ∧ k ≤ 26)) (h' : 1 ≤ c ∧ c ≤ 26) : mng k = mng c ↔ k = c := by
  have t : ∀ i : Nat, i < 31 → ∀ j : Nat, j < 27 → ((i : Int) = 30 ∨ (1 ≤ (i : Int) ∧ (i : Int) ≤ 26)) → (1 ≤ (j : Int)) → (mng (i : Int) = mng (j : Int) ↔ (i : Int) = (j : Int)) := by decide +kernel
  have := t k.toNat (by omega) c.toNat (by omega)
  rw [show ((k.toNat : Nat) : Int) = k by omega, show ((c.toNat : Nat) : Int) = c by omega] at this
  exact this h h'.1
/-- a token that is a sign -/
theorem tk_sign {f : Int → Int} {n p c : Int} (h : ¬ (wrd f n p).1 = 33) (c0 : 40 ≤ c) (c1 : c ≤ 125) : tkm (wrd f n p).1 = c ↔ (wrd f n p).1 = c := by
  unfold tkm
  rcases wrd_k f n p with k | k | k | k | k
  · exact absurd k h
  · rw [if_pos k]
    omega
  · rw [if_neg (by omega), if_pos k]
    omega
  · rw [if_neg (by omega), if_neg (by omega), if_neg (by omega)]
  · have b := mng_r _ k.1
    rw [if_neg (by omega), if_neg (by omega), if_pos (by omega)]
    have k1 := k.1
    omega
theorem tk_num {f : Int → Int} {n p : Int} (h : ¬ (wrd f n p).1 = 33) : tkm (wrd f n p).1 = 2000 ↔ (wrd f n p).1 = 31 := by
  unfold tkm
  rcases wrd_k f n p with k | k | k | k | k
  · exact absurd k h
  · rw [if_pos k]
    omega
  · rw [if_neg (by omega), if_pos k]
    omega
  · rw [if_neg (by omega), if_neg (by omega), if_neg (by omega)]
    omega
  · have b := mng_r _ k.1
    rw [if_neg (by omega), if_neg (by omega), if_pos (by omega)]
    have k1 := k.1
    omega
theorem tk_end {f : Int → Int} {n p : Int} (h : ¬ (wrd f n p).1 = 33) : tkm (wrd f n p).1 = 1 ↔ (wrd f n p).1 = 32 := by
  unfold tkm
  rcases wrd_k f n p with k | k | k | k | k
  · exact absurd k h
  · rw [if_pos k]
    omega
  · rw [if_neg (by omega), if_pos k]
    omega
  · rw [if_neg (by omega), if_neg (by omega), if_neg (by omega)]
    omega
  · have b := mng_r _ k.1
    rw [if_neg (by omega), if_neg (by omega), if_pos (by omega)]
    have k1 := k.1
    omega
theorem tk_name {f : Int → Int} {n p : Int} (h : ¬ (wrd f n p).1 = 33) : tkm (wrd f n p).1 = 999 ↔ (wrd f n p).1 = 30 := by
  unfold tkm
  rcases wrd_k f n p with k | k | k | k | k
  · exact absurd k h
  · rw [if_pos k]
    omega
  · rw [if_neg (by omega), if_pos k]
    omega
  · rw [if_neg (by omega), if_neg (by omega), if_neg (by omega)]
    omega
  · have b := mng_30 _ k.1
    have k1 := k.1
    rw [if_neg (by omega), if_neg (by omega), if_pos (by omega)]
    omega
/-- a token that is the word c -/
theorem tk_word {f : Int → Int} {n p c : Int} (h : ¬ (wrd f n p).1 = 33) (c1 : 1 ≤ c ∧ c ≤ 26) : tkm (wrd f n p).1 = 1000 + mng c ↔ (wrd f n p).1 = c := by
  have bc := mng_r c (Or.inr c1)
  unfold tkm
  rcases wrd_k f n p with k | k | k | k | k
  · exact absurd k h
  · rw [if_pos k]
    omega
  · rw [if_neg (by omega), if_pos k]
    omega
  · rw [if_neg (by omega), if_neg (by omega), if_neg (by omega)]
    omega
  · have b := mng_i k.1 c1
    have k1 := k.1
    rw [if_neg (by omega), if_neg (by omega), if_pos (by omega)]
    omega
theorem y_tk {w : MW} {f : Int → Int} {n : Int} {nm : List Nm} {op : Nat} {e p : Int} {ns : List Nod} (h : YS w f n nm op e p ns) : (w.1 129 4).toInt = tkm (wrd f n p).1 := h.2.1.1
/-- isWord of a word of the class -/
theorem y_isw {w : MW} {f : Int → Int} {n : Int} {nm : List Nm} {op : Nat} {e p : Int} {ns : List Nod} {a : Int32} {c : Int} {Q : Int32 → MW → Prop} (h : YS w f n nm op e p ns) (c1 : 1 ≤ c ∧ c ≤ 26) (ha : a.toInt = mng c) (h1 : (wrd f n p).1 = c → Q 1 w) (h0 : ¬ (wrd f n p).1 = c → Q 0 w) : p_Tx_isWord w a Q := by
  have bc := mng_r c (Or.inr c1)
  have s := ti_add2 (show (1000 : Int32).toInt = 1000 by decide) ha (by omega) (by omega)
  have t := tk_word (f := f) (n := n) (p := p) h.2.2.1 c1
  refine Eq.mpr (p_Tx_isWord.eq_1 _ _ _) ⟨fun z => h0 (fun q => z ?_), fun z => h1 ?_⟩
  · rw [s, y_tk h]
    exact t.mpr q
  · have z' := Classical.not_not.mp z
    rw [s, y_tk h] at z'
    exact t.mp z'
theorem y_isn {w : MW} {f : Int → Int} {n : Int} {nm : List Nm} {op : Nat} {e p : Int} {ns : List Nod} {Q : Int32 → MW → Prop} (h : YS w f n nm op e p ns) (h1 : (wrd f n p).1 = 30 → Q 1 w) (h0 : ¬ (wrd f n p).1 = 30 → Q 0 w) : p_Tx_isWord w (-1) Q := by
  have s : ((1000 : Int32) + (-1 : Int32)).toInt = 999 := by decide
  have t := tk_name (f := f) (n := n) (p := p) h.2.2.1
  refine Eq.mpr (p_Tx_isWord.eq_1 _ _ _) ⟨fun z => h0 (fun q => z ?_), fun z => h1 ?_⟩
  · rw [s, y_tk h]
    exact t.mpr q
  · have z' := Classical.not_not.mp z
    rw [s, y_tk h] at z'
    exact t.mp z'
/-- the letters of the word that is next -/
theorem y_sg {w : MW} {f : Int → Int} {n : Int} {nm : List Nm} {op : Nat} {e p : Int} {ns : List Nod} (h : YS w f n nm op e p ns) (k : (wrd f n p).1 = 30 ∨ (1 ≤ (wrd f n p).1 ∧ (wrd f n p).1 ≤ 26)) : SgM w (wrd f n p).2.1.toNat (wrd f n p).2.2.2.1 := by
  have wn := wrd_n (f := f) (n := n) (p := p) h.1.2.1.2.2.2 h.2.2.2.2.1 h.2.2.2.2.2
  have n4 := h.1.2.1.2.1
  have T := h.2.1
  rcases wrd_k f n p with q | q | q | q | q
  · exact absurd q h.2.2.1
  · omega
  · omega
  · omega
  · have q1 := q.2.1
    refine ⟨by rw [T.2.1]; omega, by rw [T.2.2.2.1]; omega, by omega, fun i c hc => ?_⟩
    have il := (List.getElem?_eq_some_iff.mp hc).1
    have t := h.1.2.1.2.2.1 ((wrd f n p).2.1.toNat + i) (by omega)
    rw [t, q.2.2 i c hc]
    congr 1
    omega
theorem lki_f (l : List Int) : ∀ (xs : List Nm) (i : Int) (j : Nat) (x : Nm), xs[j]? = some x → x.1 = l → (∀ (k : Nat) (y : Nm), k < j → xs[k]? = some y → ¬ y.1 = l) → lki l xs i = (i + (j : Int), x.2.1, x.2.2.1, x.2.2.2) := by
  intro xs
  induction xs with
  | nil => intro i j x h; cases h
  | cons z zs ih =>
    intro i j x h e first
    rw [lki_u]
    cases j with
    | zero =>
      have ez : z = x := Option.some.inj h
      rw [ez, if_pos e, show i + ((0 : Nat) : Int) = i by omega]
    | succ j =>
      rw [if_neg (first 0 z (Nat.succ_pos _) rfl), ih (i + 1) j x h e (fun k y hk hy => first (k + 1) y (Nat.succ_lt_succ hk) hy), show i + 1 + (j : Int) = i + ((j + 1 : Nat) : Int) by omega]
theorem lki_n (l : List Int) : ∀ (xs : List Nm) (i : Int), (∀ x ∈ xs, ¬ x.1 = l) → lki l xs i = (-1, 0, 0, 0) := by
  intro xs
  induction xs with
  | nil => exact fun _ _ => rfl
  | cons z zs ih =>
    intro i h
    rw [lki_u, if_neg (h z List.mem_cons_self)]
    exact ih (i + 1) (fun x hx => h x (List.mem_cons_of_mem _ hx))
theorem nm_490 {w : MW} {x1 x2 y : Int32} {E : Int32 → MW → Prop} {Q : Int32 → MW → Prop} (m : Nat) (hm : 0 < m) (h : 0 ≤ x2.toInt ∧ x2.toInt < 80) (hE : E 0 w) : q_Tx_nameOf_49 x1 x2 E Q m 0 y w := by
  cases m with
  | zero => omega
  | succ m =>
    rw [q_Tx_nameOf_49.eq_2]
    exact ⟨h, fun _ => hE, fun _ => ⟨fun _ => hE, fun z => absurd i_0 z⟩⟩
/-- the letters of a name and of the word, one by one -/
theorem nm_49 {w : MW} {b A : Nat} {l x : List Int} {x1 x2 : Int32} {E : Int32 → MW → Prop} {Q : Int32 → MW → Prop} (hs : SgM w b l) (hA : x2.toInt = (A : Int)) (A8 : A < 80) (hl : (w.1 140 A).toInt = (x.length : Int)) (x12 : x.length ≤ 12) (hx : ∀ (k : Nat) (c : Int), x[k]? = some c → (w.1 139 (12 * A + k)).toInt = c) (el : x.length = l.length) (m : Nat) : ∀ j : Nat, j ≤ x.length → (x.drop j = l.drop j → E 1 w) → (¬ x.drop j = l.drop j → E 0 w) → x.length - j < m → q_Tx_nameOf_49 x1 x2 E Q m 1 (nI j) w := by
  induction m with
  | zero => intros; omega
  | succ m ih =>
    intro j hj h1 h0 hm
    have b4 := hs.2.2.1
    have e5 := hs.1
    have tj : (nI j).toInt = (j : Int) := nI_toInt (by omega)
    have ta : x2.toInt.toNat = A := by omega
    have s12 := ti_mul2 (show (12 : Int32).toInt = 12 by decide) hA (by omega) (by omega)
    have sA := ti_add2 s12 tj (by omega) (by omega)
    have sB := ti_add2 e5 tj (by omega) (by omega)
    rw [q_Tx_nameOf_49.eq_2, ta, hl]
    refine ⟨⟨by omega, by omega⟩, fun c => h1 ?_, fun c => ⟨fun z => absurd z (by decide), fun _ => ⟨⟨by omega, by omega⟩, ⟨by omega, by omega⟩, ?_⟩⟩⟩
    · rw [List.drop_eq_nil_iff.mpr (by omega), List.drop_eq_nil_iff.mpr (by omega)]
    · have jx : j < x.length := by omega
      have jl : j < l.length := by omega
      have g := hx j _ (List.getElem?_eq_getElem jx)
      have g2 := hs.2.2.2 j _ (List.getElem?_eq_getElem jl)
      have d1 : x.drop j = x[j] :: x.drop (j + 1) := List.drop_eq_getElem_cons jx
      have d2 : l.drop j = l[j] :: l.drop (j + 1) := List.drop_eq_getElem_cons jl
      rw [show ((((12 : Int32) * x2) + (nI j)).toInt.toNat) = 12 * A + j by omega, show (((w.1 129 5) + (nI j)).toInt.toNat) = b + j by omega, g, g2, nI_1]
      refine ⟨fun y => ?_, fun y => ?_⟩
      · have no : E 0 w := h0 (fun e => by
          rw [d1, d2] at e
          injection e with e _
          exact y e)
        exact nm_490 m (by omega) ⟨by omega, by omega⟩ no
      · have y' := Classical.not_not.mp y
        refine ih (j + 1) jx (fun e => h1 (by rw [d1, d2, y', e])) (fun e => h0 (fun q => e ?_)) (by omega)
        rw [d1, d2] at q
        injection q with _ q
theorem nm_2 {w : MW} {nm : List Nm} {b : Nat} {l : List Int} {E : MW → Prop} {Q : Int32 → MW → Prop} (hI : BND w) (h : NmM w nm) (hs : SgM w b l) (hE : (∀ x ∈ nm, ¬ x.1 = l) → E w) (hQ : ∀ (j : Nat) (x : Nm), nm[j]? = some x → x.1 = l → (∀ (i : Nat) (y : Nm), i < j → nm[i]? = some y → ¬ y.1 = l) → Q (nI j) w) (m : Nat) : ∀ j : Nat, j ≤ nm.length → (∀ (i : Nat) (y : Nm), i < j → nm[i]? = some y → ¬ y.1 = l) → nm.length - j < m → q_Tx_nameOf_2 E Q m (nI j) w := by
  induction m with
  | zero => intros; omega
  | succ m ih =>
    intro j hj hn hm
    have n4 := h.2.1
    have n0 := h.1
    have bh := bhf_b hI
    have b4 := hs.2.2.1
    have tj : (nI j).toInt = (j : Int) := nI_toInt (by omega)
    have ei := cc_ix (n := nI j) hI (by omega) (by omega)
    have ed := ti_sub2 hs.2.1 hs.1 (by omega) (by omega)
    rw [q_Tx_nameOf_2.eq_2]
    refine ⟨fun z => hE (fun x hx => ?_), fun z => ?_⟩
    · obtain ⟨i, hi⟩ := List.mem_iff_getElem?.mp hx
      have : i < nm.length := (List.getElem?_eq_some_iff.mp hi).1
      exact hn i x (by omega) hi
    · have jl : j < nm.length := by omega
      obtain ⟨x, hx⟩ : ∃ x, nm[j]? = some x := ⟨_, List.getElem?_eq_getElem jl⟩
      have t := h.2.2 j x hx
      have eA : (((40 : Int32) * ((1 : Int32) - (w.1 129 12))) + (nI j)).toInt = (((40 * bhf w + (j : Int)).toNat : Nat) : Int) := by omega
      have eN : (((40 : Int32) * ((1 : Int32) - (w.1 129 12))) + (nI j)).toInt.toNat = (40 * bhf w + (j : Int)).toNat := by omega
      have nx : ¬ x.1 = l → q_Tx_nameOf_2 E Q m (nI j + (1 : Int32)) w := fun no => by
        rw [nI_1]
        refine ih (j + 1) jl (fun i y hi hy => ?_) (by omega)
        by_cases e : i = j
        · rw [e] at hy
          rw [Option.some.inj (hy.symm.trans hx)]
          exact no
        · exact hn i y (by omega) hy
      refine ⟨⟨by omega, by omega⟩, fun c => ?_, fun c => ?_⟩
      · rw [eN, t.1, ed] at c
        have no : ¬ x.1 = l := fun e => c (by rw [e]; omega)
        exact nm_490 FU (Nat.lt_of_le_of_lt (Nat.zero_le _) (fu_lt (by decide) : (100 : Nat) < FU)) ⟨by omega, by omega⟩ ⟨fun _ => nx no, fun z => absurd i_0 z⟩
      · rw [eN, t.1, ed] at c
        have c' := Classical.not_not.mp c
        refine nm_49 (A := (40 * bhf w + (j : Int)).toNat) (x := x.1) hs eA (by omega) t.1 t.2.1 (fun k cc hk => ?_) (by omega) FU 0 (Nat.zero_le _) (fun e => ⟨fun z => absurd z (by decide), fun _ => hQ j x hx e hn⟩) (fun e => ⟨fun _ => nx e, fun z => absurd i_0 z⟩) (Nat.lt_of_le_of_lt (show _ ≤ 12 by have := t.2.1; omega) (fu_lt (by decide)))
        have q := t.2.2.1 k cc hk
        rw [show (12 * (40 * bhf w + (j : Int)) + (k : Int)).toNat = 12 * (40 * bhf w + (j : Int)).toNat + k by omega] at q
        exact q
/-- nameOf exactly -/
theorem mn_x {w : MW} {nm : List Nm} {b : Nat} {l : List Int} {Q : Int32 → MW → Prop} (hI : BND w) (h : NmM w nm) (hs : SgM w b l) (h0 : lki l nm 0 = (-1, 0, 0, 0) → Q (-1) w) (h1 : ∀ (j : Nat) (x : Nm), nm[j]? = some x → x.1 = l → lki l nm 0 = ((j : Int), x.2.1, x.2.2.1, x.2.2.2) → Q (nI j) w) : p_Tx_nameOf w Q := by
  have n4 := h.2.1
  refine Eq.mpr (p_Tx_nameOf.eq_1 _ _) (nm_2 (m := FU) hI h hs (fun no => h0 (lki_n l nm 0 no)) (fun j x hx e first => h1 j x hx e ?_) 0 (Nat.zero_le _) (fun i y hi => absurd hi (Nat.not_lt_zero _)) (Nat.lt_of_le_of_lt (show _ ≤ 40 by omega) (fu_lt (by decide))))
  rw [lki_f l nm 0 j x hx e first, show 0 + (j : Int) = (j : Int) by omega]
/-! the reference reads sums and tests: the small pieces -/
theorem XP_1 (f : Int → Int) (n : Int) (lk : List Int → Int × Int × Int × Int) (k op : Nat) (u p : Int) (ns : List Nod) (r : XR) : XP f n lk (k + 1) 1 op u p ns r = xlv (XP f n lk k) 1 op p ns r := rfl
theorem XP_0 (f : Int → Int) (n : Int) (lk : List Int → Int × Int × Int × Int) (k op : Nat) (u p : Int) (ns : List Nod) (r : XR) : XP f n lk (k + 1) 0 op u p ns r = xlv (XP f n lk k) 0 op p ns r := rfl
theorem XP_2 (f : Int → Int) (n : Int) (lk : List Int → Int × Int × Int × Int) (k op : Nat) (u p : Int) (ns : List Nod) (r : XR) : XP f n lk (k + 1) 2 op u p ns r = xlv (XP f n lk k) 2 op p ns r := rfl
theorem XP_3 (f : Int → Int) (n : Int) (lk : List Int → Int × Int × Int × Int) (k op : Nat) (u p : Int) (ns : List Nod) (r : XR) : XP f n lk (k + 1) 3 op u p ns r = xfa f n lk (XP f n lk k) op p ns r := rfl
theorem XP_4 (f : Int → Int) (n : Int) (lk : List Int → Int × Int × Int × Int) (k op : Nat) (u p : Int) (ns : List Nod) (r : XR) : XP f n lk (k + 1) 4 op u p ns r = xlo f n (XP f n lk k) 0 op u p ns r := rfl
theorem XP_5 (f : Int → Int) (n : Int) (lk : List Int → Int × Int × Int × Int) (k op : Nat) (u p : Int) (ns : List Nod) (r : XR) : XP f n lk (k + 1) 5 op u p ns r = xlo f n (XP f n lk k) 1 op u p ns r := rfl
theorem XP_6 (f : Int → Int) (n : Int) (lk : List Int → Int × Int × Int × Int) (k op : Nat) (u p : Int) (ns : List Nod) (r : XR) : XP f n lk (k + 1) 6 op u p ns r = xlo f n (XP f n lk k) 2 op u p ns r := rfl
/-- what reading leaves: N nodes were there -/
def YO (w w' : MW) (f : Int → Int) (n : Int) (nm : List Nm) (op : Nat) (e : Int) (N : Nat) (p : Int) (r : XR) (y : Int32) : Prop := (r.1 = true ∧ YS w' f n nm op (e + 1) r.2.2.2.1 r.2.2.2.2 ∧ y.toInt + 1 = (r.2.2.2.2.length : Int) ∧ (w'.1 134 (nb w' y.toInt)).toInt = r.2.2.1 ∧ 0 ≤ r.2.2.1 ∧ KX w w' ∧ p ≤ r.2.2.2.1 ∧ N < r.2.2.2.2.length) ∨ (r.1 = false ∧ y.toInt < 0 ∧ (w'.1 129 10).toInt = r.2.1)
theorem yo_bad {w w' : MW} {f : Int → Int} {n : Int} {nm : List Nm} {op : Nat} {e : Int} {N : Nat} {p q : Int} (h : (w'.1 129 10).toInt = q) : YO w w' f n nm op e N p (xer q) (-1) := Or.inr ⟨rfl, by decide, h⟩
theorem yo_tr {w0 w w' : MW} {f : Int → Int} {n : Int} {nm : List Nm} {op : Nat} {e : Int} {N M : Nat} {p q : Int} {r : XR} {y : Int32} (h : YO w w' f n nm op e N p r y) (K : KX w0 w) (hM : M ≤ N) (hq : q ≤ p) : YO w0 w' f n nm op e M q r y := by
  rcases h with h | h
  · exact Or.inl ⟨h.1, h.2.1, h.2.2.1, h.2.2.2.1, h.2.2.2.2.1, K.tr h.2.2.2.2.2.1, by have := h.2.2.2.2.2.2.1; omega, by have := h.2.2.2.2.2.2.2; omega⟩
  · exact Or.inr h
theorem ys_len {w : MW} {f : Int → Int} {n : Int} {nm : List Nm} {op : Nat} {e p : Int} {ns : List Nod} (h : YS w f n nm op e p ns) : ns.length ≤ 300 := by
  have b := bd_129_13 h.1.1.1
  have := h.2.2.2.1.1
  omega
/-- the unit of a node that stands -/
theorem kx_unit {w w' : MW} {f : Int → Int} {n : Int} {nm : List Nm} {op : Nat} {e p u : Int} {ns : List Nod} {x : Int32} (h : YS w f n nm op e p ns) (K : KX w w') (x0 : 0 ≤ x.toInt) (x1 : x.toInt < (ns.length : Int)) (hu : (w.1 134 (nb w x.toInt)).toInt = u) : (w'.1 134 (nb w' x.toInt)).toInt = u := by
  have e13 := h.2.2.2.1.1
  rw [(knm_b K.1).2, (K.1.2.2.2.1 x.toInt x0 (by omega)).2.2.1]
  exact hu
theorem pil_nil {w : MW} (hI : BND w) : PiL w (w.1 129 35).toInt [] :=
  ⟨by show (w.1 129 35).toInt = (w.1 129 35).toInt + ((0 : Nat) : Int); omega, (bd_129_35 hI).1, fun k c h => (by cases h)⟩
theorem y_two {w : MW} {f : Int → Int} {n : Int} {nm : List Nm} {op : Nat} {e p c : Int} {ns : List Nod} {k a b u : Int32} {A B : Nat} {Q : Int32 → MW → Prop} (h : YS w f n nm op (e + 1 + 1) p ns) (he : 0 ≤ e) (hk : k.toInt = wht c) (hc : 2 ≤ wht c ∧ wht c ≤ 9 ∧ ¬ c = 31) (ha : a.toInt = (A : Int)) (hb : b.toInt = (B : Int)) (hA : A < ns.length) (hB : B < ns.length) (u0 : -1 ≤ u.toInt) (u1 : u.toInt ≤ 5) (h0 : ns.length = 300 → ∀ w', (w'.1 129 10).toInt = (wrd f n p).2.1 → Q (-1) w') (h1 : ¬ ns.length = 300 → ∀ (r : Int32) (w' : MW), r.toInt = (ns.length : Int) → YS w' f n nm op (e + 1) p (ns ++ [(c, 0, 0, [A, B])]) → KX w w' → w'.1 134 (nb w' (ns.length : Int)) = u → Q r w') : p_Tx_two w k a b u Q := by
  have l3 := ys_len h
  have b35 := bd_129_35 h.1.1.1
  refine Eq.mpr (p_Tx_two.eq_1 _ _ _ _ _ _) (y_push h (by omega) (by omega) (by omega) (fun w1 F1 Y1 K1 e1 k1 v1 => y_push Y1 he (by omega) (by omega) (fun w2 F2 Y2 K2 e2 k2 v2 => Eq.mpr (p_Tx_base.eq_1 _ _) ?_)))
  have ei := bb_ix (n := a) Y2.1.1.1 (by omega) (by omega)
  have bh := bhf_b Y2.1.1.1
  refine ⟨⟨by omega, by omega⟩, y_node (d := (c, 0, 0, [A, B])) (lo := (w.1 129 35).toInt) Y2 hk (show 0 ≤ wht c by omega) (show wht c ≤ 24 by omega) u0 u1 rfl ⟨by show _ = _ + ((2 : Nat) : Int); omega, b35.1, fun i cc hi => ?_⟩ (fun z => absurd z hc.2.2) (fun _ _ => (show (0 : Int64).toInt = 0 by decide)) h0 (fun n3 r w' er Y' KN e35 kp eu e38 _ => h1 n3 r w' er Y' ⟨(K1.tr K2).tr KN, e35, fun j j0 j1 => ?_, (e38.trans (F2 129 38 rfl).1).trans (F1 129 38 rfl).1⟩ eu)⟩
  · cases i with
    | zero =>
      have ec : A = cc := Option.some.inj hi
      rw [← ec, show ((w.1 129 35).toInt + ((0 : Nat) : Int)) = (w.1 129 35).toInt by omega, k2 _ b35.1 (by omega), v1]
      exact ha
    | succ i =>
      cases i with
      | zero =>
        have ec : B = cc := Option.some.inj hi
        rw [← ec, show ((w.1 129 35).toInt + ((0 + 1 : Nat) : Int)) = (w1.1 129 35).toInt by omega, v2]
        exact hb
      | succ i => cases hi
  · rw [kp, k2 j j0 (by omega), k1 j j0 j1]
theorem mng_u (k : Int) (h : k = 30 ∨ (1 ≤ k ∧ k ≤ 26)) : (40 ≤ mng k ∧ mng k ≤ 44 ↔ 1 ≤ k ∧ k ≤ 5) ∧ (1 ≤ k ∧ k ≤ 5 → mng k = 39 + k) := by
  have t : ∀ j : Nat, j < 31 → ((j : Int) = 30 ∨ (1 ≤ (j : Int) ∧ (j : Int) ≤ 26)) → (40 ≤ mng (j : Int) ∧ mng (j : Int) ≤ 44 ↔ 1 ≤ (j : Int) ∧ (j : Int) ≤ 5) ∧ (1 ≤ (j : Int) ∧ (j : Int) ≤ 5 → mng (j : Int) = 39 + (j : Int)) := by decide +kernel
  have := t k.toNat (by omega)
  rw [show ((k.toNat : Nat) : Int) = k by omega] at this
  exact this h
theorem tk_unit {f : Int → Int} {n p : Int} (h : ¬ (wrd f n p).1 = 33) : (1040 ≤ tkm (wrd f n p).1 ∧ tkm (wrd f n p).1 ≤ 1044 ↔ 1 ≤ (wrd f n p).1 ∧ (wrd f n p).1 ≤ 5) ∧ (1 ≤ (wrd f n p).1 ∧ (wrd f n p).1 ≤ 5 → tkm (wrd f n p).1 = 1039 + (wrd f n p).1) ∧ 0 ≤ tkm (wrd f n p).1 ∧ tkm (wrd f n p).1 ≤ 2000 := by
  unfold tkm
  rcases wrd_k f n p with k | k | k | k | k
  · exact absurd k h
  · rw [if_pos k]
    omega
  · rw [if_neg (by omega), if_pos k]
    omega
  · rw [if_neg (by omega), if_neg (by omega), if_neg (by omega)]
    omega
  · have b := mng_u _ k.1
    have c := mng_r _ k.1
    have k1 := k.1
    rw [if_neg (by omega), if_neg (by omega), if_pos (by omega)]
    omega
theorem y_uw {w : MW} {f : Int → Int} {n : Int} {nm : List Nm} {op : Nat} {e p : Int} {ns : List Nod} {Q : Int32 → MW → Prop} (h : YS w f n nm op e p ns) (hQ : ∀ r : Int32, r.toInt = (if 1 ≤ (wrd f n p).1 ∧ (wrd f n p).1 ≤ 5 then (wrd f n p).1 else 0) → Q r w) : p_Tx_unitWord w Q := by
  have t := tk_unit (f := f) (n := n) (p := p) h.2.2.1
  have s1 := ti_sub2 (y_tk h) (show (1000 : Int32).toInt = 1000 by decide) (by omega) (by omega)
  have s2 := ti_sub2 s1 (show (39 : Int32).toInt = 39 by decide) (by omega) (by omega)
  refine Eq.mpr (p_Tx_unitWord.eq_1 _ _) ⟨fun c => hQ 0 ?_, fun c => ⟨fun d => hQ 0 ?_, fun d => hQ _ ?_⟩⟩
  · rw [if_neg (by omega)]
    decide
  · rw [if_neg (by omega)]
    decide
  · rw [if_pos (by omega)]
    omega
theorem xut_b (c : Int) : 0 ≤ xut c ∧ xut c ≤ 5 := by
  unfold xut
  by_cases a : c = 6 ∨ c = 7
  · rw [if_pos a]
    decide
  · rw [if_neg a]
    by_cases b : 1 ≤ c ∧ c ≤ 5
    · rw [if_pos b]
      omega
    · rw [if_neg b]
      decide
/-- a number -/
theorem y_num {w : MW} {f : Int → Int} {n : Int} {nm : List Nm} {op : Nat} {e p : Int} {ns : List Nod} {a : Int32} {Q : Int32 → MW → Prop} (h : YS w f n nm op e p ns) (k31 : (wrd f n p).1 = 31) (hQ : ∀ (y : Int32) (w' : MW) (r : XR), xfn f n p ns r → YO w w' f n nm op e ns.length p r y → Q y w') : p_Tx_numberNode w a Q := by
  have ev : (w.2.1 129 8).toInt = (wrd f n p).2.2.2.2.1 := (h.2.1.2.2.2.2 k31).1
  have vb := wrd_v (f := f) (n := n) (p := p)
  have l3 := ys_len h
  refine Eq.mpr (p_Tx_numberNode.eq_1 _ _ _) (y_go h (fun ok w1 F1 Y1 K1 pn => ⟨fun _ => ?_, fun z => absurd i1n z⟩) (fun bad w1 e1 => ⟨fun z => absurd i_0 z, fun _ => hQ (-1) w1 (xer (wrd f n (wrd f n p).2.2.1).2.1) (by
      unfold xfn xgo
      rw [if_pos bad]) (yo_bad e1)⟩))
  have mb := xmu_b (wrd f n (wrd f n p).2.2.1).1
  have ub := xut_b (wrd f n (wrd f n p).2.2.1).1
  have N : ∀ (w2 : MW) (q : Int) (V : Int64) (U : Int32) (VV : Int), YS w2 f n nm op e q ns → KX w w2 → p ≤ q → V.toInt = VV → 0 ≤ U.toInt → U.toInt ≤ 5 → (∀ r, r = xnd f n U.toInt q ns (31, 0, VV, []) → xfn f n p ns r) → p_Tx_node0 w2 0 V a U (w2.1 129 35) (fun r8 w8 => (Q r8 w8)) := fun w2 q V U VV Y2 K2 pq eV u0 u1 hx => by
    refine y_node (d := (31, 0, VV, [])) Y2 (show (0 : Int32).toInt = wht 31 by decide) (show 0 ≤ wht 31 by decide) (show wht 31 ≤ 24 by decide) (by omega) u1 rfl (pil_nil Y2.1.1.1) (fun _ => eV) (fun z => absurd rfl z) (fun n3 w' e' => hQ (-1) w' (xer (wrd f n q).2.1) (hx _ (by unfold xnd; rw [if_pos n3])) (yo_bad e')) (fun n3 r w' er Y' KN e35 kp eu e38 _ => hQ r w' (true, 0, U.toInt, q, ns ++ [(31, 0, VV, [])]) (hx _ (by unfold xnd; rw [if_neg n3])) (Or.inl ⟨rfl, Y', ?_, ?_, u0, K2.tr ⟨KN, e35, fun k _ _ => kp _, e38⟩, pq, ?_⟩))
    · show r.toInt + 1 = ((ns ++ [(31, 0, VV, [])]).length : Int)
      rw [List.length_append, List.length_singleton]
      omega
    · show (w'.1 134 (nb w' r.toInt)).toInt = U.toInt
      rw [er, eu]
    · show ns.length < (ns ++ [(31, 0, VV, [])]).length
      rw [List.length_append, List.length_singleton]
      omega
  have K : ∀ (V : Int64) (U : Int32), V.toInt = (wrd f n p).2.2.2.2.1 * xmu (wrd f n (wrd f n p).2.2.1).1 → ¬ 999999999999 < (wrd f n p).2.2.2.2.1 * xmu (wrd f n (wrd f n p).2.2.1).1 → U.toInt = xut (wrd f n (wrd f n p).2.2.1).1 → q_Tx_numberNode_87 a V U w1 Q := fun V U eV small eU => by
    refine Eq.mpr (q_Tx_numberNode_87.eq_1 _ _ _ _ _) ⟨fun u0 => N w1 _ V U _ Y1 K1 pn eV (by omega) (by omega) (fun r er => ?_), fun u1 => y_go Y1 (fun ok2 w2 F2 Y2 K2 pn2 => ⟨fun _ => N w2 _ V U _ Y2 (K1.tr K2) (by omega) eV (by omega) (by omega) (fun r er => ?_), fun z => absurd i1n z⟩) (fun bad2 w2 e2 => ⟨fun z => absurd i_0 z, fun _ => hQ (-1) w2 (xer (wrd f n (wrd f n (wrd f n p).2.2.1).2.2.1).2.1) ?_ (yo_bad e2)⟩)⟩
    · unfold xfn xgo
      rw [if_neg ok, if_neg small, if_neg (by omega)]
      rw [er, show U.toInt = 0 by omega]
    · unfold xfn xgo
      rw [if_neg ok, if_neg small, if_pos (by omega), if_neg ok2]
      rw [er, eU]
    · unfold xfn xgo
      rw [if_neg ok, if_neg small, if_pos (by omega), if_pos bad2]
  have m1 : ∀ m : Int, 0 ≤ m → m ≤ 3600 → 0 ≤ (wrd f n p).2.2.2.2.1 * m ∧ (wrd f n p).2.2.2.2.1 * m ≤ 999999999999 * 3600 := fun m m0 m1 => ⟨Int.mul_nonneg vb.1 m0, Int.mul_le_mul vb.2 m1 m0 (by decide)⟩
  have B : ∀ x : Int, xmu (wrd f n (wrd f n p).2.2.1).1 = x → 999999999999 < (wrd f n p).2.2.2.2.1 * x → p_Tx_bad w1 (fun r15 w15 => (Q r15 w15)) := fun x ex big => y_bad Y1 (fun w' e' => hQ (-1) w' (xer (wrd f n (wrd f n p).2.2.1).2.1) (by
      unfold xfn xgo
      rw [if_neg ok, ex, if_pos big]) (yo_bad e'))
  have eg : (999999999999 : Int64).toInt = 999999999999 := by decide
  have T : ∀ (M : Int64) (x : Int) (U : Int32), M.toInt = x → 0 ≤ x → x ≤ 3600 → xmu (wrd f n (wrd f n p).2.2.1).1 = x → U.toInt = xut (wrd f n (wrd f n p).2.2.1).1 → ((lg_cmp ((w.2.1 129 8) * M) (999999999999 : Int64)).toInt ≤ 0 → (q_Tx_numberNode_87 a ((w.2.1 129 8) * M) U w1 Q)) ∧ (¬ ((lg_cmp ((w.2.1 129 8) * M) (999999999999 : Int64)).toInt ≤ 0) → (p_Tx_bad w1  (fun r15 w15 => (Q r15 w15)))) := fun M x U eM x0 x1 ex eU => by
    have mm := m1 x x0 x1
    have em := li_mul ev eM (by omega) (by omega)
    have cm := nb_cmp ((w.2.1 129 8) * M) (999999999999 : Int64)
    rw [em, eg] at cm
    exact ⟨fun c => K _ U (by rw [em, ex]) (by rw [ex]; omega) eU, fun c => B x ex (by omega)⟩
  have L1 : ∀ u : Int32, ((wrd f n (wrd f n p).2.2.1).1 = 6 ∨ (wrd f n (wrd f n p).2.2.1).1 = 7) → q_Tx_numberNode_43 a (w.2.1 129 8) u 1 w1 Q := fun u k67 => by
    have eU : (3 : Int32).toInt = xut (wrd f n (wrd f n p).2.2.1).1 := by
      unfold xut
      rw [if_pos k67]
      decide
    refine Eq.mpr (q_Tx_numberNode_43.eq_1 _ _ _ _ _ _) ⟨fun z => absurd z i1n, fun _ => y_isw (c := 6) Y1 (by decide) (by decide) (fun y6 => ⟨fun z => absurd z i1n, fun _ => T 60 60 3 (by decide) (by decide) (by decide) ?_ eU⟩) (fun n6 => ⟨fun _ => T 3600 3600 3 (by decide) (by decide) (by decide) ?_ eU, fun z => absurd i_0 z⟩)⟩
    · unfold xmu
      rw [if_pos y6]
    · unfold xmu
      rw [if_neg n6, if_pos (by omega)]
  refine y_uw Y1 (fun u eu => y_isw (c := 6) Y1 (by decide) (by decide) (fun y6 => ⟨fun _ => L1 u (Or.inl y6), fun z => absurd i1n z⟩) (fun n6 => ⟨fun z => absurd i_0 z, fun _ => y_isw (c := 7) Y1 (by decide) (by decide) (fun y7 => ⟨fun z => absurd z i1n, fun _ => L1 u (Or.inr y7)⟩) (fun n7 => ⟨fun _ => ?_, fun z => absurd i_0 z⟩)⟩))
  have ex : xmu (wrd f n (wrd f n p).2.2.1).1 = 1 := by
    unfold xmu
    rw [if_neg n6, if_neg n7]
  have et : u.toInt = xut (wrd f n (wrd f n p).2.2.1).1 := by
    unfold xut
    rw [if_neg (by omega)]
    exact eu
  exact Eq.mpr (q_Tx_numberNode_43.eq_1 _ _ _ _ _ _) ⟨fun _ => K _ u (by rw [ex, ev]; omega) (by rw [ex]; omega) et, fun z => absurd i_0 z⟩
theorem ys_op {w : MW} {f : Int → Int} {n : Int} {nm : List Nm} {op op' : Nat} {e p : Int} {ns : List Nod} {v : Int32} (h : YS w f n nm op e p ns) (hv : v.toInt = (op' : Int)) (o2 : op' ≤ 20) : YS (sI w 129 11 v) f n nm op' e p ns ∧ KX w (sI w 129 11 v) := by
  have F : FR [(129, some 11)] w (sI w 129 11 v) := FR.I (FR.refl _ w) rfl
  have hB : BND (sI w 129 11 v) := wbd_129_11 h.1.1.1 (by omega) (by omega)
  refine ⟨⟨⟨yj_fr h.1.1 F hB rfl, txm_fr h.1.2.1 F rfl, nmm_fr h.1.2.2.1 F rfl, by rw [sI_same]; exact hv⟩, ?_, h.2.2.1, pnm_k h.2.2.2.1 (KNm.fr F rfl) h.1.1.1 (F 129 13 rfl).1, h.2.2.2.2⟩, KX.fr F rfl⟩
  have t := h.2.1
  unfold TkM at t ⊢
  rw [(F 129 4 rfl).1, (F 129 5 rfl).1, (F 129 2 rfl).1, (F 129 6 rfl).1, (F 129 8 rfl).2.1, (F 129 9 rfl).1]
  exact t
theorem y_over {w : MW} {f : Int → Int} {n : Int} {nm : List Nm} {op : Nat} {e p c : Int} {ns : List Nod} {a : Int32} {Q : Int32 → MW → Prop} (h : YS w f n nm op e p ns) (hc : tkm (wrd f n p).1 = a.toInt ↔ (wrd f n p).1 = c) (h1 : (wrd f n p).1 = c → ¬ (wrd f n (wrd f n p).2.2.1).1 = 33 → ∀ w', FR lgt w w' → YS w' f n nm op e (wrd f n p).2.2.1 ns → KX w w' → p ≤ (wrd f n p).2.2.1 → Q 1 w') (h0 : (wrd f n p).1 = c → (wrd f n (wrd f n p).2.2.1).1 = 33 → ∀ w', (w'.1 129 10).toInt = (wrd f n (wrd f n p).2.2.1).2.1 → Q 0 w') (hn : ¬ (wrd f n p).1 = c → ∀ w', (w'.1 129 10).toInt = (wrd f n p).2.1 → Q 0 w') : p_Tx_over w a Q := by
  refine Eq.mpr (p_Tx_over.eq_1 _ _ _) ⟨fun z => ?_, fun z => hn (fun q => z ?_) _ (y_bg h rfl w)⟩
  · rw [y_tk h] at z
    have k := hc.mp z
    exact y_go h (h1 k) (h0 k)
  · rw [y_tk h]
    exact hc.mpr q
/-! the reference reads sums and tests: factors, products, sums -/
/-- g reads what XP says at m, within depth d -/
def CYm (g : Nat → MW → (Int32 → MW → Prop) → Prop) (m s : Nat) (f : Int → Int) (n : Int) (nm : List Nm) (d : Nat) : Prop := ∀ (op : Nat) (e p : Int) (ns : List Nod) (w : MW) (Q : Int32 → MW → Prop), op ≤ 20 → 3 * (20 - op) + s < d → YS w f n nm op e p ns → (∀ (y : Int32) (w' : MW) (r : XR), (∃ k, XP f n (lkn nm) k m op 0 p ns r) → YO w w' f n nm op e ns.length p r y → Q y w') → g d w Q
theorem lkn_e (nm : List Nm) (l : List Int) : (0 ≤ (lkn nm l).1 ∧ ¬ (lkn nm l).2.1 = 10 ↔ 0 ≤ (lki l nm 0).1 ∧ ¬ (lki l nm 0).2.1 = 10) ∧ (¬ (lki l nm 0).2.1 = 10 → lkn nm l = lki l nm 0) := by
  unfold lkn
  by_cases c : (lki l nm 0).2.1 = 10 ∧ (lki l nm 0).2.2.2 < 0
  · rw [if_pos c]
    refine ⟨⟨fun z => ?_, fun z => absurd c.1 z.2⟩, fun z => absurd c.1 z⟩
    have z1 : (0 : Int) ≤ -1 := z.1
    omega
  · rw [if_neg c]
    exact ⟨Iff.rfl, fun _ => rfl⟩
/-- behind the inside of a bracket or a minus -/
theorem y_f122m {F P S : MW → (Int32 → MW → Prop) → Prop} {w w8 : MW} {f : Int → Int} {n : Int} {nm : List Nm} {op : Nat} {e p q u : Int} {ns ns1 : List Nod} {ln y : Int32} {Q : Int32 → MW → Prop} (he : 0 ≤ e) (ho : op < 20) (Y8 : YS w8 f n nm (op + 1) (e + 1) q ns1) (hy : y.toInt + 1 = (ns1.length : Int)) (hu : (w8.1 134 (nb w8 y.toInt)).toInt = u) (u0 : 0 ≤ u) (K8 : KX w w8) (pq : p ≤ q) (nn : ns.length < ns1.length) (hQ : ∀ (y : Int32) (w' : MW) (r : XR), r = xnd f n u q ns1 (34, 0, 0, [ns1.length - 1]) → YO w w' f n nm op e ns.length p r y → Q y w') : q_Tx_factor_122 F P S ln 1 y w8 Q := by
  have o8 := Y8.1.2.2.2
  have l3 := ys_len Y8
  have s11 := ti_sub2 o8 i_1 (by omega) (by omega)
  have Y9 := ys_op (op' := op) (v := (w8.1 129 11) - (1 : Int32)) Y8 (by omega) (by omega)
  have b8 := bd_129_35 Y8.1.1.1
  have e9 : (sI w8 129 11 ((w8.1 129 11) - (1 : Int32))).1 129 35 = w8.1 129 35 := Y9.2.2.1
  have u9 := kx_unit Y8 Y9.2 (by omega) (by omega) hu
  refine Eq.mpr (q_Tx_factor_122.eq_1 _ _ _ _ _ _ _ _) ⟨fun _ => ?_, fun z => absurd i1n z⟩
  generalize (sI w8 129 11 ((w8.1 129 11) - (1 : Int32))) = w9 at *
  refine y_push Y9.1 he (by omega) (by omega) (fun w12 F12 Y12 K12 e12 k12 v12 => y_unit Y12.1.1.1 (by omega) (by omega) ?_)
  have eu : (w12.1 134 (nb w12 y.toInt)).toInt = u := by
    have e13 := Y9.1.2.2.2.1.1
    rw [(knm_b K12).2, (K12.2.2.2.1 y.toInt (by omega) (by omega)).2.2.1]
    exact u9
  have ub := bd_134 Y12.1.1.1 (nb w12 y.toInt)
  refine y_node (d := (34, 0, 0, [ns1.length - 1])) (lo := (w8.1 129 35).toInt) Y12 (show (6 : Int32).toInt = wht 34 by decide) (show 0 ≤ wht 34 by decide) (show wht 34 ≤ 24 by decide) (by omega) (by omega) rfl ⟨by rw [e12, e9]; show _ = _ + ((1 : Nat) : Int); omega, b8.1, fun i c hi => ?_⟩ (fun z => absurd z (show ¬ (34 : Int) = 31 by decide)) (fun _ _ => (show (0 : Int64).toInt = 0 by decide)) (fun n3 w' e' => hQ (-1) w' (xer (wrd f n q).2.1) (by unfold xnd; rw [if_pos n3]) (yo_bad e')) (fun n3 r w' er Y' KN e35 kp eu' e38 _ => hQ r w' (true, 0, u, q, ns1 ++ [(34, 0, 0, [ns1.length - 1])]) (by unfold xnd; rw [if_neg n3]) (Or.inl ⟨rfl, Y', ?_, ?_, u0, (K8.tr Y9.2).tr ⟨K12.tr KN, e35.trans e9.symm, fun k k0 k1 => ?_, e38.trans (F12 129 38 rfl).1⟩, pq, ?_⟩))
  · cases i with
    | zero =>
      have ec : ns1.length - 1 = c := Option.some.inj hi
      rw [← ec, show ((w8.1 129 35).toInt + ((0 : Nat) : Int)) = (w9.1 129 35).toInt by rw [e9]; omega, v12]
      omega
    | succ i => cases hi
  · show r.toInt + 1 = ((ns1 ++ [(34, 0, 0, [ns1.length - 1])]).length : Int)
    rw [List.length_append, List.length_singleton]
    omega
  · show (w'.1 134 (nb w' r.toInt)).toInt = u
    rw [er, eu', eu]
  · rw [kp, k12 k k0 k1]
  · show ns.length < (ns1 ++ [(34, 0, 0, [ns1.length - 1])]).length
    rw [List.length_append, List.length_singleton]
    omega
theorem y_f122s {F P S : MW → (Int32 → MW → Prop) → Prop} {w w8 : MW} {f : Int → Int} {n : Int} {nm : List Nm} {op : Nat} {e p q u : Int} {ns ns1 : List Nod} {ln y : Int32} {Q : Int32 → MW → Prop} (ho : op < 20) (Y8 : YS w8 f n nm (op + 1) (e + 1) q ns1) (hy : y.toInt + 1 = (ns1.length : Int)) (hu : (w8.1 134 (nb w8 y.toInt)).toInt = u) (u0 : 0 ≤ u) (K8 : KX w w8) (pq : p ≤ q) (nn : ns.length < ns1.length) (hQ : ∀ (y : Int32) (w' : MW) (r : XR), r = (true, 0, u, q, ns1) → YO w w' f n nm op e ns.length p r y → Q y w') : q_Tx_factor_122 F P S ln 0 y w8 Q := by
  have o8 := Y8.1.2.2.2
  have s11 := ti_sub2 o8 i_1 (by omega) (by omega)
  have Y9 := ys_op (op' := op) (v := (w8.1 129 11) - (1 : Int32)) Y8 (by omega) (by omega)
  have u9 := kx_unit Y8 Y9.2 (by omega) (by omega) hu
  exact Eq.mpr (q_Tx_factor_122.eq_1 _ _ _ _ _ _ _ _) ⟨fun z => absurd i_0 z, fun _ => hQ y _ (true, 0, u, q, ns1) rfl (Or.inl ⟨rfl, Y9.1, hy, u9, u0, K8.tr Y9.2, pq, nn⟩)⟩
theorem y_fac {f : Int → Int} {n : Int} {nm : List Nm} {d : Nat} (hF : CYm pn_Tx_factor 3 0 f n nm d) (hS : CYm pn_Tx_sum 1 2 f n nm d) : CYm pn_Tx_factor 3 0 f n nm (d + 1) := by
  intro op e p ns w Q ho hd h hQ
  have tk := y_tk h
  have t40 := tk_sign (f := f) (n := n) (p := p) (c := 40) h.2.2.1 (by decide) (by decide)
  have t45 := tk_sign (f := f) (n := n) (p := p) (c := 45) h.2.2.1 (by decide) (by decide)
  have t31 := tk_num (f := f) (n := n) (p := p) h.2.2.1
  have o8 := h.1.2.2.2
  have he := h.1.1.2.1
  rw [pe_Tx_factor]
  refine Eq.mpr (pb_Tx_factor.eq_1 _ _ _ _ _) ?_
  rw [tk]
  have K53 : ((wrd f n p).1 = 40 ∨ (wrd f n p).1 = 45) → ∀ mi : Int32, (mi = 0 ∧ (wrd f n p).1 = 40 ∨ mi = 1 ∧ (wrd f n p).1 = 45) → q_Tx_factor_53 (pn_Tx_factor d) (pn_Tx_product d) (pn_Tx_sum d) (w.1 129 7) mi w Q := fun kc mi hm => by
    have n31 : ¬ (wrd f n p).1 = 31 := by omega
    have up : ∀ (r : XR) (k : Nat), xfo f n (XP f n (lkn nm) k) op p ns r → XP f n (lkn nm) (k + 1) 3 op 0 p ns r := fun r k hr => by
      rw [XP_3]
      unfold xfa
      rw [if_neg n31, if_pos kc]
      exact hr
    refine Eq.mpr (q_Tx_factor_53.eq_1 _ _ _ _ _ _ _) ⟨fun c => ?_, fun c => y_bad h (fun w' e' => hQ (-1) w' (xer (wrd f n p).2.1) ⟨1, up _ 0 (by
      unfold xfo
      rw [if_pos (by have := Classical.not_not.mp c; omega)])⟩ (yo_bad e'))⟩
    have lo : op < 20 := by omega
    have s11 := ti_add2 o8 i_1 (by omega) (by omega)
    have Y1 := ys_op (op' := op + 1) (v := (w.1 129 11) + (1 : Int32)) h (by omega) (by omega)
    refine y_go Y1.1 (fun ok w5 F5 Y5 K5 pn => ⟨fun _ => ?_, fun z => absurd i1n z⟩) (fun bad w5 e5 => ⟨fun z => absurd i_0 z, fun _ => hQ (-1) w5 (xer (wrd f n (wrd f n p).2.2.1).2.1) ⟨1, up _ 0 (by
      unfold xfo xgo
      rw [if_neg (by omega), if_pos bad])⟩ (yo_bad e5)⟩)
    rcases hm with ⟨rfl, k40⟩ | ⟨rfl, k45⟩
    · have n45 : ¬ (wrd f n p).1 = 45 := by omega
      have up2 : ∀ (r r1 : XR) (k : Nat), XP f n (lkn nm) k 1 (op + 1) 0 (wrd f n p).2.2.1 ns r1 → (if r1.1 = true then (if (wrd f n r1.2.2.2.1).1 = 41 then xgo f n r1.2.2.2.1 r (r = (true, 0, r1.2.2.1, (wrd f n r1.2.2.2.1).2.2.1, r1.2.2.2.2)) else r = xer (wrd f n r1.2.2.2.1).2.1) else r = r1) → ∃ k, XP f n (lkn nm) k 3 op 0 p ns r := fun r r1 k a b => ⟨k + 1, up r k (by
        unfold xfo xgo
        rw [if_neg (by omega), if_neg ok, if_neg n45]
        exact ⟨r1, a, b⟩)⟩
      refine ⟨fun _ => hS (op + 1) e _ ns w5 _ (by omega) (by omega) Y5 (fun y w8 r1 hr1 o1 => ?_), fun z => absurd i_0 z⟩
      obtain ⟨k1, hr1⟩ := hr1
      refine Eq.mpr (q_Tx_factor_102.eq_1 _ _ _ _ _ _ _ _) ?_
      rcases o1 with ⟨g1, Y8, y8, u8, u0, K8, p8, n8⟩ | ⟨g1, y8, e8⟩
      · have K := (Y1.2.tr K5).tr K8
        have t41 := tk_sign (f := f) (n := n) (p := r1.2.2.2.1) (c := 41) Y8.2.2.1 (by decide) (by decide)
        refine ⟨fun z => absurd z (by omega), fun _ => ⟨fun z => absurd i_0 z, fun _ => y_over (c := 41) Y8 t41 (fun k41 ok2 w15 F15 Y15 K15 pn15 => ⟨fun _ => y_f122s lo Y15 y8 (kx_unit Y8 K15 (by omega) (by omega) u8) u0 (K.tr K15) (p := p) (ns := ns) (by omega) n8 (fun y' w' r er o' => hQ y' w' r (up2 r r1 k1 hr1 ?_) o'), fun z => absurd i1n z⟩) (fun k41 bad2 w15 e15 => ⟨fun z => absurd i_0 z, fun _ => hQ (-1) w15 (xer (wrd f n (wrd f n r1.2.2.2.1).2.2.1).2.1) (up2 _ r1 k1 hr1 ?_) (yo_bad e15)⟩) (fun n41 w15 e15 => ⟨fun z => absurd i_0 z, fun _ => hQ (-1) w15 (xer (wrd f n r1.2.2.2.1).2.1) (up2 _ r1 k1 hr1 ?_) (yo_bad e15)⟩)⟩⟩
        · rw [if_pos g1, if_pos k41]
          unfold xgo
          rw [if_neg ok2]
          exact er
        · rw [if_pos g1, if_pos k41]
          unfold xgo
          rw [if_pos bad2]
        · rw [if_pos g1, if_neg n41]
      · refine ⟨fun _ => hQ (-1) w8 r1 (up2 r1 r1 k1 hr1 ?_) (Or.inr ⟨g1, by decide, e8⟩), fun z => absurd y8 z⟩
        rw [if_neg (by rw [g1]; decide)]
    · have up2 : ∀ (r r1 : XR) (k : Nat), XP f n (lkn nm) k 3 (op + 1) 0 (wrd f n p).2.2.1 ns r1 → (if r1.1 = true then r = xnd f n r1.2.2.1 r1.2.2.2.1 r1.2.2.2.2 (34, 0, 0, [r1.2.2.2.2.length - 1]) else r = r1) → ∃ k, XP f n (lkn nm) k 3 op 0 p ns r := fun r r1 k a b => ⟨k + 1, up r k (by
        unfold xfo xgo
        rw [if_neg (by omega), if_neg ok, if_pos k45]
        exact ⟨r1, a, b⟩)⟩
      refine ⟨fun z => absurd z i1n, fun _ => hF (op + 1) e _ ns w5 _ (by omega) (by omega) Y5 (fun y w8 r1 hr1 o1 => ?_)⟩
      obtain ⟨k1, hr1⟩ := hr1
      refine Eq.mpr (q_Tx_factor_102.eq_1 _ _ _ _ _ _ _ _) ?_
      rcases o1 with ⟨g1, Y8, y8, u8, u0, K8, p8, n8⟩ | ⟨g1, y8, e8⟩
      · have K := (Y1.2.tr K5).tr K8
        refine ⟨fun z => absurd z (by omega), fun _ => ⟨fun _ => y_f122m he lo Y8 y8 u8 u0 K (p := p) (ns := ns) (by omega) n8 (fun y' w' r er o' => hQ y' w' r (up2 r r1 k1 hr1 ?_) o'), fun z => absurd i1n z⟩⟩
        rw [if_pos g1]
        exact er
      · refine ⟨fun _ => hQ (-1) w8 r1 (up2 r1 r1 k1 hr1 ?_) (Or.inr ⟨g1, by decide, e8⟩), fun z => absurd y8 z⟩
        rw [if_neg (by rw [g1]; decide)]
  refine ⟨fun n31 => ⟨fun k40 => ⟨fun n45 => K53 (Or.inl (t40.mp k40)) 0 (Or.inl ⟨rfl, t40.mp k40⟩), fun k45 => by have := t45.mp (Classical.not_not.mp k45); have := t40.mp k40; omega⟩, fun n40 => ⟨fun n45 => ?_, fun k45 => K53 (Or.inr (t45.mp (Classical.not_not.mp k45))) 1 (Or.inr ⟨rfl, t45.mp (Classical.not_not.mp k45)⟩)⟩⟩, fun k31 => y_num h (t31.mp (Classical.not_not.mp k31)) (fun y w' r hr o => hQ y w' r ⟨1, by
      rw [XP_3]
      unfold xfa
      rw [if_pos (t31.mp (Classical.not_not.mp k31))]
      exact hr⟩ o)⟩
  have m31 : ¬ (wrd f n p).1 = 31 := fun z => n31 (t31.mpr z)
  have m40 : ¬ ((wrd f n p).1 = 40 ∨ (wrd f n p).1 = 45) := fun z => z.elim (fun z => n40 (t40.mpr z)) (fun z => n45 (t45.mpr z))
  have up : ∀ r : XR, (if (wrd f n p).1 = 30 ∧ 0 ≤ (lkn nm (wrd f n p).2.2.2.1).1 ∧ ¬ (lkn nm (wrd f n p).2.2.2.1).2.1 = 10 then xgo f n p r (r = xnd f n (lkn nm (wrd f n p).2.2.2.1).2.2.1 (wrd f n p).2.2.1 ns (30, (lkn nm (wrd f n p).2.2.2.1).1, 0, [])) else r = xer (wrd f n p).2.1) → ∃ k, XP f n (lkn nm) k 3 op 0 p ns r := fun r hr => ⟨1, by
    rw [XP_3]
    unfold xfa
    rw [if_neg m31, if_neg m40]
    exact hr⟩
  have nob : ¬ ((wrd f n p).1 = 30 ∧ 0 ≤ (lkn nm (wrd f n p).2.2.2.1).1 ∧ ¬ (lkn nm (wrd f n p).2.2.2.1).2.1 = 10) → p_Tx_bad w (fun r23 w23 => (Q r23 w23)) := fun no => y_bad h (fun w' e' => hQ (-1) w' (xer (wrd f n p).2.1) (up _ (by rw [if_neg no])) (yo_bad e'))
  have neg : ¬ ((wrd f n p).1 = 30 ∧ 0 ≤ (lkn nm (wrd f n p).2.2.2.1).1 ∧ ¬ (lkn nm (wrd f n p).2.2.2.1).2.1 = 10) → q_Tx_factor_181 (pn_Tx_factor d) (pn_Tx_product d) (pn_Tx_sum d) (w.1 129 7) (-1) w Q := fun no => Eq.mpr (q_Tx_factor_181.eq_1 _ _ _ _ _ _ _) ⟨fun _ => nob no, fun z => absurd (show (-1 : Int32).toInt < 0 by decide) z⟩
  refine y_isn h (fun k30 => ⟨fun z => absurd z i1n, fun _ => mn_x h.1.1.1 h.1.2.2.1 (y_sg h (Or.inl k30)) (fun no => neg ?_) (fun j x hx ex el => ?_)⟩) (fun n30 => ⟨fun _ => neg (fun z => n30 z.1), fun z => absurd i_0 z⟩)
  · intro z
    have t := ((lkn_e nm (wrd f n p).2.2.2.1).1.mp z.2).1
    rw [no] at t
    have t' : (0 : Int) ≤ -1 := t
    omega
  · have n4 := h.1.2.2.1.2.1
    have jl := (List.getElem?_eq_some_iff.mp hx).1
    have tj : (nI j).toInt = (j : Int) := nI_toInt (by omega)
    have bh := bhf_b h.1.1.1
    have ei := cc_ix (n := nI j) h.1.1.1 (by omega) (by omega)
    have g := h.1.2.2.1.2.2 j x hx
    have eN : (((40 : Int32) * ((1 : Int32) - (w.1 129 12))) + (nI j)).toInt.toNat = (40 * bhf w + (j : Int)).toNat := by omega
    refine Eq.mpr (q_Tx_factor_181.eq_1 _ _ _ _ _ _ _) ⟨fun z => absurd z (by omega), fun _ => ⟨⟨by omega, by omega⟩, ?_⟩⟩
    rw [eN, g.2.2.2.1]
    have rl : mrl x.2.1 = 24 ↔ x.2.1 = 10 := by
      unfold mrl
      rcases g.2.2.2.2.2.2 with q | q | q
      · rw [if_pos q]
        omega
      · rw [if_neg (by omega), if_pos q]
        omega
      · rw [if_neg (by omega), if_neg (by omega)]
        omega
    refine ⟨fun n24 => ⟨⟨by omega, by omega⟩, ?_⟩, fun k24 => nob (fun z => ?_)⟩
    · have n10 : ¬ x.2.1 = 10 := fun z => n24 (rl.mpr z)
      have n10' : ¬ (lki (wrd f n p).2.2.2.1 nm 0).2.1 = 10 := by rw [el]; exact n10
      have ek : lkn nm (wrd f n p).2.2.2.1 = ((j : Int), x.2.1, x.2.2.1, x.2.2.2) := ((lkn_e nm (wrd f n p).2.2.2.1).2 n10').trans el
      have yes : (wrd f n p).1 = 30 ∧ 0 ≤ (lkn nm (wrd f n p).2.2.2.1).1 ∧ ¬ (lkn nm (wrd f n p).2.2.2.1).2.1 = 10 := ⟨k30, by rw [ek]; show (0 : Int) ≤ (j : Int); omega, by rw [ek]; exact n10⟩
      have ub := bd_142 h.1.1.1 (40 * bhf w + (j : Int)).toNat
      refine y_go h (fun ok w27 F27 Y27 K27 pn => ⟨fun z => absurd z i1n, fun _ => ?_⟩) (fun bad w27 e27 => ⟨fun _ => hQ (-1) w27 (xer (wrd f n (wrd f n p).2.2.1).2.1) (up _ (by
        rw [if_pos yes]
        unfold xgo
        rw [if_pos bad])) (yo_bad e27), fun z => absurd i_0 z⟩)
      have go2 : ∀ r : XR, r = xnd f n x.2.2.1 (wrd f n p).2.2.1 ns (30, (j : Int), 0, []) → ∃ k, XP f n (lkn nm) k 3 op 0 p ns r := fun r hr => up r (by
        rw [if_pos yes]
        unfold xgo
        rw [if_neg ok, ek]
        exact hr)
      refine y_node (d := (30, (j : Int), 0, [])) Y27 (show (1 : Int32).toInt = wht 30 by decide) (show 0 ≤ wht 30 by decide) (show wht 30 ≤ 24 by decide) (by omega) (by omega) rfl (pil_nil Y27.1.1.1) (fun z => absurd z (show ¬ (30 : Int) = 31 by decide)) (fun _ _ => by rw [nb_i2l]; exact tj) (fun n3 w' e' => hQ (-1) w' (xer (wrd f n (wrd f n p).2.2.1).2.1) (go2 _ (by unfold xnd; rw [if_pos n3])) (yo_bad e')) (fun n3 r w' er Y' KN e35 kp eu e38 _ => hQ r w' (true, 0, x.2.2.1, (wrd f n p).2.2.1, ns ++ [(30, (j : Int), 0, [])]) (go2 _ (by unfold xnd; rw [if_neg n3])) (Or.inl ⟨rfl, Y', ?_, ?_, ?_, K27.tr ⟨KN, e35, fun k _ _ => kp _, e38⟩, pn, ?_⟩))
      · show r.toInt + 1 = ((ns ++ [(30, (j : Int), 0, [])]).length : Int)
        rw [List.length_append, List.length_singleton]
        omega
      · show (w'.1 134 (nb w' r.toInt)).toInt = x.2.2.1
        rw [er, eu]
        exact g.2.2.2.2.1
      · show 0 ≤ x.2.2.1
        rw [← g.2.2.2.2.1]
        exact ub.1
      · show ns.length < (ns ++ [(30, (j : Int), 0, [])]).length
        rw [List.length_append, List.length_singleton]
        omega
    · have t := ((lkn_e nm (wrd f n p).2.2.2.1).1.mp z.2).2
      rw [el] at t
      exact t (rl.mp (Classical.not_not.mp k24))
/-! the reference reads sums and tests: the loops -/
theorem lvo_1 {c : Int} : lvo c = 1 ↔ c = 43 ∨ c = 45 := by
  unfold lvo
  by_cases a : c = 60 ∨ c = 61 ∨ c = 62
  · rw [if_pos a]
    omega
  · rw [if_neg a]
    by_cases b : c = 43 ∨ c = 45
    · rw [if_pos b]
      omega
    · rw [if_neg b]
      by_cases d : c = 42 ∨ c = 47
      · rw [if_pos d]
        omega
      · rw [if_neg d]
        omega
theorem lvo_2 {c : Int} : lvo c = 2 ↔ c = 42 ∨ c = 47 := by
  unfold lvo
  by_cases a : c = 60 ∨ c = 61 ∨ c = 62
  · rw [if_pos a]
    omega
  · rw [if_neg a]
    by_cases b : c = 43 ∨ c = 45
    · rw [if_pos b]
      omega
    · rw [if_neg b]
      by_cases d : c = 42 ∨ c = 47
      · rw [if_pos d]
        omega
      · rw [if_neg d]
        omega
theorem lvo_0 {c : Int} : lvo c = 0 ↔ c = 60 ∨ c = 61 ∨ c = 62 := by
  unfold lvo
  by_cases a : c = 60 ∨ c = 61 ∨ c = 62
  · rw [if_pos a]
    omega
  · rw [if_neg a]
    by_cases b : c = 43 ∨ c = 45
    · rw [if_pos b]
      omega
    · rw [if_neg b]
      by_cases d : c = 42 ∨ c = 47
      · rw [if_pos d]
        omega
      · rw [if_neg d]
        omega
theorem wht_op {c : Int} (h : c = 43 ∨ c = 45 ∨ c = 42 ∨ c = 47 ∨ c = 60 ∨ c = 61 ∨ c = 62) : 2 ≤ wht c ∧ wht c ≤ 9 ∧ ¬ c = 31 := by
  rcases h with h | h | h | h | h | h | h <;> (rw [h]; decide)
theorem xun_s {c x y : Int} (h : c = 43 ∨ c = 45 ∨ c = 60 ∨ c = 61 ∨ c = 62) : xun c x y = if x = y then x else -1 := by
  unfold xun
  rw [if_neg (by omega), if_neg (by omega)]
theorem xun_42 {x y : Int} : xun 42 x y = if x = 0 then y else if y = 0 then x else -1 := rfl
theorem xun_47 {x y : Int} : xun 47 x y = if y = 0 then x else if x = y then 0 else -1 := rfl
/-- a read level: how it is told -/
def HYm (P : MW → (Int32 → MW → Prop) → Prop) (m op : Nat) (f : Int → Int) (n : Int) (nm : List Nm) : Prop := ∀ (e p : Int) (ns : List Nod) (w : MW) (Q : Int32 → MW → Prop), YS w f n nm op e p ns → (∀ (y : Int32) (w' : MW) (r : XR), (∃ k, XP f n (lkn nm) k m op 0 p ns r) → YO w w' f n nm op e ns.length p r y → Q y w') → P w Q
theorem y_sum5 {F P S : MW → (Int32 → MW → Prop) → Prop} {w0 : MW} {f : Int → Int} {n : Int} {nm : List Nm} {op : Nat} {e p0 : Int} {N : Nat} {Q : Int32 → MW → Prop} (he : 0 ≤ e) (hP : HYm P 2 op f n nm) (m : Nat) : ∀ (x : Int32) (p u : Int) (ns : List Nod) (w : MW), YS w f n nm op (e + 1) p ns → x.toInt + 1 = (ns.length : Int) → (w.1 134 (nb w x.toInt)).toInt = u → 0 ≤ u → KX w0 w → p0 ≤ p → N < ns.length → (∀ (y : Int32) (w' : MW) (r : XR), (∃ k, XP f n (lkn nm) k 5 op u p ns r) → YO w0 w' f n nm op e N p0 r y → Q y w') → 300 - ns.length < m → q_Tx_sum_5 F P S (fun (e5 : Int32) (w22 : MW) => (Q e5 w22)) Q m x w := by
  induction m with
  | zero => intros; omega
  | succ m ih =>
    intro x p u ns w h hx hu u0 K pp nN hQ hm
    have l3 := ys_len h
    have tk := y_tk h
    have tA := tk_sign (f := f) (n := n) (p := p) (c := 43) h.2.2.1 (by decide) (by decide)
    have tB := tk_sign (f := f) (n := n) (p := p) (c := 45) h.2.2.1 (by decide) (by decide)
    have lv := @lvo_1 (wrd f n p).1
    have done : ¬ lvo (wrd f n p).1 = 1 → Q x w := fun no => hQ x w (true, 0, u, p, ns) ⟨1, by
      rw [XP_5]
      unfold xlo
      rw [if_neg no, if_neg (by decide)]⟩ (Or.inl ⟨rfl, h, hx, hu, u0, K, pp, nN⟩)
    rw [q_Tx_sum_5.eq_2, tk]
    have main : lvo (wrd f n p).1 = 1 → q_Tx_sum_27 F P S x w (fun (x5_1 : Int32) (w : MW) => q_Tx_sum_5 F P S (fun (e5 : Int32) (w22 : MW) => (Q e5 w22)) Q m x5_1 w) (fun (e5 : Int32) (w22 : MW) => (Q e5 w22)) Q := fun yes => by
      have up : ∀ (r r2 : XR) (k : Nat), ¬ (wrd f n (wrd f n p).2.2.1).1 = 33 → XP f n (lkn nm) k 2 op 0 (wrd f n p).2.2.1 ns r2 → (if r2.1 = true then (if xun (wrd f n p).1 u r2.2.2.1 < 0 then r = xer (wrd f n p).2.1 else if r2.2.2.2.2.length = 300 then r = xer (wrd f n r2.2.2.2.1).2.1 else XP f n (lkn nm) k 5 op (xun (wrd f n p).1 u r2.2.2.1) r2.2.2.2.1 (r2.2.2.2.2 ++ [((wrd f n p).1, 0, 0, [ns.length - 1, r2.2.2.2.2.length - 1])]) r) else r = r2) → ∃ k, XP f n (lkn nm) k 5 op u p ns r := fun r r2 k ok a b => ⟨k + 1, by
        rw [XP_5]
        unfold xlo xgo
        rw [if_pos yes, if_neg ok]
        refine ⟨r2, a, ?_⟩
        rw [show (if (1 : Nat) = 0 then (r = (true, 0, xun (wrd f n p).1 u r2.2.2.1, r2.2.2.2.1, r2.2.2.2.2 ++ [((wrd f n p).1, 0, 0, [ns.length - 1, r2.2.2.2.2.length - 1])])) else XP f n (lkn nm) k (1 + 4) op (xun (wrd f n p).1 u r2.2.2.1) r2.2.2.2.1 (r2.2.2.2.2 ++ [((wrd f n p).1, 0, 0, [ns.length - 1, r2.2.2.2.2.length - 1])]) r) = XP f n (lkn nm) k (1 + 4) op (xun (wrd f n p).1 u r2.2.2.1) r2.2.2.2.1 (r2.2.2.2.2 ++ [((wrd f n p).1, 0, 0, [ns.length - 1, r2.2.2.2.2.length - 1])]) r from if_neg (by decide)]
        exact b⟩
      have two : ∀ (kk y U : Int32) (w2 : MW) (r2 : XR) (k2 : Nat), kk.toInt = wht (wrd f n p).1 → ¬ (wrd f n (wrd f n p).2.2.1).1 = 33 → XP f n (lkn nm) k2 2 op 0 (wrd f n p).2.2.1 ns r2 → r2.1 = true → YS w2 f n nm op (e + 1 + 1) r2.2.2.2.1 r2.2.2.2.2 → y.toInt + 1 = (r2.2.2.2.2.length : Int) → KX w w2 → p ≤ r2.2.2.2.1 → ns.length < r2.2.2.2.2.length → U.toInt = xun (wrd f n p).1 u r2.2.2.1 → 0 ≤ U.toInt → U.toInt ≤ 5 → p_Tx_two w2 kk x y U (fun r12 w12 => q_Tx_sum_5 F P S (fun (e5 : Int32) (w22 : MW) => (Q e5 w22)) Q m r12 w12) := fun kk y U w2 r2 k2 ek ok hr2 g2 Y2 y2 K2 p2 n2 eU U0 U1 => by
        have l2 := ys_len Y2
        refine y_two (c := (wrd f n p).1) (A := ns.length - 1) (B := r2.2.2.2.2.length - 1) Y2 he ek (wht_op (by have := lv.mp yes; omega)) (by omega) (by omega) (by omega) (by omega) (by omega) U1 (fun n3 w' e' => ?_) (fun n3 r w' er Y' K' eu => ?_)
        · cases m with
          | zero => omega
          | succ m =>
            rw [q_Tx_sum_5.eq_2]
            refine ⟨fun _ => hQ (-1) w' (xer (wrd f n r2.2.2.2.1).2.1) (up _ r2 k2 ok hr2 ?_) (yo_bad e'), fun z => absurd (show (-1 : Int32).toInt < 0 by decide) z⟩
            rw [if_pos g2, if_neg (by omega), if_pos n3]
        · refine ih r r2.2.2.2.1 U.toInt (r2.2.2.2.2 ++ [((wrd f n p).1, 0, 0, [ns.length - 1, r2.2.2.2.2.length - 1])]) w' Y' ?_ ?_ U0 ((K.tr K2).tr K') (by omega) ?_ (fun y' w'' r' hr' o' => ?_) ?_
          · rw [List.length_append, List.length_singleton]
            omega
          · rw [er, eu]
          · rw [List.length_append, List.length_singleton]
            omega
          · obtain ⟨k', hr'⟩ := hr'
            refine hQ y' w'' r' (up r' r2 (k2 + k') ok (XP_le (Nat.le_add_right _ _) _ _ _ _ _ _ hr2) ?_) o'
            rw [if_pos g2, if_neg (by omega), if_neg n3, ← eU]
            exact XP_le (Nat.le_add_left _ _) _ _ _ _ _ _ hr'
          · rw [List.length_append, List.length_singleton]
            omega
      have sg : ∀ (w9 : MW) (r2 : XR) (k2 : Nat), ¬ (wrd f n (wrd f n p).2.2.1).1 = 33 → XP f n (lkn nm) k2 2 op 0 (wrd f n p).2.2.1 ns r2 → r2.1 = true → xun (wrd f n p).1 u r2.2.2.1 < 0 → Q (-1) (sI w9 129 10 (w.1 129 5)) := fun w9 r2 k2 ok hr2 g2 neg => hQ (-1) _ (xer (wrd f n p).2.1) (up _ r2 k2 ok hr2 (by rw [if_pos g2, if_pos neg])) (yo_bad (y_bg h rfl w9))
      have G : ∀ kk : Int32, kk.toInt = wht (wrd f n p).1 → p_Tx_go w (fun r5 w5 => ((r5.toInt = 0 → (q_Tx_sum_62 F P S x kk (w.1 129 5) (-1) w5 (fun (x5_1 : Int32) (w : MW) => q_Tx_sum_5 F P S (fun (e5 : Int32) (w22 : MW) => (Q e5 w22)) Q m x5_1 w) (fun (e5 : Int32) (w22 : MW) => (Q e5 w22)) Q)) ∧ (¬ (r5.toInt = 0) → (P w5 (fun r13 w13 => (q_Tx_sum_62 F P S x kk (w.1 129 5) r13 w13 (fun (x5_1 : Int32) (w : MW) => q_Tx_sum_5 F P S (fun (e5 : Int32) (w22 : MW) => (Q e5 w22)) Q m x5_1 w) (fun (e5 : Int32) (w22 : MW) => (Q e5 w22)) Q)))))) := fun kk ek => by
        refine y_go h (fun ok w5 F5 Y5 K5 pn => ⟨fun z => absurd z i1n, fun _ => hP (e + 1) _ ns w5 _ Y5 (fun y w2 r2 hr2 o2 => ?_)⟩) (fun bad w5 e5 => ⟨fun _ => Eq.mpr (q_Tx_sum_62.eq_1 _ _ _ _ _ _ _ _ _ _ _) ⟨fun z => absurd z (by decide), fun _ => hQ (-1) w5 (xer (wrd f n (wrd f n p).2.2.1).2.1) ⟨1, by
          rw [XP_5]
          unfold xlo xgo
          rw [if_pos yes, if_pos bad]⟩ (yo_bad e5)⟩, fun z => absurd i_0 z⟩)
        obtain ⟨k2, hr2⟩ := hr2
        refine Eq.mpr (q_Tx_sum_62.eq_1 _ _ _ _ _ _ _ _ _ _ _) ?_
        rcases o2 with ⟨g2, Y2, y2, u2, u20, K2, p2, n2⟩ | ⟨g2, y2, e2⟩
        · have K52 := K5.tr K2
          have l2 := ys_len Y2
          have ux := kx_unit h K52 (by omega) (by omega) hu
          have bx := bd_134 Y2.1.1.1 (nb w2 x.toInt)
          have by2 := bd_134 Y2.1.1.1 (nb w2 y.toInt)
          have xs : xun (wrd f n p).1 u r2.2.2.1 = if u = r2.2.2.1 then u else -1 := xun_s (by have := lv.mp yes; omega)
          refine ⟨fun _ => y_unit Y2.1.1.1 (by omega) (by omega) (y_unit Y2.1.1.1 (by omega) (by omega) ⟨fun eq => y_unit Y2.1.1.1 (by omega) (by omega) (two kk y _ w2 r2 k2 ek ok hr2 g2 Y2 y2 K52 (by omega) n2 ?_ ?_ bx.2), fun ne => sg w2 r2 k2 ok hr2 g2 ?_⟩), fun z => absurd (show 0 ≤ y.toInt by omega) z⟩
          · rw [xs, if_pos (by omega)]
            exact ux
          · rw [ux]
            exact u0
          · rw [xs, if_neg (fun q => ne (by rw [ux, u2]; exact q))]
            decide
        · refine ⟨fun z => absurd z (by omega), fun _ => hQ (-1) w2 r2 (up r2 r2 k2 ok hr2 ?_) (Or.inr ⟨g2, by decide, e2⟩)⟩
          rw [if_neg (by rw [g2]; decide)]
      refine Eq.mpr (q_Tx_sum_27.eq_1 _ _ _ _ _ _ _ _) ?_
      rw [tk]
      refine ⟨fun z => G 3 ?_, fun z => G 2 ?_⟩
      · have e2 : (wrd f n p).1 = 45 := by
          have a := lv.mp yes
          have b := tA.mpr
          omega
        rw [e2]
        decide
      · rw [tA.mp (Classical.not_not.mp z)]
        decide
    refine ⟨fun z => absurd z (by omega), fun _ => ⟨fun z => main (lv.mpr (Or.inl (tA.mp z))), fun z => ⟨fun z2 => done (fun q => ?_), fun z2 => main (lv.mpr (Or.inr (tB.mp (Classical.not_not.mp z2))))⟩⟩⟩
    rcases lv.mp q with a | a
    · exact z (tA.mpr a)
    · exact z2 (tB.mpr a)
theorem y_product5 {F P S : MW → (Int32 → MW → Prop) → Prop} {w0 : MW} {f : Int → Int} {n : Int} {nm : List Nm} {op : Nat} {e p0 : Int} {N : Nat} {Q : Int32 → MW → Prop} (he : 0 ≤ e) (hP : HYm F 3 op f n nm) (m : Nat) : ∀ (x : Int32) (p u : Int) (ns : List Nod) (w : MW), YS w f n nm op (e + 1) p ns → x.toInt + 1 = (ns.length : Int) → (w.1 134 (nb w x.toInt)).toInt = u → 0 ≤ u → KX w0 w → p0 ≤ p → N < ns.length → (∀ (y : Int32) (w' : MW) (r : XR), (∃ k, XP f n (lkn nm) k 6 op u p ns r) → YO w0 w' f n nm op e N p0 r y → Q y w') → 300 - ns.length < m → q_Tx_product_5 F P S (fun (e5 : Int32) (w22 : MW) => (Q e5 w22)) Q m x w := by
  induction m with
  | zero => intros; omega
  | succ m ih =>
    intro x p u ns w h hx hu u0 K pp nN hQ hm
    have l3 := ys_len h
    have tk := y_tk h
    have tA := tk_sign (f := f) (n := n) (p := p) (c := 42) h.2.2.1 (by decide) (by decide)
    have tB := tk_sign (f := f) (n := n) (p := p) (c := 47) h.2.2.1 (by decide) (by decide)
    have lv := @lvo_2 (wrd f n p).1
    have done : ¬ lvo (wrd f n p).1 = 2 → Q x w := fun no => hQ x w (true, 0, u, p, ns) ⟨1, by
      rw [XP_6]
      unfold xlo
      rw [if_neg no, if_neg (by decide)]⟩ (Or.inl ⟨rfl, h, hx, hu, u0, K, pp, nN⟩)
    rw [q_Tx_product_5.eq_2, tk]
    have main : lvo (wrd f n p).1 = 2 → q_Tx_product_27 F P S x w (fun (x5_1 : Int32) (w : MW) => q_Tx_product_5 F P S (fun (e5 : Int32) (w22 : MW) => (Q e5 w22)) Q m x5_1 w) (fun (e5 : Int32) (w22 : MW) => (Q e5 w22)) Q := fun yes => by
      have up : ∀ (r r2 : XR) (k : Nat), ¬ (wrd f n (wrd f n p).2.2.1).1 = 33 → XP f n (lkn nm) k 3 op 0 (wrd f n p).2.2.1 ns r2 → (if r2.1 = true then (if xun (wrd f n p).1 u r2.2.2.1 < 0 then r = xer (wrd f n p).2.1 else if r2.2.2.2.2.length = 300 then r = xer (wrd f n r2.2.2.2.1).2.1 else XP f n (lkn nm) k 6 op (xun (wrd f n p).1 u r2.2.2.1) r2.2.2.2.1 (r2.2.2.2.2 ++ [((wrd f n p).1, 0, 0, [ns.length - 1, r2.2.2.2.2.length - 1])]) r) else r = r2) → ∃ k, XP f n (lkn nm) k 6 op u p ns r := fun r r2 k ok a b => ⟨k + 1, by
        rw [XP_6]
        unfold xlo xgo
        rw [if_pos yes, if_neg ok]
        refine ⟨r2, a, ?_⟩
        rw [show (if (2 : Nat) = 0 then (r = (true, 0, xun (wrd f n p).1 u r2.2.2.1, r2.2.2.2.1, r2.2.2.2.2 ++ [((wrd f n p).1, 0, 0, [ns.length - 1, r2.2.2.2.2.length - 1])])) else XP f n (lkn nm) k (2 + 4) op (xun (wrd f n p).1 u r2.2.2.1) r2.2.2.2.1 (r2.2.2.2.2 ++ [((wrd f n p).1, 0, 0, [ns.length - 1, r2.2.2.2.2.length - 1])]) r) = XP f n (lkn nm) k (2 + 4) op (xun (wrd f n p).1 u r2.2.2.1) r2.2.2.2.1 (r2.2.2.2.2 ++ [((wrd f n p).1, 0, 0, [ns.length - 1, r2.2.2.2.2.length - 1])]) r from if_neg (by decide)]
        exact b⟩
      have two : ∀ (kk y U : Int32) (w2 : MW) (r2 : XR) (k2 : Nat), kk.toInt = wht (wrd f n p).1 → ¬ (wrd f n (wrd f n p).2.2.1).1 = 33 → XP f n (lkn nm) k2 3 op 0 (wrd f n p).2.2.1 ns r2 → r2.1 = true → YS w2 f n nm op (e + 1 + 1) r2.2.2.2.1 r2.2.2.2.2 → y.toInt + 1 = (r2.2.2.2.2.length : Int) → KX w w2 → p ≤ r2.2.2.2.1 → ns.length < r2.2.2.2.2.length → U.toInt = xun (wrd f n p).1 u r2.2.2.1 → 0 ≤ U.toInt → U.toInt ≤ 5 → p_Tx_two w2 kk x y U (fun r12 w12 => q_Tx_product_5 F P S (fun (e5 : Int32) (w22 : MW) => (Q e5 w22)) Q m r12 w12) := fun kk y U w2 r2 k2 ek ok hr2 g2 Y2 y2 K2 p2 n2 eU U0 U1 => by
        have l2 := ys_len Y2
        refine y_two (c := (wrd f n p).1) (A := ns.length - 1) (B := r2.2.2.2.2.length - 1) Y2 he ek (wht_op (by have := lv.mp yes; omega)) (by omega) (by omega) (by omega) (by omega) (by omega) U1 (fun n3 w' e' => ?_) (fun n3 r w' er Y' K' eu => ?_)
        · cases m with
          | zero => omega
          | succ m =>
            rw [q_Tx_product_5.eq_2]
            refine ⟨fun _ => hQ (-1) w' (xer (wrd f n r2.2.2.2.1).2.1) (up _ r2 k2 ok hr2 ?_) (yo_bad e'), fun z => absurd (show (-1 : Int32).toInt < 0 by decide) z⟩
            rw [if_pos g2, if_neg (by omega), if_pos n3]
        · refine ih r r2.2.2.2.1 U.toInt (r2.2.2.2.2 ++ [((wrd f n p).1, 0, 0, [ns.length - 1, r2.2.2.2.2.length - 1])]) w' Y' ?_ ?_ U0 ((K.tr K2).tr K') (by omega) ?_ (fun y' w'' r' hr' o' => ?_) ?_
          · rw [List.length_append, List.length_singleton]
            omega
          · rw [er, eu]
          · rw [List.length_append, List.length_singleton]
            omega
          · obtain ⟨k', hr'⟩ := hr'
            refine hQ y' w'' r' (up r' r2 (k2 + k') ok (XP_le (Nat.le_add_right _ _) _ _ _ _ _ _ hr2) ?_) o'
            rw [if_pos g2, if_neg (by omega), if_neg n3, ← eU]
            exact XP_le (Nat.le_add_left _ _) _ _ _ _ _ _ hr'
          · rw [List.length_append, List.length_singleton]
            omega
      have sg : ∀ (w9 : MW) (r2 : XR) (k2 : Nat), ¬ (wrd f n (wrd f n p).2.2.1).1 = 33 → XP f n (lkn nm) k2 3 op 0 (wrd f n p).2.2.1 ns r2 → r2.1 = true → xun (wrd f n p).1 u r2.2.2.1 < 0 → Q (-1) (sI w9 129 10 (w.1 129 5)) := fun w9 r2 k2 ok hr2 g2 neg => hQ (-1) _ (xer (wrd f n p).2.1) (up _ r2 k2 ok hr2 (by rw [if_pos g2, if_pos neg])) (yo_bad (y_bg h rfl w9))
      have G : ∀ kk : Int32, kk.toInt = wht (wrd f n p).1 → p_Tx_go w (fun r5 w5 => ((r5.toInt = 0 → (q_Tx_product_62 F P S x kk (w.1 129 5) (-1) w5 (fun (x5_1 : Int32) (w : MW) => q_Tx_product_5 F P S (fun (e5 : Int32) (w22 : MW) => (Q e5 w22)) Q m x5_1 w) (fun (e5 : Int32) (w22 : MW) => (Q e5 w22)) Q)) ∧ (¬ (r5.toInt = 0) → (F w5 (fun r13 w13 => (q_Tx_product_62 F P S x kk (w.1 129 5) r13 w13 (fun (x5_1 : Int32) (w : MW) => q_Tx_product_5 F P S (fun (e5 : Int32) (w22 : MW) => (Q e5 w22)) Q m x5_1 w) (fun (e5 : Int32) (w22 : MW) => (Q e5 w22)) Q)))))) := fun kk ek => by
        refine y_go h (fun ok w5 F5 Y5 K5 pn => ⟨fun z => absurd z i1n, fun _ => hP (e + 1) _ ns w5 _ Y5 (fun y w2 r2 hr2 o2 => ?_)⟩) (fun bad w5 e5 => ⟨fun _ => Eq.mpr (q_Tx_product_62.eq_1 _ _ _ _ _ _ _ _ _ _ _) ⟨fun z => absurd z (by decide), fun _ => hQ (-1) w5 (xer (wrd f n (wrd f n p).2.2.1).2.1) ⟨1, by
          rw [XP_6]
          unfold xlo xgo
          rw [if_pos yes, if_pos bad]⟩ (yo_bad e5)⟩, fun z => absurd i_0 z⟩)
        obtain ⟨k2, hr2⟩ := hr2
        refine Eq.mpr (q_Tx_product_62.eq_1 _ _ _ _ _ _ _ _ _ _ _) ?_
        rcases o2 with ⟨g2, Y2, y2, u2, u20, K2, p2, n2⟩ | ⟨g2, y2, e2⟩
        · have K52 := K5.tr K2
          have l2 := ys_len Y2
          have ux := kx_unit h K52 (by omega) (by omega) hu
          have bx := bd_134 Y2.1.1.1 (nb w2 x.toInt)
          have by2 := bd_134 Y2.1.1.1 (nb w2 y.toInt)
          have K137 : ∀ U : Int32, U.toInt = xun (wrd f n p).1 u r2.2.2.1 → U.toInt ≤ 5 → -1 ≤ U.toInt → q_Tx_product_137 F P S x kk (w.1 129 5) y U w2 (fun (x5_1 : Int32) (w : MW) => q_Tx_product_5 F P S (fun (e5 : Int32) (w22 : MW) => (Q e5 w22)) Q m x5_1 w) (fun (e5 : Int32) (w22 : MW) => (Q e5 w22)) Q := fun U eU U1 U0 => Eq.mpr (q_Tx_product_137.eq_1 _ _ _ _ _ _ _ _ _ _ _ _) ⟨fun z => two kk y U w2 r2 k2 ek ok hr2 g2 Y2 y2 K52 (by omega) n2 eU (by omega) U1, fun z => sg w2 r2 k2 ok hr2 g2 (by have := Classical.not_not.mp z; omega)⟩
          refine ⟨fun _ => y_unit Y2.1.1.1 (by omega) (by omega) (y_unit Y2.1.1.1 (by omega) (by omega) ?_), fun z => absurd (show 0 ≤ y.toInt by omega) z⟩
          have a := lv.mp yes
          refine ⟨fun n4 => ?_, fun y4 => ?_⟩
          · have e47 : (wrd f n p).1 = 47 := by
              rcases a with a | a
              · rw [a] at ek
                exact absurd (ek.trans (by decide)) n4
              · exact a
            have xs : xun (wrd f n p).1 u r2.2.2.1 = if r2.2.2.1 = 0 then u else if u = r2.2.2.1 then 0 else -1 := by rw [e47]; exact xun_47
            refine ⟨fun ny => ⟨fun ne => K137 (-1) ?_ (by decide) (by decide), fun eq => K137 0 ?_ (by decide) (by decide)⟩, fun y0 => K137 _ ?_ bx.2 bx.1⟩
            · rw [xs, if_neg (by omega), if_neg (by omega)]
              decide
            · rw [xs, if_neg (by omega), if_pos (by omega)]
              decide
            · rw [xs, if_pos (by omega)]
              exact ux
          · have e42 : (wrd f n p).1 = 42 := by
              rcases a with a | a
              · exact a
              · rw [a] at ek
                have t := Classical.not_not.mp y4
                rw [ek] at t
                exact absurd t (by decide)
            have xs : xun (wrd f n p).1 u r2.2.2.1 = if u = 0 then r2.2.2.1 else if r2.2.2.1 = 0 then u else -1 := by rw [e42]; exact xun_42
            refine ⟨fun nx => ⟨fun ny => K137 (-1) ?_ (by decide) (by decide), fun y0 => K137 _ ?_ bx.2 bx.1⟩, fun x0 => K137 _ ?_ by2.2 by2.1⟩
            · rw [xs, if_neg (by omega), if_neg (by omega)]
              decide
            · rw [xs, if_neg (by omega), if_pos (by omega)]
              exact ux
            · rw [xs, if_pos (by omega)]
              exact u2
        · refine ⟨fun z => absurd z (by omega), fun _ => hQ (-1) w2 r2 (up r2 r2 k2 ok hr2 ?_) (Or.inr ⟨g2, by decide, e2⟩)⟩
          rw [if_neg (by rw [g2]; decide)]
      refine Eq.mpr (q_Tx_product_27.eq_1 _ _ _ _ _ _ _ _) ?_
      rw [tk]
      refine ⟨fun z => G 5 ?_, fun z => G 4 ?_⟩
      · have e2 : (wrd f n p).1 = 47 := by
          have a := lv.mp yes
          have b := tA.mpr
          omega
        rw [e2]
        decide
      · rw [tA.mp (Classical.not_not.mp z)]
        decide
    refine ⟨fun z => absurd z (by omega), fun _ => ⟨fun z => main (lv.mpr (Or.inl (tA.mp z))), fun z => ⟨fun z2 => done (fun q => ?_), fun z2 => main (lv.mpr (Or.inr (tB.mp (Classical.not_not.mp z2))))⟩⟩⟩
    rcases lv.mp q with a | a
    · exact z (tA.mpr a)
    · exact z2 (tB.mpr a)
theorem n_sum5 {F P S : MW → (Int32 → MW → Prop) → Prop} {E Q : Int32 → MW → Prop} {x : Int32} {w : MW} (hx : x.toInt < 0) (h : E x w) (m : Nat) (hm : 0 < m) : q_Tx_sum_5 F P S E Q m x w := by
  cases m with
  | zero => omega
  | succ m =>
    rw [q_Tx_sum_5.eq_2]
    exact ⟨fun _ => h, fun z => absurd hx z⟩
theorem n_product5 {F P S : MW → (Int32 → MW → Prop) → Prop} {E Q : Int32 → MW → Prop} {x : Int32} {w : MW} (hx : x.toInt < 0) (h : E x w) (m : Nat) (hm : 0 < m) : q_Tx_product_5 F P S E Q m x w := by
  cases m with
  | zero => omega
  | succ m =>
    rw [q_Tx_product_5.eq_2]
    exact ⟨fun _ => h, fun z => absurd hx z⟩
theorem y_lproduct {f : Int → Int} {n : Int} {nm : List Nm} {d : Nat} (hP : CYm pn_Tx_factor 3 0 f n nm d) : CYm pn_Tx_product 2 1 f n nm (d + 1) := by
  intro op e p ns w Q ho hd h hQ
  have hH : HYm (pn_Tx_factor d) 3 op f n nm := fun e p ns w Q h hQ => hP op e p ns w Q ho (by omega) h hQ
  have fu : (1000 : Nat) < FU := fu_lt (by decide)
  rw [pe_Tx_product]
  refine Eq.mpr (pb_Tx_product.eq_1 _ _ _ _ _) (hH e p ns w _ h (fun y w1 r1 hr1 o1 => ?_))
  obtain ⟨k1, hr1⟩ := hr1
  rcases o1 with ⟨g1, Y1, y1, u1, u0, K1, p1, n1⟩ | ⟨g1, y1, e1⟩
  · refine y_product5 h.1.1.2.1 hH FU y r1.2.2.2.1 r1.2.2.1 r1.2.2.2.2 w1 Y1 y1 u1 u0 K1 p1 n1 (fun y' w' r hr o => ?_) (by omega)
    obtain ⟨k2, hr⟩ := hr
    refine hQ y' w' r ⟨k1 + k2 + 1, ?_⟩ o
    rw [XP_2]
    refine ⟨r1, XP_le (Nat.le_add_right _ _) _ _ _ _ _ _ hr1, ?_⟩
    rw [if_pos g1]
    exact XP_le (Nat.le_add_left _ _) _ _ _ _ _ _ hr
  · refine n_product5 y1 (hQ y w1 r1 ⟨k1 + 1, ?_⟩ (Or.inr ⟨g1, y1, e1⟩)) FU (by omega)
    rw [XP_2]
    refine ⟨r1, hr1, ?_⟩
    rw [if_neg (by rw [g1]; decide)]
theorem y_lsum {f : Int → Int} {n : Int} {nm : List Nm} {d : Nat} (hP : CYm pn_Tx_product 2 1 f n nm d) : CYm pn_Tx_sum 1 2 f n nm (d + 1) := by
  intro op e p ns w Q ho hd h hQ
  have hH : HYm (pn_Tx_product d) 2 op f n nm := fun e p ns w Q h hQ => hP op e p ns w Q ho (by omega) h hQ
  have fu : (1000 : Nat) < FU := fu_lt (by decide)
  rw [pe_Tx_sum]
  refine Eq.mpr (pb_Tx_sum.eq_1 _ _ _ _ _) (hH e p ns w _ h (fun y w1 r1 hr1 o1 => ?_))
  obtain ⟨k1, hr1⟩ := hr1
  rcases o1 with ⟨g1, Y1, y1, u1, u0, K1, p1, n1⟩ | ⟨g1, y1, e1⟩
  · refine y_sum5 h.1.1.2.1 hH FU y r1.2.2.2.1 r1.2.2.1 r1.2.2.2.2 w1 Y1 y1 u1 u0 K1 p1 n1 (fun y' w' r hr o => ?_) (by omega)
    obtain ⟨k2, hr⟩ := hr
    refine hQ y' w' r ⟨k1 + k2 + 1, ?_⟩ o
    rw [XP_1]
    refine ⟨r1, XP_le (Nat.le_add_right _ _) _ _ _ _ _ _ hr1, ?_⟩
    rw [if_pos g1]
    exact XP_le (Nat.le_add_left _ _) _ _ _ _ _ _ hr
  · refine n_sum5 y1 (hQ y w1 r1 ⟨k1 + 1, ?_⟩ (Or.inr ⟨g1, y1, e1⟩)) FU (by omega)
    rw [XP_1]
    refine ⟨r1, hr1, ?_⟩
    rw [if_neg (by rw [g1]; decide)]
theorem y_fps (f : Int → Int) (n : Int) (nm : List Nm) : ∀ d, CYm pn_Tx_factor 3 0 f n nm d ∧ CYm pn_Tx_product 2 1 f n nm d ∧ CYm pn_Tx_sum 1 2 f n nm d := by
  intro d
  induction d with
  | zero => exact ⟨fun _ _ _ _ _ _ _ h => by omega, fun _ _ _ _ _ _ _ h => by omega, fun _ _ _ _ _ _ _ h => by omega⟩
  | succ d ih => exact ⟨y_fac ih.1 ih.2.2, y_lproduct ih.1, y_lsum ih.2.1⟩
/-- THE REFERENCE READS A SUM exactly -/
theorem y_sum {w : MW} {f : Int → Int} {n : Int} {nm : List Nm} {op : Nat} {e p : Int} {ns : List Nod} {Q : Int32 → MW → Prop} (h : YS w f n nm op e p ns) (hQ : ∀ (y : Int32) (w' : MW) (r : XR), (∃ k, XP f n (lkn nm) k 1 op 0 p ns r) → YO w w' f n nm op e ns.length p r y → Q y w') : p_Tx_sum w Q := by
  have b := bd_129_11 h.1.1.1
  have o := h.1.2.2.2
  exact (y_fps f n nm 400).2.2 op e p ns w Q (by omega) (by omega) h hQ
/-- what a test leaves -/
def YT (w w' : MW) (f : Int → Int) (n : Int) (nm : List Nm) (op : Nat) (e : Int) (N : Nat) (p : Int) (r : XR) (y : Int32) : Prop := (r.1 = true ∧ YS w' f n nm op (e + 1) r.2.2.2.1 r.2.2.2.2 ∧ y.toInt + 1 = (r.2.2.2.2.length : Int) ∧ KX w w' ∧ p ≤ r.2.2.2.1 ∧ N < r.2.2.2.2.length) ∨ (r.1 = false ∧ y.toInt < 0 ∧ (w'.1 129 10).toInt = r.2.1)
theorem yt_bad {w w' : MW} {f : Int → Int} {n : Int} {nm : List Nm} {op : Nat} {e : Int} {N : Nat} {p q : Int} (h : (w'.1 129 10).toInt = q) : YT w w' f n nm op e N p (xer q) (-1) := Or.inr ⟨rfl, by decide, h⟩
/-- THE REFERENCE READS A TEST exactly -/
theorem y_test {w : MW} {f : Int → Int} {n : Int} {nm : List Nm} {op : Nat} {e p : Int} {ns : List Nod} {Q : Int32 → MW → Prop} (h : YS w f n nm op e p ns) (hQ : ∀ (y : Int32) (w' : MW) (r : XR), (∃ k, XP f n (lkn nm) k 0 op 0 p ns r) → YT w w' f n nm op e ns.length p r y → Q y w') : p_Tx_test w Q := by
  refine Eq.mpr (p_Tx_test.eq_1 _ _) (y_sum h (fun x w1 r1 hr1 o1 => ?_))
  obtain ⟨k1, hr1⟩ := hr1
  rcases o1 with ⟨g1, Y1, x1, u1, u0, K1, p1, n1⟩ | ⟨g1, y1, e1⟩
  · refine ⟨fun _ => ?_, fun z => absurd (show 0 ≤ x.toInt by omega) z⟩
    have tk := y_tk Y1
    have l1 := ys_len Y1
    have he := h.1.1.2.1
    have t60 := tk_sign (f := f) (n := n) (p := r1.2.2.2.1) (c := 60) Y1.2.2.1 (by decide) (by decide)
    have t61 := tk_sign (f := f) (n := n) (p := r1.2.2.2.1) (c := 61) Y1.2.2.1 (by decide) (by decide)
    have t62 := tk_sign (f := f) (n := n) (p := r1.2.2.2.1) (c := 62) Y1.2.2.1 (by decide) (by decide)
    have lv := @lvo_0 (wrd f n r1.2.2.2.1).1
    have out : ∀ (r : XR) (k : Nat), XP f n (lkn nm) k 4 op r1.2.2.1 r1.2.2.2.1 r1.2.2.2.2 r → ∃ k, XP f n (lkn nm) k 0 op 0 p ns r := fun r k hr => ⟨k1 + k + 1, by
      rw [XP_0]
      refine ⟨r1, XP_le (Nat.le_add_right _ _) _ _ _ _ _ _ hr1, ?_⟩
      rw [if_pos g1]
      exact XP_le (Nat.le_add_left _ _) _ _ _ _ _ _ hr⟩
    have main : lvo (wrd f n r1.2.2.2.1).1 = 0 → q_Tx_test_43 x w1 Q := fun yes => by
      have xs : ∀ r2 : XR, xun (wrd f n r1.2.2.2.1).1 r1.2.2.1 r2.2.2.1 = if r1.2.2.1 = r2.2.2.1 then r1.2.2.1 else -1 := fun r2 => xun_s (by have := lv.mp yes; omega)
      have up : ∀ (r r2 : XR) (k : Nat), ¬ (wrd f n (wrd f n r1.2.2.2.1).2.2.1).1 = 33 → XP f n (lkn nm) k 1 op 0 (wrd f n r1.2.2.2.1).2.2.1 r1.2.2.2.2 r2 → (if r2.1 = true then (if xun (wrd f n r1.2.2.2.1).1 r1.2.2.1 r2.2.2.1 < 0 then r = xer (wrd f n r1.2.2.2.1).2.1 else if r2.2.2.2.2.length = 300 then r = xer (wrd f n r2.2.2.2.1).2.1 else r = (true, 0, xun (wrd f n r1.2.2.2.1).1 r1.2.2.1 r2.2.2.1, r2.2.2.2.1, r2.2.2.2.2 ++ [((wrd f n r1.2.2.2.1).1, 0, 0, [r1.2.2.2.2.length - 1, r2.2.2.2.2.length - 1])])) else r = r2) → ∃ k, XP f n (lkn nm) k 0 op 0 p ns r := fun r r2 k ok a b => out r (k + 1) (by
        rw [XP_4]
        unfold xlo xgo
        rw [if_pos yes, if_neg ok]
        refine ⟨r2, a, ?_⟩
        exact b)
      have G : ∀ kk : Int32, kk.toInt = wht (wrd f n r1.2.2.2.1).1 → p_Tx_go w1 (fun r6 w6 => ((r6.toInt = 0 → (q_Tx_test_94 x kk (w1.1 129 5) (-1) w6 Q)) ∧ (¬ (r6.toInt = 0) → (p_Tx_sum w6 (fun r13 w13 => (q_Tx_test_94 x kk (w1.1 129 5) r13 w13 Q)))))) := fun kk ek => by
        refine y_go Y1 (fun ok w5 F5 Y5 K5 pn => ⟨fun z => absurd z i1n, fun _ => y_sum Y5 (fun y w2 r2 hr2 o2 => ?_)⟩) (fun bad w5 e5 => ⟨fun _ => Eq.mpr (q_Tx_test_94.eq_1 _ _ _ _ _ _) ⟨fun z => absurd z (by decide), fun _ => hQ (-1) w5 (xer (wrd f n (wrd f n r1.2.2.2.1).2.2.1).2.1) (out _ 1 (by
          rw [XP_4]
          unfold xlo xgo
          rw [if_pos yes, if_pos bad])) (yt_bad e5)⟩, fun z => absurd i_0 z⟩)
        obtain ⟨k2, hr2⟩ := hr2
        refine Eq.mpr (q_Tx_test_94.eq_1 _ _ _ _ _ _) ?_
        rcases o2 with ⟨g2, Y2, y2, u2, u20, K2, p2, n2⟩ | ⟨g2, y2, e2⟩
        · have K52 := K5.tr K2
          have l2 := ys_len Y2
          have ux := kx_unit Y1 K52 (by omega) (by omega) u1
          refine ⟨fun _ => y_unit Y2.1.1.1 (by omega) (by omega) (y_unit Y2.1.1.1 (by omega) (by omega) ⟨fun eq => y_two (c := (wrd f n r1.2.2.2.1).1) (A := r1.2.2.2.2.length - 1) (B := r2.2.2.2.2.length - 1) Y2 he ek (wht_op (by have := lv.mp yes; omega)) (by omega) (by omega) (by omega) (by omega) (by decide) (by decide) (fun n3 w' e' => hQ (-1) w' (xer (wrd f n r2.2.2.2.1).2.1) (up _ r2 k2 ok hr2 ?_) (yt_bad e')) (fun n3 r w' er Y' K' eu => hQ r w' (true, 0, xun (wrd f n r1.2.2.2.1).1 r1.2.2.1 r2.2.2.1, r2.2.2.2.1, r2.2.2.2.2 ++ [((wrd f n r1.2.2.2.1).1, 0, 0, [r1.2.2.2.2.length - 1, r2.2.2.2.2.length - 1])]) (up _ r2 k2 ok hr2 ?_) (Or.inl ⟨rfl, Y', ?_, (K1.tr K52).tr K', ?_, ?_⟩)), fun ne => hQ (-1) _ (xer (wrd f n r1.2.2.2.1).2.1) (up _ r2 k2 ok hr2 ?_) (yt_bad (y_bg Y1 rfl w2))⟩), fun z => absurd (show 0 ≤ y.toInt by omega) z⟩
          · rw [if_pos g2, xs, if_pos (show r1.2.2.1 = r2.2.2.1 by omega), if_neg (by omega), if_pos n3]
          · rw [if_pos g2, xs, if_pos (show r1.2.2.1 = r2.2.2.1 by omega), if_neg (by omega), if_neg n3]
          · show r.toInt + 1 = ((r2.2.2.2.2 ++ [((wrd f n r1.2.2.2.1).1, 0, 0, [r1.2.2.2.2.length - 1, r2.2.2.2.2.length - 1])]).length : Int)
            rw [List.length_append, List.length_singleton]
            omega
          · show p ≤ r2.2.2.2.1
            omega
          · show ns.length < (r2.2.2.2.2 ++ [((wrd f n r1.2.2.2.1).1, 0, 0, [r1.2.2.2.2.length - 1, r2.2.2.2.2.length - 1])]).length
            rw [List.length_append, List.length_singleton]
            omega
          · rw [if_pos g2, xs, if_neg (show ¬ r1.2.2.1 = r2.2.2.1 from fun q => ne (by rw [ux, u2]; exact q)), if_pos (show (-1 : Int) < 0 by decide)]
        · refine ⟨fun z => absurd z (by omega), fun _ => hQ (-1) w2 r2 (up r2 r2 k2 ok hr2 ?_) (Or.inr ⟨g2, by decide, e2⟩)⟩
          rw [if_neg (by rw [g2]; decide)]
      refine Eq.mpr (q_Tx_test_43.eq_1 _ _ _) ?_
      rw [tk]
      refine ⟨fun z => ⟨fun z2 => G 9 ?_, fun z2 => G 8 ?_⟩, fun z => G 7 ?_⟩
      · have e2 : (wrd f n r1.2.2.2.1).1 = 62 := by
          have a := lv.mp yes
          have b := t60.mpr
          have c := t61.mpr
          omega
        rw [e2]
        decide
      · rw [t61.mp (Classical.not_not.mp z2)]
        decide
      · rw [t60.mp (Classical.not_not.mp z)]
        decide
    rw [tk]
    refine ⟨fun z => main (lv.mpr (Or.inl (t60.mp z))), fun z => ⟨fun z2 => main (lv.mpr (Or.inr (Or.inl (t61.mp z2)))), fun z2 => ⟨fun z3 => main (lv.mpr (Or.inr (Or.inr (t62.mp z3)))), fun z3 => y_bad Y1 (fun w' e' => hQ (-1) w' (xer (wrd f n r1.2.2.2.1).2.1) (out _ 1 ?_) (yt_bad e'))⟩⟩⟩
    rw [XP_4]
    unfold xlo
    rw [if_neg (fun q => ?_), if_pos rfl]
    rcases lv.mp q with a | a | a
    · exact z (t60.mpr a)
    · exact z2 (t61.mpr a)
    · exact z3 (t62.mpr a)
  · refine ⟨fun z => absurd z (by omega), fun _ => hQ (-1) w1 r1 ⟨k1 + 1, ?_⟩ (Or.inr ⟨g1, by decide, e1⟩)⟩
    rw [XP_0]
    refine ⟨r1, hr1, ?_⟩
    rw [if_neg (by rw [g1]; decide)]
