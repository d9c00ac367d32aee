/-! the reference while it reads a program: what its cells say -/
/-- room for e nodes more that are no kid yet -/
def YJ (e : Int) (w : MW) : Prop := BND w ∧ 0 ≤ e ∧ (w.1 129 35).toInt + (w.1 129 21).toInt + (w.1 129 23).toInt + e ≤ (w.1 129 13).toInt
/-- the class's kind as the reference has it -/
def wht (k : Int) : Int := if k = 31 then 0 else if k = 30 then 1 else if k = 43 then 2 else if k = 45 then 3 else if k = 42 then 4 else if k = 47 then 5 else if k = 34 then 6 else if k = 60 then 7 else if k = 61 then 8 else if k = 62 then 9 else if k = 35 then 23 else mng k
def mrl (k : Int) : Int := if k = 8 then 30 else if k = 9 then 31 else 24
/-- names by letters -/
def NmM (w : MW) (nm : List Nm) : Prop := (w.1 129 24).toInt = (nm.length : Int) ∧ nm.length ≤ 40 ∧ ∀ (i : Nat) (x : Nm), nm[i]? = some x → (w.1 140 (40 * bhf w + (i : Int)).toNat).toInt = (x.1.length : Int) ∧ x.1.length ≤ 12 ∧ (∀ (k : Nat) (c : Int), x.1[k]? = some c → (w.1 139 (12 * (40 * bhf w + (i : Int)) + (k : Int)).toNat).toInt = c) ∧ (w.1 141 (40 * bhf w + (i : Int)).toNat).toInt = mrl x.2.1 ∧ (w.1 142 (40 * bhf w + (i : Int)).toNat).toInt = x.2.2.1 ∧ (w.1 143 (40 * bhf w + (i : Int)).toNat).toInt = (if x.2.2.2 < 0 then -1 else x.2.2.2 + 1) ∧ (x.2.1 = 8 ∨ x.2.1 = 9 ∨ x.2.1 = 10)
/-- the nodes, with their kids -/
def PNd (w : MW) (i : Int) (d : Nod) : Prop := (w.1 131 (nb w i)).toInt = wht d.1 ∧ (d.1 = 31 → (w.2.1 132 (nb w i)).toInt = d.2.2.1) ∧ (¬ d.1 = 31 → ¬ d.1 = 10 → (w.2.1 132 (nb w i)).toInt = d.2.1) ∧ (w.1 136 (nb w i)).toInt = (d.2.2.2.length : Int) ∧ (w.1 135 (nb w i)).toInt + (d.2.2.2.length : Int) ≤ (w.1 129 21).toInt ∧ ∀ (k c : Nat), d.2.2.2[k]? = some c → (w.1 137 (nb w ((w.1 135 (nb w i)).toInt + (k : Int)))).toInt = (c : Int)
def PNm (w : MW) (ns : List Nod) : Prop := (w.1 129 13).toInt = (ns.length : Int) ∧ ∀ (i : Nat) (d : Nod), ns[i]? = some d → PNd w (i : Int) d
/-- nodes and kids that are made stay, and what stands outside -/
def KNm (w w' : MW) : Prop := w'.1 129 12 = w.1 129 12 ∧ (w.1 129 13).toInt ≤ (w'.1 129 13).toInt ∧ (w.1 129 21).toInt ≤ (w'.1 129 21).toInt ∧ (∀ i : Int, 0 ≤ i → i < (w.1 129 13).toInt → w'.1 131 (nb w i) = w.1 131 (nb w i) ∧ w'.2.1 132 (nb w i) = w.2.1 132 (nb w i) ∧ w'.1 134 (nb w i) = w.1 134 (nb w i) ∧ w'.1 135 (nb w i) = w.1 135 (nb w i) ∧ w'.1 136 (nb w i) = w.1 136 (nb w i)) ∧ (∀ j : Int, 0 ≤ j → j < (w.1 129 21).toInt → w'.1 137 (nb w j) = w.1 137 (nb w j)) ∧ w'.1 129 23 = w.1 129 23 ∧ ∀ j : Nat, w'.1 138 j = w.1 138 j
theorem knm_b {w w' : MW} (h : KNm w w') : bhf w' = bhf w ∧ ∀ i, nb w' i = nb w i := by
  unfold nb bhf
  rw [h.1]
  exact ⟨rfl, fun _ => rfl⟩
theorem KNm.refl (w : MW) : KNm w w := ⟨rfl, Int.le_refl _, Int.le_refl _, fun _ _ _ => ⟨rfl, rfl, rfl, rfl, rfl⟩, fun _ _ _ => rfl, rfl, fun _ => rfl⟩
theorem KNm.tr {w w1 w2 : MW} (h : KNm w w1) (h2 : KNm w1 w2) : KNm w w2 := by
  have a := h.2.1
  have b := h2.2.1
  have c := h.2.2.1
  have d := h2.2.2.1
  have e := (knm_b h).2
  refine ⟨h2.1.trans h.1, by omega, by omega, fun i i0 i1 => ?_, fun j j0 j1 => ?_, h2.2.2.2.2.2.1.trans h.2.2.2.2.2.1, fun j => (h2.2.2.2.2.2.2 j).trans (h.2.2.2.2.2.2 j)⟩
  · have t := h2.2.2.2.1 i i0 (by omega)
    rw [e] at t
    have s := h.2.2.2.1 i i0 i1
    exact ⟨t.1.trans s.1, t.2.1.trans s.2.1, t.2.2.1.trans s.2.2.1, t.2.2.2.1.trans s.2.2.2.1, t.2.2.2.2.trans s.2.2.2.2⟩
  · have t := h2.2.2.2.2.1 j j0 (by omega)
    rw [e] at t
    exact t.trans (h.2.2.2.2.1 j j0 j1)
def lynm : Pl := [(129, some 12), (129, some 13), (129, some 21), (129, some 23), (131, none), (132, none), (134, none), (135, none), (136, none), (137, none), (138, none)]
theorem KNm.fr {l : Pl} {w w' : MW} (hF : FR l w w') (ho : off l lynm = true) : KNm w w' :=
  ⟨(hF 129 12 (off_hit ho rfl)).1, by rw [(hF 129 13 (off_hit ho rfl)).1]; exact Int.le_refl _, by rw [(hF 129 21 (off_hit ho rfl)).1]; exact Int.le_refl _, fun i _ _ => ⟨(hF 131 _ (off_hit ho rfl)).1, (hF 132 _ (off_hit ho rfl)).2.1, (hF 134 _ (off_hit ho rfl)).1, (hF 135 _ (off_hit ho rfl)).1, (hF 136 _ (off_hit ho rfl)).1⟩, fun j _ _ => (hF 137 _ (off_hit ho rfl)).1, (hF 129 23 (off_hit ho rfl)).1, fun j => (hF 138 j (off_hit ho rfl)).1⟩
theorem pnd_k {w w' : MW} {i : Int} {d : Nod} (h : PNd w i d) (K : KNm w w') (hI : BND w) (i0 : 0 ≤ i) (i1 : i < (w.1 129 13).toInt) : PNd w' i d := by
  have e := (knm_b K).2
  have s := K.2.2.2.1 i i0 i1
  have b := bd_135 hI (nb w i)
  have c := K.2.2.1
  have g := h.2.2.2.2.1
  unfold PNd
  rw [e, s.1, s.2.1, s.2.2.2.1, s.2.2.2.2]
  refine ⟨h.1, h.2.1, h.2.2.1, h.2.2.2.1, by omega, fun k cc hk => ?_⟩
  have lk := (List.getElem?_eq_some_iff.mp hk).1
  rw [e, K.2.2.2.2.1 ((w.1 135 (nb w i)).toInt + (k : Int)) (by omega) (by omega)]
  exact h.2.2.2.2.2 k cc hk
theorem pnm_k {w w' : MW} {ns : List Nod} (h : PNm w ns) (K : KNm w w') (hI : BND w) (e : w'.1 129 13 = w.1 129 13) : PNm w' ns :=
  ⟨by rw [e]; exact h.1, fun i d hd => pnd_k (h.2 i d hd) K hI (by omega) (by have := (List.getElem?_eq_some_iff.mp hd).1; rw [h.1]; omega)⟩
/-- and the pile below its top, and how many statements are read -/
def KX (w w' : MW) : Prop := KNm w w' ∧ w'.1 129 35 = w.1 129 35 ∧ (∀ k : Int, 0 ≤ k → k < (w.1 129 35).toInt → w'.1 144 k.toNat = w.1 144 k.toNat) ∧ w'.1 129 38 = w.1 129 38
theorem KX.refl (w : MW) : KX w w := ⟨KNm.refl w, rfl, fun _ _ _ => rfl, rfl⟩
theorem KX.tr {w w1 w2 : MW} (h : KX w w1) (h2 : KX w1 w2) : KX w w2 :=
  ⟨h.1.tr h2.1, h2.2.1.trans h.2.1, fun k k0 k1 => (h2.2.2.1 k k0 (by rw [h.2.1]; exact k1)).trans (h.2.2.1 k k0 k1), h2.2.2.2.trans h.2.2.2⟩
theorem KX.fr {l : Pl} {w w' : MW} (hF : FR l w w') (ho : off l ((129, some 35) :: (129, some 38) :: (144, none) :: lynm) = true) : KX w w' :=
  ⟨KNm.fr hF (off_mono ho (by decide)), (hF 129 35 (off_hit ho rfl)).1, fun k _ _ => (hF 144 _ (off_hit ho rfl)).1, (hF 129 38 (off_hit ho rfl)).1⟩
def lnam : Pl := [(129, some 12), (129, some 24), (139, none), (140, none), (141, none), (142, none), (143, none)]
theorem nmm_fr {l : Pl} {w w' : MW} {nm : List Nm} (h : NmM w nm) (hF : FR l w w') (ho : off l lnam = true) : NmM w' nm := by
  have e : bhf w' = bhf w := by
    unfold bhf
    rw [(hF 129 12 (off_hit ho rfl)).1]
  refine ⟨by rw [(hF 129 24 (off_hit ho rfl)).1]; exact h.1, h.2.1, fun i x hx => ?_⟩
  have t := h.2.2 i x hx
  rw [e, (hF 140 _ (off_hit ho rfl)).1, (hF 141 _ (off_hit ho rfl)).1, (hF 142 _ (off_hit ho rfl)).1, (hF 143 _ (off_hit ho rfl)).1]
  exact ⟨t.1, t.2.1, fun k c hk => by rw [(hF 139 _ (off_hit ho rfl)).1]; exact t.2.2.1 k c hk, t.2.2.2⟩
def YB (w : MW) (f : Int → Int) (n : Int) (nm : List Nm) (op : Nat) (e : Int) : Prop := YJ e w ∧ TXm w f n ∧ NmM w nm ∧ (w.1 129 11).toInt = (op : Int)
/-- nothing is wrong yet: the word from p on is next -/
def YS (w : MW) (f : Int → Int) (n : Int) (nm : List Nm) (op : Nat) (e p : Int) (ns : List Nod) : Prop := YB w f n nm op e ∧ TkM w (wrd f n p) ∧ ¬ (wrd f n p).1 = 33 ∧ PNm w ns ∧ 0 ≤ p ∧ p ≤ n
def lyb : Pl := [(129, some 1), (129, some 11), (129, some 12), (129, some 24), (130, none), (139, none), (140, none), (141, none), (142, none), (143, none)]
/-- YB over a step; its own room is told -/
theorem yb_fr {l : Pl} {w w' : MW} {f : Int → Int} {n : Int} {nm : List Nm} {op : Nat} {e e' : Int} (h : YB w f n nm op e) (hF : FR l w w') (hJ : YJ e' w') (ho : off l lyb = true) : YB w' f n nm op e' :=
  ⟨hJ, txm_fr h.2.1 hF (off_mono ho (by decide)), nmm_fr h.2.2.1 hF (off_mono ho (by decide)), by rw [(hF 129 11 (off_hit ho rfl)).1]; exact h.2.2.2⟩
theorem yj_fr {l : Pl} {w w' : MW} {e : Int} (h : YJ e w) (hF : FR l w w') (hB : BND w') (ho : off l [(129, some 13), (129, some 21), (129, some 23), (129, some 35)] = true) : YJ e w' :=
  ⟨hB, h.2.1, by rw [(hF 129 13 (off_hit ho rfl)).1, (hF 129 21 (off_hit ho rfl)).1, (hF 129 23 (off_hit ho rfl)).1, (hF 129 35 (off_hit ho rfl)).1]; exact h.2.2⟩
theorem yj_wk {w : MW} {e e' : Int} (h : YJ e w) (h0 : 0 ≤ e') (h1 : e' ≤ e) : YJ e' w := ⟨h.1, h0, by have := h.2.2; omega⟩
theorem ys_wk {w : MW} {f : Int → Int} {n : Int} {nm : List Nm} {op : Nat} {e e' p : Int} {ns : List Nod} (h : YS w f n nm op e p ns) (h0 : 0 ≤ e') (h1 : e' ≤ e) : YS w f n nm op e' p ns := ⟨⟨yj_wk h.1.1 h0 h1, h.1.2⟩, h.2⟩
/-- the word at p' from which the reader stands -/
theorem y_go0 {w : MW} {f : Int → Int} {n : Int} {nm : List Nm} {op : Nat} {e p : Int} {ns : List Nod} {Q : Int32 → MW → Prop} (hB : YB w f n nm op e) (hp : (w.1 129 2).toInt = p) (pn : p ≤ n) (hN : PNm w ns) (h1 : ¬ (wrd f n p).1 = 33 → ∀ w', FR lgt w w' → YS w' f n nm op e p ns → KX w w' → Q 1 w') (h0 : (wrd f n p).1 = 33 → ∀ w', (w'.1 129 10).toInt = (wrd f n p).2.1 → Q 0 w') : p_Tx_go w Q := by
  have b2 := bd_129_2 hB.1.1
  refine pg_x hB.1.1 hB.2.1 hp pn (fun c w' B' F' T' _ => h1 c w' F' ⟨yb_fr hB F' (yj_fr hB.1 F' B' rfl) rfl, T', c, pnm_k hN (KNm.fr F' rfl) hB.1.1 (F' 129 13 rfl).1, by omega, pn⟩ (KX.fr F' rfl)) (fun c w' _ _ e' => h0 c w' e')
theorem y_go {w : MW} {f : Int → Int} {n : Int} {nm : List Nm} {op : Nat} {e p : Int} {ns : List Nod} {Q : Int32 → MW → Prop} (h : YS w f n nm op e p ns) (h1 : ¬ (wrd f n (wrd f n p).2.2.1).1 = 33 → ∀ w', FR lgt w w' → YS w' f n nm op e (wrd f n p).2.2.1 ns → KX w w' → p ≤ (wrd f n p).2.2.1 → Q 1 w') (h0 : (wrd f n (wrd f n p).2.2.1).1 = 33 → ∀ w', (w'.1 129 10).toInt = (wrd f n (wrd f n p).2.2.1).2.1 → Q 0 w') : p_Tx_go w Q := by
  have wn := wrd_n (f := f) (n := n) (p := p) h.1.2.1.2.2.2 h.2.2.2.2.1 h.2.2.2.2.2
  exact y_go0 h.1 h.2.1.2.2.1 wn.2.1 h.2.2.2.1 (fun c w' F' Y' K' => h1 c w' F' Y' K' wn.1) h0
theorem y_bad {w : MW} {f : Int → Int} {n : Int} {nm : List Nm} {op : Nat} {e p : Int} {ns : List Nod} {Q : Int32 → MW → Prop} (h : YS w f n nm op e p ns) (hQ : ∀ w', (w'.1 129 10).toInt = (wrd f n p).2.1 → Q (-1) w') : p_Tx_bad w Q :=
  Eq.mpr (p_Tx_bad.eq_1 _ _) (hQ _ (by rw [sI_same]; exact h.2.1.2.1))
theorem y_bg {w : MW} {f : Int → Int} {n : Int} {nm : List Nm} {op : Nat} {e p : Int} {ns : List Nod} {v : Int32} (h : YS w f n nm op e p ns) (hv : v = w.1 129 5) (w' : MW) : ((sI w' 129 10 v).1 129 10).toInt = (wrd f n p).2.1 := by
  rw [sI_same, hv]
  exact h.2.1.2.1
/-- what node writes, with the unit -/
def NdG (w : MW) (a : Int32) (b : Int64) (u f : Int32) (w' : MW) : Prop := NdF w a b f w' ∧ w'.1 134 (nb w (w.1 129 13).toInt) = u ∧ ∀ j, j ≠ nb w (w.1 129 13).toInt → w'.1 134 j = w.1 134 j
theorem ny_all {e : Int} {w : MW} {a : Int32} {b : Int64} {c u f : Int32} {Q : Int32 → MW → Prop} (h : YJ e w) (a0 : 0 ≤ a.toInt) (a1 : a.toInt ≤ 24) (u0 : -1 ≤ u.toInt) (u1 : u.toInt ≤ 5) (f0 : 0 ≤ f.toInt) (f1 : f.toInt ≤ (w.1 129 35).toInt) (hB : (w.1 129 13).toInt = 300 → Q (-1) (sI w 129 10 (w.1 129 5))) (hQ : ¬ (w.1 129 13).toInt = 300 → ∀ (r : Int32) (w' : MW), r.toInt = (w.1 129 13).toInt → NdG w a b u f w' → Q r w') : p_Tx_node0 w a b c u f Q := by
  have hI := h.1
  have b13 := bd_129_13 hI
  have b21 := bd_129_21 hI
  have b23 := bd_129_23 hI
  have b35 := bd_129_35 hI
  have bh := bhf_b hI
  have hs := h.2.2
  have he := h.2.1
  refine Eq.mpr (p_Tx_node0.eq_1 _ _ _ _ _ _ _) ⟨fun c13 => Eq.mpr (p_Tx_base.eq_1 _ _) ?_, fun c13 => Eq.mpr (p_Tx_bad.eq_1 _ _) (hB (Classical.not_not.mp c13))⟩
  have hQ := hQ c13
  have ei := bb_ix (n := w.1 129 13) hI (by omega) (by omega)
  have en : (((300 : Int32) * ((1 : Int32) - (w.1 129 12))) + (w.1 129 13)).toInt.toNat = nb w (w.1 129 13).toInt := by rw [ei]; rfl
  have hr : 0 ≤ (((300 : Int32) * ((1 : Int32) - (w.1 129 12))) + (w.1 129 13)).toInt ∧ (((300 : Int32) * ((1 : Int32) - (w.1 129 12))) + (w.1 129 13)).toInt < 600 := ⟨by omega, by omega⟩
  refine ⟨hr, hr, hr, hr, hr, hr, ?_⟩
  rw [en]
  have ed := ti_sub2 (Eq.refl (w.1 129 35).toInt) (Eq.refl f.toInt) (by omega) (by omega)
  have hG : ∀ X : Nat, BND (sI (sI (sI (sI (sJ (sI w 131 X a) 132 X b) 133 X c) 134 X u) 135 X (w.1 129 21)) 136 X ((w.1 129 35) - f)) := fun X => wbd_136 (wbd_135 (wbd_134 (wbd_133 (bnd_J (wbd_131 hI X a0 a1)) X) X u0 u1) X b21.1 b21.2) X (by omega) (by omega)
  have hI1 := hG (nb w (w.1 129 13).toInt)
  have q131 : ∀ X j : Nat, (sI (sI (sI (sI (sJ (sI w 131 X a) 132 X b) 133 X c) 134 X u) 135 X (w.1 129 21)) 136 X ((w.1 129 35) - f)).1 131 j = (sI w 131 X a).1 131 j := fun X j => rfl
  have q132 : ∀ X j : Nat, (sI (sI (sI (sI (sJ (sI w 131 X a) 132 X b) 133 X c) 134 X u) 135 X (w.1 129 21)) 136 X ((w.1 129 35) - f)).2.1 132 j = (sJ w 132 X b).2.1 132 j := fun X j => rfl
  have q134 : ∀ X j : Nat, (sI (sI (sI (sI (sJ (sI w 131 X a) 132 X b) 133 X c) 134 X u) 135 X (w.1 129 21)) 136 X ((w.1 129 35) - f)).1 134 j = (sI w 134 X u).1 134 j := fun X j => rfl
  have q135 : ∀ X j : Nat, (sI (sI (sI (sI (sJ (sI w 131 X a) 132 X b) 133 X c) 134 X u) 135 X (w.1 129 21)) 136 X ((w.1 129 35) - f)).1 135 j = (sI w 135 X (w.1 129 21)).1 135 j := fun X j => rfl
  have q136 : ∀ X j : Nat, (sI (sI (sI (sI (sJ (sI w 131 X a) 132 X b) 133 X c) 134 X u) 135 X (w.1 129 21)) 136 X ((w.1 129 35) - f)).1 136 j = (sI w 136 X ((w.1 129 35) - f)).1 136 j := fun X j => rfl
  have hF : ∀ X : Nat, FR [(131, none), (132, none), (133, none), (134, none), (135, none), (136, none)] w (sI (sI (sI (sI (sJ (sI w 131 X a) 132 X b) 133 X c) 134 X u) 135 X (w.1 129 21)) 136 X ((w.1 129 35) - f)) := fun X => FR.I (FR.I (FR.I (FR.I (FR.J (FR.I (FR.refl _ w) rfl) rfl) rfl) rfl) rfl) rfl
  have hF1 := hF (nb w (w.1 129 13).toInt)
  have r131 := q131 (nb w (w.1 129 13).toInt)
  have r132 := q132 (nb w (w.1 129 13).toInt)
  have r134 := q134 (nb w (w.1 129 13).toInt)
  have r135 := q135 (nb w (w.1 129 13).toInt)
  have r136 := q136 (nb w (w.1 129 13).toInt)
  clear q131 q132 q134 q135 q136 hF hG
  generalize (sI (sI (sI (sI (sJ (sI w 131 (nb w (w.1 129 13).toInt) a) 132 (nb w (w.1 129 13).toInt) b) 133 (nb w (w.1 129 13).toInt) c) 134 (nb w (w.1 129 13).toInt) u) 135 (nb w (w.1 129 13).toInt) (w.1 129 21)) 136 (nb w (w.1 129 13).toInt) ((w.1 129 35) - f)) = w1 at *
  have e12 : bhf w1 = bhf w := by unfold bhf; rw [(hF1 129 12 rfl).1]
  have e13 : w1.1 129 13 = w.1 129 13 := (hF1 129 13 rfl).1
  have e21 : w1.1 129 21 = w.1 129 21 := (hF1 129 21 rfl).1
  have e35 : w1.1 129 35 = w.1 129 35 := (hF1 129 35 rfl).1
  have e137 : ∀ j, w1.1 137 j = w.1 137 j := fun j => (hF1 137 j rfl).1
  have e144 : ∀ j, w1.1 144 j = w.1 144 j := fun j => (hF1 144 j rfl).1
  refine nd_loop f0 (by rw [e21]; omega) (by rw [e35, e21]; omega) (fun w3 hL => ?_) FU f w1 ⟨hI1, FR.refl _ w1, by omega, fun i i0 i1 => by omega, fun j _ => rfl⟩ (Int.le_refl _) (by rw [e35]; exact f1) (fu_lt (by rw [e35]; omega))
  have f13 : w3.1 129 13 = w.1 129 13 := ((hL.2.1 129 13 rfl).1).trans e13
  have s13 := ti_add2 (Eq.refl (w.1 129 13).toInt) i_1 (by omega) (by omega)
  have t13 := ti_sub2 s13 i_1 (by omega) (by omega)
  have h21 := hL.2.2.1
  rw [e21, e35] at h21
  rw [f13]
  refine hQ _ _ (by rw [t13]; omega) ⟨⟨wbd_129_13 (wbd_129_35 hL.1 f0 (by omega)) (by omega) (by omega), FR.I (FR.I ((((FR.refl l_Tx_node0 w).tr hF1 rfl)).tr hL.2.1 rfl) rfl) rfl, ?_, ?_, ?_, fun j hj => ?_, ?_, ?_, ?_, ?_, fun i i0 i1 => ?_, fun j hj => ?_⟩, ?_, fun j hj => ?_⟩
  · rw [sI_same]; exact s13
  · exact h21
  · rfl
  · refine ⟨?_, ?_, ?_, ?_⟩
    · exact (hL.2.1 131 j rfl).1.trans ((r131 j).trans (sI_ne _ _ _ _ _ hj))
    · exact (hL.2.1 132 j rfl).2.1.trans ((r132 j).trans (by rw [sJ_at, if_neg (fun q => hj q.2)]))
    · exact (hL.2.1 135 j rfl).1.trans ((r135 j).trans (sI_ne _ _ _ _ _ hj))
    · exact (hL.2.1 136 j rfl).1.trans ((r136 j).trans (sI_ne _ _ _ _ _ hj))
  · exact (hL.2.1 131 _ rfl).1.trans ((r131 _).trans (sI_same _ _ _ _))
  · exact (hL.2.1 132 _ rfl).2.1.trans ((r132 _).trans (sJ_same _ _ _ _))
  · exact congrArg Int32.toInt ((hL.2.1 135 _ rfl).1.trans ((r135 _).trans (sI_same _ _ _ _)))
  · exact (congrArg Int32.toInt ((hL.2.1 136 _ rfl).1.trans ((r136 _).trans (sI_same _ _ _ _)))).trans ed
  · have q := hL.2.2.2.1 i i0 (by rw [e35]; exact i1)
    rw [e12, e21, e144] at q
    exact q
  · have q := hL.2.2.2.2 j (by rw [e12, e21, e35]; exact hj)
    rw [e137] at q
    exact q
  · exact (hL.2.1 134 _ rfl).1.trans ((r134 _).trans (sI_same _ _ _ _))
  · exact (hL.2.1 134 j rfl).1.trans ((r134 j).trans (sI_ne _ _ _ _ _ hj))
theorem ndg_k {e : Int} {w w' : MW} {a : Int32} {b : Int64} {u f : Int32} (h : YJ e w) (hN : NdG w a b u f w') (f1 : f.toInt ≤ (w.1 129 35).toInt) : KNm w w' := by
  have hI := h.1
  have b21 := bd_129_21 hI
  have bh := bhf_b hI
  have e13 := hN.1.2.2.1
  have e21 := hN.1.2.2.2.1
  refine ⟨(hN.1.2.1 129 12 rfl).1, by omega, by omega, fun i i0 i1 => ?_, fun j j0 j1 => ?_, (hN.1.2.1 129 23 rfl).1, fun j => (hN.1.2.1 138 j rfl).1⟩
  · have ne := nb_inj hI i0 (show 0 ≤ (w.1 129 13).toInt by omega) (show i ≠ (w.1 129 13).toInt by omega)
    have t := hN.1.2.2.2.2.2.1 _ ne
    exact ⟨t.1, t.2.1, hN.2.2 _ ne, t.2.2.1, t.2.2.2⟩
  · exact hN.1.2.2.2.2.2.2.2.2.2.2.2 (nb w j) (Or.inl (by unfold nb; omega))
/-- the numbers l lie on the pile from lo to its top -/
def PiL (w : MW) (lo : Int) (l : List Nat) : Prop := (w.1 129 35).toInt = lo + (l.length : Int) ∧ 0 ≤ lo ∧ ∀ (k c : Nat), l[k]? = some c → (w.1 144 (lo + (k : Int)).toNat).toInt = (c : Int)
theorem app_get {α : Type} {l : List α} {d x : α} {i : Nat} (h : (l ++ [d])[i]? = some x) : l[i]? = some x ∨ (i = l.length ∧ x = d) := by
  by_cases c : i < l.length
  · rw [List.getElem?_append_left c] at h
    exact Or.inl h
  · rw [List.getElem?_append_right (by omega)] at h
    have t := (List.getElem?_eq_some_iff.mp h).1
    rw [List.length_singleton] at t
    have e : i - l.length = 0 := by omega
    rw [e, List.getElem?_cons_zero] at h
    injection h with h
    exact Or.inr ⟨by omega, h.symm⟩
/-- a node more -/
theorem y_node {w : MW} {f : Int → Int} {n : Int} {nm : List Nm} {op : Nat} {e p lo : Int} {ns : List Nod} {a : Int32} {b : Int64} {c u x : Int32} {d : Nod} {Q : Int32 → MW → Prop} (h : YS w f n nm op e p ns) (ha : a.toInt = wht d.1) (a0 : 0 ≤ wht d.1) (a1 : wht d.1 ≤ 24) (u0 : -1 ≤ u.toInt) (u1 : u.toInt ≤ 5) (hx : x.toInt = lo) (hP : PiL w lo d.2.2.2) (b1 : d.1 = 31 → b.toInt = d.2.2.1) (b2 : ¬ d.1 = 31 → ¬ d.1 = 10 → b.toInt = d.2.1) (h0 : ns.length = 300 → ∀ w', (w'.1 129 10).toInt = (wrd f n p).2.1 → Q (-1) w') (h1 : ¬ ns.length = 300 → ∀ (r : Int32) (w' : MW), r.toInt = (ns.length : Int) → YS w' f n nm op (e + 1) p (ns ++ [d]) → KNm w w' → w'.1 129 35 = x → (∀ k, w'.1 144 k = w.1 144 k) → (w'.1 134 (nb w' (ns.length : Int))) = u → w'.1 129 38 = w.1 129 38 → w'.1 129 23 = w.1 129 23 → Q r w') : p_Tx_node0 w a b c u x Q := by
  have hI := h.1.1.1
  have b35 := bd_129_35 hI
  have e13 := h.2.2.2.1.1
  have f0 := hP.2.1
  have f1 : x.toInt ≤ (w.1 129 35).toInt := by rw [hx, hP.1]; omega
  refine ny_all h.1.1 (by omega) (by omega) u0 u1 (by omega) f1 (fun z => h0 (by omega) _ (y_bg h rfl w)) (fun z r w' hr hN => ?_)
  have K := ndg_k h.1.1 hN f1
  have g13 := hN.1.2.2.1
  have g21 := hN.1.2.2.2.1
  have g35 := hN.1.2.2.2.2.1
  have g23 : w'.1 129 23 = w.1 129 23 := (hN.1.2.1 129 23 rfl).1
  have hs := h.1.1.2.2
  have he := h.1.1.2.1
  have bh := bhf_b hI
  have b21 := bd_129_21 hI
  have en := (knm_b K).2
  refine h1 (by omega) r w' (by rw [hr, e13]) ⟨yb_fr h.1 hN.1.2.1 ⟨hN.1.1, by omega, by rw [g35, g23]; omega⟩ rfl, ?_, h.2.2.1, ⟨by rw [g13, e13, List.length_append, List.length_singleton]; omega, fun i d' hd => ?_⟩, h.2.2.2.2⟩ K g35 (fun k => (hN.1.2.1 144 k rfl).1) (by rw [en, ← e13]; exact hN.2.1) (hN.1.2.1 129 38 rfl).1 g23
  · have t := h.2.1
    unfold TkM at t ⊢
    rw [(hN.1.2.1 129 4 rfl).1, (hN.1.2.1 129 5 rfl).1, (hN.1.2.1 129 2 rfl).1, (hN.1.2.1 129 6 rfl).1, (hN.1.2.1 129 8 rfl).2.1, (hN.1.2.1 129 9 rfl).1]
    exact t
  · rcases app_get hd with q | ⟨q, q2⟩
    · exact pnd_k (h.2.2.2.1.2 i d' q) K hI (by omega) (by have := (List.getElem?_eq_some_iff.mp q).1; rw [e13]; omega)
    · rw [q, q2]
      have N := hN.1.2.2.2.2.2.2
      unfold PNd
      rw [en, ← e13, N.1, N.2.1, N.2.2.1, N.2.2.2.1]
      have pl := hP.1
      refine ⟨ha, b1, b2, by omega, by omega, fun k cc hk => ?_⟩
      have lk := (List.getElem?_eq_some_iff.mp hk).1
      have t := N.2.2.2.2.1 (k : Int) (by omega) (by omega)
      have s := hP.2.2 k cc hk
      rw [en]
      unfold nb
      rw [show (300 * bhf w + ((w.1 129 21).toInt + (k : Int))).toNat = (300 * bhf w + (w.1 129 21).toInt + (k : Int)).toNat by omega, t, hx]
      exact s
theorem y_unit {w : MW} {a : Int32} {Q : Int32 → MW → Prop} (hI : BND w) (a0 : 0 ≤ a.toInt) (a1 : a.toInt < 300) (hQ : Q (w.1 134 (nb w a.toInt)) w) : p_Tx_unitIn w a Q := by
  have ei := bb_ix (n := a) hI a0 (by omega)
  have bh := bhf_b hI
  refine Eq.mpr (p_Tx_unitIn.eq_1 _ _ _) (Eq.mpr (p_Tx_base.eq_1 _ _) ⟨⟨by omega, by omega⟩, ?_⟩)
  rw [ei]
  exact hQ
/-- a node on the pile -/
theorem y_push {w : MW} {f : Int → Int} {n : Int} {nm : List Nm} {op : Nat} {e p : Int} {ns : List Nod} {a : Int32} {Q : MW → Prop} (h : YS w f n nm op (e + 1) p ns) (he : 0 ≤ e) (a0 : 0 ≤ a.toInt) (a1 : a.toInt < (ns.length : Int)) (hQ : ∀ w', FR [(129, some 35), (144, none)] w w' → YS w' f n nm op e p ns → KNm w w' → (w'.1 129 35).toInt = (w.1 129 35).toInt + 1 → (∀ k : Int, 0 ≤ k → k < (w.1 129 35).toInt → w'.1 144 k.toNat = w.1 144 k.toNat) → w'.1 144 (w.1 129 35).toInt.toNat = a → Q w') : p_Tx_push w a Q := by
  have hI := h.1.1.1
  have b13 := bd_129_13 hI
  have b21 := bd_129_21 hI
  have b23 := bd_129_23 hI
  have b35 := bd_129_35 hI
  have hs := h.1.1.2.2
  have e13 := h.2.2.2.1.1
  have s35 := ti_add2 (Eq.refl (w.1 129 35).toInt) i_1 (by omega) (by omega)
  refine Eq.mpr (p_Tx_push.eq_1 _ _ _) ⟨⟨by omega, by omega⟩, ?_⟩
  have hF : FR [(129, some 35), (144, none)] w (sI (sI w 144 ((w.1 129 35).toInt.toNat) a) 129 35 ((w.1 129 35) + (1 : Int32))) := FR.I (FR.I (FR.refl _ w) rfl) rfl
  have hB : BND (sI (sI w 144 ((w.1 129 35).toInt.toNat) a) 129 35 ((w.1 129 35) + (1 : Int32))) := wbd_129_35 (wbd_144 hI _ a0 (by omega)) (by omega) (by omega)
  have h35 : ((sI (sI w 144 ((w.1 129 35).toInt.toNat) a) 129 35 ((w.1 129 35) + (1 : Int32))).1 129 35).toInt = (w.1 129 35).toInt + 1 := by rw [sI_same]; exact s35
  have h144 : ∀ j, (sI (sI w 144 ((w.1 129 35).toInt.toNat) a) 129 35 ((w.1 129 35) + (1 : Int32))).1 144 j = (sI w 144 ((w.1 129 35).toInt.toNat) a).1 144 j := fun j => rfl
  generalize (sI (sI w 144 ((w.1 129 35).toInt.toNat) a) 129 35 ((w.1 129 35) + (1 : Int32))) = w' at *
  have K : KNm w w' := KNm.fr hF rfl
  refine hQ w' hF ⟨yb_fr h.1 hF ⟨hB, he, ?_⟩ rfl, ?_, h.2.2.1, pnm_k h.2.2.2.1 K hI (hF 129 13 rfl).1, h.2.2.2.2⟩ K h35 (fun k k0 k1 => by rw [h144, sI_ne _ _ _ _ _ (by omega)]) (by rw [h144, sI_same])
  · rw [h35, (hF 129 21 rfl).1, (hF 129 23 rfl).1, (hF 129 13 rfl).1]
    omega
  · have t := h.2.1
    unfold TkM at t ⊢
    rw [(hF 129 4 rfl).1, (hF 129 5 rfl).1, (hF 129 2 rfl).1, (hF 129 6 rfl).1, (hF 129 8 rfl).2.1, (hF 129 9 rfl).1]
    exact t
