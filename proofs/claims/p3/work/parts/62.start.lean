/-! the reference: readPlant once more, start -/
theorem h2_Mo_readPlant {w : MW} {Q : Int32 → MW → Prop} (hI : BND w) (hf_FT : FT w) (hf_HW : HW w) (hf_RP : RP w) (hf_SZ : SZ w) (hQ : ∀ (r : Int32) (w' : MW), BND w' → FR l_Mo_readPlant w w' → FT w' → HW w' → RP w' → SZ w' → (w'.1 127 59 = w.1 127 59 ∨ (w'.1 127 59).toInt = 4) → Q r w') : p_Mo_readPlant w Q := by
  refine Eq.mpr (p_Mo_readPlant.eq_1 _ _) ?_
  have hI1 : BND (sI (sI (sI w 127 21 0) 127 85 0) 127 86 0) := wbd_127_86 (wbd_127_85 (wbd_127_21 hI (by decide) (by decide)) (by decide) (by decide)) (by decide) (by decide)
  have hF1 : FR lr1 w (sI (sI (sI w 127 21 0) 127 85 0) 127 86 0) := FR.I (FR.I (FR.I (FR.refl _ w) rfl) rfl) rfl
  have a21 : (sI (sI (sI w 127 21 0) 127 85 0) 127 86 0).1 127 21 = 0 := rfl
  have a85 : (sI (sI (sI w 127 21 0) 127 85 0) 127 86 0).1 127 85 = 0 := rfl
  have a86 : (sI (sI (sI w 127 21 0) 127 85 0) 127 86 0).1 127 86 = 0 := rfl
  generalize (sI (sI (sI w 127 21 0) 127 85 0) 127 86 0) = w1 at *
  refine rp_15 (t := w1) (z := w) (G := ∃ m, TR m w1 0 0 0 (fun j => w1.1 179 j) (fun j => w1.1 180 j)) (fun w6 hI6 hF6 hA6 hG => ?_) (fun r w' hI' hF' q0 q1 => hQ r w' hI' ((FR.refl _ w).tr hF' rfl) (FT_fr hF' rfl hf_FT) (HW_fr hF' rfl hf_HW) (RP_fr hF' rfl hf_RP) (SZ_fr hF' rfl hf_SZ) (Or.inl (hF' 127 59 rfl).1)) FU w1 hI1 hF1 (ag_refl w1) (fun h => by rw [a21, a85, a86] at h; exact h) (fu_lt (by rw [a21]; decide))
  have hI7 : BND (sI (sI (sI (sI (sI w6 127 4 0) 127 11 0) 127 26 0) 127 59 4) 127 21 0) := wbd_127_21 (wbd_127_59 (wbd_127_26 (wbd_127_11 (wbd_127_4 hI6 (by decide) (by decide)) (by decide) (by decide)) (by decide) (by decide)) (by decide) (by decide)) (by decide) (by decide)
  have hF7 : FR l_Mo_readPlant w (sI (sI (sI (sI (sI w6 127 4 0) 127 11 0) 127 26 0) 127 59 4) 127 21 0) := FR.I (FR.I (FR.I (FR.I (FR.I ((FR.refl _ w).tr hF6 rfl) rfl) rfl) rfl) rfl) rfl
  have c4 : (sI (sI (sI (sI (sI w6 127 4 0) 127 11 0) 127 26 0) 127 59 4) 127 21 0).1 127 4 = 0 := rfl
  have c11 : (sI (sI (sI (sI (sI w6 127 4 0) 127 11 0) 127 26 0) 127 59 4) 127 21 0).1 127 11 = 0 := rfl
  have c26 : (sI (sI (sI (sI (sI w6 127 4 0) 127 11 0) 127 26 0) 127 59 4) 127 21 0).1 127 26 = 0 := rfl
  have c59 : (sI (sI (sI (sI (sI w6 127 4 0) 127 11 0) 127 26 0) 127 59 4) 127 21 0).1 127 59 = 4 := rfl
  have c21 : (sI (sI (sI (sI (sI w6 127 4 0) 127 11 0) 127 26 0) 127 59 4) 127 21 0).1 127 21 = 0 := rfl
  have c22 : (sI (sI (sI (sI (sI w6 127 4 0) 127 11 0) 127 26 0) 127 59 4) 127 21 0).1 127 22 = w6.1 127 22 := rfl
  have c128 : ∀ j, (sI (sI (sI (sI (sI w6 127 4 0) 127 11 0) 127 26 0) 127 59 4) 127 21 0).1 128 j = w6.1 128 j := fun _ => rfl
  generalize (sI (sI (sI (sI (sI w6 127 4 0) 127 11 0) 127 26 0) 127 59 4) 127 21 0) = w7 at *
  have z4 : (w7.1 127 4).toInt = 0 := by rw [c4]; exact i_0
  have z11 : (w7.1 127 11).toInt = 0 := by rw [c11]; exact i_0
  refine rp_90 (t := w1) (z := w7) (fun w10 hI10 hF10 hP10 => ?_) FU w7 hI7 (FR.refl _ w7) ⟨fun j => (c128 j).trans (hA6.1 j), c22.trans hA6.2⟩ ⟨fun j j0 j1 => by omega, fun e e0 e1 => by omega, fun e g e0 e1 => by omega, fun p p0 p1 => by omega⟩ ?_ (fu_lt (by rw [c21]; decide))
  · refine rp_126 (s := w10) (fun w14 hI14 hF14 => ?_) FU 0 w10 hI10 (FR.refl _ w10) (by decide) (by decide) (fu_lt (by decide))
    have hFF : FR l_Mo_readPlant w w14 := (hF7.tr hF10 rfl).tr hF14 rfl
    have e26 : w14.1 127 26 = 0 := ((hF14 127 26 rfl).1.trans (hF10 127 26 rfl).1).trans c26
    have z26 : (w14.1 127 26).toInt = 0 := by rw [e26]; exact i_0
    have b4 := bd_127_4 hI14
    exact hQ _ w14 hI14 hFF (fun k k0 k1 => by omega) ⟨fun k k0 k1 => by omega, fun k l k0 k1 => by omega⟩ (RP_fr hF14 rfl (pi_rp hP10)) (SZ_fr hF14 rfl (pi_sz hP10)) (Or.inr (by rw [((hF14 127 59 rfl).1.trans (hF10 127 59 rfl).1).trans c59]; decide))
  · obtain ⟨m, hG⟩ := hG
    refine ⟨m, (fun j => w1.1 179 j), (fun j => w1.1 180 j), ?_, fun j j0 j1 => by omega⟩
    rw [c21, c4, c11]
    exact hG
/-- the places while the tops are laid; place 0 is the root -/
def StL (v : MW) (S : Int) (b : MW) (la : Int) (w' : MW) : Prop := BND w' ∧ FR lly b w' ∧ 1 ≤ plc w' ∧ plc w' ≤ 1 + S ∧ (∀ j, 0 < j → j < plc w' → POk v w' (plc w') j) ∧ (o7 w' 0 = -1 ∧ o0 w' 0 = 1 ∧ o9 w' 0 = -1) ∧ ((la = -1 ∧ o8 w' 0 = -1) ∨ (0 < la ∧ la < plc w' ∧ 0 < o8 w' 0 ∧ o8 w' 0 < plc w'))
theorem sq_rec {v b w2 w3 : MW} {S m la : Int} {r : Int32} (h : StL v S b la w2) (t : LyO v m w2 r w3) : StL v (S + m) b la w3 := by
  have h3 := h.2.2.1
  have h4 := h.2.2.2.1
  have t4 := t.2.2.2.1
  have t5 := t.2.2.2.2.1
  have u := t.2.2.2.2.2.1 0 (by omega) (by omega)
  have L := h.2.2.2.2.2.2
  refine ⟨t.1, h.2.1.tr t.2.1 rfl, by omega, by omega, fun j j0 j1 => ?_, ?_, ?_⟩
  · by_cases c : j < plc w2
    · exact pok_up (h.2.2.2.2.1 j j0 c) t.2.2.2.2.2.1 (by omega) c (by omega)
    · exact t.2.2.2.2.2.2 j (by omega) j1
  · rw [u.1, u.2.2.1, u.2.2.2]
    exact h.2.2.2.2.2.1
  · rw [u.2.1]
    omega
theorem sq_9 {v b w' : MW} {S la : Int} {r : Int32} (h : StL v S b la w') (ha : ¬ la = -1) (hl : la < r.toInt) (hr : r.toInt < plc w') : StL v S b r.toInt (sI w' 209 la.toNat r) := by
  have hB := bd_127_60 h.1
  have hp : (w'.1 127 60).toInt = plc w' := rfl
  have L := h.2.2.2.2.2.2
  have e7 : ∀ x, o7 (sI w' 209 la.toNat r) x = o7 w' x := fun x => rfl
  have e8 : ∀ x, o8 (sI w' 209 la.toNat r) x = o8 w' x := fun x => rfl
  have e0 : ∀ x, o0 (sI w' 209 la.toNat r) x = o0 w' x := fun x => rfl
  have ep : plc (sI w' 209 la.toNat r) = plc w' := rfl
  have e9 : ∀ x, 0 ≤ x → o9 (sI w' 209 la.toNat r) x = if x = la then r.toInt else o9 w' x := fun x x0 => o9_set (by omega) x0
  refine ⟨wbd_209 h.1 _ (by omega) (by omega), FR.I h.2.1 rfl, h.2.2.1, h.2.2.2.1, fun j j0 j1 => ?_, ?_, ?_⟩
  · rw [ep] at j1 ⊢
    exact pok_9 (h.2.2.2.2.1 j j0 j1) (by omega) (by omega) hl hr
  · rw [e7, e0, e9 0 (by omega), if_neg (by omega)]
    exact h.2.2.2.2.2.1
  · right
    rw [e8, ep]
    omega
theorem sq_8 {v b w' : MW} {S la : Int} {r : Int32} (h : StL v S b la w') (hl : 0 < r.toInt) (hr : r.toInt < plc w') : StL v S b r.toInt (sI w' 208 (0 : Int).toNat r) := by
  have hB := bd_127_60 h.1
  have hp : (w'.1 127 60).toInt = plc w' := rfl
  have e7 : ∀ x, o7 (sI w' 208 (0 : Int).toNat r) x = o7 w' x := fun x => rfl
  have e9 : ∀ x, o9 (sI w' 208 (0 : Int).toNat r) x = o9 w' x := fun x => rfl
  have e0 : ∀ x, o0 (sI w' 208 (0 : Int).toNat r) x = o0 w' x := fun x => rfl
  have ep : plc (sI w' 208 (0 : Int).toNat r) = plc w' := rfl
  have e8i : o8 (sI w' 208 (0 : Int).toNat r) 0 = r.toInt := by unfold o8; rw [sI_same]
  refine ⟨wbd_208 h.1 _ (by omega) (by omega), FR.I h.2.1 rfl, h.2.2.1, h.2.2.2.1, fun j j0 j1 => ?_, ?_, ?_⟩
  · rw [ep] at j1 ⊢
    exact pok_8 (h.2.2.2.2.1 j j0 j1) (by omega) (by omega) (by omega)
  · rw [e7, e0, e9]
    exact h.2.2.2.2.2.1
  · right
    rw [e8i, ep]
    omega
theorem sq_0 {v w : MW} (hI : BND w) : StL v 0 w (-1) (sI (sI (sI (sI (sI w 127 60 1) 207 0 (-1)) 210 0 (vp_nar .boolean (1 : Int32))) 208 0 (-1)) 209 0 (-1)) := by
  refine ⟨wbd_209 (wbd_208 (wbd_210 (wbd_207 (wbd_127_60 hI (by decide) (by decide)) _ (by decide) (by decide)) _ (by decide) (by decide)) _ (by decide) (by decide)) _ (by decide) (by decide), FR.I (FR.I (FR.I (FR.I (FR.I (FR.refl lly w) rfl) rfl) rfl) rfl) rfl, ?_, ?_, fun j j0 j1 => ?_, ?_, ?_⟩
  · show 1 ≤ (1 : Int32).toInt
    decide
  · show (1 : Int32).toInt ≤ 1 + 0
    decide
  · have q : j < (1 : Int32).toInt := j1
    rw [i_1] at q
    omega
  · refine ⟨?_, ?_, ?_⟩
    · show (-1 : Int32).toInt = -1
      decide
    · show (vp_nar .boolean (1 : Int32)).toInt = 1
      exact nb_bool1
    · show (-1 : Int32).toInt = -1
      decide
  · left
    refine ⟨rfl, ?_⟩
    show (-1 : Int32).toInt = -1
    decide
theorem sq_134 {b : MW} {c : Int → Int} {E : MW → Prop} {Q : Int32 → MW → Prop} (hb : BND b) (hT : TLb (fl b)) (hc : CST (fl b) c) (hE : ∀ (la : Int) (w' : MW), StL (fl b) 500 b la w' → E w') (n : Nat) : ∀ (la t : Int32) (w : MW), StL (fl b) (csum (ctp (fl b) c) t.toInt.toNat) b la.toInt w → 0 ≤ t.toInt → t.toInt ≤ ((fl b).1 129 23).toInt → (((fl b).1 129 23).toInt - t.toInt).toNat < n → q_Mo_start_134 E Q n la t w := by
  induction n with
  | zero => intros; omega
  | succ n ih =>
    intro la t w hL t0 t1 hm
    have bv := fl_b hb
    have b23 := bd_129_23 bv
    have b13 := bd_129_13 bv
    have hF := hL.2.1
    have e31 : w.1 129 31 = (fl b).1 129 23 := (hF 129 31 rfl).1
    have b12 := bd_129_12 hL.1
    have fp : ∀ x, 0 ≤ ctp (fl b) c x := fun x => by
      unfold ctp
      by_cases q : Kb (fl b) (topB (fl b) x) = 24
      · rw [if_pos q]; exact Int.le_refl _
      · rw [if_neg q]; exact hc.1 _
    have le1 := csum_le fp (m := t.toInt.toNat) (n := ((fl b).1 129 23).toInt.toNat) (by omega)
    have hC := hc.2.2
    rw [q_Mo_start_134.eq_2, e31]
    refine ⟨fun _ => hE la.toInt w ⟨hL.1, hL.2.1, hL.2.2.1, by have := hL.2.2.2.1; omega, hL.2.2.2.2⟩, fun d => ?_⟩
    have e := nd_ix (n := t) hL.1 t0 (by omega)
    have hTt := hT.2.1 t.toInt t0 (by omega)
    have et : (w.1 138 ((((300 : Int32) * (w.1 129 12)) + t).toInt.toNat)).toInt = topB (fl b) t.toInt := by
      unfold topB
      rw [fl_h hb, e, (hF 138 _ rfl).1, (hF 129 12 rfl).1]
      rfl
    generalize (w.1 138 ((((300 : Int32) * (w.1 129 12)) + t).toInt.toNat)) = tp at *
    refine ⟨⟨by omega, by omega⟩, Eq.mpr (p_Tx_node1.eq_1 _ _ _) ?_⟩
    have e2 := nd_ix (n := tp) hL.1 (by omega) (by omega)
    have en2 : (((300 : Int32) * (w.1 129 12)) + tp).toInt.toNat = nd1 w tp.toInt := by rw [e2]; rfl
    have s1 := ti_add2 (Eq.refl t.toInt) i_1 (by omega) (by omega)
    have ek : (t + (1 : Int32)).toInt.toNat = t.toInt.toNat + 1 := by omega
    have qk : ((t.toInt.toNat : Nat) : Int) = t.toInt := by omega
    have eS : csum (ctp (fl b) c) (t + (1 : Int32)).toInt.toNat = csum (ctp (fl b) c) t.toInt.toNat + ctp (fl b) c t.toInt := by rw [ek, csum_s, qk]
    have le2 := csum_le fp (m := (t + (1 : Int32)).toInt.toNat) (n := ((fl b).1 129 23).toInt.toNat) (by omega)
    have sp := (csum_le fp (m := 0) (n := t.toInt.toNat) (by omega))
    rw [csum_0] at sp
    have b24 := bd_131 bv (nb (fl b) (topB (fl b) t.toInt))
    have hKb : ((fl b).1 131 (nb (fl b) (topB (fl b) t.toInt))).toInt = Kb (fl b) (topB (fl b) t.toInt) := rfl
    have h4 := hL.2.2.2.1
    have h3 := hL.2.2.1
    rw [en2, ly_K hb hF, et]
    refine ⟨⟨by omega, by omega⟩, fun k => ih la _ w ?_ (by omega) (by omega) (by omega), fun k => ?_⟩
    · rw [eS, ctp_y k, Int.add_zero]
      exact hL
    · have ct := ctp_n (c := c) k
      have hlay := ly_all hb hT.1 hc 510
      refine hlay tp w _ (by omega) (by omega) (by omega) (by rw [et]; omega) (by rw [et]; omega) hL.1 hF (by rw [et]; omega) (by rw [et]; omega) (fun r w3 t3 => ?_)
      rw [et] at t3
      have L3 := sq_rec hL t3
      have t3r := t3.2.2.1
      have t34 := t3.2.2.2.1
      have Lx := hL.2.2.2.2.2.2
      have b603 := bd_127_60 t3.1
      have hpl3 : (w3.1 127 60).toInt = plc w3 := rfl
      refine Eq.mpr (p_Mo_hang.eq_1 _ _ _ _ _) ⟨fun a => ⟨⟨by omega, by omega⟩, ih r _ _ ?_ (by omega) (by omega) (by omega)⟩, fun a => ⟨⟨by decide, by decide⟩, ih r _ _ ?_ (by omega) (by omega) (by omega)⟩⟩
      · rw [eS, ct]
        exact sq_9 L3 a (by omega) (by omega)
      · rw [eS, ct]
        exact sq_8 L3 (by omega) (by omega)
def MdJ (w : MW) : Prop := MdI w ∧ TLx w ∧ VG w
theorem sq_qp {b w w1 : MW} {la : Int} (hb : BND b) (h : StL (fl b) 500 b la w) (e : w1 = sI w 213 0 (w.1 208 0)) : BND w1 ∧ QP w1 ∧ QS w1 := by
  have b60 := bd_127_60 h.1
  have hp : (w.1 127 60).toInt = plc w := rfl
  have L := h.2.2.2.2.2.2
  have R := h.2.2.2.2.2.1
  have b0 := bd_208 h.1 0
  have hB : BND w1 := by rw [e]; exact wbd_213 h.1 _ b0.1 b0.2
  have q60 : w1.1 127 60 = w.1 127 60 := by rw [e]; rfl
  have q207 : ∀ j, w1.1 207 j = w.1 207 j := fun j => by rw [e]; rfl
  have q208 : ∀ j, w1.1 208 j = w.1 208 j := fun j => by rw [e]; rfl
  have q209 : ∀ j, w1.1 209 j = w.1 209 j := fun j => by rw [e]; rfl
  have q210 : ∀ j, w1.1 210 j = w.1 210 j := fun j => by rw [e]; rfl
  have q213 : w1.1 213 0 = w.1 208 0 := by rw [e]; exact sI_same _ _ _ _
  have q30 : w1.1 129 30 = (fl b).1 129 13 := by rw [e]; exact (h.2.1 129 30 rfl).1
  have qW : ∀ n : Int32, Wn w1 n = Kb (fl b) n.toInt := fun n => by
    have z := ly_K hb h.2.1 n.toInt
    rw [← z, e]
    rfl
  have z8 : (w.1 208 0).toInt = o8 w 0 := rfl
  have z7 : (w.1 207 0).toInt = o7 w 0 := rfl
  have z9 : (w.1 209 0).toInt = o9 w 0 := rfl
  have z0 : (w.1 210 0).toInt = o0 w 0 := rfl
  refine ⟨hB, fun i i0 i1 => ?_, ?_, ?_, ?_, fun i i0 i1 => ?_⟩
  · rw [q60] at i1 ⊢
    rw [q207, q208, q209, q210, qW]
    by_cases c : i.toInt = 0
    · have ei : i.toInt.toNat = 0 := by omega
      rw [ei, q213, c]
      exact ⟨by omega, by omega, fun _ => by omega, fun d => by omega⟩
    · have P := h.2.2.2.2.1 i.toInt (by omega) i1
      have p0 : (w.1 210 i.toInt.toNat).toInt = 0 := P.2.1
      exact ⟨P.2.2.1, P.2.2.2.1, fun d => absurd p0 d, fun _ k => P.2.2.2.2.1 (Or.inr (Or.inl k))⟩
  · rw [q60]
    exact h.2.2.1
  · rw [q207]
    exact R.1
  · rw [q210]
    have := R.2.1
    omega
  · rw [q60] at i1
    have P := h.2.2.2.2.1 i.toInt i0 i1
    rw [q207, q208, q209, q30, qW]
    refine ⟨P.1.1, P.1.2.1, P.1.2.2.1, fun k => P.2.2.2.2.1 ?_, fun k => P.2.2.2.2.2 k⟩
    have k' : Kb (fl b) (o7 w i.toInt) = 15 ∨ Kb (fl b) (o7 w i.toInt) = 17 := k
    omega
theorem sq_223 {E : MW → Prop} {Q : Int32 → MW → Prop} (n : Nat) : ∀ (x : Int32) (w : MW), BND w → 0 ≤ x.toInt → x.toInt ≤ 40 → (40 - x.toInt).toNat < n → (∀ w', BND w' → FR [(206, none)] w w' → E w') → q_Mo_start_223 E Q n x w := by
  induction n with
  | zero => intros; omega
  | succ n ih =>
    intro x w hI x0 x1 hm hE
    have b12 := bd_129_12 hI
    have b32 := bd_129_32 hI
    rw [q_Mo_start_223.eq_2]
    refine ⟨fun _ => hE w hI (FR.refl _ w), fun c => ?_⟩
    have s1 := ti_add2 (Eq.refl x.toInt) i_1 (by omega) (by omega)
    have N : ∀ v : Int64, q_Mo_start_223 E Q n (x + (1 : Int32)) (sJ w 206 x.toInt.toNat v) := fun v => ih _ _ (bnd_J hI) (by omega) (by omega) (by omega) (fun w' h' f' => hE w' h' ((FR.J (FR.refl _ w) rfl : FR [(206, none)] w _).tr f' rfl))
    have hr : 0 ≤ x.toInt ∧ x.toInt < 40 := ⟨by omega, by omega⟩
    have A : ∀ y : Int32, q_Mo_start_264 x y w (fun (x223_3 : Int32) (w : MW) => q_Mo_start_223  E Q n x223_3 w) E Q := fun y => Eq.mpr (q_Mo_start_264.eq_1 _ _ _ _ _ _) ⟨fun _ => ⟨hr, N _⟩, fun _ => ⟨hr, hr, N _⟩⟩
    refine Eq.mpr (p_Mo_isRole.eq_1 _ _ _ _) ⟨fun _ => ⟨fun _ => A 0, fun c => absurd i_0 c⟩, fun _ => ⟨fun _ => ⟨fun _ => A 0, fun c => absurd i_0 c⟩, fun d => ?_⟩⟩
    have ix := dd_ix (n := x) hI x0 (by omega)
    exact ⟨⟨by omega, by omega⟩, fun _ => ⟨fun _ => A 0, fun c => absurd i_0 c⟩, fun _ => ⟨fun c => absurd c (by decide), fun _ => ⟨hr, fun _ => A 0, fun _ => ⟨hr, fun _ => A 0, fun _ => A 1⟩⟩⟩⟩
def lst : Pl := [(127, some 26), (167, none), (181, none), (182, none), (183, none), (184, none), (185, none), (186, none), (187, none), (127, some 60), (207, none), (208, none), (209, none), (210, none), (213, none), (206, none), (127, some 59), (127, some 74), (127, some 79)]
theorem sq_97 {w0 w : MW} {Q : Int32 → MW → Prop} (hI : BND w) (hT : TLx w) (hV : VG w) (hP : PF w) (h0 : FR lst w0 w) (hQ : ∀ w', MdJ w' → FR lst w0 w' → Q 1 w') : q_Mo_start_97 w Q := by
  obtain ⟨c, hc⟩ := hT.2.2
  have b23 := bd_129_23 (fl_b hI)
  refine Eq.mpr (q_Mo_start_97.eq_1 _ _) (sq_134 hI hT hc (fun la w18 h18 => ?_) FU (-1) 0 _ ?_ (by decide) (by rw [i_0]; exact b23.1) (fu_lt (by rw [i_0]; omega)))
  · have z := sq_qp hI h18 rfl
    have F1 : FR lst w0 (sI w18 213 0 (w18.1 208 0)) := FR.I (h0.tr h18.2.1 rfl) rfl
    have F2 : FR [(127, some 60), (207, none), (208, none), (209, none), (210, none), (213, none)] w (sI w18 213 0 (w18.1 208 0)) := FR.I ((FR.refl _ w).tr h18.2.1 rfl) rfl
    generalize (sI w18 213 0 (w18.1 208 0)) = w1 at *
    refine sq_223 FU 0 w1 z.1 (by decide) (by decide) (fu_lt (by decide)) (fun w30 h30 f30 => ?_)
    have F3 : FR [(206, none), (127, some 59), (127, some 74), (127, some 79)] w1 (sI (sI (sI w30 127 59 0) 127 74 0) 127 79 0) := FR.I (FR.I (FR.I ((FR.refl _ w1).tr f30 rfl) rfl) rfl) rfl
    have B3 : BND (sI (sI (sI w30 127 59 0) 127 74 0) 127 79 0) := wbd_127_79 (wbd_127_74 (wbd_127_59 h30 (by decide) (by decide))) (by decide) (by decide)
    generalize (sI (sI (sI w30 127 59 0) 127 74 0) 127 79 0) = w3 at *
    have T1 : TLx w1 := tlx_fr hI F2 rfl hT
    have T3 : TLx w3 := tlx_fr z.1 F3 rfl T1
    have V3 : VG w3 := by
      unfold VG
      rw [(F3 129 8 rfl).2.1, (F2 129 8 rfl).2.1]
      exact hV
    have P3 : PF w3 := PF_fr F3 rfl (PF_fr F2 rfl hP)
    exact hQ w3 ⟨⟨B3, (tl_tex B3 T3).1, (tl_tex B3 T3).2, P3, fun _ => ⟨QP_fr F3 rfl z.2.1, QS_fr F3 rfl (F3 210 0 rfl).1 z.2.2⟩⟩, T3, V3⟩ (F1.tr F3 rfl)
  · rw [i_0, i_m1]
    show StL (fl w) (csum _ 0) w (-1) _
    rw [csum_0]
    exact sq_0 hI
theorem sq_4 {w : MW} {E : Int32 → MW → Prop} {Q : Int32 → MW → Prop} (hI : BND w) (hE : ∀ x : Int32, E x w) (n : Nat) : ∀ (x t : Int32), 0 ≤ t.toInt → t.toInt ≤ 300 → (300 - t.toInt).toNat < n → q_Mo_start_4 E Q n x t w := by
  induction n with
  | zero => intros; omega
  | succ n ih =>
    intro x t t0 t1 hm
    have b31 := bd_129_31 hI
    have b12 := bd_129_12 hI
    rw [q_Mo_start_4.eq_2]
    refine ⟨fun _ => hE x, fun c => ?_⟩
    have s1 := ti_add2 (Eq.refl t.toInt) i_1 (by omega) (by omega)
    have N : ∀ y : Int32, q_Mo_start_4 E Q n y (t + (1 : Int32)) w := fun y => ih _ _ (by omega) (by omega) (by omega)
    have e := nd_ix (n := t) hI t0 (by omega)
    have b138 := bd_138 hI ((((300 : Int32) * (w.1 129 12)) + t).toInt.toNat)
    refine ⟨fun _ => N 1, fun _ => ⟨⟨by omega, by omega⟩, Eq.mpr (p_Tx_node1.eq_1 _ _ _) ?_⟩⟩
    have e2 := nd_ix (n := w.1 138 ((((300 : Int32) * (w.1 129 12)) + t).toInt.toNat)) hI b138.1 (by omega)
    exact ⟨⟨by omega, by omega⟩, fun _ => N 0, fun _ => N 1⟩
theorem h_Mo_start {w : MW} {Q : Int32 → MW → Prop} (h : MdJ w) (hQ : ∀ (r : Int32) (w' : MW), MdJ w' → FR lst w w' → 0 ≤ r.toInt → r.toInt ≤ 1 → Q r w') : p_Mo_start w Q := by
  have hP := h.1.2.2.2.1
  have K : p_Mo_closeAll w (fun w10 => (q_Mo_start_97  w10 Q)) := h_Mo_closeAll h.1.1 hP.2.1 hP.2.2.1 (fun w1 h1 f1 t1 k1 => sq_97 h1 (tlx_fr h.1.1 f1 rfl h.2.1) (by unfold VG; rw [(f1 129 8 rfl).2.1]; exact h.2.2) ⟨DR_fr f1 rfl hP.1, t1, k1, MC_fr f1 rfl hP.2.2.2.1, MZ_fr f1 rfl hP.2.2.2.2.1, RP_fr f1 rfl hP.2.2.2.2.2.1, SZ_fr f1 rfl hP.2.2.2.2.2.2⟩ ((FR.refl lst w).tr f1 rfl) (fun w' h' f' => hQ 1 w' h' f' (by decide) (by decide)))
  refine Eq.mpr (p_Mo_start.eq_1 _ _) (sq_4 h.1.1 (fun x => ⟨fun _ => ⟨fun _ => K, fun _ => ⟨fun _ => sq_97 h.1.1 h.2.1 h.2.2 hP (FR.refl lst w) (fun w' h' f' => hQ 1 w' h' f' (by decide) (by decide)), fun _ => K⟩⟩, fun _ => hQ 0 w h (FR.refl lst w) (by decide) (by decide)⟩) FU 0 0 (by decide) (by decide) (fu_lt (by decide)))
