/-! a way is opened: the pair -/
theorem ex_find {w : MW} {a b : Int32} {Q : Int32 → MW → Prop} (h : p_Mo_find w a b Q) : ∃ r w', Q r w' := by
  have q := dm_Mo_find (d := 0) h
  unfold Tc Tm at q
  obtain ⟨v, w', _, r, _, _, q⟩ := q
  exact ⟨r, w', q⟩
theorem fn_pa {v w z v5 w5 : MW} {x y : Int} {es : List Nat} (hr : HRq (mx v w)) (bz : BsZ w z) (P : 0 ≤ pM w) (fc : FnC v (NNd w) (ADc (mx v w)) x y v5) (pm : PaM z (NNd w) x y es w5) : (es.length : Int) = (v5.1 26 15).toInt ∧ ∀ (i e : Nat), es[i]? = some e → v5.1 39 i = nI (xo e) := by
  have eN : ∀ e, e < NNd w → (e : Int) < 2 * pM w := fun e he => by
    unfold NNd at he
    omega
  obtain ⟨LL, LP, lx, hl, e0, m, ps, pr, lp, l24, l1, p1, p2, wn⟩ := pm
  have h1 : ∀ e, e < NNd w → szC v e = szM z e := fun e he => sz_two hr bz (eN e he)
  have h2 : ∀ e g, e < NNd w → g < NNd w → (ADc (mx v w) e g ↔ ADm z e g) := fun e g he hg => ad_two hr bz (eN e he) (eN g hg)
  have lc := lx_cg (Bs' := BsC v y) h1 h2 (fun e he => bs_two hr bz P (eN e he)) lx
  refine (fc LL LP lc hl).1 e0 m es ⟨ps.1, ?_, ps.2.2.1, fun g hg ag gn => ps.2.2.2 g hg ?_ gn⟩ (by rw [lp]; omega) (pth_cg h1 h2 m e0 es ps.1 pr)
  · rw [at_two hr bz (eN e0 ps.1)]
    exact ps.2.1
  · rw [← at_two hr bz (eN g hg)]
    exact ag
theorem es_u {es es' : List Nat} {g : Nat → Int32} (l : es.length = es'.length) (b : ∀ i, i < es.length → enL es i < 48) (b' : ∀ i, i < es'.length → enL es' i < 48) (h : ∀ (i e : Nat), es[i]? = some e → g i = nI (xo e)) (h' : ∀ (i e : Nat), es'[i]? = some e → g i = nI (xo e)) : es' = es := by
  apply List.ext_getElem?
  intro i
  by_cases c : i < es.length
  · have q := h i _ (enL_s c)
    have c' : i < es'.length := by omega
    have q' := h' i _ (enL_s c')
    rw [enL_s c, enL_s c']
    have x1 := xo48 (b i c)
    have x2 := xo48 (b' i c')
    rw [q] at q'
    have e := congrArg Int32.toInt q'
    rw [nI_toInt (by omega), nI_toInt (by omega)] at e
    have e2 : xo (enL es i) = xo (enL es' i) := by omega
    have e3 := congrArg xo e2
    rw [xo_x, xo_x] at e3
    rw [e3]
  · rw [List.getElem?_eq_none (by omega), List.getElem?_eq_none (by omega)]
/-- positions as the way wants them, as a world -/
def poW (w5 : MW) : MW := (fun k j => if k = 167 then nwP w5 j else w5.1 k j, w5.2)
/-- what stands behind openFound, with a row on the other side -/
theorem op_row {v w z w5 y v17 w' : MW} {a b c l : Int32} {es : List Nat} (hv : BND v) (hw : BND w) (hr : HRq (mx v w)) (ta : 0 ≤ a.toInt ∧ a.toInt < tM w ∧ tkM w a.toInt) (tb : 0 ≤ b.toInt ∧ b.toInt < tM w ∧ tkM w b.toInt) (ab : ¬ a.toInt = b.toInt) (hc : 1 ≤ c.toInt ∧ c.toInt ≤ 100) (hl : 1 ≤ l.toInt ∧ l.toInt ≤ 14) (bz : BsZ w z) (om : oM z w5) (pf : PaF w z w5 a.toInt b.toInt es.length (enL es)) (my : MyA v (tM w).toNat b l es) (W24 : (w.1 127 26).toInt < 24) (oc : OcF v v17 (w.1 127 26).toInt.toNat es.length (enL es) (fun i => (atM w (enL es (i + 1))).toNat) a b c l) (yr : ∀ k j, ¬ k = 194 → ¬ k = 190 → ¬ k = 167 → y.1 k j = w5.1 k j) (y167 : ∀ t : Nat, (t : Int) < tM w → y.1 167 t = nwP w5 t) (rm : RowM y (w.1 127 26).toInt.toNat es.length a b c l w') : OpF (mx v w) (mx v17 w') w5 (w.1 127 26).toInt.toNat es.length (enL es) a b c l ∧ HRq (mx v17 w') ∧ ∀ t : Nat, 0 ≤ (v17.1 16 t).toInt ∧ (v17.1 16 t).toInt ≤ 9 := by
  have T := hb_T hw
  have P := hb_P hw
  have b26 := bd_127_26 hw
  have pb : PB (mx v w) := PB_b (BND_mx hv hw)
  have pa := pa_u hr bz pf
  have omf : OmF w w' w5 (w.1 127 26).toInt.toNat es.length (enL es) a b c l := om_mk T bz om pf.2.1 pf.1.2 (fun i hi => (pf.2.2.1 i hi).1) yr y167 rm
  have of := op_mk hr (by omega) (by omega) oc omf
  have h17 : ∀ i, i < es.length → (mx v w).1 17 ((tM (mx v w)).toNat + enL es i / 2) = 0 ∨ (mx v w).1 17 ((tM (mx v w)).toNat + enL es i / 2) = l := fun i hi => by
    show v.1 17 ((tM w).toNat + enL es i / 2) = 0 ∨ v.1 17 ((tM w).toNat + enL es i / 2) = l
    rcases my.2 i hi with q | q
    · exact Or.inr q.2
    · exact Or.inl (i32_z q.1)
  refine ⟨of, op_hr (u := mx v w) T P hr pb ta tb ab hc hl h17 pa of (fun j => ?_), fun t => ?_⟩
  · rw [mx_j _ _ (by decide), mx_j _ _ (by decide), oc.2.1]
  · by_cases ht : (t : Int) < tM w
    · exact (op_t (u := mx v w) T hr.1 pb hr.2.1.1 hr.2.2.2 pa of ht).2.1
    · have q := (oc.2.2.2.2.2.2.2.2 t (fun j hj e => ht ?_)).2
      · rw [q]
        exact bd_16 hv t
      · have e' : (atM w (enL es (j + 1))).toNat = t := e
        obtain ⟨m, al⟩ := pa.2.2.2.1 j hj
        have a1 := (pa.2.1 (j + 1) hj).1
        have a1' : ((enL es (j + 1) : Nat) : Int) < 2 * pM w := a1
        have q1 := (hr.1.2.1.1 (enL es (j + 1)) (by have q : pC (mx v w) = pM w := hr.1.1.2.1; rw [q]; exact a1')).1
        have q2 : atC (mx v w) (enL es (j + 1)) = atM w (enL es (j + 1)) := (hr.1.1.2.2.2 _ a1).1
        have q3 : tC (mx v w) = tM w := hr.1.1.1
        rw [q2, q3] at q1
        have a0 : 0 ≤ atM w (xo (enL es j)) := al.1
        have a2 : atM w (enL es (j + 1)) = atM w (xo (enL es j)) := al.2.1
        omega
/-- the end of opening on both sides -/
theorem op_core {v w z w5 v17 v18 w' : MW} {a b c l r18 r' : Int32} {es : List Nat} (hv : BND v) (hw : BND w) (hr : HRq (mx v w)) (ta : 0 ≤ a.toInt ∧ a.toInt < tM w ∧ tkM w a.toInt) (tb : 0 ≤ b.toInt ∧ b.toInt < tM w ∧ tkM w b.toInt) (ab : ¬ a.toInt = b.toInt) (hc : 1 ≤ c.toInt ∧ c.toInt ≤ 100) (hl : 1 ≤ l.toInt ∧ l.toInt ≤ 14) (bz : BsZ w z) (om : oM z w5) (pf : PaF w z w5 a.toInt b.toInt es.length (enL es)) (my : MyA v (tM w).toNat b l es) (W24 : (w.1 127 26).toInt < 24) (oc : OcF v v17 (w.1 127 26).toInt.toNat es.length (enL es) (fun i => (atM w (enL es (i + 1))).toNat) a b c l) (sc : SfC v17 r18 v18) (os : oSf v17 v18) (mo : MO7 v w5 a b c l es r' w') : (r18 = 1 ∧ r' = 0 ∧ HRq (mx v18 w')) ∨ (r18 = 0 ∧ r' = 7 ∧ (∀ k j, hit lUn k j = false → w'.1 k j = w.1 k j) ∧ ∀ t : Nat, (t : Int) < tM w → w'.1 167 t = w.1 167 t) := by
  have T := hb_T hw
  have P := hb_P hw
  have b26 := bd_127_26 hw
  have a5 := fun m hm => ag5 bz om m hm
  have t5 : tM w5 = tM w := by
    unfold tM
    rw [a5 [(127, some 4)] rfl 127 4 rfl]
  obtain ⟨wl, w21, w35, w36, r36, lk, o21, f21, po, sm, res⟩ := mo
  rw [t5] at f21 po
  have r21 : ∀ k j, ¬ k = 194 → w21.1 k j = w5.1 k j := fun k j hk => by
    rw [o21.2 k j hk, sI_oth _ _ _ _ _ _ hk, lk.1.2 k j hk]
  have yr : ∀ k j, ¬ k = 194 → ¬ k = 190 → ¬ k = 167 → w35.1 k j = w5.1 k j := fun k j h1 h2 h3 => by
    rw [po.2.1 k j h2 h3, r21 k j h1]
  have y167 : ∀ t : Nat, (t : Int) < tM w → w35.1 167 t = nwP w5 t := fun t ht => by
    rw [(po.2.2.1 t ht).2]
    unfold nwP
    rw [r21 163 t (by decide), r21 192 t (by decide), r21 167 t (by decide)]
  have e26 : w35.1 127 26 = w.1 127 26 := by
    rw [yr 127 26 (by decide) (by decide) (by decide)]
    exact a5 [(127, some 26)] rfl 127 26 rfl
  have row := fun w'' (rm : RowM w35 (w.1 127 26).toInt.toNat es.length a b c l w'') => op_row hv hw hr ta tb ab hc hl bz om pf my W24 oc yr y167 rm
  have pa := pa_u hr bz pf
  obtain ⟨of, hq, b16⟩ := row _ (rw_w w35 (w.1 127 26).toInt.toNat es.length a b c l)
  generalize hW : rwW w35 (w.1 127 26).toInt.toNat es.length a b c l = w40 at of hq
  have rm40 : RowM w35 (w.1 127 26).toInt.toNat es.length a b c l w40 := by
    rw [← hW]
    exact rw_w _ _ _ _ _ _ _
  have ag40 : ∀ m : Pl, off [(127, some 26), (181, none), (182, none), (183, none), (184, none), (185, none), (186, none), (187, none)] m = true → Ag m (mx v17 w40) (mx v17 w35) := fun m hm => mx_ag (fun k j hk => ⟨fun _ => rfl, fun _ => (rm40.1 m hm k j hk).symm⟩)
  have m1 : tM (mx v17 w40) = tM w := (tM_m (of.1 lPm rfl)).1
  have m2 : pM (mx v17 w40) = pM w := (tM_m (of.1 lPm rfl)).2.1
  have e17 : ∀ j, (mx v17 w40).1 17 j = v.1 17 j := fun j => of.1 [(17, none)] rfl 17 j rfl
  have wnt5 : ∀ k x, wnt w5 k x ↔ wnt (mx v w) k x := fun k x => wnt_a (ag_t (mx_am v w rfl) (a5 lIn rfl)) k x
  have n5 : w5.1 127 26 = w.1 127 26 := a5 [(127, some 26)] rfl 127 26 rfl
  have p5 : pM w5 = pM w := by
    unfold pM
    rw [a5 [(127, some 11)] rfl 127 11 rfl]
  have e194 : ∀ x, (mx v17 w40).1 194 x = w21.1 194 x := fun x => by
    rw [mx_m _ _ (by decide), rm40.1 [(194, none)] rfl 194 x rfl]
    exact po.2.1 194 x (by decide) (by decide)
  have ins : INs (mx v17 w40) := by
    refine op_ins (u := mx v w) (g := fun x => wl.1 194 x) hr.2.2.2.1 (fun i hi => ?_) T tb.1 of (fun x hx => ?_) (fun x q => ?_) (fun x q => ?_) (fun x q => ?_)
    · have := (pf.2.2.1 i hi).2.1
      omega
    · have L := lk.2 x (by rw [t5, p5]; exact hx)
      rcases L with L | ⟨L1, ⟨L2, L3⟩ | ⟨k, L2, L3⟩⟩
      · exact Or.inl L
      · refine Or.inr ⟨L1, Or.inl ⟨L2, fun k hk want => L3 k ⟨?_, (wnt5 k x).mpr want⟩⟩⟩
        rw [n5]
        omega
      · have L2a := L2.1
        rw [n5] at L2a
        refine Or.inr ⟨L1, Or.inr ⟨k, by omega, (wnt5 k x).mp L2.2, ?_⟩⟩
        show wl.1 194 x = w.1 183 k
        rw [L3]
        exact a5 [(183, none)] rfl 183 k rfl
    · rw [e194]
      by_cases q2 : ∃ i, i < es.length ∧ x = (tM w).toNat + enL es i / 2
      · exact (f21 x).1 q2
      · rw [(f21 x).2 (fun i hi e => q2 ⟨i, hi, e⟩)]
        rcases q with q | q
        · rw [q, sI_same]
        · exact absurd q q2
    · rw [e194, (f21 x).2 (fun i hi e => q (Or.inr ⟨i, hi, e⟩)), sI_if, if_neg (fun e => q (Or.inl e))]
    · show v.1 17 x = 0 ∨ v.1 17 x = l
      rcases q with q | ⟨i, hi, q⟩
      · rw [q]
        rcases my.1 with z | z
        · exact Or.inr z.2
        · exact Or.inl (i32_z z.1)
      · have q' : x = (tM w).toNat + enL es i / 2 := q
        rw [q']
        rcases my.2 i hi with z | z
        · exact Or.inr z.2
        · exact Or.inl (i32_z z.1)
  have hy := hq.2.2.2
  have sr40 : SRr (mx v17 w40) := sr_x (by rw [m1]; exact T) (by rw [m2]; exact P) hq.1.1.1 hq.1.1.2.1 (fun x => by rw [e17]; exact bd_17 hv x) hy.1 hy.2.1 hy.2.2.1 hy.2.2.2.1 hy.2.2.2.2.2 ins
  have sr35 : SRr (mx v17 w35) := SRr_g (ag40 _ rfl) (fun k j hk => by rw [mx_c _ _ hk, mx_c _ _ hk]) sr40
  have pc : Ag lPc v v17 := fun k j hk => oc.1 k j (lo_lt (l := lPc) rfl hk) (off_hit (l := lOw) (d := lPc) rfl hk)
  have pb : PB (mx v17 w35) := PB_p (ag_t pc (ag_s (mx_ac v17 w35 rfl))) (fun t => by rw [mx_c _ _ (by decide)]; exact b16 t) (PB_b hv)
  have h11 : ∀ t : Nat, 0 ≤ (v17.1 11 t).toInt := fun t => by
    rw [pc 11 t rfl]
    exact (bd_11 hv t).1
  rcases sf_mx (HPl_ag (ag40 lPL rfl) hq.1) (HTb_ag (ag40 lTq rfl) hq.2.1) pb h11 sr35 sc sm with ⟨q1, q2, _, q4⟩ | ⟨q1, q2, f, x, y, u, q3, _⟩
  · rcases res with ⟨s1, s2, s3, s4, s5⟩ | ⟨s1, _⟩
    · rw [e26] at s5
      obtain ⟨_, hq', _⟩ := row w' s5
      refine Or.inl ⟨q1, s2, ?_⟩
      have ag : ∀ m : Pl, off [(42, none), (44, none)] m = true → Ag m (mx v17 w') (mx v18 w') := fun m hm => mx_ag (fun k j hk => by
        have q := off_hit hm hk
        exact ⟨fun _ => os.1 k j (fun e => by rw [e] at q; cases q) (fun e => by rw [e] at q; cases q), fun _ => rfl⟩)
      refine HRq_ag (ag lPL rfl) (ag lTq rfl) (ag lSk rfl) (ag lWy rfl) (fun j => ?_) hq'
      rw [mx_j _ _ (by decide), mx_j _ _ (by decide)]
      exact os.2.1 20 j (by decide) (by decide) (by decide)
    · rw [q2] at s1
      exact absurd (congrArg Int32.toInt s1) (by decide)
  · rcases res with ⟨s1, _⟩ | ⟨_, s2, s3, s4⟩
    · rw [q2] at s1
      exact absurd (congrArg Int32.toInt s1) (by decide)
    · refine Or.inr ⟨q1, s2, fun k j hk => ?_, fun t ht => ?_⟩
      · have n1 : ¬ k = 167 := fun e => by rw [e] at hk; cases hk
        have n2 : ¬ k = 194 := fun e => by rw [e] at hk; cases hk
        have n3 : ¬ k = 190 := fun e => by rw [e] at hk; cases hk
        have n4 : ∀ m : Pl, sub m lUn = true → hit m k j = false := fun m hm => by
          cases q6 : hit m k j with
          | false => rfl
          | true =>
            rw [sub_hit hm q6] at hk
            cases hk
        rw [s3 k j n1, q3, dg_rd (n4 _ (by decide)), yr k j n2 n3 n1, om.2 k j (okM_h (n4 lF5 (by decide))), bz.1.1]
      · rw [s4 t (by rw [t5]; exact ht), q3, dg_rd rfl, (po.2.2.1 t ht).1, r21 167 t (by decide)]
        exact a5 [(167, none)] rfl 167 t rfl
