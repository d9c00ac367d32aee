/-! the class's reader: names, the whole text -/
def GTm (w : MW) (m : Int) : Prop := ∃ lo, 0 ≤ lo ∧ lo ≤ m ∧ TCm w lo m
/-- names may be more -/
def SG (w w' : MW) : Prop := nmC w ≤ nmC w' ∧ (∀ i, 0 ≤ i → i < nmC w → nkB w' i = nkB w i ∧ nbB w' i = nbB w i)
theorem SM.sg {w w' : MW} (h : SM w w') : SG w w' := ⟨by rw [h.1]; exact Int.le_refl _, fun i _ _ => ⟨h.2.1 i, h.2.2 i⟩⟩
theorem TCm.sg {w w' : MW} {lo m : Int} (l0 : 0 ≤ lo) (lm : lo ≤ m) (h : TCm w lo m) (s : NS (m + 1) w w') (n : SG w w') : TCm w' lo m := by
  have e := s m (by omega) (by omega)
  have pc : ∀ x, 0 ≤ x → Pc w lo m x → Pc w' lo m x ∧ yX w' x = yX w x ∧ yS w' x = yS w x := fun x x0 p => by
    have p1 := p.1
    have q := s x x0 (by omega)
    unfold Pc
    rw [q.1, q.2.2.2.2.2.2.1, q.2.2.2.2.2.2.2, e.1, e.2.2.2.2.2.2.2]
    exact ⟨p, q.2.2.2.2.2.1, rfl⟩
  unfold TCm
  rw [e.1, e.2.1, e.2.2.1, e.2.2.2.1, e.2.2.2.2.1, e.2.2.2.2.2.2.1, e.2.2.2.2.2.2.2]
  refine ⟨h.1, h.2.1, h.2.2.1, h.2.2.2.1, h.2.2.2.2.1, fun c d => ?_, fun c => ?_⟩
  · obtain ⟨k, hk⟩ := h.2.2.2.2.2.1 c d
    exact ⟨k, CHn.mp pc k _ _ hk⟩
  · have z := h.2.2.2.2.2.2 c
    have a := h.1 (by omega)
    have g := n.2 (yA w m) a.1 z.1
    have q := s (nbB w (yA w m)) z.2.2.1 (by have := z.2.2.2.1; omega)
    rw [g.1, g.2, q.1, q.2.2.2.2.2.1, q.2.2.2.2.2.2.1, q.2.2.2.2.2.2.2]
    exact ⟨by have := z.1; have := n.1; omega, z.2⟩
theorem GTm.sg {w w' : MW} {m : Int} (h : GTm w m) (s : NS (m + 1) w w') (n : SG w w') : GTm w' m := by
  obtain ⟨lo, l0, lm, T⟩ := h
  exact ⟨lo, l0, lm, T.sg l0 lm s n⟩
/-- the declarations so far -/
def DcI (w : MW) : Prop := RN w ∧ (wr w < 0 → ∀ m, 0 ≤ m → m < ndC w → GTm w m)
theorem DcI.tg {w w' : MW} (h : DcI w) (t : TG w w') : DcI w' := ⟨t.1, fun c m m0 m1 => by
  have q := t.2.2 c
  by_cases d : m < ndC w
  · exact (h.2 q.1 m m0 d).sg (q.2.2.1.wk (by omega)) (SM.fr t.2.1.1 rfl).sg
  · exact ⟨ndC w, nd_0 h.1.1, by omega, q.2.2.2 m (by omega) m1⟩⟩
def lrr : Pl := [(87, some 0), (87, some 1), (87, some 2), (87, some 3), (87, some 4), (87, some 5), (87, some 6), (87, some 7), (87, some 8), (87, some 9), (88, none), (89, none), (108, some 0), (108, some 1), (108, some 2), (108, some 10), (109, none), (110, none), (111, none), (112, none), (113, none), (114, none), (115, none), (116, none), (117, none), (118, none), (119, none), (120, none), (121, none)]
def lrr2 : Pl := [(87, some 0), (87, some 1), (87, some 2), (87, some 3), (87, some 4), (87, some 5), (87, some 6), (87, some 7), (87, some 8), (87, some 9), (88, none), (89, none), (108, some 0), (108, some 1), (108, some 10), (109, none), (110, none), (111, none), (112, none), (113, none), (114, none), (115, none), (116, none), (117, none), (118, none), (119, none), (120, none), (121, none)]
def lad : Pl := [(108, some 10), (116, none), (117, none), (118, none), (119, none), (120, none), (121, none)]
theorem k_add {w : MW} {c : Int64} {kd un bl : Int32} {Q : MW → Prop} (h : DcI w) (u0 : True) (b0 : -1 ≤ bl.toInt) (b1 : bl.toInt ≤ 300) (hk : kd.toInt = 10 → 0 ≤ bl.toInt) (hn : wr w < 0 → kd.toInt = 10 → bl.toInt < ndC w ∧ yK w bl.toInt = 35 ∧ yX w bl.toInt = -1 ∧ (1 ≤ yS w bl.toInt ∧ yS w bl.toInt ≤ 501) ∧ 0 ≤ yD w bl.toInt ∧ yD w bl.toInt ≤ bl.toInt + 1) (hQ : ∀ w', DcI w' → FR lad w w' → Q w') : p_Pr_addNames108 w c kd un bl Q := by
  have b10 := bd_108_10 h.1.1.1
  refine Eq.mpr (p_Pr_addNames108.eq_1 _ _ _ _ _ _) ⟨fun _ => hQ w h (FR.refl _ w), fun c4 => ?_⟩
  have g : 0 ≤ (w.1 108 10).toInt ∧ (w.1 108 10).toInt < 40 := ⟨b10.1, by omega⟩
  refine ⟨g, g, g, g, g, g, ?_⟩
  have s := ti_add2 (Eq.refl (w.1 108 10).toInt) i_1 (by omega) (by omega)
  generalize hX : (w.1 108 10).toInt.toNat = X
  have hF : FR lad w (sI (sI (sJ (sI (sI (sI (sJ w 116 X c) 117 X kd) 118 X un) 119 X bl) 120 X 0) 121 X 5) 108 10 ((w.1 108 10) + (1 : Int32))) := FR.I (FR.I (FR.J (FR.I (FR.I (FR.I (FR.J (FR.refl _ w) rfl) rfl) rfl) rfl) rfl) rfl) rfl
  have hB : BND (sI (sI (sJ (sI (sI (sI (sJ w 116 X c) 117 X kd) 118 X un) 119 X bl) 120 X 0) 121 X 5) 108 10 ((w.1 108 10) + (1 : Int32))) := wbd_108_10 (wbd_121 (bnd_J (wbd_119 (wbd_118 (wbd_117 (bnd_J h.1.1.1) X) X) X b0 b1)) X (by decide) (by decide)) (by omega) (by omega)
  have q117 : ∀ j, (sI (sI (sJ (sI (sI (sI (sJ w 116 X c) 117 X kd) 118 X un) 119 X bl) 120 X 0) 121 X 5) 108 10 ((w.1 108 10) + (1 : Int32))).1 117 j = (sI w 117 X kd).1 117 j := fun j => rfl
  have q119 : ∀ j, (sI (sI (sJ (sI (sI (sI (sJ w 116 X c) 117 X kd) 118 X un) 119 X bl) 120 X 0) 121 X 5) 108 10 ((w.1 108 10) + (1 : Int32))).1 119 j = (sI w 119 X bl).1 119 j := fun j => rfl
  have qn : nmC (sI (sI (sJ (sI (sI (sI (sJ w 116 X c) 117 X kd) 118 X un) 119 X bl) 120 X 0) 121 X 5) 108 10 ((w.1 108 10) + (1 : Int32))) = nmC w + 1 := s
  generalize (sI (sI (sJ (sI (sI (sI (sJ w 116 X c) 117 X kd) 118 X un) 119 X bl) 120 X 0) 121 X 5) 108 10 ((w.1 108 10) + (1 : Int32))) = w' at *
  have en : nmC w = (w.1 108 10).toInt := rfl
  have sn : ∀ j, SN j w w' := fun j => sn_off hF rfl j
  have e1 := nd_eq hF rfl
  have e9 := wr_eq hF rfl
  have sg : SG w w' := ⟨by omega, fun i i0 i1 => by
    have ni : i.toNat ≠ X := by omega
    unfold nkB nbB
    rw [q117, q119, sI_ne _ _ _ _ _ ni, sI_ne _ _ _ _ _ ni]
    exact ⟨rfl, rfl⟩⟩
  have R : RW w' := h.1.1.fr hB hF (by unfold PP; rw [(hF 87 4 rfl).1]; exact h.1.1.2.2.2) rfl
  have K : NK w' := fun i q => by
    rw [q117] at q
    rw [q119]
    by_cases e : i.toInt.toNat = X
    · rw [e, sI_same] at q
      rw [e, sI_same]
      exact hk q
    · rw [sI_ne _ _ _ _ _ e] at q
      rw [sI_ne _ _ _ _ _ e]
      exact h.1.2.1 i q
  refine hQ w' ⟨⟨R, K, fun c9 => ?_⟩, fun c9 m m0 m1 => ?_⟩ hF
  · rw [e9] at c9
    intro i i0 i1 i2
    rw [e1]
    by_cases e : i = nmC w
    · have ei : i.toNat = X := by omega
      have k10 : kd.toInt = 10 := by
        unfold nkB at i2
        rw [q117, ei, sI_same] at i2
        exact i2
      have nb' : nbB w' i = bl.toInt := by
        unfold nbB
        rw [q119, ei, sI_same]
      have z := hn c9 k10
      have S := sn bl.toInt
      rw [nb', S.1, S.2.2.2.2.2.1, S.2.2.2.2.2.2.1, S.2.2.2.2.2.2.2]
      exact ⟨hk k10, z⟩
    · have g2 := sg.2 i i0 (by omega)
      rw [g2.1] at i2
      have z := h.1.2.2 c9 i i0 (by omega) i2
      have S := sn (nbB w i)
      rw [g2.2, S.1, S.2.2.2.2.2.1, S.2.2.2.2.2.2.1, S.2.2.2.2.2.2.2]
      exact z
  · rw [e9] at c9
    rw [e1] at m1
    exact (h.2 c9 m m0 m1).sg (fun j _ _ => sn j) sg
theorem k_newName {w : MW} {Q : Int64 → MW → Prop} (h : RW w) (hQ : ∀ c w', TkS w w' → Q c w') : p_Rd_takeNewName w Q := Eq.mpr (p_Rd_takeNewName.eq_1 _ _) (k_next h (fun w1 t1 => ⟨fun _ => k_fail t1.1 (fun w3 t3 _ => hQ _ w3 (t1.tr t3)), fun _ => ⟨t1.1.2.2.1, k_find t1.1.1 ⟨fun c => absurd c (by decide), fun _ => ⟨t1.1.2.2.1, fun _ => k_next t1.1 (fun w3 t3 => hQ _ w3 (t1.tr t3)), fun _ => k_fail t1.1 (fun w3 t3 _ => hQ _ w3 (t1.tr t3))⟩⟩ (fun r r0 r1 => ⟨fun _ => k_fail t1.1 (fun w3 t3 _ => hQ _ w3 (t1.tr t3)), fun c => absurd r0 c⟩)⟩⟩))
theorem k_unit1 {w : MW} {Q : Int32 → MW → Prop} (h : RW w) (hQ : ∀ r w', TkS w w' → Q r w') : p_Rd_takeUnit w Q := Eq.mpr (p_Rd_takeUnit.eq_1 _ _) ⟨fun _ => hQ _ w (TkS.refl h), fun _ => ⟨fun _ => hQ _ w (TkS.refl h), fun _ => ⟨fun _ => k_next h (fun w' t => hQ _ w' t), fun _ => hQ _ w (TkS.refl h)⟩⟩⟩
theorem x_114 {w : MW} {i kd bl un : Int32} {c : Int64} {A : Int32 → MW → Prop} {E : MW → Prop} {Q : Int32 → MW → Prop} (h : DcI w) (b0 : -1 ≤ bl.toInt) (b1 : bl.toInt ≤ 300) (hk : kd.toInt = 10 → 0 ≤ bl.toInt) (hn : wr w < 0 → kd.toInt = 10 → bl.toInt < ndC w ∧ yK w bl.toInt = 35 ∧ yX w bl.toInt = -1 ∧ (1 ≤ yS w bl.toInt ∧ yS w bl.toInt ≤ 501) ∧ 0 ≤ yD w bl.toInt ∧ yD w bl.toInt ≤ bl.toInt + 1) (hA : ∀ w', DcI w' → FR lrr2 w w' → A (i + (1 : Int32)) w') : q_Rd_read_1_108_114 i kd c bl un w A E Q := by
  refine Eq.mpr (q_Rd_read_1_108_114.eq_1 _ _ _ _ _ _ _ _ _) ⟨fun n10 => k_take h.1.1 (fun w12 t12 => ⟨t12.1.2.2.1, k_add (h.tg (t12.tg h.1)) trivial b0 b1 hk (fun _ q => absurd q n10) (fun w' h' f' => hA w' h' (((FR.refl lrr2 w).tr t12.2.1 rfl).tr f' rfl))⟩), fun _ => k_node h.1.1 (fun r w2 hD r0 r1 hc => ?_)⟩
  have t : StO 10 10 w r w2 := mk_fin h.1 (TG.refl h.1) rfl hD r0 r1 hc (FR.refl lmk w2) hD.1.1 (fun j _ _ => SN.refl j w2) (by decide) (by decide) (fun c1 c2 e N S kK kA _ => by
    have k10 : yK w2 r.toInt = 10 := kK
    exact ⟨fun q => by omega, ⟨by rw [N.2.2.2.1]; exact Int.le_refl _, fun q => by rw [N.2.2.1, N.2.2.2.1] at q; omega⟩, ⟨by rw [N.2.2.2.2.2.2.1]; omega, by rw [N.2.2.2.2.2.2.1]; omega, by rw [N.2.2.2.2.2.2.2]; omega, by rw [N.2.2.2.2.2.2.2]; omega⟩, fun _ => Or.inl N.2.2.2.2.1, fun q => by omega, fun _ _ => ⟨0, by rw [N.2.2.2.2.1, N.2.2.2.2.2.2.1]; exact ⟨rfl, by omega⟩⟩, fun q => by omega⟩)
  refine ⟨hD.1.2.2.1, k_add (h.tg t.1) trivial b0 b1 hk (fun c9 k10 => ?_) (fun w' h' f' => hA w' h' (((FR.refl lrr2 w).tr t.1.2.1.1 rfl).tr f' rfl))⟩
  have q := t.1.2.2 c9
  have z := hn q.1 k10
  have S := q.2.2.1 bl.toInt (hk k10) z.1
  rw [S.1, S.2.2.2.2.2.1, S.2.2.2.2.2.2.1, S.2.2.2.2.2.2.2]
  exact ⟨by have := z.1; omega, z.2⟩
theorem x_d38 {z : MW} {E : MW → Prop} {Q : Int32 → MW → Prop} (hE : ∀ w', DcI w' → FR lrr2 z w' → E w') (n : Nat) : ∀ (i : Int32) (w : MW), DcI w → FR lrr2 z w → 0 ≤ i.toInt → i.toInt ≤ 4001 → (4001 - i.toInt).toNat < n → q_Rd_read_1_108_38 E Q n i w := by
  induction n with
  | zero => intros; omega
  | succ n ih =>
    intro i w h hz i0 i1 hm
    rw [q_Rd_read_1_108_38.eq_2]
    have X := hE w h hz
    refine ⟨fun _ => X, fun ci => ⟨fun _ => X, fun _ => ⟨fun _ => X, fun c8 => ⟨fun _ => X, fun c10 => k_newName h.1.1 (fun c w7 t7 => ?_)⟩⟩⟩⟩
    have si := ti_add2 (Eq.refl i.toInt) i_1 (by omega) (by omega)
    have h7 := h.tg (t7.tg h.1)
    have N : ∀ w', DcI w' → FR lrr2 z w' → q_Rd_read_1_108_38 E Q n (i + (1 : Int32)) w' := fun w' h' z' => ih _ _ h' z' (by omega) (by omega) (by omega)
    refine ⟨fun n10 => k_unit1 h7.1.1 (fun u w10 t10 => x_114 (h7.tg (t10.tg h7.1)) (by decide) (by decide) (fun q => absurd q n10) (fun _ q => absurd q n10) (fun w' h' f' => N w' h' (((hz.tr t7.2.1 rfl).tr t10.2.1 rfl).tr f' rfl))), fun _ => k_block h7.1 (fun r w18 t => x_114 (h7.tg t.1) (by have := t.2.2.1.1; omega) t.2.2.1.2 (fun _ => t.2.2.1.1) (fun c9 _ => ?_) (fun w' h' f' => N w' h' (((hz.tr t7.2.1 rfl).tr t.1.2.1.1 rfl).tr f' rfl)))⟩
    have p := t.2.2.2 c9
    have q := t.1.2.2 c9
    have T := (q.2.2.2 r.toInt p.1 (by omega)).2.2.1
    exact ⟨by omega, by omega, p.2.2.1, ⟨T.1, T.2.1⟩, T.2.2.1, T.2.2.2⟩
/-- the tree has grown, at the top -/
def TT (w w' : MW) : Prop := RN w' ∧ (WM w w' ∧ SM w w') ∧ TGc w w'
theorem TG.tt {w w' : MW} (h : TG w w') : TT w w' := ⟨h.1, ⟨h.2.1.2, SM.fr h.2.1.1 rfl⟩, h.2.2⟩
theorem SM.tr {w w1 w2 : MW} (h : SM w w1) (h2 : SM w1 w2) : SM w w2 := ⟨h2.1.trans h.1, fun i => (h2.2.1 i).trans (h.2.1 i), fun i => (h2.2.2 i).trans (h.2.2 i)⟩
theorem TT.tr {w w1 w2 : MW} (hw : RN w) (h : TT w w1) (h2 : TT w1 w2) : TT w w2 := by
  refine ⟨h2.1, ⟨h.2.1.1.tr h2.2.1.1, h.2.1.2.tr h2.2.1.2⟩, fun c => ?_⟩
  have q := h2.2.2 c
  have p := h.2.2 q.1
  have n0 := nd_0 hw.1
  refine ⟨p.1, by omega, p.2.2.1.tr q.2.2.1 p.2.1, fun m a b => ?_⟩
  by_cases d : m < ndC w1
  · exact (p.2.2.2 m a d).sn n0 a (q.2.2.1.wk (by omega)) h2.2.1.2
  · refine (q.2.2.2 m (by omega) b).lo p.2.1 (fun i i0 i1 i2 => ?_)
    have n := h.2.1.2.tr h2.2.1.2
    rw [n.1] at i1
    rw [n.2.1] at i2
    rw [n.2.2]
    exact (hw.2.2 p.1 i i0 i1 i2).2.1
theorem tt_link {w wA w1 : MW} {f0 : Int} {y : Int32} (hw : RN w) (tA : TT w wA) (f00 : 0 ≤ f0) (hA : wr wA < 0 → ndC w ≤ f0 ∧ f0 + 1 = ndC wA) (t1 : TT wA w1) (y0 : -1 ≤ y.toInt) (y1 : y.toInt ≤ 300) : TT w (sI w1 114 f0.toNat y) := by
  have hF : FR [(114, none)] w1 (sI w1 114 f0.toNat y) := FR.I (FR.refl _ w1) rfl
  have hB : BND (sI w1 114 f0.toNat y) := wbd_114 t1.1.1.1 _ y0 y1
  have X : ∀ B, NSx f0 B w1 (sI w1 114 f0.toNat y) := fun B => nsx_link f00
  generalize (sI w1 114 f0.toNat y) = w' at *
  have n1' := SM.fr hF rfl (w := w1) (w' := w')
  have nA1 := t1.2.1.2.tr n1'
  have nw := tA.2.1.2.tr nA1
  have e9 := wr_eq hF rfl
  have e1 := nd_eq hF rfl
  have R : RW w' := t1.1.1.fr hB hF (by unfold PP; rw [(hF 87 4 rfl).1]; exact t1.1.1.2.2.2) rfl
  have n0 := nd_0 hw.1
  have C : wr w' < 0 → wr w < 0 ∧ ndC w ≤ ndC w' ∧ NS (ndC w) w w' := fun c => by
    rw [e9] at c
    have p := t1.2.2 c
    have q := tA.2.2 p.1
    have a := hA p.1
    exact ⟨q.1, by omega, (q.2.2.1.tr p.2.2.1 q.2.1).tr ((X (ndC w)).ns a.1) (Int.le_refl _)⟩
  refine ⟨⟨R, NK_fr hF rfl t1.1.2.1, fun c => (hw.2.2 (C c).1).sn nw (C c).2.2 (C c).2.1⟩, ⟨(tA.2.1.1.tr t1.2.1.1).tr (WM.fr hF rfl), nw⟩, fun c => ?_⟩
  have z := C c
  refine ⟨z.1, z.2.1, z.2.2, fun m m0 m1 => ?_⟩
  rw [e9] at c
  rw [e1] at m1
  have p := t1.2.2 c
  have q := tA.2.2 p.1
  have a := hA p.1
  have NIw := hw.2.2 q.1
  have nb : ∀ (v : MW), SM w v → ∀ i, 0 ≤ i → i < nmC v → nkB v i = 10 → nbB v i < ndC w := fun v n i i0 i1 i2 => by
    rw [n.1] at i1
    rw [n.2.1] at i2
    rw [n.2.2]
    exact (NIw i i0 i1 i2).2.1
  by_cases d : m < ndC wA
  · exact (q.2.2.2 m m0 d).sx n0 m0 (NSx.tr ((p.2.2.1.wk (by omega : m + 1 ≤ ndC wA)).x f0) (X (m + 1))) nA1 (Or.inr (by omega)) (fun i i0 i1 i2 => Int.lt_of_lt_of_le (nb wA tA.2.1.2 i i0 i1 i2) a.1)
  · have T := (p.2.2.2 m (by omega) m1).sx (by omega) (by omega) (X (m + 1)) n1' (Or.inl (by omega)) (fun i i0 i1 i2 => Int.lt_of_lt_of_le (nb w1 (tA.2.1.2.tr t1.2.1.2) i i0 i1 i2) a.1)
    exact T.lo q.2.1 (fun i i0 i1 i2 => nb w' nw i i0 i1 i2)
theorem tt_op {w w1 : MW} {y : Int32} (hw : RN w) (t1 : TT w w1) (y0 : -1 ≤ y.toInt) (y1 : y.toInt ≤ 300) : TT w (sI w1 108 2 y) := by
  have hF : FR [(108, some 2)] w1 (sI w1 108 2 y) := FR.I (FR.refl _ w1) rfl
  have hB : BND (sI w1 108 2 y) := wbd_108_2 t1.1.1.1 y0 y1
  have sn : ∀ j, SN j w1 (sI w1 108 2 y) := fun j => sn_off hF rfl j
  have e9 := wr_eq hF rfl
  have e1 := nd_eq hF rfl
  generalize (sI w1 108 2 y) = w' at *
  have n1 := SM.fr hF rfl (w := w1) (w' := w')
  refine ⟨⟨t1.1.1.fr hB hF (by unfold PP; rw [(hF 87 4 rfl).1]; exact t1.1.1.2.2.2) rfl, NK_fr hF rfl t1.1.2.1, fun c => ?_⟩, ⟨t1.2.1.1.tr (WM.fr hF rfl), t1.2.1.2.tr n1⟩, fun c => ?_⟩
  · rw [e9] at c
    exact (t1.1.2.2 c).sn n1 (fun j _ _ => sn j) (by omega)
  · rw [e9] at c
    have p := t1.2.2 c
    refine ⟨p.1, by omega, fun j a b => (p.2.2.1 j a b).tr (sn j), fun m a b => ?_⟩
    rw [e1] at b
    exact (p.2.2.2 m a b).sn (nd_0 hw.1) a (fun j _ _ => sn j) n1
/-- the list of the program's own statements -/
def LsU (w v : MW) (f b al D : Int) : Prop := ndC w ≤ b ∧ b + 1 = ndC v ∧ yX v b = -1 ∧ (ndC w ≤ f ∧ f ≤ b) ∧ ∃ k S, SEG v (PS v 11 26 (ndC w) D) b k f S ∧ (al ≤ 500 → S ≤ al)
theorem lu_on {w v v' : MW} {f b al D D' : Int} (hw : RN w) (L : LsU w v f b al D) (h : ∀ j, 0 ≤ j → SN j v v') (hn : ndC v' = ndC v) (hD : D ≤ D') : LsU w v' f b al D' := by
  have n0 := nd_0 hw.1
  obtain ⟨k, S, hS, hA⟩ := L.2.2.2.2
  have L1 := L.1
  refine ⟨L1, by have := L.2.1; omega, by rw [(h b (by omega)).2.2.2.2.2.1]; exact L.2.2.1, L.2.2.2.1, k, S, SEG.mp (fun x x0 x1 px => ?_) k f S hS, hA⟩
  have a := h x x0
  exact ⟨PS.sn px a.1 a.2.2.2.2.2.2.1 a.2.2.2.2.2.2.2 hD, a.2.2.2.2.2.2.1, a.2.2.2.2.2.1⟩
theorem lu_one {w v v1 : MW} {al : Int} {r : Int32} (hw : RN w) (t : TT w v) (h : StO 11 26 v r v1) (c : wr v1 < 0) (ha : al ≤ 500 → yS v1 r.toInt ≤ al) : LsU w v1 r.toInt r.toInt al (yD v1 r.toInt) := by
  have q := h.1.2.2 c
  have p := t.2.2 q.1
  have s := h.2.2.2 c
  have n0 := nd_0 hw.1
  have T3 := (q.2.2.2 r.toInt s.1 (by omega)).2.2.1
  exact ⟨by omega, s.2.1, s.2.2.1, ⟨by omega, Int.le_refl _⟩, 0, yS v1 r.toInt, ⟨rfl, ⟨by omega, T3.1, s.2.2.2.1, s.2.2.2.2, Int.le_refl _⟩, by omega, Int.le_refl _⟩, ha⟩
theorem lu_more {w v v1 v' : MW} {f b al al' D D' : Int} {r : Int32} (hw : RN w) (t : TT w v) (L : LsU w v f b al D) (h : StO 11 26 v r v1) (c : wr v1 < 0) (hb : ndC v' = ndC v1) (hX : NSx b (ndC v1) v1 v') (hx : yX v' b = r.toInt) (hD : D ≤ D') (hD' : yD v1 r.toInt ≤ D') (ha : al' ≤ 500 → al ≤ 500 ∧ al + yS v1 r.toInt ≤ al') : LsU w v' f r.toInt al' D' := by
  have q := h.1.2.2 c
  have p := t.2.2 q.1
  have s := h.2.2.2 c
  have n0 := nd_0 hw.1
  have T := q.2.2.2 r.toInt s.1 (by omega)
  have T3 := T.2.2.1
  have L1 := L.1
  have L2 := L.2.1
  have L4 := L.2.2.2.1
  have er := hX r.toInt (by omega) (by omega)
  obtain ⟨k, S, hS, hA⟩ := L.2.2.2.2
  refine ⟨by omega, by omega, ?_, ⟨L4.1, by omega⟩, k + 1, S + yS v' r.toInt, SEG.ext hx (by omega) ⟨by omega, by rw [er.1.2.2.2.2.2.1]; exact T3.1, by rw [er.1.1]; exact s.2.2.2.1, by rw [er.1.1]; exact s.2.2.2.2, by rw [er.1.2.2.2.2.2.2]; exact hD'⟩ (fun x x0 x1 px => ?_) k f S hS, fun c5 => ?_⟩
  · rw [er.2 (by omega)]
    exact s.2.2.1
  · have a := q.2.2.1 x x0 (by omega)
    have e := hX x x0 (by omega)
    exact ⟨PS.sn px (e.1.1.trans a.1) (e.1.2.2.2.2.2.1.trans a.2.2.2.2.2.2.1) (e.1.2.2.2.2.2.2.trans a.2.2.2.2.2.2.2) hD, e.1.2.2.2.2.2.1.trans a.2.2.2.2.2.2.1, fun d => (e.2 (by omega)).trans a.2.2.2.2.2.1⟩
  · have z := ha c5
    have y := hA z.1
    rw [er.1.2.2.2.2.2.1]
    omega
def opn (v : MW) : Int := (v.1 108 2).toInt
def TpL (z w v : MW) (al D b : Int32) : Prop := TT w v ∧ (-1 ≤ b.toInt ∧ b.toInt ≤ 300 ∧ FR lrr z v) ∧ (wr v < 0 → (0 ≤ al.toInt ∧ al.toInt ≤ 501) ∧ (0 ≤ D.toInt ∧ D.toInt ≤ ndC v) ∧ ((b.toInt = -1 ∧ opn v = -1 ∧ al.toInt = 0) ∨ LsU w v (opn v) b.toInt al.toInt D.toInt))
theorem x_172 {z w : MW} {E : Int32 → Int32 → MW → Prop} {Q : Int32 → MW → Prop} (hw : RN w) (hE : ∀ (al D b : Int32) (v : MW), TpL z w v al D b → E al D v) (n : Nat) : ∀ (al D b i : Int32) (v : MW), TpL z w v al D b → 0 ≤ i.toInt → i.toInt ≤ 4001 → (4001 - i.toInt).toNat < n → q_Rd_read_1_108_172 E Q n al D b i v := by
  induction n with
  | zero => intros; omega
  | succ n ih =>
    intro al D b i v h i0 i1 hm
    rw [q_Rd_read_1_108_172.eq_2]
    have X := hE al D b v h
    refine ⟨fun _ => X, fun ci => ⟨fun _ => X, fun _ => ⟨fun _ => X, fun _ => k_stat h.1.1 (fun r v1 t => ?_)⟩⟩⟩
    have si := ti_add2 (Eq.refl i.toInt) i_1 (by omega) (by omega)
    have g : 0 ≤ r.toInt ∧ r.toInt < 301 := ⟨t.2.2.1.1, by have := t.2.2.1.2; omega⟩
    have hb := h.2.1
    have hz := h.2.1.2.2
    have n0 := nd_0 hw.1
    have eS : (v1.1 88 r.toInt.toNat).toInt = yS v1 r.toInt := rfl
    have eD : (v1.1 89 r.toInt.toNat).toInt = yD v1 r.toInt := rfl
    have eo : opn v1 = opn v := by unfold opn; rw [(t.1.2.1.1 108 2 rfl).1]
    have M : ∀ al' D' : Int32, (wr v1 < 0 → 1 ≤ yS v1 r.toInt → yS v1 r.toInt ≤ 501 → 0 ≤ al.toInt → al.toInt ≤ 501 → (1 ≤ al'.toInt ∧ al'.toInt ≤ 501 ∧ (al'.toInt ≤ 500 → al'.toInt = al.toInt + yS v1 r.toInt))) → (D.toInt ≤ D'.toInt ∧ yD v1 r.toInt ≤ D'.toInt ∧ (D'.toInt = D.toInt ∨ D'.toInt = yD v1 r.toInt)) → ((0 ≤ b.toInt → ((v1.2.2 87 1 = some 108) ∧ ((0 ≤ b.toInt ∧ b.toInt < 301) ∧ (q_Rd_read_1_108_172  E Q n al' D' r (i + (1 : Int32)) (sI v1 114 b.toInt.toNat r))))) ∧ (¬ (0 ≤ b.toInt) → ((v1.2.2 87 1 = some 108) ∧ (q_Rd_read_1_108_172  E Q n al' D' r (i + (1 : Int32)) (sI v1 108 2 r))))) := fun al' D' ha hD => by
      refine ⟨fun cb => ⟨t.1.1.1.2.2.1, ⟨cb, by omega⟩, ih _ _ _ _ _ ⟨tt_link hw h.1 cb (fun c => ?_) t.1.tt (by omega) (by omega), ⟨by omega, by omega, FR.I (hz.tr t.1.2.1.1 rfl) rfl⟩, fun c => ?_⟩ (by omega) (by omega) (by omega)⟩, fun cb => ⟨t.1.1.1.2.2.1, ih _ _ _ _ _ ⟨tt_op hw (TT.tr hw h.1 t.1.tt) (by omega) (by omega), ⟨by omega, by omega, FR.I (hz.tr t.1.2.1.1 rfl) rfl⟩, fun c => ?_⟩ (by omega) (by omega) (by omega)⟩⟩
      · have y := (h.2.2 c).2.2.resolve_left (fun q => by omega)
        exact ⟨y.1, y.2.1⟩
      · have c1 : wr v1 < 0 := c
        have q := t.1.2.2 c1
        have y0 := h.2.2 q.1
        have L := y0.2.2.resolve_left (fun q => by omega)
        have T := (q.2.2.2 r.toInt (t.2.2.2 c1).1 (by have := (t.2.2.2 c1).2.1; omega)).2.2.1
        have a := ha c1 T.1 T.2.1 y0.1.1 y0.1.2
        have sr := (t.2.2.2 c1)
        have en : ndC (sI v1 114 b.toInt.toNat r) = ndC v1 := rfl
        have eo2 : opn (sI v1 114 b.toInt.toNat r) = opn v := eo
        rw [en, eo2]
        exact ⟨⟨by omega, a.2.1⟩, ⟨by omega, by omega⟩, Or.inr (lu_more hw h.1 L t c1 rfl (nsx_link cb) (by rw [yX_set cb cb, if_pos rfl]) hD.1 hD.2.1 (fun c5 => by have := a.2.2 c5; omega))⟩
      · have c1 : wr v1 < 0 := c
        have q := t.1.2.2 c1
        have y0 := h.2.2 q.1
        have nb : b.toInt = -1 ∧ opn v = -1 ∧ al.toInt = 0 := by
          cases y0.2.2 with
          | inl y => exact y
          | inr y =>
            have := y.1
            omega
        have T := (q.2.2.2 r.toInt (t.2.2.2 c1).1 (by have := (t.2.2.2 c1).2.1; omega)).2.2.1
        have a := ha c1 T.1 T.2.1 y0.1.1 y0.1.2
        have sr := (t.2.2.2 c1)
        have en : ndC (sI v1 108 2 r) = ndC v1 := rfl
        have eo2 : opn (sI v1 108 2 r) = r.toInt := rfl
        rw [en, eo2]
        exact ⟨⟨by omega, a.2.1⟩, ⟨by omega, by omega⟩, Or.inr (lu_on hw (lu_one hw h.1 t c1 (fun c5 => by have := a.2.2 c5; omega)) (fun j _ => ⟨rfl, rfl, rfl, rfl, rfl, rfl, rfl, rfl⟩) rfl hD.2.1)⟩
    have N : ∀ al' : Int32, (wr v1 < 0 → 1 ≤ yS v1 r.toInt → yS v1 r.toInt ≤ 501 → 0 ≤ al.toInt → al.toInt ≤ 501 → (1 ≤ al'.toInt ∧ al'.toInt ≤ 501 ∧ (al'.toInt ≤ 500 → al'.toInt = al.toInt + yS v1 r.toInt))) → ((0 ≤ r.toInt ∧ r.toInt < 301) ∧ (p_Ma_max v1 D (v1.1 89 r.toInt.toNat) (fun r28 w28 => ((0 ≤ b.toInt → ((w28.2.2 87 1 = some 108) ∧ ((0 ≤ b.toInt ∧ b.toInt < 301) ∧ (q_Rd_read_1_108_172  E Q n al' r28 r (i + (1 : Int32)) (sI w28 114 b.toInt.toNat r))))) ∧ (¬ (0 ≤ b.toInt) → ((w28.2.2 87 1 = some 108) ∧ (q_Rd_read_1_108_172  E Q n al' r28 r (i + (1 : Int32)) (sI w28 108 2 r)))))))) := fun al' ha => ⟨g, Eq.mpr (p_Ma_max.eq_1 _ _ _ _) ⟨fun c => M al' _ ha ⟨by omega, by omega, by right; exact eD⟩, fun c => M al' _ ha ⟨by omega, by omega, by left; rfl⟩⟩⟩
    refine ⟨g, Eq.mpr (p_Ma_min.eq_1 _ _ _ _) ⟨fun c => N 501 (fun _ _ _ _ _ => ⟨by decide, by decide, fun q => absurd q (by decide)⟩), fun c => N _ (fun _ s0 s1 a0 a1 => ?_)⟩⟩
    have s := ti_add2 (Eq.refl al.toInt) eS (by omega) (by omega)
    rw [(by decide : ((501 : Int32)).toInt = 501)] at c
    omega
/-- a program that was read well -/
def PrG (v : MW) : Prop := (∀ m, 0 ≤ m → m < ndC v → GTm v m) ∧ (opn v = -1 ∨ (0 ≤ opn v ∧ ∃ k S, S ≤ 500 ∧ CHn v (fun x => x < ndC v ∧ 1 ≤ yS v x ∧ ¬ yK v x = 35 ∧ yD v x ≤ 40) k (opn v) S))
theorem k_read {w : MW} {Q : Int32 → MW → Prop} (hI : BND w) (hK : NK w) (hQ : ∀ (r : Int32) (w' : MW), BND w' → FR lrr w w' → NK w' → (r.toInt < 0 → PrG w') → Q r w') : p_Rd_read_1_108 w Q := by
  refine Eq.mpr (p_Rd_read_1_108.eq_1 _ _) (Eq.mpr (p_Pr_clears108.eq_1 _ _) ?_)
  have hF : FR lrr w (sI (sI (sI (sI (sI (sI (sI (sR (sR w 87 0 (some 1)) 87 1 (some 108)) 108 0 0) 108 1 0) 108 2 (-1)) 108 10 0) 87 2 0) 87 8 0) 87 9 (-1)) := FR.I (FR.I (FR.I (FR.I (FR.I (FR.I (FR.I (FR.R (FR.R (FR.refl _ w) rfl) rfl) rfl) rfl) rfl) rfl) rfl) rfl) rfl
  have hB : BND (sI (sI (sI (sI (sI (sI (sI (sR (sR w 87 0 (some 1)) 87 1 (some 108)) 108 0 0) 108 1 0) 108 2 (-1)) 108 10 0) 87 2 0) 87 8 0) 87 9 (-1)) := wbd_87_9 (wbd_87_8 (wbd_87_2 (wbd_108_10 (wbd_108_2 (wbd_108_1 (wbd_108_0 (show BND (sR (sR w 87 0 (some 1)) 87 1 (some 108)) from hI)) (by decide) (by decide)) (by decide) (by decide)) (by decide) (by decide)) (by decide) (by decide)) (by decide) (by decide))
  have r0 : (sI (sI (sI (sI (sI (sI (sI (sR (sR w 87 0 (some 1)) 87 1 (some 108)) 108 0 0) 108 1 0) 108 2 (-1)) 108 10 0) 87 2 0) 87 8 0) 87 9 (-1)).2.2 87 0 = some 1 := rfl
  have r1 : (sI (sI (sI (sI (sI (sI (sI (sR (sR w 87 0 (some 1)) 87 1 (some 108)) 108 0 0) 108 1 0) 108 2 (-1)) 108 10 0) 87 2 0) 87 8 0) 87 9 (-1)).2.2 87 1 = some 108 := rfl
  have k0 : NK (sI (sI (sI (sI (sI (sI (sI (sR (sR w 87 0 (some 1)) 87 1 (some 108)) 108 0 0) 108 1 0) 108 2 (-1)) 108 10 0) 87 2 0) 87 8 0) 87 9 (-1)) := hK
  have n0 : ndC (sI (sI (sI (sI (sI (sI (sI (sR (sR w 87 0 (some 1)) 87 1 (some 108)) 108 0 0) 108 1 0) 108 2 (-1)) 108 10 0) 87 2 0) 87 8 0) 87 9 (-1)) = 0 := i_0
  have m0 : nmC (sI (sI (sI (sI (sI (sI (sI (sR (sR w 87 0 (some 1)) 87 1 (some 108)) 108 0 0) 108 1 0) 108 2 (-1)) 108 10 0) 87 2 0) 87 8 0) 87 9 (-1)) = 0 := i_0
  have o0 : opn (sI (sI (sI (sI (sI (sI (sI (sR (sR w 87 0 (some 1)) 87 1 (some 108)) 108 0 0) 108 1 0) 108 2 (-1)) 108 10 0) 87 2 0) 87 8 0) 87 9 (-1)) = -1 := i_m1
  generalize (sI (sI (sI (sI (sI (sI (sI (sR (sR w 87 0 (some 1)) 87 1 (some 108)) 108 0 0) 108 1 0) 108 2 (-1)) 108 10 0) 87 2 0) 87 8 0) 87 9 (-1)) = w1 at *
  refine t_next hB r0 (fun w2 h2 f2 p2 _ => ?_)
  have R2 : RW w2 := ⟨h2, ((f2 87 0 rfl).2.2).trans r0, ((f2 87 1 rfl).2.2).trans r1, p2⟩
  have nd2 : ndC w2 = 0 := (nd_eq f2 rfl).trans n0
  have nm2 : nmC w2 = 0 := ((SM.fr f2 rfl).1).trans m0
  have op2 : w2.1 108 2 = w1.1 108 2 := (f2 108 2 rfl).1
  have D2 : DcI w2 := ⟨⟨R2, NK_fr f2 rfl k0, fun _ i i0 i1 _ => by omega⟩, fun _ m m0 m1 => by omega⟩
  have Z2 : FR lrr w w2 := hF.tr f2 rfl
  refine x_d38 (z := w2) (fun w20 D20 f20 => x_172 (z := w) D20.1 (fun al D b v h => ?_) FU 0 0 (-1) 0 w20 ⟨(TG.refl D20.1).tt, ⟨by decide, by decide, Z2.tr f20 rfl⟩, fun _ => ⟨⟨by decide, by decide⟩, ⟨by decide, by rw [i_0]; exact nd_0 D20.1.1⟩, Or.inl ⟨i_m1, ?_, i_0⟩⟩⟩ (by decide) (by decide) (fu_lt (by decide))) FU 0 w2 D2 (FR.refl _ w2) (by decide) (by decide) (fu_lt (by decide))
  · have F : p_Rd_fail v (fun w36 => (Q (w36.1 87 9) w36)) := k_fail h.1.1.1 (fun w' t c => hQ _ w' t.1.1 (h.2.1.2.2.tr t.2.1 rfl) (NK_fr t.2.1 rfl h.1.1.2.1) (fun q => by unfold wr at c; omega))
    refine ⟨fun c => hQ _ v h.1.1.1.1 h.2.1.2.2 h.1.1.2.1 (fun q => by omega), fun c => ⟨fun _ => F, fun a5 => ⟨fun d4 => hQ _ v h.1.1.1.1 h.2.1.2.2 h.1.1.2.1 (fun q => ?_), fun _ => F⟩⟩⟩
    have c9 : wr v < 0 := q
    have T := h.1.2.2 c9
    have H := h.2.2 c9
    have g0 := nd_0 D20.1.1
    refine ⟨fun m m0 m1 => ?_, ?_⟩
    · by_cases d : m < ndC w20
      · exact (D20.2 T.1 m m0 d).sg (T.2.2.1.wk (by omega)) h.1.2.1.2.sg
      · exact ⟨ndC w20, g0, by omega, T.2.2.2 m (by omega) m1⟩
    · cases H.2.2 with
      | inl a => left; exact a.2.1
      | inr L =>
        right
        obtain ⟨k, S, hS, hA⟩ := L.2.2.2.2
        have L1 := L.1
        have L2 := L.2.1
        have L4 := L.2.2.2.1
        refine ⟨by omega, k + 1, S, by have := hA (by omega); omega, CHn.mp (fun x x0 px => ⟨?_, rfl, rfl⟩) (k + 1) _ _ (SEG.close L.2.2.1 k _ _ hS)⟩
        have p := px.1
        have pu := px.2
        have p4 := p.2.2.2.1
        have p5 := p.2.2.2.2
        exact ⟨by omega, p.2.1, by omega, by omega⟩
  · have e : w20.1 108 2 = w2.1 108 2 := (f20 108 2 rfl).1
    unfold opn at *
    rw [e, op2]
    exact o0
