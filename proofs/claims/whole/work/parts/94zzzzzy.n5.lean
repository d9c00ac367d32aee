/-! the class's read of a program: values and what is sensed -/
def N5 (w : MW) : Prop := ∀ i : Nat, (i : Int) < (w.1 108 10).toInt → w.2.1 120 i = 0 ∧ (w.1 121 i).toInt = 5
theorem n5_f {l : Pl} {w w' : MW} (h : N5 w) (hF : FR l w w') (ho : off l [(108, some 10), (120, none), (121, none)] = true) : N5 w' := fun i hi => by
  rw [(hF 108 10 (off_hit ho rfl)).1] at hi
  rw [(hF 120 i (off_hit ho rfl)).2.1, (hF 121 i (off_hit ho rfl)).1]
  exact h i hi
theorem n_add {w : MW} {c : Int64} {kd un bl : Int32} {Q : MW → Prop} (h : DcI w) (hN : N5 w) (u0 : True) (b0 : -1 ≤ bl.toInt) (b1 : bl.toInt ≤ 300) (hk : kd.toInt = 10 → 0 ≤ bl.toInt) (hn : wr w < 0 → kd.toInt = 10 → bl.toInt < ndC w ∧ yK w bl.toInt = 35 ∧ yX w bl.toInt = -1 ∧ (1 ≤ yS w bl.toInt ∧ yS w bl.toInt ≤ 501) ∧ 0 ≤ yD w bl.toInt ∧ yD w bl.toInt ≤ bl.toInt + 1) (hQ : ∀ w', DcI w' → N5 w' → FR lad w w' → Q w') : p_Pr_addNames108 w c kd un bl Q := by
  have b10 := bd_108_10 h.1.1.1
  refine Eq.mpr (p_Pr_addNames108.eq_1 _ _ _ _ _ _) ⟨fun _ => hQ w h hN (FR.refl _ w), fun c4 => ?_⟩
  have g : 0 ≤ (w.1 108 10).toInt ∧ (w.1 108 10).toInt < 40 := ⟨b10.1, by omega⟩
  refine ⟨g, g, g, g, g, g, ?_⟩
  have s := ti_add2 (Eq.refl (w.1 108 10).toInt) i_1 (by omega) (by omega)
  generalize hX : (w.1 108 10).toInt.toNat = X
  have hF : FR lad w (sI (sI (sJ (sI (sI (sI (sJ w 116 X c) 117 X kd) 118 X un) 119 X bl) 120 X 0) 121 X 5) 108 10 ((w.1 108 10) + (1 : Int32))) := FR.I (FR.I (FR.J (FR.I (FR.I (FR.I (FR.J (FR.refl _ w) rfl) rfl) rfl) rfl) rfl) rfl) rfl
  have hB : BND (sI (sI (sJ (sI (sI (sI (sJ w 116 X c) 117 X kd) 118 X un) 119 X bl) 120 X 0) 121 X 5) 108 10 ((w.1 108 10) + (1 : Int32))) := wbd_108_10 (wbd_121 (bnd_J (wbd_119 (wbd_118 (wbd_117 (bnd_J h.1.1.1) X) X) X b0 b1)) X (by decide) (by decide)) (by omega) (by omega)
  have q117 : ∀ j, (sI (sI (sJ (sI (sI (sI (sJ w 116 X c) 117 X kd) 118 X un) 119 X bl) 120 X 0) 121 X 5) 108 10 ((w.1 108 10) + (1 : Int32))).1 117 j = (sI w 117 X kd).1 117 j := fun j => rfl
  have q119 : ∀ j, (sI (sI (sJ (sI (sI (sI (sJ w 116 X c) 117 X kd) 118 X un) 119 X bl) 120 X 0) 121 X 5) 108 10 ((w.1 108 10) + (1 : Int32))).1 119 j = (sI w 119 X bl).1 119 j := fun j => rfl
  have qn : nmC (sI (sI (sJ (sI (sI (sI (sJ w 116 X c) 117 X kd) 118 X un) 119 X bl) 120 X 0) 121 X 5) 108 10 ((w.1 108 10) + (1 : Int32))) = nmC w + 1 := s
  have n5 : N5 (sI (sI (sJ (sI (sI (sI (sJ w 116 X c) 117 X kd) 118 X un) 119 X bl) 120 X 0) 121 X 5) 108 10 ((w.1 108 10) + (1 : Int32))) := fun i hi => by
    have e10 : (sI (sI (sJ (sI (sI (sI (sJ w 116 X c) 117 X kd) 118 X un) 119 X bl) 120 X 0) 121 X 5) 108 10 ((w.1 108 10) + (1 : Int32))).1 108 10 = (w.1 108 10) + (1 : Int32) := rfl
    have e120 : (sI (sI (sJ (sI (sI (sI (sJ w 116 X c) 117 X kd) 118 X un) 119 X bl) 120 X 0) 121 X 5) 108 10 ((w.1 108 10) + (1 : Int32))).2.1 120 i = (sJ w 120 X 0).2.1 120 i := rfl
    have e121 : (sI (sI (sJ (sI (sI (sI (sJ w 116 X c) 117 X kd) 118 X un) 119 X bl) 120 X 0) 121 X 5) 108 10 ((w.1 108 10) + (1 : Int32))).1 121 i = (sI w 121 X 5).1 121 i := rfl
    rw [e10, s] at hi
    rw [e120, e121, sJ_at, sI_at]
    by_cases e : i = X
    · rw [if_pos ⟨rfl, e⟩, if_pos ⟨rfl, e⟩]
      exact ⟨rfl, by decide⟩
    · rw [if_neg (fun q => e q.2), if_neg (fun q => e q.2)]
      exact hN i (by omega)
  generalize (sI (sI (sJ (sI (sI (sI (sJ w 116 X c) 117 X kd) 118 X un) 119 X bl) 120 X 0) 121 X 5) 108 10 ((w.1 108 10) + (1 : Int32))) = w' at *
  have en : nmC w = (w.1 108 10).toInt := rfl
  have sn : ∀ j, SN j w w' := fun j => sn_off hF rfl j
  have e1 := nd_eq hF rfl
  have e9 := wr_eq hF rfl
  have sg : SG w w' := ⟨by omega, fun i i0 i1 => by
    have ni : i.toNat ≠ X := by omega
    unfold nkB nbB
    rw [q117, q119, sI_ne _ _ _ _ _ ni, sI_ne _ _ _ _ _ ni]
    exact ⟨rfl, rfl⟩⟩
  have R : RW w' := h.1.1.fr hB hF (by unfold PP; rw [(hF 87 4 rfl).1]; exact h.1.1.2.2.2) rfl
  have K : NK w' := fun i q => by
    rw [q117] at q
    rw [q119]
    by_cases e : i.toInt.toNat = X
    · rw [e, sI_same] at q
      rw [e, sI_same]
      exact hk q
    · rw [sI_ne _ _ _ _ _ e] at q
      rw [sI_ne _ _ _ _ _ e]
      exact h.1.2.1 i q
  refine hQ w' ⟨⟨R, K, fun c9 => ?_⟩, fun c9 m m0 m1 => ?_⟩ n5 hF
  · rw [e9] at c9
    intro i i0 i1 i2
    rw [e1]
    by_cases e : i = nmC w
    · have ei : i.toNat = X := by omega
      have k10 : kd.toInt = 10 := by
        unfold nkB at i2
        rw [q117, ei, sI_same] at i2
        exact i2
      have nb' : nbB w' i = bl.toInt := by
        unfold nbB
        rw [q119, ei, sI_same]
      have z := hn c9 k10
      have S := sn bl.toInt
      rw [nb', S.1, S.2.2.2.2.2.1, S.2.2.2.2.2.2.1, S.2.2.2.2.2.2.2]
      exact ⟨hk k10, z⟩
    · have g2 := sg.2 i i0 (by omega)
      rw [g2.1] at i2
      have z := h.1.2.2 c9 i i0 (by omega) i2
      have S := sn (nbB w i)
      rw [g2.2, S.1, S.2.2.2.2.2.1, S.2.2.2.2.2.2.1, S.2.2.2.2.2.2.2]
      exact z
  · rw [e9] at c9
    rw [e1] at m1
    exact (h.2 c9 m m0 m1).sg (fun j _ _ => sn j) sg
theorem n_114 {w : MW} {i kd bl un : Int32} {c : Int64} {A : Int32 → MW → Prop} {E : MW → Prop} {Q : Int32 → MW → Prop} (h : DcI w) (hN : N5 w) (b0 : -1 ≤ bl.toInt) (b1 : bl.toInt ≤ 300) (hk : kd.toInt = 10 → 0 ≤ bl.toInt) (hn : wr w < 0 → kd.toInt = 10 → bl.toInt < ndC w ∧ yK w bl.toInt = 35 ∧ yX w bl.toInt = -1 ∧ (1 ≤ yS w bl.toInt ∧ yS w bl.toInt ≤ 501) ∧ 0 ≤ yD w bl.toInt ∧ yD w bl.toInt ≤ bl.toInt + 1) (hA : ∀ w', DcI w' → N5 w' → FR lrr2 w w' → A (i + (1 : Int32)) w') : q_Rd_read_1_108_114 i kd c bl un w A E Q := by
  refine Eq.mpr (q_Rd_read_1_108_114.eq_1 _ _ _ _ _ _ _ _ _) ⟨fun n10 => k_take h.1.1 (fun w12 t12 => ⟨t12.1.2.2.1, n_add (h.tg (t12.tg h.1)) (n5_f hN t12.2.1 rfl) trivial b0 b1 hk (fun _ q => absurd q n10) (fun w' h' n' f' => hA w' h' n' (((FR.refl lrr2 w).tr t12.2.1 rfl).tr f' rfl))⟩), fun _ => k_node h.1.1 (fun r w2 hD r0 r1 hc => ?_)⟩
  have t : StO 10 10 w r w2 := mk_fin h.1 (TG.refl h.1) rfl hD r0 r1 hc (FR.refl lmk w2) hD.1.1 (fun j _ _ => SN.refl j w2) (by decide) (by decide) (fun c1 c2 e N S kK kA _ => by
    have k10 : yK w2 r.toInt = 10 := kK
    exact ⟨fun q => by omega, ⟨by rw [N.2.2.2.1]; exact Int.le_refl _, fun q => by rw [N.2.2.1, N.2.2.2.1] at q; omega⟩, ⟨by rw [N.2.2.2.2.2.2.1]; omega, by rw [N.2.2.2.2.2.2.1]; omega, by rw [N.2.2.2.2.2.2.2]; omega, by rw [N.2.2.2.2.2.2.2]; omega⟩, fun _ => Or.inl N.2.2.2.2.1, fun q => by omega, fun _ _ => ⟨0, by rw [N.2.2.2.2.1, N.2.2.2.2.2.2.1]; exact ⟨rfl, by omega⟩⟩, fun q => by omega⟩)
  refine ⟨hD.1.2.2.1, n_add (h.tg t.1) (n5_f hN t.1.2.1.1 rfl) trivial b0 b1 hk (fun c9 k10 => ?_) (fun w' h' n' f' => hA w' h' n' (((FR.refl lrr2 w).tr t.1.2.1.1 rfl).tr f' rfl))⟩
  have q := t.1.2.2 c9
  have z := hn q.1 k10
  have S := q.2.2.1 bl.toInt (hk k10) z.1
  rw [S.1, S.2.2.2.2.2.1, S.2.2.2.2.2.2.1, S.2.2.2.2.2.2.2]
  exact ⟨by have := z.1; omega, z.2⟩
theorem n_d38 {z : MW} {E : MW → Prop} {Q : Int32 → MW → Prop} (hE : ∀ w', DcI w' → N5 w' → FR lrr2 z w' → E w') (n : Nat) : ∀ (i : Int32) (w : MW), DcI w → N5 w → FR lrr2 z w → 0 ≤ i.toInt → i.toInt ≤ 4001 → (4001 - i.toInt).toNat < n → q_Rd_read_1_108_38 E Q n i w := by
  induction n with
  | zero => intros; omega
  | succ n ih =>
    intro i w h hN hz i0 i1 hm
    rw [q_Rd_read_1_108_38.eq_2]
    have X := hE w h hN hz
    refine ⟨fun _ => X, fun ci => ⟨fun _ => X, fun _ => ⟨fun _ => X, fun c8 => ⟨fun _ => X, fun c10 => k_newName h.1.1 (fun c w7 t7 => ?_)⟩⟩⟩⟩
    have si := ti_add2 (Eq.refl i.toInt) i_1 (by omega) (by omega)
    have h7 := h.tg (t7.tg h.1)
    have N : ∀ w', DcI w' → N5 w' → FR lrr2 z w' → q_Rd_read_1_108_38 E Q n (i + (1 : Int32)) w' := fun w' h' n' z' => ih _ _ h' n' z' (by omega) (by omega) (by omega)
    refine ⟨fun n10 => k_unit1 h7.1.1 (fun u w10 t10 => n_114 (h7.tg (t10.tg h7.1)) (n5_f (n5_f hN t7.2.1 rfl) t10.2.1 rfl) (by decide) (by decide) (fun q => absurd q n10) (fun _ q => absurd q n10) (fun w' h' n' f' => N w' h' n' (((hz.tr t7.2.1 rfl).tr t10.2.1 rfl).tr f' rfl))), fun _ => k_block h7.1 (fun r w18 t => n_114 (h7.tg t.1) (n5_f (n5_f hN t7.2.1 rfl) t.1.2.1.1 rfl) (by have := t.2.2.1.1; omega) t.2.2.1.2 (fun _ => t.2.2.1.1) (fun c9 _ => ?_) (fun w' h' n' f' => N w' h' n' (((hz.tr t7.2.1 rfl).tr t.1.2.1.1 rfl).tr f' rfl)))⟩
    have p := t.2.2.2 c9
    have q := t.1.2.2 c9
    have T := (q.2.2.2 r.toInt p.1 (by omega)).2.2.1
    exact ⟨by omega, by omega, p.2.2.1, ⟨T.1, T.2.1⟩, T.2.2.1, T.2.2.2⟩
def lrt : Pl := [(87, some 0), (87, some 1), (87, some 2), (87, some 3), (87, some 4), (87, some 5), (87, some 6), (87, some 7), (87, some 8), (87, some 9), (88, none), (89, none), (108, some 0), (108, some 1), (108, some 2), (109, none), (110, none), (111, none), (112, none), (113, none), (114, none), (115, none)]
def TpN (z w v : MW) (al D b : Int32) : Prop := TT w v ∧ (-1 ≤ b.toInt ∧ b.toInt ≤ 300 ∧ FR lrt z v) ∧ (wr v < 0 → (0 ≤ al.toInt ∧ al.toInt ≤ 501) ∧ (0 ≤ D.toInt ∧ D.toInt ≤ ndC v) ∧ ((b.toInt = -1 ∧ opn v = -1 ∧ al.toInt = 0) ∨ LsU w v (opn v) b.toInt al.toInt D.toInt))
theorem n_172 {z w : MW} {E : Int32 → Int32 → MW → Prop} {Q : Int32 → MW → Prop} (hw : RN w) (hE : ∀ (al D b : Int32) (v : MW), TpN z w v al D b → E al D v) (n : Nat) : ∀ (al D b i : Int32) (v : MW), TpN z w v al D b → 0 ≤ i.toInt → i.toInt ≤ 4001 → (4001 - i.toInt).toNat < n → q_Rd_read_1_108_172 E Q n al D b i v := by
  induction n with
  | zero => intros; omega
  | succ n ih =>
    intro al D b i v h i0 i1 hm
    rw [q_Rd_read_1_108_172.eq_2]
    have X := hE al D b v h
    refine ⟨fun _ => X, fun ci => ⟨fun _ => X, fun _ => ⟨fun _ => X, fun _ => k_stat h.1.1 (fun r v1 t => ?_)⟩⟩⟩
    have si := ti_add2 (Eq.refl i.toInt) i_1 (by omega) (by omega)
    have g : 0 ≤ r.toInt ∧ r.toInt < 301 := ⟨t.2.2.1.1, by have := t.2.2.1.2; omega⟩
    have hb := h.2.1
    have hz := h.2.1.2.2
    have n0 := nd_0 hw.1
    have eS : (v1.1 88 r.toInt.toNat).toInt = yS v1 r.toInt := rfl
    have eD : (v1.1 89 r.toInt.toNat).toInt = yD v1 r.toInt := rfl
    have eo : opn v1 = opn v := by unfold opn; rw [(t.1.2.1.1 108 2 rfl).1]
    have M : ∀ al' D' : Int32, (wr v1 < 0 → 1 ≤ yS v1 r.toInt → yS v1 r.toInt ≤ 501 → 0 ≤ al.toInt → al.toInt ≤ 501 → (1 ≤ al'.toInt ∧ al'.toInt ≤ 501 ∧ (al'.toInt ≤ 500 → al'.toInt = al.toInt + yS v1 r.toInt))) → (D.toInt ≤ D'.toInt ∧ yD v1 r.toInt ≤ D'.toInt ∧ (D'.toInt = D.toInt ∨ D'.toInt = yD v1 r.toInt)) → ((0 ≤ b.toInt → ((v1.2.2 87 1 = some 108) ∧ ((0 ≤ b.toInt ∧ b.toInt < 301) ∧ (q_Rd_read_1_108_172  E Q n al' D' r (i + (1 : Int32)) (sI v1 114 b.toInt.toNat r))))) ∧ (¬ (0 ≤ b.toInt) → ((v1.2.2 87 1 = some 108) ∧ (q_Rd_read_1_108_172  E Q n al' D' r (i + (1 : Int32)) (sI v1 108 2 r))))) := fun al' D' ha hD => by
      refine ⟨fun cb => ⟨t.1.1.1.2.2.1, ⟨cb, by omega⟩, ih _ _ _ _ _ ⟨tt_link hw h.1 cb (fun c => ?_) t.1.tt (by omega) (by omega), ⟨by omega, by omega, FR.I (hz.tr t.1.2.1.1 rfl) rfl⟩, fun c => ?_⟩ (by omega) (by omega) (by omega)⟩, fun cb => ⟨t.1.1.1.2.2.1, ih _ _ _ _ _ ⟨tt_op hw (TT.tr hw h.1 t.1.tt) (by omega) (by omega), ⟨by omega, by omega, FR.I (hz.tr t.1.2.1.1 rfl) rfl⟩, fun c => ?_⟩ (by omega) (by omega) (by omega)⟩⟩
      · have y := (h.2.2 c).2.2.resolve_left (fun q => by omega)
        exact ⟨y.1, y.2.1⟩
      · have c1 : wr v1 < 0 := c
        have q := t.1.2.2 c1
        have y0 := h.2.2 q.1
        have L := y0.2.2.resolve_left (fun q => by omega)
        have T := (q.2.2.2 r.toInt (t.2.2.2 c1).1 (by have := (t.2.2.2 c1).2.1; omega)).2.2.1
        have a := ha c1 T.1 T.2.1 y0.1.1 y0.1.2
        have sr := (t.2.2.2 c1)
        have en : ndC (sI v1 114 b.toInt.toNat r) = ndC v1 := rfl
        have eo2 : opn (sI v1 114 b.toInt.toNat r) = opn v := eo
        rw [en, eo2]
        exact ⟨⟨by omega, a.2.1⟩, ⟨by omega, by omega⟩, Or.inr (lu_more hw h.1 L t c1 rfl (nsx_link cb) (by rw [yX_set cb cb, if_pos rfl]) hD.1 hD.2.1 (fun c5 => by have := a.2.2 c5; omega))⟩
      · have c1 : wr v1 < 0 := c
        have q := t.1.2.2 c1
        have y0 := h.2.2 q.1
        have nb : b.toInt = -1 ∧ opn v = -1 ∧ al.toInt = 0 := by
          cases y0.2.2 with
          | inl y => exact y
          | inr y =>
            have := y.1
            omega
        have T := (q.2.2.2 r.toInt (t.2.2.2 c1).1 (by have := (t.2.2.2 c1).2.1; omega)).2.2.1
        have a := ha c1 T.1 T.2.1 y0.1.1 y0.1.2
        have sr := (t.2.2.2 c1)
        have en : ndC (sI v1 108 2 r) = ndC v1 := rfl
        have eo2 : opn (sI v1 108 2 r) = r.toInt := rfl
        rw [en, eo2]
        exact ⟨⟨by omega, a.2.1⟩, ⟨by omega, by omega⟩, Or.inr (lu_on hw (lu_one hw h.1 t c1 (fun c5 => by have := a.2.2 c5; omega)) (fun j _ => ⟨rfl, rfl, rfl, rfl, rfl, rfl, rfl, rfl⟩) rfl hD.2.1)⟩
    have N : ∀ al' : Int32, (wr v1 < 0 → 1 ≤ yS v1 r.toInt → yS v1 r.toInt ≤ 501 → 0 ≤ al.toInt → al.toInt ≤ 501 → (1 ≤ al'.toInt ∧ al'.toInt ≤ 501 ∧ (al'.toInt ≤ 500 → al'.toInt = al.toInt + yS v1 r.toInt))) → ((0 ≤ r.toInt ∧ r.toInt < 301) ∧ (p_Ma_max v1 D (v1.1 89 r.toInt.toNat) (fun r28 w28 => ((0 ≤ b.toInt → ((w28.2.2 87 1 = some 108) ∧ ((0 ≤ b.toInt ∧ b.toInt < 301) ∧ (q_Rd_read_1_108_172  E Q n al' r28 r (i + (1 : Int32)) (sI w28 114 b.toInt.toNat r))))) ∧ (¬ (0 ≤ b.toInt) → ((w28.2.2 87 1 = some 108) ∧ (q_Rd_read_1_108_172  E Q n al' r28 r (i + (1 : Int32)) (sI w28 108 2 r)))))))) := fun al' ha => ⟨g, Eq.mpr (p_Ma_max.eq_1 _ _ _ _) ⟨fun c => M al' _ ha ⟨by omega, by omega, by right; exact eD⟩, fun c => M al' _ ha ⟨by omega, by omega, by left; rfl⟩⟩⟩
    refine ⟨g, Eq.mpr (p_Ma_min.eq_1 _ _ _ _) ⟨fun c => N 501 (fun _ _ _ _ _ => ⟨by decide, by decide, fun q => absurd q (by decide)⟩), fun c => N _ (fun _ s0 s1 a0 a1 => ?_)⟩⟩
    have s := ti_add2 (Eq.refl al.toInt) eS (by omega) (by omega)
    rw [(by decide : ((501 : Int32)).toInt = 501)] at c
    omega
theorem n_read {w : MW} {Q : Int32 → MW → Prop} (hI : BND w) (hK : NK w) (hQ : ∀ (r : Int32) (w' : MW), N5 w' → Q r w') : p_Rd_read_1_108 w Q := by
  refine Eq.mpr (p_Rd_read_1_108.eq_1 _ _) (Eq.mpr (p_Pr_clears108.eq_1 _ _) ?_)
  have hF : FR lrr w (sI (sI (sI (sI (sI (sI (sI (sR (sR w 87 0 (some 1)) 87 1 (some 108)) 108 0 0) 108 1 0) 108 2 (-1)) 108 10 0) 87 2 0) 87 8 0) 87 9 (-1)) := FR.I (FR.I (FR.I (FR.I (FR.I (FR.I (FR.I (FR.R (FR.R (FR.refl _ w) rfl) rfl) rfl) rfl) rfl) rfl) rfl) rfl) rfl
  have hB : BND (sI (sI (sI (sI (sI (sI (sI (sR (sR w 87 0 (some 1)) 87 1 (some 108)) 108 0 0) 108 1 0) 108 2 (-1)) 108 10 0) 87 2 0) 87 8 0) 87 9 (-1)) := wbd_87_9 (wbd_87_8 (wbd_87_2 (wbd_108_10 (wbd_108_2 (wbd_108_1 (wbd_108_0 (show BND (sR (sR w 87 0 (some 1)) 87 1 (some 108)) from hI)) (by decide) (by decide)) (by decide) (by decide)) (by decide) (by decide)) (by decide) (by decide)) (by decide) (by decide))
  have r0 : (sI (sI (sI (sI (sI (sI (sI (sR (sR w 87 0 (some 1)) 87 1 (some 108)) 108 0 0) 108 1 0) 108 2 (-1)) 108 10 0) 87 2 0) 87 8 0) 87 9 (-1)).2.2 87 0 = some 1 := rfl
  have r1 : (sI (sI (sI (sI (sI (sI (sI (sR (sR w 87 0 (some 1)) 87 1 (some 108)) 108 0 0) 108 1 0) 108 2 (-1)) 108 10 0) 87 2 0) 87 8 0) 87 9 (-1)).2.2 87 1 = some 108 := rfl
  have k0 : NK (sI (sI (sI (sI (sI (sI (sI (sR (sR w 87 0 (some 1)) 87 1 (some 108)) 108 0 0) 108 1 0) 108 2 (-1)) 108 10 0) 87 2 0) 87 8 0) 87 9 (-1)) := hK
  have n0 : ndC (sI (sI (sI (sI (sI (sI (sI (sR (sR w 87 0 (some 1)) 87 1 (some 108)) 108 0 0) 108 1 0) 108 2 (-1)) 108 10 0) 87 2 0) 87 8 0) 87 9 (-1)) = 0 := i_0
  have m0 : nmC (sI (sI (sI (sI (sI (sI (sI (sR (sR w 87 0 (some 1)) 87 1 (some 108)) 108 0 0) 108 1 0) 108 2 (-1)) 108 10 0) 87 2 0) 87 8 0) 87 9 (-1)) = 0 := i_0
  have o0 : opn (sI (sI (sI (sI (sI (sI (sI (sR (sR w 87 0 (some 1)) 87 1 (some 108)) 108 0 0) 108 1 0) 108 2 (-1)) 108 10 0) 87 2 0) 87 8 0) 87 9 (-1)) = -1 := i_m1
  generalize (sI (sI (sI (sI (sI (sI (sI (sR (sR w 87 0 (some 1)) 87 1 (some 108)) 108 0 0) 108 1 0) 108 2 (-1)) 108 10 0) 87 2 0) 87 8 0) 87 9 (-1)) = w1 at *
  refine t_next hB r0 (fun w2 h2 f2 p2 _ => ?_)
  have R2 : RW w2 := ⟨h2, ((f2 87 0 rfl).2.2).trans r0, ((f2 87 1 rfl).2.2).trans r1, p2⟩
  have nd2 : ndC w2 = 0 := (nd_eq f2 rfl).trans n0
  have nm2 : nmC w2 = 0 := ((SM.fr f2 rfl).1).trans m0
  have op2 : w2.1 108 2 = w1.1 108 2 := (f2 108 2 rfl).1
  have D2 : DcI w2 := ⟨⟨R2, NK_fr f2 rfl k0, fun _ i i0 i1 _ => by omega⟩, fun _ m m0 m1 => by omega⟩
  have Z2 : FR lrr w w2 := hF.tr f2 rfl
  have n52 : N5 w2 := fun i hi => by
    have t : (w2.1 108 10).toInt = 0 := nm2
    omega
  refine n_d38 (z := w2) (fun w20 D20 N20 f20 => n_172 (z := w20) D20.1 (fun al D b v h => ?_) FU 0 0 (-1) 0 w20 ⟨(TG.refl D20.1).tt, ⟨by decide, by decide, FR.refl _ w20⟩, fun _ => ⟨⟨by decide, by decide⟩, ⟨by decide, by rw [i_0]; exact nd_0 D20.1.1⟩, Or.inl ⟨i_m1, ?_, i_0⟩⟩⟩ (by decide) (by decide) (fu_lt (by decide))) FU 0 w2 D2 n52 (FR.refl _ w2) (by decide) (by decide) (fu_lt (by decide))
  · have NV : N5 v := n5_f N20 h.2.1.2.2 rfl
    have F : p_Rd_fail v (fun w36 => (Q (w36.1 87 9) w36)) := k_fail h.1.1.1 (fun w' t c => hQ _ w' (n5_f NV t.2.1 rfl))
    exact ⟨fun c => hQ _ v NV, fun c => ⟨fun _ => F, fun a5 => ⟨fun d4 => hQ _ v NV, fun _ => F⟩⟩⟩
  · have e : w20.1 108 2 = w2.1 108 2 := (f20 108 2 rfl).1
    unfold opn at *
    rw [e, op2]
    exact o0

