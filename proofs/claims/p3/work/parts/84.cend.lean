/-! the class: end -/
theorem lv_sl {L : Int → Prop} {w w' : MW} (h : LvC L w) (s : SLy w w') (e80 : ∀ i, yG w' i = yG w i) (e81 : ∀ i, yC w' i = yC w i) : LvC L w' := by
  refine lv_upd (a := 0) h s (fun i q => q) h.2.1 (fun i q g => Or.inr ⟨q, by rw [← e80]; exact g, e81 i⟩) (fun g => ?_) (fun _ a => by omega) (fun _ a => by omega)
  rw [e81]
  exact h.2.2.1 0 h.1 (by rw [← e80]; exact g)
theorem sRs (w : MW) (k j : Nat) (v : Option Nat) : (sR w k j v).2.2 k j = v := by
  show (if k = k ∧ j = j then v else w.2.2 k j) = v
  rw [if_pos ⟨rfl, rfl⟩]
theorem ci_swP {w u : MW} (h : CI w) (e9 : PE9 w) (j9 : PJ9 w) (l9 : PL9 w) (hF : FR ltP w u) (hB : BND u) (r1 : u.2.2 7 0 = some 91) (r2 : u.2.2 0 8 = some 8) (c0 : (u.1 26 1).toInt = 0) (s4 : (u.1 61 4).toInt = 4) : CI (sw sP u) := by
  have G := lwP_sv u
  have z := h.2.1
  have x := h.2.2.2.2
  have r61 : u.2.2 61 3 = some 62 := ((hF 61 3 rfl).2.2).trans z.2.2.2.2.2.2.2.1
  have r47 : u.2.2 47 3 = some 48 := ((hF 47 3 rfl).2.2).trans z.2.2.2.2.2.2.2.2.2
  have r09 : u.2.2 0 9 = some 99 := ((hF 0 9 rfl).2.2).trans x.2.2.2.1
  have r010 : u.2.2 0 10 = some 108 := ((hF 0 10 rfl).2.2).trans x.2.2.2.2
  have m : ∀ {k j a : Nat}, u.2.2 k j = some a → ∀ {k'}, sP k' = k → (sw sP u).2.2 k' j = some (sP a) := fun {k j a} q {k'} e => by
    show Option.map sP (u.2.2 (sP k') j) = _
    rw [e, q]
    rfl
  have f4 : ((sw sP u).1 61 4).toInt = 4 := s4
  refine ⟨bnd_sw bt_sP hB, ⟨?_, ?_, ?_, ?_, ?_, ?_, ?_, m r61 rfl, m r1 rfl, m r47 rfl⟩, wo_cnt (by show (u.1 26 1).toInt ≤ 0; omega), ?_, ?_, ?_, m r2 rfl, m r09 rfl, m r010 rfl⟩
  · exact (PA_fr G rfl (PA_fr hF rfl z.1) : PA (sv sP u))
  · exact (PT_fr G rfl (PT_fr hF rfl z.2.1) : PT (sv sP u))
  · exact (AC_fr G rfl (AC_fr hF rfl z.2.2.1) : AC (sv sP u))
  · exact (AZ_fr G rfl (AZ_fr hF rfl z.2.2.2.1) : AZ (sv sP u))
  · exact (PE9_fr hF rfl e9 : PE9 u)
  · exact (PJ9_fr hF rfl j9 : PJ9 u)
  · exact (PL9_fr hF rfl l9 : PL9 u)
  · cases h.2.2.2.1 with
    | inl q =>
      refine Or.inl ⟨((q.1.sl (SLy.fr hF rfl)).sl (SLy.fr G rfl) : RLz (sv sP u)), fun c => ?_⟩
      omega
    | inr q =>
      refine Or.inr ⟨?_, f4⟩
      show (u.1 62 2).toInt < 0
      rw [(hF 62 2 rfl).1]
      exact q.1
  · exact (NK_fr G rfl (NK_fr hF rfl x.1) : NK (sv sP u))
  · exact (NKz_fr G rfl (NKz_fr hF rfl x.2.1) : NKz (sv sP u))
theorem ci_takePlant {w : MW} {Q : Int32 → MW → Prop} (h : CI w) (e9 : PE9 w) (j9 : PJ9 w) (l9 : PL9 w) (hQ : ∀ (r : Int32) (w' : MW), CI (sw sP w') → FR ltP w w' → Q r w') : p_Bh_takePlant w Q := by
  have F0 : FR ltP w (sR w 7 0 (some 91)) := FR.R (FR.refl _ w) rfl
  have B0 : BND (sR w 7 0 (some 91)) := bnd_R h.1
  have r0 : (sR w 7 0 (some 91)).2.2 7 0 = some 91 := sRs _ _ _ _
  refine Eq.mpr (p_Bh_takePlant.eq_1 _ _) ⟨h.2.1.2.2.2.2.2.2.2.2.1, h.2.2.2.2.2.2.1, Eq.mpr (p_St_renew_91.eq_1 _ _) ?_⟩
  generalize (sR w 7 0 (some 91)) = v0 at *
  refine h_Ar_fill0_16 B0 (by decide) (by decide) (fun v1 B1 F1 => h_Ar_fill0_17 B1 (by decide) (by decide) (fun v2 B2 F2 => h_Ar_fill0_18 B2 (by decide) (by decide) (fun v3 B3 F3 => h_Ar_fill0_19 B3 (by decide) (by decide) (fun v4 B4 F4 => h_Ar_fill0_23 B4 (by decide) (by decide) (fun v5 B5 F5 => h_Ar_fill1_20 B5 (by decide) (by decide) (fun v6 B6 F6 => h_Ar_fill0_21 B6 (by decide) (by decide) (fun v7 B7 F7 => ?_)))))))
  have F8 : FR ltP w v7 := ((((((F0.tr F1 rfl).tr F2 rfl).tr F3 rfl).tr F4 rfl).tr F5 rfl).tr F6 rfl).tr F7 rfl
  have r7 : v7.2.2 7 0 = some 91 := by rw [(F7 7 0 rfl).2.2, (F6 7 0 rfl).2.2, (F5 7 0 rfl).2.2, (F4 7 0 rfl).2.2, (F3 7 0 rfl).2.2, (F2 7 0 rfl).2.2, (F1 7 0 rfl).2.2]; exact r0
  have F9 : FR ltP w (sI (sR v7 0 8 (some 8)) 26 1 0) := FR.I (FR.R F8 rfl) rfl
  have G9 : FR [(0, some 8), (26, some 1)] v7 (sI (sR v7 0 8 (some 8)) 26 1 0) := FR.I (FR.R (FR.refl _ v7) rfl) rfl
  have B9 : BND (sI (sR v7 0 8 (some 8)) 26 1 0) := wbd_26_1 (bnd_R B7) (by decide) (by decide)
  have W9 : WO (sI (sR v7 0 8 (some 8)) 26 1 0) := wo_zero (by decide)
  have c9 : ((sI (sR v7 0 8 (some 8)) 26 1 0).1 26 1).toInt = 0 := i_0
  have s9 : (sI (sR v7 0 8 (some 8)) 26 1 0).2.2 0 8 = some 8 := sRs v7 0 8 (some 8)
  have t9 : (sI (sR v7 0 8 (some 8)) 26 1 0).2.2 7 0 = some 91 := ((G9 7 0 rfl).2.2).trans r7
  refine Eq.mpr (p_Wa_forget.eq_1 _ _) ?_
  generalize (sI (sR v7 0 8 (some 8)) 26 1 0) = v9 at *
  refine hq_Wa_forget_7 FU _ v9 B9 W9 (by decide) (by decide) (by omega) (by decide) (fun va Ba Fa Wa => ?_) (fun _ _ _ _ q => q.elim)
  refine h_Ar_fill0_37 Ba (by decide) (by decide) (fun vb Bb Fb => ?_)
  have ca : (vb.1 26 1).toInt = 0 := by rw [(Fb 26 1 rfl).1, (Fa 26 1 rfl).1]; exact c9
  have sa : vb.2.2 0 8 = some 8 := by rw [(Fb 0 8 rfl).2.2, (Fa 0 8 rfl).2.2]; exact s9
  have ta : vb.2.2 7 0 = some 91 := by rw [(Fb 7 0 rfl).2.2, (Fa 7 0 rfl).2.2]; exact t9
  have Fc : FR ltP w (sI vb 61 4 4) := FR.I ((F9.tr Fa rfl).tr Fb rfl) rfl
  have Gc : FR [(61, some 4)] vb (sI vb 61 4 4) := FR.I (FR.refl _ vb) rfl
  have Bc : BND (sI vb 61 4 4) := wbd_61_4 Bb (by decide) (by decide)
  have xc : ((sI vb 61 4 4).1 61 4).toInt = 4 := by
    rw [sI_same]
    decide
  refine ⟨ta, ?_⟩
  generalize (sI vb 61 4 4) = vc at *
  refine h_Pl_writeTos91_123 Bc (fun r vd Bd Fd a0 a1 => ?_)
  have Hd : FR [(61, some 4), (123, none), (0, some 12)] vb vd := (FR.tr (FR.refl _ vb) Gc rfl).tr Fd rfl
  have He : FR [(61, some 4), (123, none), (0, some 12)] vb (sI vd 0 12 r) := FR.I Hd rfl
  have Fe : FR ltP w (sI vd 0 12 r) := FR.I (Fc.tr Fd rfl) rfl
  have Ge : FR [(123, none), (0, some 12)] vc (sI vd 0 12 r) := FR.I (FR.tr (FR.refl _ vc) Fd rfl) rfl
  refine ⟨((Hd 7 0 rfl).2.2).trans ta, hQ _ _ (ci_swP h e9 j9 l9 Fe (wbd_0_12 Bd a0 a1) (((He 7 0 rfl).2.2).trans ta) (((He 0 8 rfl).2.2).trans sa) ?_ ?_) Fe⟩
  · rw [(He 26 1 rfl).1]
    exact ca
  · rw [(Ge 61 4 rfl).1]
    exact xc
theorem ci_takeRows {w : MW} {Q : Int32 → MW → Prop} (h : CI w) (hQ : ∀ (r : Int32) (w' : MW), CI (sw sQ w') → FR ltQ w w' → Q r w') : p_Bh_takeRows w Q := by
  have z := h.2.1
  have x := h.2.2.2.2
  have hF : FR ltQ w (sR (sR (sI w 99 1 (w.1 48 1)) 47 3 (some 99)) 0 9 (some 48)) := FR.R (FR.R (FR.I (FR.refl _ w) rfl) rfl) rfl
  have hB : BND (sR (sR (sI w 99 1 (w.1 48 1)) 47 3 (some 99)) 0 9 (some 48)) := bnd_R (bnd_R (wbd_99_1 h.1))
  have s1 : (sR (sR (sI w 99 1 (w.1 48 1)) 47 3 (some 99)) 0 9 (some 48)).2.2 0 9 = some 48 := sRs _ _ _ _
  have s2 : (sR (sR (sI w 99 1 (w.1 48 1)) 47 3 (some 99)) 0 9 (some 48)).2.2 47 3 = some 99 := by
    have g : FR [(0, some 9)] (sR (sI w 99 1 (w.1 48 1)) 47 3 (some 99)) (sR (sR (sI w 99 1 (w.1 48 1)) 47 3 (some 99)) 0 9 (some 48)) := FR.R (FR.refl _ _) rfl
    rw [(g 47 3 rfl).2.2]
    exact sRs _ _ _ _
  refine Eq.mpr (p_Bh_takeRows.eq_1 _ _) ⟨z.2.2.2.2.2.2.2.2.2, x.2.2.2.1, x.2.2.2.1, hQ _ _ ?_ hF⟩
  generalize (sR (sR (sI w 99 1 (w.1 48 1)) 47 3 (some 99)) 0 9 (some 48)) = u at *
  have G := lwQ_sv u
  have r61 : u.2.2 61 3 = some 62 := ((hF 61 3 rfl).2.2).trans z.2.2.2.2.2.2.2.1
  have r7 : u.2.2 7 0 = some 8 := ((hF 7 0 rfl).2.2).trans z.2.2.2.2.2.2.2.2.1
  have r08 : u.2.2 0 8 = some 91 := ((hF 0 8 rfl).2.2).trans x.2.2.1
  have r010 : u.2.2 0 10 = some 108 := ((hF 0 10 rfl).2.2).trans x.2.2.2.2
  have m : ∀ {k j a : Nat}, u.2.2 k j = some a → ∀ {k'}, sQ k' = k → (sw sQ u).2.2 k' j = some (sQ a) := fun {k j a} q {k'} e => by
    show Option.map sQ (u.2.2 (sQ k') j) = _
    rw [e, q]
    rfl
  refine ⟨bnd_sw bt_sQ hB, ⟨?_, ?_, ?_, ?_, ?_, ?_, ?_, m r61 rfl, m r7 rfl, m s2 rfl⟩, ?_, ?_, ?_, ?_, m r08 rfl, m s1 rfl, m r010 rfl⟩
  · exact (PA_fr G rfl (PA_fr hF rfl z.1) : PA (sv sQ u))
  · exact (PT_fr G rfl (PT_fr hF rfl z.2.1) : PT (sv sQ u))
  · exact (AC_fr G rfl (AC_fr hF rfl z.2.2.1) : AC (sv sQ u))
  · exact (AZ_fr G rfl (AZ_fr hF rfl z.2.2.2.1) : AZ (sv sQ u))
  · exact (PE_fr G rfl (PE_fr hF rfl z.2.2.2.2.1) : PE (sv sQ u))
  · exact (PJ_fr G rfl (PJ_fr hF rfl z.2.2.2.2.2.1) : PJ (sv sQ u))
  · exact (PL_fr G rfl (PL_fr hF rfl z.2.2.2.2.2.2.1) : PL (sv sQ u))
  · exact (WO_fr G rfl (WO_fr hF rfl h.2.2.1) : WO (sv sQ u))
  · cases h.2.2.2.1 with
    | inl q =>
      refine Or.inl ⟨((q.1.sl (SLy.fr hF rfl)).sl (SLy.fr G rfl) : RLz (sv sQ u)), fun c => ?_⟩
      have c2 : (w.1 61 4).toInt = 0 ∨ (w.1 61 4).toInt = 2 := by
        rw [← (hF 61 4 rfl).1]
        exact c
      have t := q.2 c2
      obtain ⟨L, hL⟩ := t.2
      refine ⟨?_, L, lv_sl (w' := sw sQ u) (lv_fr hL hF rfl) ⟨rfl, fun _ => rfl, fun _ => rfl, fun _ => rfl, fun _ => rfl, rfl⟩ (fun _ => rfl) (fun _ => rfl)⟩
      have e : yG (sw sQ u) 0 = yG u 0 := rfl
      have e2 : yG u 0 = yG w 0 := by
        unfold yG
        rw [(hF 80 _ rfl).1]
      rw [e, e2]
      exact t.1
    | inr q =>
      refine Or.inr ⟨?_, ?_⟩
      · show (u.1 62 2).toInt < 0
        rw [(hF 62 2 rfl).1]
        exact q.1
      · show (u.1 61 4).toInt = 4
        rw [(hF 61 4 rfl).1]
        exact q.2
  · exact (NK_fr G rfl (NK_fr hF rfl x.1) : NK (sv sQ u))
  · exact (NKz_fr G rfl (NKz_fr hF rfl x.2.1) : NKz (sv sQ u))
theorem rlz_sN {u : MW} (h : RLy u) : RLz (sw sN u) := by
  refine ⟨h.1, h.2.1, ⟨h.2.2.1, h.2.2.2.1.2⟩, fun j j0 j1 => ?_⟩
  exact h.2.2.2.2 j j0 j1
theorem pa_sN {u : MW} (h : PrG u) : PA (sw sN u) := fun n n0 n1 c => by
  obtain ⟨lo, _, _, t⟩ := h.1 n.toInt n0 n1
  exact t.1 c
theorem pt_sN {u : MW} (h : PrG u) : PT (sw sN u) := fun n n0 n1 => by
  obtain ⟨lo, _, _, t⟩ := h.1 n.toInt n0 n1
  have a := t.2.1
  have b : n.toInt < ndC u := n1
  refine ⟨?_, a.2⟩
  show yT u n.toInt ≤ ndC u
  omega
theorem ci_takeProgram {w : MW} {Q : Int32 → MW → Prop} (h : CI w) (hg : PrG w) (hQ : ∀ (r : Int32) (w' : MW), CI (sw sN w') → FR ltN w w' → Q r w') : p_Bh_takeProgram w Q := by
  have z := h.2.1
  have x := h.2.2.2.2
  refine Eq.mpr (p_Bh_takeProgram.eq_1 _ _) ⟨z.2.2.2.2.2.2.2.1, x.2.2.2.2, k_take8 h.1 hg (fun v B F r3 s4 ly pg => ?_)⟩
  have F1 : FR ltN w (sR v 0 10 (some 62)) := FR.R (FR.tr (FR.refl _ w) F rfl) rfl
  have G1 : FR [(0, some 10)] v (sR v 0 10 (some 62)) := FR.R (FR.refl _ v) rfl
  have B1 : BND (sR v 0 10 (some 62)) := bnd_R B
  have t1 : (sR v 0 10 (some 62)).2.2 0 10 = some 62 := sRs _ _ _ _
  generalize (sR v 0 10 (some 62)) = v1 at *
  refine h_Wa_closeAll B1 (PL_fr F1 rfl z.2.2.2.2.2.2.1) (WO_fr (FR.tr (l := [(61, some 3), (61, some 4), (61, some 5), (77, none), (78, none), (79, none), (0, some 10)]) (FR.tr (FR.refl _ w) F rfl) G1 rfl) rfl h.2.2.1) (((F1 7 0 rfl).2.2).trans z.2.2.2.2.2.2.2.2.1) (fun u hB Fu hW => ?_)
  have hF : FR ltN w u := F1.tr Fu rfl
  have H : FR ((0, some 10) :: l_Wa_closeAll) v u := FR.tr (FR.tr (FR.refl _ v) G1 rfl) Fu rfl
  have H2 := fr_sw sN_sy.1 H rfl
  have G := lwN_sv u
  have r61 : u.2.2 61 3 = some 108 := ((H 61 3 rfl).2.2).trans r3
  refine ⟨r61, hQ _ _ ?_ hF⟩
  have r7 : u.2.2 7 0 = some 8 := ((hF 7 0 rfl).2.2).trans z.2.2.2.2.2.2.2.2.1
  have r47 : u.2.2 47 3 = some 48 := ((hF 47 3 rfl).2.2).trans z.2.2.2.2.2.2.2.2.2
  have r08 : u.2.2 0 8 = some 91 := ((hF 0 8 rfl).2.2).trans x.2.2.1
  have r09 : u.2.2 0 9 = some 99 := ((hF 0 9 rfl).2.2).trans x.2.2.2.1
  have r010 : u.2.2 0 10 = some 62 := ((Fu 0 10 rfl).2.2).trans t1
  have m : ∀ {k j a : Nat}, u.2.2 k j = some a → ∀ {k'}, sN k' = k → (sw sN u).2.2 k' j = some (sN a) := fun {k j a} q {k'} e => by
    show Option.map sN (u.2.2 (sN k') j) = _
    rw [e, q]
    rfl
  have u4 : (u.1 61 4).toInt = 4 := by
    rw [(H 61 4 rfl).1]
    exact s4
  refine ⟨bnd_sw bt_sN hB, ⟨PA_fr H2 rfl (pa_sN pg), PT_fr H2 rfl (pt_sN pg), ?_, ?_, ?_, ?_, ?_, m r61 rfl, m r7 rfl, m r47 rfl⟩, ?_, Or.inl ⟨(rlz_sN ly).sl (SLy.fr H2 rfl), fun c => ?_⟩, ?_, ?_, m r08 rfl, m r09 rfl, m r010 rfl⟩
  · exact (AC_fr G rfl (AC_fr hF rfl z.2.2.1) : AC (sv sN u))
  · exact (AZ_fr G rfl (AZ_fr hF rfl z.2.2.2.1) : AZ (sv sN u))
  · exact (PE_fr G rfl (PE_fr hF rfl z.2.2.2.2.1) : PE (sv sN u))
  · exact (PJ_fr G rfl (PJ_fr hF rfl z.2.2.2.2.2.1) : PJ (sv sN u))
  · exact (PL_fr G rfl (PL_fr hF rfl z.2.2.2.2.2.2.1) : PL (sv sN u))
  · exact (WO_fr G rfl hW : WO (sv sN u))
  · have c2 : (u.1 61 4).toInt = 0 ∨ (u.1 61 4).toInt = 2 := c
    omega
  · exact (NKz_fr hF rfl x.2.1 : NKz u)
  · exact (NK_fr hF rfl x.1 : NK u)
/-- the world behind a call, with its twins where they were -/
def CIs (w : MW) : Prop := CI w ∨ CI (sw sP w) ∨ CI (sw sQ w) ∨ CI (sw sN w)
theorem ci_end129 {w0 w : MW} {y s : Int32} {Q : Int32 → MW → Prop} (h : CI w) (F : FR lBE w0 w) (y0 : 0 ≤ y.toInt) (y2 : y.toInt ≤ 2) (hp : y.toInt = 0 → s.toInt < 0 → PE9 w ∧ PJ9 w ∧ PL9 w) (hg : y.toInt = 2 → s.toInt < 0 → PrG w) (hQ : ∀ (r : Int32) (w' : MW), CIs w' → FR lBE w0 w' → Q r w') : q_Bh_end_129 y s w Q := by
  refine Eq.mpr (q_Bh_end_129.eq_1 _ _ _ _) ⟨fun c => ⟨fun c0 => ⟨fun c1 => ?_, fun c1 => ?_⟩, fun c0 => ?_⟩, fun _ => hQ _ w (Or.inl h) F⟩
  · exact ci_takeProgram h (hg (by omega) c) (fun r w' h' hF => hQ r w' (Or.inr (Or.inr (Or.inr h'))) (F.tr hF rfl))
  · exact ci_takeRows h (fun r w' h' hF => hQ r w' (Or.inr (Or.inr (Or.inl h'))) (F.tr hF rfl))
  · have t := hp (by omega) c
    exact ci_takePlant h t.1 t.2.1 t.2.2 (fun r w' h' hF => hQ r w' (Or.inr (Or.inl h')) (F.tr hF rfl))
theorem sR_sR (w : MW) (k j : Nat) (v : Option Nat) : sR (sR w k j v) k j v = sR w k j v := by
  have e : (sR (sR w k j v) k j v).2.2 = (sR w k j v).2.2 := by
    funext a b
    show (if a = k ∧ b = j then v else (if a = k ∧ b = j then v else w.2.2 a b)) = (if a = k ∧ b = j then v else w.2.2 a b)
    by_cases q : a = k ∧ b = j
    · rw [if_pos q, if_pos q]
    · rw [if_neg q, if_neg q]
  exact Prod.ext rfl (Prod.ext rfl e)
theorem ci_readP {w : MW} {Q : Int32 → MW → Prop} (h : CI w) (hQ : ∀ (r : Int32) (w' : MW), CI w' → FR l_Pl_reads91_1 w w' → (r.toInt < 0 → PE9 w' ∧ PJ9 w' ∧ PL9 w') → Q r w') : p_Pl_reads91_1 w Q := by
  have F1 : FR l_Pl_reads91_1 w (sR w 91 9 (some 1)) := FR.R (FR.refl _ w) rfl
  have k : p_Pl_reads91_1 (sR w 91 9 (some 1)) Q := h_Pl_reads91_1 (bnd_R h.1) (sRs _ _ _ _) (fun r w' hB hF p1 p2 p3 a0 a1 => hQ r w' (ci_fr h (F1.tr hF rfl) hB rfl) (F1.tr hF rfl) (fun c => ⟨p1.resolve_left (by omega), p2.resolve_left (by omega), p3.resolve_left (by omega)⟩))
  rw [p_Pl_reads91_1.eq_1] at k ⊢
  rw [sR_sR] at k
  exact k
theorem ci_readQ {w : MW} {Q : Int32 → MW → Prop} (h : CI w) (hQ : ∀ (r : Int32) (w' : MW), CI w' → FR l_Ro_reads99_1 w w' → Q r w') : p_Ro_reads99_1 w Q := by
  have F1 : FR l_Ro_reads99_1 w (sR w 99 11 (some 1)) := FR.R (FR.refl _ w) rfl
  have k : p_Ro_reads99_1 (sR w 99 11 (some 1)) Q := h_Ro_reads99_1 (bnd_R h.1) (sRs _ _ _ _) (fun r w' hB hF => hQ r w' (ci_fr h (F1.tr hF rfl) hB rfl) (F1.tr hF rfl))
  rw [p_Ro_reads99_1.eq_1] at k ⊢
  rw [sR_sR] at k
  exact k
theorem ci_readN {w : MW} {Q : Int32 → MW → Prop} (h : CI w) (hQ : ∀ (r : Int32) (w' : MW), CI w' → FR lrr w w' → (r.toInt < 0 → PrG w') → Q r w') : p_Rd_read_1_108 w Q := by
  have x := h.2.2.2.2
  refine k_read h.1 x.1 (fun r w' hB hF nk hp => hQ r w' ?_ hF hp)
  have z := h.2.1.fr hF rfl
  have hx : CIx w' := ⟨nk, NKz_fr hF rfl x.2.1, ((hF 0 8 rfl).2.2).trans x.2.2.1, ((hF 0 9 rfl).2.2).trans x.2.2.2.1, ((hF 0 10 rfl).2.2).trans x.2.2.2.2⟩
  cases h.2.2.2.1 with
  | inl q => exact cri_ci (cri_fr ⟨h.1, ⟨q.1, h.2.1⟩, h.2.2.1, q.2⟩ hF hB rfl) hx
  | inr q =>
    refine ⟨hB, z, WO_fr hF rfl h.2.2.1, Or.inr ⟨?_, ?_⟩, hx⟩
    · rw [(hF 62 2 rfl).1]
      exact q.1
    · rw [(hF 61 4 rfl).1]
      exact q.2
theorem ci_end58 {w : MW} {y f s : Int32} {Q : Int32 → MW → Prop} (h : CI w) (hf : ¬ f.toInt = 0 → 0 ≤ y.toInt ∧ y.toInt ≤ 2) (s0 : 0 ≤ s.toInt) (s1 : s.toInt ≤ 4000) (hQ : ∀ (r : Int32) (w' : MW), CIs w' → FR lBE w w' → Q r w') : q_Bh_end_58 y f s w Q := by
  have F1 : FR lBE w (sI w 1 2 s) := FR.I (FR.refl _ w) rfl
  have h1 : CI (sI w 1 2 s) := ci_fr (l := [(1, some 2)]) h (FR.I (FR.refl _ w) rfl) (wbd_1_2 h.1 s0 s1) rfl
  refine Eq.mpr (q_Bh_end_58.eq_1 _ _ _ _ _) ?_
  generalize (sI w 1 2 s) = w1 at *
  refine ⟨fun _ => hQ _ w1 (Or.inl h1) F1, fun c => h_Tp_isText h1.1 (fun r w2 hB hF a0 a1 => ?_)⟩
  have h2 : CI w2 := ci_fr h1 hF hB rfl
  have F2 : FR lBE w w2 := F1.tr hF rfl
  have yy := hf c
  refine ⟨fun _ => ⟨fun c0 => ⟨fun c1 => ⟨h2.2.2.2.2.2.2.2.2, ci_readN h2 (fun r3 w3 h3 F3 hp => ci_end129 h3 (F2.tr F3 rfl) yy.1 yy.2 (fun q => absurd q c0) (fun _ q => hp q) hQ)⟩, fun c1 => ⟨h2.2.2.2.2.2.2.2.1, ci_readQ h2 (fun r3 w3 h3 F3 => ci_end129 h3 (F2.tr F3 rfl) yy.1 yy.2 (fun q => absurd q c0) (fun q => by omega) hQ)⟩⟩, fun c0 => ⟨h2.2.2.2.2.2.2.1, ci_readP h2 (fun r3 w3 h3 F3 hp => ci_end129 h3 (F2.tr F3 rfl) yy.1 yy.2 (fun _ q => hp q) (fun q => by omega) hQ)⟩⟩, fun _ => hQ _ w2 (Or.inl h2) F2⟩
theorem ci_end {w : MW} {a b : Int32} {Q : Int32 → MW → Prop} (h : CI w) (hQ : ∀ (r : Int32) (w' : MW), CIs w' → FR lBE (sI w 1 1 0) w' → Q r w') : p_Bh_end w a b Q := by
  have h1 : CI (sI w 1 1 0) := ci_fr (l := [(1, some 1)]) h (FR.I (FR.refl _ w) rfl) (wbd_1_1 h.1 (by decide) (by decide)) rfl
  have no : q_Bh_end_36 a b 0 w Q := Eq.mpr (q_Bh_end_36.eq_1 _ _ _ _ _) ⟨fun _ => ci_end58 h1 (fun q => absurd i_0 q) (by decide) (by decide) hQ, fun q => absurd i_0 q⟩
  refine Eq.mpr (p_Bh_end.eq_1 _ _ _ _) ⟨fun _ => no, fun a0 => ⟨fun _ => no, fun a2 => ⟨fun _ => no, fun b0 => ⟨fun _ => no, fun b4 => ⟨fun _ => no, fun _ => ?_⟩⟩⟩⟩⟩
  exact Eq.mpr (q_Bh_end_36.eq_1 _ _ _ _ _) ⟨fun q => absurd q (by decide), fun _ => ci_end58 h1 (fun _ => ⟨by omega, by omega⟩) (by omega) (by omega) hQ⟩
