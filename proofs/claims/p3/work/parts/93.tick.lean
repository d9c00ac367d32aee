/-! tick: the seconds -/
def TkV (u v a : Int32) : Prop := (0 ≤ a.toInt ∧ a.toInt ≤ 600 ∧ v = u + a) ∨ ((a.toInt < 0 ∨ 600 < a.toInt) ∧ v = u)
theorem tk_eq {u v v' a : Int32} (h : TkV u v a) (h' : TkV u v' a) : v = v' := by
  rcases h with ⟨x, y, e⟩ | ⟨x, e⟩
  · rcases h' with ⟨x', y', e'⟩ | ⟨x', e'⟩
    · rw [e, e']
    · omega
  · rcases h' with ⟨x', y', e'⟩ | ⟨x', e'⟩
    · omega
    · rw [e, e']
def lwk : Pl := (127, some 59) :: (127, some 74) :: lgo
theorem g_walk2 {w : MW} {Q : MW → Prop} (h : RnX w) (hQ : ∀ w', RnX w' → FR lwk w w' → Q w') : p_Mo_walk w Q := by
  have hF0 : FR [(127, some 72), (127, some 73), (127, some 75)] w (sI (sI (sI w 127 72 0) 127 73 0) 127 75 0) := FR.I (FR.I (FR.I (FR.refl _ w) rfl) rfl) rfl
  have h0 : RnX (sI (sI (sI w 127 72 0) 127 73 0) 127 75 0) := RnX_fr hF0 (wbd_127_75 (wbd_127_73 (wbd_127_72 h.1 (by decide) (by decide)) (by decide) (by decide)) (by decide) (by decide)) rfl h
  have hG : FR lwk w (sI (sI (sI w 127 72 0) 127 73 0) 127 75 0) := (FR.refl lwk w).tr hF0 rfl
  refine Eq.mpr (p_Mo_walk.eq_1 _ _) ?_
  generalize (sI (sI (sI w 127 72 0) 127 73 0) 127 75 0) = w0 at *
  have s1 := h0.2.2.2.2.1.1
  have e32 : ∀ (r : Int32) (w1 : MW), RnS 0 w0 w1 → q_Mo_walk_32 r w1 Q := by
    intro r w1 h1
    have q : ∀ v : Int32, 0 ≤ v.toInt → v.toInt ≤ 4 → Q (sI (sI w1 127 59 v) 127 74 ((w1.1 127 74) + (1 : Int32))) := fun v v0 v1 => by
      have hF : FR [(127, some 59), (127, some 74)] w1 (sI (sI w1 127 59 v) 127 74 ((w1.1 127 74) + (1 : Int32))) := FR.I (FR.I (FR.refl _ w1) rfl) rfl
      exact hQ _ (RnX_fr hF (wbd_127_74 (wbd_127_59 h1.1.1 v0 v1)) rfl h1.1) ((hG.tr h1.2.1 rfl).tr hF rfl)
    exact Eq.mpr (q_Mo_walk_32.eq_1 _ _ _) ⟨fun _ => ⟨fun _ => ⟨fun _ => q _ (by decide) (by decide), fun _ => ⟨fun _ => q _ (by decide) (by decide), fun _ => q _ (by decide) (by decide)⟩⟩, fun _ => q _ (by decide) (by decide)⟩, fun _ => q _ (by decide) (by decide)⟩
  refine lm_all 510 0 w0 _ h0 (by decide) (by rw [i_0]; omega) (by decide) (fun r1 w1 h1 => ⟨fun _ => e32 _ w1 h1, fun _ => ?_⟩)
  have e60 : w1.1 127 60 = w0.1 127 60 := (h1.2.1 127 60 rfl).1
  exact (go_all 1010).1 0 w1 _ h1.1 (by decide) (by rw [i_0, e60]; omega) (by decide) (fun r w2 h2 _ => e32 r w2 (h1.tr h2 (Int.le_refl _)))
theorem tkv_67 {a b : Int32} {E : MW → Prop} {Q : Int32 → MW → Prop} {z : MW} {u : Int32} (hE : ∀ w, MdI w → FR ltk z w → w.1 127 78 = u → E w) (n : Nat) : ∀ (k : Int32) (w : MW), MdI w → FR ltk z w → w.1 127 78 = u → 0 ≤ k.toInt → k.toInt ≤ 24 → (24 - k.toInt).toNat < n → q_Mo_tick_67 a b E Q n k w := by
  induction n with
  | zero => intros; omega
  | succ n ih =>
    intro k w h hF hu k0 k1 hm
    rw [q_Mo_tick_67.eq_2]
    refine ⟨fun _ => hE w h hF hu, fun c => ?_⟩
    have b26 := bd_127_26 h.1
    have e : (k + (1 : Int32)).toInt = k.toInt + 1 := ti_add2 rfl (by decide) (by omega) (by omega)
    exact h_Mo_flow h.1 h.2.2.2.1.2.1 k0 (by omega) (by omega) (fun w' hI' hF' => ih _ w' (MdI_fr hF' hI' rfl h) (hF.tr hF' rfl) (((hF' 127 78 rfl).1).trans hu) (by omega) (by omega) (by omega))
theorem tkv_15 {a : Int32} {E : MW → Prop} {Q : Int32 → MW → Prop} {z : MW} (ha : a.toInt ≤ 600) (a0 : 0 ≤ a.toInt) (hE : ∀ w, MdI w → FR ltk z w → w.1 127 78 = z.1 127 78 + a → E w) (n : Nat) : ∀ (k : Int32) (w : MW), MdI w → FR ltk z w → w.1 127 78 = z.1 127 78 + k → 0 ≤ k.toInt → k.toInt ≤ a.toInt → (600 - k.toInt).toNat < n → q_Mo_tick_15 a E Q n k w := by
  induction n with
  | zero => intros; omega
  | succ n ih =>
    intro k w h hF hu k0 k1 hm
    rw [q_Mo_tick_15.eq_2]
    refine ⟨fun c => hE w h hF (by rw [hu, ti_inj (show k.toInt = a.toInt by omega)]), fun c => ?_⟩
    have e : (k + (1 : Int32)).toInt = k.toInt + 1 := ti_add2 rfl (by decide) (by omega) (by omega)
    refine h_Mo_senseAll h.1 (fun w4 hI4 hF4 => ?_)
    have h4 := MdI_fr hF4 hI4 rfl h
    refine h_Mr_tick hI4 h4.2.2.2.1.1 (by decide) (by decide) (fun r5 w5 hI5 hF5 _ _ => ?_)
    have h5 := MdI_fr hF5 hI5 rfl h4
    have hG := (hF.tr hF4 rfl).tr hF5 rfl
    have u5 : w5.1 127 78 = z.1 127 78 + k := ((hF5 127 78 rfl).1).trans (((hF4 127 78 rfl).1).trans hu)
    have fl : ∀ w1 : MW, MdI w1 → FR ltk z w1 → w1.1 127 78 = z.1 127 78 + k → q_Mo_tick_67 a k (fun (w9 : MW) => (q_Mo_tick_15 a E Q n (k + (1 : Int32)) (sI w9 127 78 ((w9.1 127 78) + (1 : Int32))))) Q FU 0 w1 := fun w1 h1 hF1 hu1 => tkv_67 (z := z) (u := z.1 127 78 + k) (fun w9 h9 hF9 hu9 => ih _ _ (MdI_fr (l := [(127, some 78)]) (FR.I (FR.refl _ w9) rfl) (wbd_127_78 h9.1) rfl h9) (FR.I hF9 rfl) (by rw [sI_same, hu9, Int32.add_assoc]) (by omega) (by omega) (by omega)) FU 0 w1 h1 hF1 hu1 (by decide) (by decide) (fu_lt (by decide))
    refine ⟨fun _ => fl w5 h5 hG u5, fun c0 => g_walk2 (h5.rn (Or.inl (Classical.not_not.mp c0))) (fun w10 h10 hF10 => ?_)⟩
    have hH := hG.tr hF10 rfl
    have u10 : w10.1 127 78 = z.1 127 78 + k := ((hF10 127 78 rfl).1).trans u5
    have cl : q_Mo_tick_60 a k w10 (fun (x15_2 : Int32) (w : MW) => q_Mo_tick_15 a E Q n x15_2 w) E Q := by
      refine Eq.mpr (q_Mo_tick_60.eq_1 _ _ _ _ _ _) (h_Mo_closeAll h10.1 h10.2.2.2.2.2.2.1 h10.2.2.2.2.2.2.2.1 (fun w12 hI12 hF12 hT12 hH12 => ?_))
      exact fl w12 (MdI_fw hF12 hI12 rfl hT12 hH12 h10.md) (hH.tr hF12 rfl) (((hF12 127 78 rfl).1).trans u10)
    exact ⟨fun _ => cl, fun _ => ⟨fun _ => fl w10 h10.md hH u10, fun _ => cl⟩⟩
theorem mv_tick {w : MW} {a : Int32} {Q : Int32 → MW → Prop} (h : MdJ w) (hQ : ∀ (r : Int32) (w' : MW), MdJ w' → FR ltk w w' → TkV (w.1 127 78) (w'.1 127 78) a → Q r w') : p_Mo_tick w a Q :=
  Eq.mpr (p_Mo_tick.eq_1 _ _ _) ⟨fun c => hQ _ w h (FR.refl _ w) (Or.inr ⟨by omega, rfl⟩), fun c0 => ⟨fun c => tkv_15 (z := w) c (by omega) (fun w' h' hF' hu => hQ _ w' (mj_tk h h' hF' rfl) hF' (Or.inl ⟨by omega, c, hu⟩)) FU 0 w h.1 (FR.refl _ w) (Int32.add_zero _).symm (by decide) (by rw [i_0]; omega) (fu_lt (by decide)), fun c => hQ _ w h (FR.refl _ w) (Or.inr ⟨by omega, rfl⟩)⟩⟩
theorem cv_tick15 {a : Int32} {w0 : MW} {E : MW → Prop} {Q : Int32 → MW → Prop} (a0 : 0 ≤ a.toInt) (a1 : a.toInt ≤ 600) (hE : ∀ w', CI w' → FR l_Bh_tick w0 w' → w'.1 7 1 = w0.1 7 1 + a → E w') (n : Nat) : ∀ (i : Int32) (w : MW), CI w → FR l_Bh_tick w0 w → w.1 7 1 = w0.1 7 1 + i → 0 ≤ i.toInt → i.toInt ≤ a.toInt → (601 - i.toInt).toNat < n → q_Bh_tick_15 a E Q n i w := by
  induction n with
  | zero => intros; omega
  | succ n ih =>
    intro i w h hF hu i0 i1 hm
    rw [q_Bh_tick_15.eq_2]
    refine ⟨fun c => hE w h hF (by rw [hu, ti_inj (show i.toInt = a.toInt by omega)]), fun ci => ?_⟩
    have si := ti_add2 (Eq.refl i.toInt) i_1 (by omega) (by omega)
    have S := h.2.1.2.2.2.2.2.2.2
    have nxt : ∀ w', CI w' → FR l_Bh_tick w0 w' → w'.1 7 1 = w0.1 7 1 + i → p_Wa_move w' (fun w8 => (q_Bh_tick_15 a E Q n (i + (1 : Int32)) (sI w8 7 1 ((w8.1 7 1) + (1 : Int32))))) := fun w' h' hF' hu' => h_Wa_move h'.1 h'.2.1.2.2.2.2.2.2.2.2.1 (fun w8 hB8 hF8 => by
      have h8 := ci_fr h' hF8 hB8 rfl
      have F9 : FR [(7, some 1)] w8 (sI w8 7 1 ((w8.1 7 1) + (1 : Int32))) := FR.I (FR.refl _ w8) rfl
      exact ih _ _ (ci_fr h8 F9 (wbd_7_1 h8.1) rfl) ((hF'.tr hF8 rfl).tr F9 rfl) (by rw [sI_same, (hF8 7 1 rfl).1, hu', Int32.add_assoc]) (by omega) (by omega) (by omega))
    refine h_Bh_senseAll h.1 S.2.2 S.1 S.2.1 (fun w4 hB4 hF4 => ?_)
    have h4 := ci_fr h hF4 hB4 rfl
    refine ⟨h4.2.1.2.2.2.2.2.2.2.2.2, h_Ro_countSecond hB4 (fun w6 hB6 hF6 => ?_)⟩
    have h6 := ci_fr h4 hF6 hB6 rfl
    have F6 : FR l_Bh_tick w0 w6 := (hF.tr hF4 rfl).tr hF6 rfl
    have u6 : w6.1 7 1 = w0.1 7 1 + i := ((hF6 7 1 rfl).1).trans (((hF4 7 1 rfl).1).trans hu)
    refine ⟨fun _ => nxt w6 h6 F6 u6, fun c => ?_⟩
    have c0 : (w6.1 61 4).toInt = 0 := Classical.not_not.mp c
    have q6 : RLz w6 ∧ RnI w6 := h6.2.2.2.1.resolve_right (fun f => by have := f.2; omega)
    have q := q6.2 (Or.inl c0)
    obtain ⟨L, hL⟩ := q.2
    refine cr_walk (L := L) ⟨h6.1, ⟨q6.1, h6.2.1⟩, h6.2.2.1, hL⟩ (by have := q.1; omega) (fun w9 L9 t9 e9 => ?_)
    have h9r : CrI w9 := ⟨t9.1.1, t9.1.2.1, t9.1.2.2.1, fun _ => ⟨e9.trans q.1, L9, t9.1.2.2.2⟩⟩
    have h9 : CI w9 := cri_ci h9r (h6.2.2.2.2.fr t9.2.1 rfl)
    have F9 : FR l_Bh_tick w0 w9 := F6.tr t9.2.1 rfl
    have u9 : w9.1 7 1 = w0.1 7 1 + i := ((t9.2.1 7 1 rfl).1).trans u6
    have c73 : q_Bh_tick_73 a i w9 (fun (x15_2 : Int32) (w : MW) => q_Bh_tick_15 a E Q n x15_2 w) E Q := Eq.mpr (q_Bh_tick_73.eq_1 _ _ _ _ _ _) (h_Wa_closeAll h9.1 h9.2.1.2.2.2.2.2.2.1 h9.2.2.1 h9.2.1.2.2.2.2.2.2.2.2.1 (fun w11 hB11 hF11 hW11 => nxt w11 (ci_wo h9 hF11 hB11 hW11 rfl) (F9.tr hF11 rfl) (((hF11 7 1 rfl).1).trans u9)))
    exact ⟨fun _ => c73, fun _ => ⟨fun _ => nxt w9 h9 F9 u9, fun _ => c73⟩⟩
theorem cv_tick {w : MW} {a : Int32} {Q : Int32 → MW → Prop} (h : CI w) (hQ : ∀ (r : Int32) (w' : MW), CI w' → FR l_Bh_tick w w' → TkV (w.1 7 1) (w'.1 7 1) a → Q r w') : p_Bh_tick w a Q :=
  Eq.mpr (p_Bh_tick.eq_1 _ _ _) ⟨fun _ => hQ _ w h (FR.refl _ w) (Or.inr ⟨by omega, rfl⟩), fun _ => ⟨fun c => cv_tick15 (by omega) c (fun w' h' F' hu => hQ _ w' h' F' (Or.inl ⟨by omega, c, hu⟩)) FU 0 w h (FR.refl _ w) (Int32.add_zero _).symm (by decide) (by rw [i_0]; omega) (by decide), fun _ => hQ _ w h (FR.refl _ w) (Or.inr ⟨by omega, rfl⟩)⟩⟩
