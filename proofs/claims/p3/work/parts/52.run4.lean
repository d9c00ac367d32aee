/-! the reference's run: begin and go -/
theorem nd_fr {w0 w : MW} (hF : FR lgo w0 w) (n : Int) : nd1 w n = nd1 w0 n := by unfold nd1; rw [(hF 129 12 rfl).1]
theorem wn_fr {w0 w : MW} (hF : FR lgo w0 w) (n : Int32) : Wn w n = Wn w0 n := by unfold Wn; rw [nd_fr hF, (hF 131 _ rfl).1]
theorem be_248 {i n y r : Int32} {x s : Int64} {w0 w : MW} {Q : Int32 → MW → Prop} (h0 : RnX w0) (h : B1 i w0 w) (i0 : 0 < i.toInt) (i1 : i.toInt < (w0.1 127 60).toInt) (hn : n = w0.1 207 i.toInt.toNat) (hy : y.toInt = Wn w0 n) (hr0 : 0 ≤ r.toInt ∧ r.toInt < 600) (hr : r.toInt.toNat = nd1 w0 n.toInt) (hQ : ∀ w', B1 i w0 w' → Q 1 w') : q_Mo_begin_248 i n y r x s i w Q := by
  have hF := h.1.2.1
  have b60 := bd_127_60 h0.1
  have hx : 0 ≤ i.toInt ∧ i.toInt < 502 := by omega
  have j0 : 0 ≤ i.toInt := by omega
  have hs := h0.2.2.2.2.1.2.2.2 i i0 i1
  rw [← hn] at hs
  have ht := h0.2.2.1 n hs.1 hs.2.1
  have e60 : w.1 127 60 = w0.1 127 60 := (hF 127 60 rfl).1
  have e8 : ∀ j, w.1 208 j = w0.1 208 j := fun j => (hF 208 j rfl).1
  have e9 : ∀ j, w.1 209 j = w0.1 209 j := fun j => (hF 209 j rfl).1
  have e132 : ∀ j, w.2.1 132 j = w0.2.1 132 j := fun j => (hF 132 j rfl).2.1
  have q8 := (h0.2.2.2.1 i j0 i1).1
  have hA : B1 i w0 (sI (sJ w 215 i.toInt.toNat (s / (1000 : Int64))) 211 i.toInt.toNat (vp_nar .boolean (0 : Int32))) := b1_fr (l := [(211, none)]) (b1_215 h) j0 (FR.I (FR.refl _ _) rfl) (wbd_211 (bnd_J h.1.1.1) _ (by decide) (by decide)) rfl rfl rfl
  have a60 : (sI (sJ w 215 i.toInt.toNat (s / (1000 : Int64))) 211 i.toInt.toNat (vp_nar .boolean (0 : Int32))).1 127 60 = w0.1 127 60 := (hA.1.2.1 127 60 rfl).1
  have a8 : ∀ j, (sI (sJ w 215 i.toInt.toNat (s / (1000 : Int64))) 211 i.toInt.toNat (vp_nar .boolean (0 : Int32))).1 208 j = w0.1 208 j := fun j => (hA.1.2.1 208 j rfl).1
  have ea : (w.1 208 i.toInt.toNat) = (sI (sJ w 215 i.toInt.toNat (s / (1000 : Int64))) 211 i.toInt.toNat (vp_nar .boolean (0 : Int32))).1 208 i.toInt.toNat := by rw [a8, e8]
  have e215 : (sJ w 215 i.toInt.toNat (s / (1000 : Int64))).2.1 215 i.toInt.toNat = s / (1000 : Int64) := by rw [sJ_at, if_pos ⟨rfl, rfl⟩]
  refine Eq.mpr (q_Mo_begin_248.eq_1 _ _ _ _ _ _ _ _ _) ?_
  rw [hr, e132]
  generalize hA0 : (sI (sJ w 215 i.toInt.toNat (s / (1000 : Int64))) 211 i.toInt.toNat (vp_nar .boolean (0 : Int32))) = A at *
  have en : ∀ w', B1 i w0 w' → q_Mo_begin_538 (fun w' => Q 1 w') Q FU (w.1 208 i.toInt.toNat) w' := fun w' h' => be_end h' j0 (by rw [(h'.1.2.1 127 60 rfl).1]; exact i1) (by rw [(h'.1.2.1 208 _ rfl).1, e8]) hQ
  have en2 : ∀ w', B1 i w0 w' → q_Mo_begin_538 (fun w' => Q 1 w') Q FU (w'.1 208 i.toInt.toNat) w' := fun w' h' => be_end h' j0 (by rw [(h'.1.2.1 127 60 rfl).1]; exact i1) rfl hQ
  refine ⟨hx, hx, hr0, fun c10 => ⟨fun c13 => ⟨fun c12 => ⟨fun c15 => ⟨fun c17 => ⟨fun c21 => ⟨fun c22 => ⟨hx, en A hA⟩, fun c22 => ?_⟩, fun c21 => ⟨hx, en _ ?_⟩⟩, fun c17 => ?_⟩, fun c15 => ?_⟩, fun c12 => ⟨fun _ => ⟨hx, hx, en _ ?_⟩, fun _ => ⟨hx, hx, en _ ?_⟩⟩⟩, fun c13 => ?_⟩, fun c10 => ⟨ht.2.2.1 (by omega), hx, en _ ?_⟩⟩
  · have hm := ht.2.2.2 (by omega)
    have p := hA.1.1.2.2.2.2.2
    refine h_Mo_perform hA.1.1.1 p.1 p.2.1 p.2.2.1 p.2.2.2.1 p.2.2.2.2.1 p.2.2.2.2.2.1 p.2.2.2.2.2.2 hm.1 hm.2 (fun r35 w35 hI35 hF35 hT35 hH35 _ _ => ?_)
    have h35 := b1_rs hA j0 (rn_perf (i := i.toInt + 1) hA.1.1 hI35 hF35 hT35 hH35)
    exact ⟨fun _ => ⟨hx, en2 _ h35⟩, fun _ => g_raise (i := i.toInt + 1) h35.1.1 ⟨ti_lo _, ti_hi _⟩ (fun w39 h39 _ => ⟨hx, en2 _ (b1_rs h35 j0 h39)⟩)⟩
  · exact b1_fr (l := [(127, some 75)]) hA j0 (FR.I (FR.refl _ _) rfl) (wbd_127_75 hA.1.1.1 (by decide) (by decide)) rfl rfl rfl
  · have c17 := Classical.not_not.mp c17
    have f0 := hs.2.2.2.1 (Or.inr (by omega))
    have q8 := q8.resolve_left (by omega)
    have q9 := (h0.2.2.2.1 _ f0 q8.2).2.1
    refine ⟨fun _ => ⟨hx, by rw [e8]; omega, be_470 hA j0 (by rw [a60]; exact i1) ?_ hQ⟩, fun _ => ⟨hx, be_470 hA j0 (by rw [a60]; exact i1) ?_ hQ⟩⟩
    · rw [e8, e9, a60]
      rcases q9 with q9 | q9
      · exact Or.inl q9
      · exact Or.inr ⟨by omega, q9.2⟩
    · rw [e8, a60]
      exact Or.inr q8
  · have c15 := Classical.not_not.mp c15
    have f0 := hs.2.2.2.1 (Or.inl (by omega))
    have q8 := q8.resolve_left (by omega)
    have q9 := (h0.2.2.2.1 _ f0 q8.2).2.1
    refine ⟨fun _ => ⟨hx, by rw [e8]; omega, hx, hx, en _ (b1_cur hA j0 (by rw [a60]; exact i1) ?_)⟩, fun _ => ⟨hx, hx, hx, en _ (b1_cur hA j0 (by rw [a60]; exact i1) ?_)⟩⟩
    · rw [e8, e9, a60]
      rcases q9 with q9 | q9
      · exact Or.inl q9
      · exact Or.inr ⟨by omega, q9.2⟩
    · rw [e8, a60]
      exact Or.inr q8
  · exact b1_fr (l := [(211, none)]) hA j0 (FR.I (FR.refl _ _) rfl) (wbd_211 hA.1.1.1 _ (by decide) (by decide)) rfl rfl rfl
  · exact b1_fr (l := [(211, none)]) hA j0 (FR.I (FR.refl _ _) rfl) (wbd_211 hA.1.1.1 _ (by decide) (by decide)) rfl rfl rfl
  · have hm := ht.2.2.1 (by omega)
    have hB : ∀ u : Int64, B1 i w0 (sJ A 217 i.toInt.toNat u) := fun u => b1_fr (l := [(217, none)]) hA j0 (FR.J (FR.refl _ _) rfl) (bnd_J hA.1.1.1) rfl rfl rfl
    exact ⟨hm, hx, hx, fun _ => be_331 (hB _) j0 (by rw [sJ_fst0, a60]; exact i1) hm hQ, fun _ => be_331 (hB _) j0 (by rw [sJ_fst0, a60]; exact i1) hm hQ⟩
  · exact b1_fr (l := [(206, none)]) hA j0 (FR.J (FR.refl _ _) rfl) (bnd_J hA.1.1.1) rfl rfl rfl
def B0 (i : Int32) (w0 w : MW) : Prop := RnS (i.toInt + 1) w0 w ∧ (w0.1 127 72).toInt < (w.1 127 72).toInt
theorem b0_rs {i : Int32} {w0 w w' : MW} (h : B0 i w0 w) (h2 : RnS (i.toInt + 1) w w') : B0 i w0 w' := ⟨h.1.tr h2 (Int.le_refl _), Int.lt_of_lt_of_le h.2 h2.2.2.2⟩
theorem be_182 {i n y r : Int32} {x s : Int64} {w0 w : MW} {Q : Int32 → MW → Prop} (h0 : RnX w0) (h : B0 i w0 w) (i0 : 0 < i.toInt) (i1 : i.toInt < (w0.1 127 60).toInt) (hn : n = w0.1 207 i.toInt.toNat) (hy : y.toInt = Wn w0 n) (hr0 : 0 ≤ r.toInt ∧ r.toInt < 600) (hr : r.toInt.toNat = nd1 w0 n.toInt) (hQ0 : ∀ w', RnS i.toInt w0 w' → Q 0 w') (hQ : ∀ w', B1 i w0 w' → Q 1 w') : q_Mo_begin_182 i n y r x s w Q := by
  have b60 := bd_127_60 h0.1
  have hx : 0 ≤ i.toInt ∧ i.toInt < 502 := by omega
  refine Eq.mpr (q_Mo_begin_182.eq_1 _ _ _ _ _ _ _ _) (g_isBad (i := i.toInt + 1) h.1.1 (fun r11 w11 h11 _ => ?_))
  have h2 := b0_rs h h11
  have hb : ∀ u : Int64, B1 i w0 (sJ (sI (sI (sI w11 210 i.toInt.toNat (vp_nar .boolean (1 : Int32))) 214 i.toInt.toNat (w11.1 127 74)) 213 i.toInt.toNat (w11.1 208 i.toInt.toNat)) 216 i.toInt.toNat u) := fun u => by
    have e60 : w11.1 127 60 = w0.1 127 60 := (h2.1.2.1 127 60 rfl).1
    have hg := rn_beg (i := i) (v := w11.1 127 74) (x := u) h11.1 i0 (by rw [e60]; exact i1)
    exact ⟨(h2.1.wk (by omega)).tr hg.1 (Int.le_refl _), Int.lt_of_lt_of_le h2.2 hg.1.2.2.2, hg.2⟩
  exact ⟨fun _ => ⟨hx, hx, hx, hx, hx, fun _ => be_248 h0 (hb _) i0 i1 hn hy hr0 hr hQ, fun _ => be_248 h0 (hb _) i0 i1 hn hy hr0 hr hQ⟩, fun _ => hQ0 _ (h2.1.wk (by omega))⟩
theorem kid_fr {w0 w : MW} {n k : Int} (hF : FR lgo w0 w) (h : KIDe w0 n k) : KIDe w n k := by
  have q12 : w.1 129 12 = w0.1 129 12 := (hF 129 12 rfl).1
  have q131 : ∀ j, w.1 131 j = w0.1 131 j := fun j => (hF 131 j rfl).1
  have q135 : ∀ j, w.1 135 j = w0.1 135 j := fun j => (hF 135 j rfl).1
  have q137 : ∀ j, w.1 137 j = w0.1 137 j := fun j => (hF 137 j rfl).1
  unfold KIDe kidV nd1 at *
  simp only [q12, q131, q135, q137]
  exact h
theorem be_157 {i n y r : Int32} {x : Int64} {w0 w : MW} {Q : Int32 → MW → Prop} (h0 : RnX w0) (h : B0 i w0 w) (i0 : 0 < i.toInt) (i1 : i.toInt < (w0.1 127 60).toInt) (hn : n = w0.1 207 i.toInt.toNat) (hy : y.toInt = Wn w0 n) (hr0 : 0 ≤ r.toInt ∧ r.toInt < 600) (hr : r.toInt.toNat = nd1 w0 n.toInt) (hQ0 : ∀ w', RnS i.toInt w0 w' → Q 0 w') (hQ : ∀ w', B1 i w0 w' → Q 1 w') : q_Mo_begin_157 i n y r x w Q := by
  refine Eq.mpr (q_Mo_begin_157.eq_1 _ _ _ _ _ _ _) ⟨fun _ => be_182 h0 h i0 i1 hn hy hr0 hr hQ0 hQ, fun c => ?_⟩
  have hs := h0.2.2.2.2.1.2.2.2 i i0 i1
  rw [← hn] at hs
  have ht := h0.2.2.1 n hs.1 hs.2.1
  have e30 : w.1 129 30 = w0.1 129 30 := (h.1.2.1 129 30 rfl).1
  exact g_kr (i := i.toInt + 1) h.1.1 hs.1 (by rw [e30]; exact hs.2.1) (by decide) (by decide) (by rw [i_1]; exact kid_fr h.1.2.1 (ht.2.1 (by omega))) (fun r90 w90 h90 _ => be_182 h0 (b0_rs h h90) i0 i1 hn hy hr0 hr hQ0 hQ)
theorem be_133 {i n y r v : Int32} {w0 w : MW} {Q : Int32 → MW → Prop} (h0 : RnX w0) (h : B0 i w0 w) (i0 : 0 < i.toInt) (i1 : i.toInt < (w0.1 127 60).toInt) (hn : n = w0.1 207 i.toInt.toNat) (hy : y.toInt = Wn w0 n) (hr0 : 0 ≤ r.toInt ∧ r.toInt < 600) (hr : r.toInt.toNat = nd1 w0 n.toInt) (hv : v.toInt = 0 ∨ y.toInt = 10 ∨ y.toInt = 11 ∨ y.toInt = 12 ∨ y.toInt = 13 ∨ y.toInt = 15 ∨ y.toInt = 16 ∨ y.toInt = 17) (hQ0 : ∀ w', RnS i.toInt w0 w' → Q 0 w') (hQ : ∀ w', B1 i w0 w' → Q 1 w') : q_Mo_begin_133 i n y r v w Q := by
  refine Eq.mpr (q_Mo_begin_133.eq_1 _ _ _ _ _ _ _) ⟨fun _ => be_157 h0 h i0 i1 hn hy hr0 hr hQ0 hQ, fun c => ?_⟩
  have hs := h0.2.2.2.2.1.2.2.2 i i0 i1
  rw [← hn] at hs
  have ht := h0.2.2.1 n hs.1 hs.2.1
  have e30 : w.1 129 30 = w0.1 129 30 := (h.1.2.1 129 30 rfl).1
  have hv := hv.resolve_left c
  rw [hy] at hv
  exact g_kr (i := i.toInt + 1) h.1.1 hs.1 (by rw [e30]; exact hs.2.1) (by decide) (by decide) (by rw [i_0]; exact kid_fr h.1.2.1 (ht.1 hv)) (fun r90 w90 h90 _ => be_157 h0 (b0_rs h h90) i0 i1 hn hy hr0 hr hQ0 hQ)
theorem be_72 {i n y s a : Int32} {w0 w : MW} {Q : Int32 → MW → Prop} (h0 : RnX w0) (h : B0 i w0 w) (i0 : 0 < i.toInt) (i1 : i.toInt < (w0.1 127 60).toInt) (hn : n = w0.1 207 i.toInt.toNat) (hy : y.toInt = Wn w0 n) (ha0 : 0 ≤ (a + s).toInt) (ha1 : (a + s).toInt ≤ 10) (hQ0 : ∀ w', RnS i.toInt w0 w' → Q 0 w') (hQ : ∀ w', B1 i w0 w' → Q 1 w') : q_Mo_begin_72 i n y s a w Q := by
  have h1 : B0 i w0 (sI w 127 73 (a + s)) := b0_rs h (rn_fr (l := [(127, some 73)]) h.1.1 (FR.I (FR.refl _ _) rfl) (wbd_127_73 h.1.1.1 ha0 ha1) rfl rfl rfl)
  have hs := h0.2.2.2.2.1.2.2.2 i i0 i1
  rw [← hn] at hs
  have b30 := bd_129_30 h0.1
  have b12 := bd_129_12 h0.1
  refine Eq.mpr (q_Mo_begin_72.eq_1 _ _ _ _ _ _ _) (Eq.mpr (p_Tx_node1.eq_1 _ _ _) ?_)
  have e12 : (sI w 127 73 (a + s)).1 129 12 = w0.1 129 12 := (h1.1.2.1 129 12 rfl).1
  have e := nd_ix h0.1 hs.1 (by omega)
  generalize (sI w 127 73 (a + s)) = w1 at *
  rw [e12]
  have hr0 : 0 ≤ (((300 : Int32) * (w0.1 129 12)) + n).toInt ∧ (((300 : Int32) * (w0.1 129 12)) + n).toInt < 600 := by omega
  have hr : (((300 : Int32) * (w0.1 129 12)) + n).toInt.toNat = nd1 w0 n.toInt := by rw [e]; rfl
  have g : ∀ v : Int32, (v.toInt = 0 ∨ y.toInt = 10 ∨ y.toInt = 11 ∨ y.toInt = 12 ∨ y.toInt = 13 ∨ y.toInt = 15 ∨ y.toInt = 16 ∨ y.toInt = 17) → q_Mo_begin_133 i n y (((300 : Int32) * (w0.1 129 12)) + n) v w1 Q := fun v hv => be_133 h0 h1 i0 i1 hn hy hr0 hr hv hQ0 hQ
  exact ⟨fun c => g _ (by omega), fun _ => ⟨fun c => g _ (by omega), fun _ => ⟨fun c => g _ (by omega), fun _ => ⟨fun c => g _ (by omega), fun _ => ⟨fun c => g _ (by omega), fun _ => ⟨fun c => g _ (by omega), fun _ => ⟨fun c => g _ (Or.inl (by decide)), fun c => g _ (by omega)⟩⟩⟩⟩⟩⟩⟩
theorem be_46 {i n y : Int32} {w0 : MW} {Q : Int32 → MW → Prop} (h0 : RnX w0) (i0 : 0 < i.toInt) (i1 : i.toInt < (w0.1 127 60).toInt) (hn : n = w0.1 207 i.toInt.toNat) (hy : y.toInt = Wn w0 n) (hb : ¬ (w0.1 127 72).toInt = 1000) (ha : y.toInt = 22 → ¬ (w0.1 127 73).toInt = 10) (hQ0 : ∀ w', RnS i.toInt w0 w' → Q 0 w') (hQ : ∀ w', B1 i w0 w' → Q 1 w') : q_Mo_begin_46 i n y w0 Q := by
  have b72 := bd_127_72 h0.1
  have b73 := bd_127_73 h0.1
  have e : ((w0.1 127 72) + (1 : Int32)).toInt = (w0.1 127 72).toInt + 1 := ti_add2 rfl (by decide) (by omega) (by omega)
  have hF : FR [(127, some 72)] w0 (sI w0 127 72 ((w0.1 127 72) + (1 : Int32))) := FR.I (FR.refl _ _) rfl
  have h1 : B0 i w0 (sI w0 127 72 ((w0.1 127 72) + (1 : Int32))) := by
    refine ⟨⟨RnX_fr hF (wbd_127_72 h0.1 (by omega) (by omega)) rfl h0, (FR.refl lgo w0).tr hF rfl, fun j _ => ⟨rfl, rfl, rfl⟩, ?_⟩, ?_⟩
    · rw [sI_same]
      omega
    · rw [sI_same]
      omega
  refine Eq.mpr (q_Mo_begin_46.eq_1 _ _ _ _ _) ⟨fun _ => be_72 h0 h1 i0 i1 hn hy ?_ ?_ hQ0 hQ, fun c => be_72 h0 h1 i0 i1 hn hy ?_ ?_ hQ0 hQ⟩
  · rw [ti_add2 rfl i_0 (by omega) (by omega)]
    omega
  · rw [ti_add2 rfl i_0 (by omega) (by omega)]
    omega
  · rw [ti_add2 rfl i_1 (by omega) (by omega)]
    omega
  · rw [ti_add2 rfl i_1 (by omega) (by omega)]
    omega
theorem g_begin {i : Int32} {w : MW} {Q : Int32 → MW → Prop} (h : RnX w) (i0 : 0 < i.toInt) (i1 : i.toInt < (w.1 127 60).toInt) (hQ0 : ∀ w', RnS i.toInt w w' → Q 0 w') (hQ : ∀ w', B1 i w w' → Q 1 w') : p_Mo_begin w i Q := by
  have b60 := bd_127_60 h.1
  have hx : 0 ≤ i.toInt ∧ i.toInt < 502 := by omega
  have hs := h.2.2.2.2.1.2.2.2 i i0 i1
  refine Eq.mpr (p_Mo_begin.eq_1 _ _ _) ⟨hx, g_kind h.1 hx.1 hx.2 (fun _ r e => ?_) (fun c => absurd hs.1 (by omega))⟩
  exact ⟨fun _ => g_raise (i := i.toInt) h (by decide) (fun w' h' _ => hQ0 w' h'), fun c => ⟨fun c22 => be_46 h i0 i1 rfl e c (fun q => absurd q c22) hQ0 hQ, fun c22 => ⟨fun c73 => be_46 h i0 i1 rfl e c (fun _ => c73) hQ0 hQ, fun _ => g_raise (i := i.toInt) h (by decide) (fun w' h' _ => hQ0 w' h')⟩⟩⟩
