/-! the reference's run: begin -/
theorem g_until {i : Int32} {w : MW} {Q : Int32 → MW → Prop} (h : RnX w) (i0 : 0 ≤ i.toInt) (i1 : i.toInt < (w.1 127 60).toInt) (ho : 0 ≤ (w.1 207 i.toInt.toNat).toInt) (hw : Wn w (w.1 207 i.toInt.toNat) = 12) (hQ : ∀ (r : Int32) (w' : MW), RnS (i.toInt + 1) w w' → Q r w') : p_Mo_goUntil w i Q := by
  have b60 := bd_127_60 h.1
  have hx : 0 ≤ i.toInt ∧ i.toInt < 502 := by omega
  have hp := pl_of h i0 i1 ho
  have hk := (h.2.2.1 _ ho hp.2).1 (by omega)
  have q0 : ∀ r : Int32, Q r w := fun r => hQ r w (RnS.refl h)
  refine Eq.mpr (p_Mo_goUntil.eq_1 _ _ _) ⟨hx, fun _ => ⟨hx, fun _ => q0 _, fun _ => q0 _⟩, fun _ => ⟨hx, fun _ => ⟨hx, fun _ => q0 _, fun _ => q0 _⟩, fun _ => ⟨hx, ?_⟩⟩⟩
  refine g_kr (i := i.toInt + 1) h ho hp.2 (by decide) (by decide) (by rw [i_0]; exact hk) (fun r11 w11 h11 _ => ?_)
  refine g_isBad (i := i.toInt + 1) h11.1 (fun r12 w12 h12 _ => ?_)
  have h2 := h11.tr h12 (Int.le_refl _)
  have q1 : ∀ (v : Int32) (r : Int32), Q r (sI w12 211 i.toInt.toNat (vp_nar .boolean v)) := fun v r => hQ r _ (h2.tr (rn_fr (l := [(211, none)]) h2.1 (FR.I (FR.refl _ _) rfl) (wbd_211 h2.1.1 _ (nb_bool v).1 (nb_bool v).2) rfl rfl rfl) (Int.le_refl _))
  exact ⟨fun _ => ⟨fun _ => ⟨hx, hx, fun _ => q1 _ _, fun _ => q1 _ _⟩, fun _ => ⟨hx, hx, fun _ => q1 _ _, fun _ => q1 _ _⟩⟩, fun _ => hQ _ _ h2⟩
theorem g_ramp {i : Int32} {w : MW} {Q : Int32 → MW → Prop} (h : RnX w) (i0 : 0 ≤ i.toInt) (i1 : i.toInt < (w.1 127 60).toInt) (ho : 0 ≤ (w.1 207 i.toInt.toNat).toInt) (hw : Wn w (w.1 207 i.toInt.toNat) = 13) (hQ : ∀ (r : Int32) (w' : MW), RnS (i.toInt + 1) w w' → Q r w') : p_Mo_goRamp w i Q := by
  have b60 := bd_127_60 h.1
  have b30 := bd_129_30 h.1
  have b12 := bd_129_12 h.1
  have hx : 0 ≤ i.toInt ∧ i.toInt < 502 := by omega
  have hp := pl_of h i0 i1 ho
  have hn := (h.2.2.1 _ ho hp.2).2.2.1 (by omega)
  have e := nd_ix h.1 ho (by omega)
  have en : (((300 : Int32) * (w.1 129 12)) + (w.1 207 i.toInt.toNat)).toInt.toNat = nd1 w (w.1 207 i.toInt.toNat).toInt := by rw [e]; rfl
  have q1 : ∀ (r : Int32) (v : Int64) (j : Nat), Q r (sJ w 206 j v) := fun r v j => hQ r _ (rn_fr (l := [(206, none)]) h (FR.J (FR.refl _ _) rfl) (bnd_J h.1) rfl rfl rfl)
  refine Eq.mpr (p_Mo_goRamp.eq_1 _ _ _) ⟨hx, hx, Eq.mpr (p_Tx_node1.eq_1 _ _ _) ?_⟩
  refine ⟨⟨by omega, by omega⟩, ?_⟩
  rw [en]
  have q2 : ∀ (v u : Int64), q_Mo_goRamp_127 i (Int64.toInt32 (w.2.1 132 (nd1 w (w.1 207 i.toInt.toNat).toInt))) v u w Q := fun v u => Eq.mpr (q_Mo_goRamp_127.eq_1 _ _ _ _ _ _) ⟨hx, hn, q1 _ _ _⟩
  refine ⟨hx, fun _ => ⟨hx, hn, q1 _ _ _⟩, fun _ => ⟨hx, fun c1 => ⟨fun _ => hQ _ w (RnS.refl h), fun c2 => ?_⟩, fun _ => ⟨hx, hn, q1 _ _ _⟩⟩⟩
  have n1 := nb_cmp (Int32.toInt64 ((w.1 127 74) - (w.1 214 i.toInt.toNat))) (w.2.1 215 i.toInt.toNat)
  have n2 := nb_cmp (Int32.toInt64 ((w.1 127 74) - (w.1 214 i.toInt.toNat))) (0 : Int64)
  have z : (0 : Int64).toInt = 0 := by decide
  have hz : ¬ (w.2.1 215 i.toInt.toNat).toInt = 0 := by omega
  exact ⟨hx, hx, hx, hz, hx, hz, fun _ => q2 _ _, fun _ => q2 _ _⟩
/-- place i has begun in this run -/
def B1 (i : Int32) (w0 w : MW) : Prop := RnS i.toInt w0 w ∧ (w0.1 127 72).toInt < (w.1 127 72).toInt ∧ ¬ (w.1 210 i.toInt.toNat).toInt = 0
theorem b1_rs {i : Int32} {w0 w w' : MW} (h : B1 i w0 w) (i0 : 0 ≤ i.toInt) (h2 : RnS (i.toInt + 1) w w') : B1 i w0 w' :=
  ⟨h.1.tr h2 (by omega), Int.lt_of_lt_of_le h.2.1 h2.2.2.2, by rw [(h2.2.2.1 i.toInt.toNat (by omega)).1]; exact h.2.2⟩
theorem b1_fr {l : Pl} {i : Int32} {w0 w w' : MW} (h : B1 i w0 w) (i0 : 0 ≤ i.toInt) (hF : FR l w w') (hI : BND w') (ho : off l lRnX = true) (h5 : off l [(127, some 72), (215, none)] = true) (hs : sub l lgo = true) : B1 i w0 w' := b1_rs h i0 (rn_fr h.1.1 hF hI ho h5 hs)
theorem b1_cur {i v : Int32} {w0 w : MW} (h : B1 i w0 w) (i0 : 0 ≤ i.toInt) (i1 : i.toInt < (w.1 127 60).toInt) (hv : v.toInt = -1 ∨ (i.toInt < v.toInt ∧ v.toInt < (w.1 127 60).toInt)) : B1 i w0 (sI w 213 i.toInt.toNat v) :=
  ⟨h.1.tr (rn_cur h.1.1 i0 i1 hv) (Int.le_refl _), by rw [sI_oth _ _ _ _ _ _ (by decide)]; exact h.2.1, by rw [sI_oth _ _ _ _ _ _ (by decide)]; exact h.2.2⟩
theorem b1_215 {i : Int32} {w0 w : MW} {v : Int64} (h : B1 i w0 w) : B1 i w0 (sJ w 215 i.toInt.toNat v) := ⟨h.1.tr (rn_215 h.1.1) (Int.le_refl _), h.2.1, h.2.2⟩
theorem be_538 {z : MW} {E : MW → Prop} {Q : Int32 → MW → Prop} {i : Int} (i0 : 0 ≤ i) (hE : ∀ w : MW, RnS (i + 1) z w → E w) (n : Nat) : ∀ (k : Int32) (w : MW), RnS (i + 1) z w → (k.toInt = -1 ∨ (i < k.toInt ∧ k.toInt < (w.1 127 60).toInt)) → (k.toInt = -1 ∧ 0 < n ∨ (502 - k.toInt).toNat < n) → q_Mo_begin_538 E Q n k w := by
  induction n with
  | zero => intros; omega
  | succ n ih =>
    intro k w h hk hm
    rw [q_Mo_begin_538.eq_2]
    have b60 := bd_127_60 h.1.1
    refine ⟨fun _ => hE w h, fun c => ?_⟩
    obtain ⟨k1, k2⟩ := hk.resolve_left c
    have hx : 0 ≤ k.toInt ∧ k.toInt < 502 := by omega
    have h9 := (h.1.2.2.2.1 k (by omega) k2).2.1
    have u1 := rn_unb (i := k) h.1 (by omega)
    have u2 : RnS k.toInt (sI w 210 k.toInt.toNat (vp_nar .boolean (0 : Int32))) (sI (sI w 210 k.toInt.toNat (vp_nar .boolean (0 : Int32))) 212 k.toInt.toNat (vp_nar .boolean (0 : Int32))) := rn_fr (l := [(212, none)]) u1.1 (FR.I (FR.refl _ _) rfl) (wbd_212 u1.1.1 _ (by decide) (by decide)) rfl rfl rfl
    have u3 := u1.tr u2 (Int.le_refl _)
    have e60 := (u3.2.1 127 60 rfl).1
    refine ⟨hx, hx, hx, ih _ _ (h.tr u3 (by omega)) ?_ ?_⟩
    · rcases h9 with h9 | h9
      · exact Or.inl h9
      · exact Or.inr ⟨by omega, by rw [e60]; exact h9.2⟩
    · rcases h9 with h9 | h9
      · left
        exact ⟨h9, by omega⟩
      · right
        omega
theorem be_end {i k : Int32} {w0 w : MW} {Q : Int32 → MW → Prop} (h : B1 i w0 w) (i0 : 0 ≤ i.toInt) (i1 : i.toInt < (w.1 127 60).toInt) (hk : k = w.1 208 i.toInt.toNat) (hQ : ∀ w', B1 i w0 w' → Q 1 w') : q_Mo_begin_538 (fun w' => Q 1 w') Q FU k w := by
  have h8 := (h.1.1.2.2.2.1 i i0 i1).1
  rw [← hk] at h8
  refine be_538 (z := w) (i := i.toInt) i0 (fun w' h' => hQ w' (b1_rs h i0 h')) FU k w (RnS.refl h.1.1) h8 ?_
  rcases h8 with h8 | h8
  · exact Or.inl ⟨h8, fu_lt (by decide)⟩
  · exact Or.inr (fu_lt (by omega))
theorem be_470 {i n : Int32} {x : Int64} {v : Int32} {w0 w : MW} {Q : Int32 → MW → Prop} (h : B1 i w0 w) (i0 : 0 ≤ i.toInt) (i1 : i.toInt < (w.1 127 60).toInt) (hv : v.toInt = -1 ∨ (i.toInt < v.toInt ∧ v.toInt < (w.1 127 60).toInt)) (hQ : ∀ w', B1 i w0 w' → Q 1 w') : q_Mo_begin_470 i n x v i w Q := by
  have b60 := bd_127_60 h.1.1.1
  have hx : 0 ≤ i.toInt ∧ i.toInt < 502 := by omega
  have hu := b1_cur h i0 i1 hv
  have e60 : (sI w 213 i.toInt.toNat v).1 127 60 = w.1 127 60 := sI_oth _ _ _ _ _ _ (by decide)
  refine Eq.mpr (q_Mo_begin_470.eq_1 _ _ _ _ _ _ _) ⟨hx, fun _ => ⟨hx, be_end hu i0 (by rw [e60]; exact i1) (by rw [sI_oth _ _ _ _ _ _ (by decide)]) hQ⟩, fun _ => ?_⟩
  refine g_raise (i := i.toInt + 1) hu.1.1 (by decide) (fun w51 h51 _ => ⟨hx, be_end (b1_rs hu i0 h51) i0 ?_ rfl hQ⟩)
  rw [(h51.2.1 127 60 rfl).1, e60]
  exact i1
theorem be_331 {i m : Int32} {x : Int64} {v : Int32} {w0 w : MW} {Q : Int32 → MW → Prop} (h : B1 i w0 w) (i0 : 0 ≤ i.toInt) (i1 : i.toInt < (w.1 127 60).toInt) (hm : 0 ≤ m.toInt ∧ m.toInt < 40) (hQ : ∀ w', B1 i w0 w' → Q 1 w') : q_Mo_begin_331 i x m v i w Q := by
  have b60 := bd_127_60 h.1.1.1
  have hx : 0 ≤ i.toInt ∧ i.toInt < 502 := by omega
  have h1 : B1 i w0 (sI w 211 i.toInt.toNat (vp_nar .boolean v)) := b1_fr (l := [(211, none)]) h i0 (FR.I (FR.refl _ _) rfl) (wbd_211 h.1.1.1 _ (nb_bool v).1 (nb_bool v).2) rfl rfl rfl
  have h2 : ∀ u : Int64, B1 i w0 (sJ (sI w 211 i.toInt.toNat (vp_nar .boolean v)) 206 m.toInt.toNat u) := fun u => b1_fr (l := [(206, none)]) h1 i0 (FR.J (FR.refl _ _) rfl) (bnd_J h1.1.1.1) rfl rfl rfl
  have e60 : ∀ u : Int64, (sJ (sI w 211 i.toInt.toNat (vp_nar .boolean v)) 206 m.toInt.toNat u).1 127 60 = w.1 127 60 := fun u => by rw [sJ_fst0, sI_oth _ _ _ _ _ _ (by decide)]
  have e8 : ∀ u : Int64, w.1 208 i.toInt.toNat = (sJ (sI w 211 i.toInt.toNat (vp_nar .boolean v)) 206 m.toInt.toNat u).1 208 i.toInt.toNat := fun u => by rw [sJ_fst0, sI_oth _ _ _ _ _ _ (by decide)]
  exact Eq.mpr (q_Mo_begin_331.eq_1 _ _ _ _ _ _ _) ⟨hx, hx, fun _ => ⟨hm, hm, hx, be_end (h2 _) i0 (by rw [e60]; exact i1) (e8 _) hQ⟩, fun _ => ⟨hm, hx, be_end (h2 _) i0 (by rw [e60]; exact i1) (e8 _) hQ⟩⟩
