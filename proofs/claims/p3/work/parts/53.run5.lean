/-! the reference's run: go -/
/-- the contract of go at depth d -/
def GOK (d : Nat) : Prop := ∀ (k : Int32) (w : MW) (Q : Int32 → MW → Prop), RnX w → 0 ≤ k.toInt → k.toInt < (w.1 127 60).toInt → 2 * (502 - k.toInt) < (d : Int) → (∀ (r : Int32) (w' : MW), RnS k.toInt w w' → ((w.1 210 k.toInt.toNat).toInt = 0 → r.toInt = 1 → (w.1 127 72).toInt < (w'.1 127 72).toInt) → Q r w') → pn_Mo_go d w k Q
def GPK (d : Nat) : Prop := ∀ (k : Int32) (w : MW) (Q : Int32 → MW → Prop), RnX w → 0 ≤ k.toInt → k.toInt < (w.1 127 60).toInt → 2 * (502 - k.toInt) < (d : Int) + 1 → (∀ (r : Int32) (w' : MW), RnS k.toInt w w' → Q r w') → pn_Mo_goPar d w k Q
theorem go_92 {d : Nat} {z : MW} {E : MW → Prop} {Q : Int32 → MW → Prop} {i : Int32} (hrec : GOK d) (i0 : 0 ≤ i.toInt) (hd : 2 * (501 - i.toInt) < (d : Int)) (hE : ∀ w : MW, RnS i.toInt z w → E w) (hQ : ∀ (r : Int32) (w : MW), RnS i.toInt z w → Q r w) (n : Nat) : ∀ (w : MW), RnS i.toInt z w → i.toInt < (w.1 127 60).toInt → ¬ (w.1 210 i.toInt.toNat).toInt = 0 → ((w.1 213 i.toInt.toNat).toInt = -1 ∧ 0 < n ∨ (502 - (w.1 213 i.toInt.toNat).toInt).toNat < n) → q_Mo_go_92 (pn_Mo_go d) (pn_Mo_goPar d) i E Q n w := by
  induction n with
  | zero => intros; omega
  | succ n ih =>
    intro w h i1 hb hm
    rw [q_Mo_go_92.eq_2]
    have b60 := bd_127_60 h.1.1
    have hx : 0 ≤ i.toInt ∧ i.toInt < 502 := by omega
    have hc := (h.1.2.2.2.1 i i0 i1).2.2.1 hb
    refine ⟨hx, fun _ => hE w h, fun c => ⟨hx, ?_⟩⟩
    have hc := hc.resolve_left c
    refine hrec _ w _ h.1 (by omega) hc.2 (by omega) (fun r w5 h5 _ => ⟨fun _ => ?_, fun _ => hQ _ w5 (h.tr h5 (by omega))⟩)
    have e3 := (h5.2.2.1 i.toInt.toNat (by omega)).2.1
    have e0 := (h5.2.2.1 i.toInt.toNat (by omega)).1
    have e60 : w5.1 127 60 = w.1 127 60 := (h5.2.1 127 60 rfl).1
    rw [e3]
    have h9 := (h5.1.2.2.2.1 (w.1 213 i.toInt.toNat) (by omega) (by rw [e60]; exact hc.2)).2.1
    have hv : (w5.1 209 (w.1 213 i.toInt.toNat).toInt.toNat).toInt = -1 ∨ (i.toInt < (w5.1 209 (w.1 213 i.toInt.toNat).toInt.toNat).toInt ∧ (w5.1 209 (w.1 213 i.toInt.toNat).toInt.toNat).toInt < (w5.1 127 60).toInt) := by
      rcases h9 with h9 | h9
      · exact Or.inl h9
      · exact Or.inr ⟨by omega, h9.2⟩
    have hu := rn_cur (i := i) h5.1 i0 (by rw [e60]; exact i1) hv
    refine ⟨hx, ⟨by omega, by omega⟩, hx, ih _ ((h.tr h5 (by omega)).tr hu (Int.le_refl _)) ?_ ?_ ?_⟩
    · rw [sI_oth _ _ _ _ _ _ (by decide), e60]
      exact i1
    · rw [sI_oth _ _ _ _ _ _ (by decide), e0]
      exact hb
    · rw [sI_same]
      rcases h9 with h9 | h9
      · left
        exact ⟨h9, by omega⟩
      · right
        omega
theorem go_207 {d : Nat} {z : MW} {E : MW → Prop} {Q : Int32 → MW → Prop} {i : Int32} (hrec : GOK d) (i0 : 0 ≤ i.toInt) (hd : 2 * (501 - i.toInt) < (d : Int)) (hE : ∀ w : MW, RnS i.toInt z w → E w) (hQ : ∀ (r : Int32) (w : MW), RnS i.toInt z w → Q r w) (n : Nat) : ∀ (w : MW), RnS i.toInt z w → i.toInt < (w.1 127 60).toInt → 0 ≤ (w.1 208 i.toInt.toNat).toInt → (2 * (1000 - (w.1 127 72).toInt) + (w.1 210 (w.1 208 i.toInt.toNat).toInt.toNat).toInt).toNat < n → q_Mo_go_207 (pn_Mo_go d) (pn_Mo_goPar d) i E Q n w := by
  induction n with
  | zero => intros; omega
  | succ n ih =>
    intro w h i1 hf hm
    rw [q_Mo_go_207.eq_2]
    have b60 := bd_127_60 h.1.1
    have b72 := bd_127_72 h.1.1
    have hx : 0 ≤ i.toInt ∧ i.toInt < 502 := by omega
    have h8 := (h.1.2.2.2.1 i i0 i1).1.resolve_left (by omega)
    have b210 := bd_210 h.1.1 (w.1 208 i.toInt.toNat).toInt.toNat
    refine ⟨hx, fun _ => hE w h, fun c => ⟨hx, ?_⟩⟩
    refine hrec _ w _ h.1 (by omega) h8.2 (by omega) (fun r w5 h5 hs5 => ⟨fun c1 => ?_, fun _ => hQ _ w5 (h.tr h5 (by omega))⟩)
    have e8 : w5.1 208 i.toInt.toNat = w.1 208 i.toInt.toNat := (h5.2.1 208 _ rfl).1
    have e60 : w5.1 127 60 = w.1 127 60 := (h5.2.1 127 60 rfl).1
    have l72 := h5.2.2.2
    have b72' := bd_127_72 h5.1.1
    have s72 : ¬ (w.1 210 (w.1 208 i.toInt.toNat).toInt.toNat).toInt = 0 ∨ (w.1 127 72).toInt < (w5.1 127 72).toInt := by
      by_cases q : (w.1 210 (w.1 208 i.toInt.toNat).toInt.toNat).toInt = 0
      · exact Or.inr (hs5 q c1)
      · exact Or.inl q
    clear hs5
    rw [e8]
    have u1 := rn_215 (i := i) (v := (w5.2.1 215 i.toInt.toNat) - (1 : Int64)) h5.1
    have u2 := rn_unb (i := w.1 208 i.toInt.toNat) u1.1 (by omega)
    refine ⟨hx, hx, hx, ⟨by omega, by omega⟩, ih _ (((h.tr h5 (by omega)).tr u1 (Int.le_refl _)).tr u2 (by omega)) ?_ ?_ ?_⟩
    · rw [sI_oth _ _ _ _ _ _ (by decide), sJ_fst0, e60]
      exact i1
    · rw [sI_oth _ _ _ _ _ _ (by decide), sJ_fst0, e8]
      exact hf
    · rw [sI_oth _ 210 _ _ 208 _ (by decide), sI_oth _ 210 _ _ 127 _ (by decide), sJ_fst0, e8, sI_same, nb_bool0]
      omega
theorem go_9 {d : Nat} {z : MW} {E : Int32 → MW → Prop} {Q : Int32 → MW → Prop} {i : Int} (hrec : GOK d) (i0 : 0 ≤ i) (hd : 2 * (501 - i) < (d : Int)) (hE : ∀ (a : Int32) (w : MW), RnS i z w → E a w) (hQ : ∀ (r : Int32) (w : MW), RnS i z w → Q r w) (n : Nat) : ∀ (a k : Int32) (w : MW), RnS i z w → (k.toInt = -1 ∨ (i < k.toInt ∧ k.toInt < (w.1 127 60).toInt)) → (k.toInt = -1 ∧ 0 < n ∨ (502 - k.toInt).toNat < n) → q_Mo_goPar_9 (pn_Mo_go d) (pn_Mo_goPar d) E Q n a k w := by
  induction n with
  | zero => intros; omega
  | succ n ih =>
    intro a k w h hk hm
    rw [q_Mo_goPar_9.eq_2]
    have b60 := bd_127_60 h.1.1
    refine ⟨fun _ => hE a w h, fun c => ?_⟩
    obtain ⟨k1, k2⟩ := hk.resolve_left c
    have hx : 0 ≤ k.toInt ∧ k.toInt < 502 := by omega
    have nx : ∀ (b : Int32) (w' : MW), RnS i w w' → q_Mo_goPar_62 (pn_Mo_go d) (pn_Mo_goPar d) b k w' (fun (x9_2 : Int32) (x9_3 : Int32) (w : MW) => q_Mo_goPar_9 (pn_Mo_go d) (pn_Mo_goPar d) E Q n x9_2 x9_3 w) E Q := by
      intro b w' h'
      have e60 : w'.1 127 60 = w.1 127 60 := (h'.2.1 127 60 rfl).1
      have h9 := (h'.1.2.2.2.1 k (by omega) (by rw [e60]; exact k2)).2.1
      have go : ∀ c : Int32, q_Mo_goPar_9 (pn_Mo_go d) (pn_Mo_goPar d) E Q n c (w'.1 209 k.toInt.toNat) w' := by
        intro c
        refine ih c _ w' (h.tr h' (Int.le_refl _)) ?_ ?_
        · rcases h9 with h9 | h9
          · exact Or.inl h9
          · exact Or.inr ⟨by omega, h9.2⟩
        · rcases h9 with h9 | h9
          · left
            exact ⟨h9, by omega⟩
          · right
            rw [e60] at h9
            omega
      exact Eq.mpr (q_Mo_goPar_62.eq_1 _ _ _ _ _ _ _ _) ⟨fun _ => ⟨hx, go _⟩, fun _ => ⟨hx, fun _ => ⟨hx, go _⟩, fun _ => ⟨hx, go _⟩⟩⟩
    refine ⟨hx, fun _ => nx _ w (RnS.refl h.1), fun _ => hrec k w _ h.1 (by omega) k2 (by omega) (fun r w5 h5 _ => ?_)⟩
    have q := hQ r w5 (h.tr h5 (by omega))
    have u : ∀ v : Int32, RnS i w (sI w5 212 k.toInt.toNat (vp_nar .boolean v)) := fun v => (h5.wk (i := i) (by omega)).tr (rn_fr (i := i) (l := [(212, none)]) h5.1 (FR.I (FR.refl _ _) rfl) (wbd_212 h5.1.1 _ (nb_bool v).1 (nb_bool v).2) rfl rfl rfl) (Int.le_refl _)
    exact ⟨fun _ => q, fun _ => ⟨fun _ => ⟨fun _ => ⟨hx, nx _ _ (u _)⟩, fun _ => ⟨hx, nx _ _ (u _)⟩⟩, fun _ => q⟩⟩
theorem go_19 {d : Nat} {i : Int32} {w : MW} {Q : Int32 → MW → Prop} (hG : GOK d) (hP : GPK d) (h : RnX w) (i0 : 0 ≤ i.toInt) (i1 : i.toInt < (w.1 127 60).toInt) (hd : 2 * (502 - i.toInt) < (d : Int) + 1) (hb : ¬ (w.1 210 i.toInt.toNat).toInt = 0) (hQ : ∀ (r : Int32) (w' : MW), RnS i.toInt w w' → Q r w') : q_Mo_go_19 (pn_Mo_go d) (pn_Mo_goPar d) i w Q := by
  have b60 := bd_127_60 h.1
  have b72 := bd_127_72 h.1
  have hx : 0 ≤ i.toInt ∧ i.toInt < 502 := by omega
  have hp := h.2.2.2.1 i i0 i1
  have hc := hp.2.2.1 hb
  have q0 : ∀ r : Int32, Q r w := fun r => hQ r w (RnS.refl h)
  have cur : (0 ≤ i.toInt ∧ i.toInt < 502) ∧ ((¬ (w.1 213 i.toInt.toNat).toInt = (-1) → ((0 ≤ i.toInt ∧ i.toInt < 502) ∧ (pn_Mo_go d w (w.1 213 i.toInt.toNat) (fun r18 w18 => (Q r18 w18))))) ∧ (¬ (¬ (w.1 213 i.toInt.toNat).toInt = (-1)) → (Q 1 w))) := by
    refine ⟨hx, fun c => ⟨hx, ?_⟩, fun _ => q0 _⟩
    have hc := hc.resolve_left c
    exact hG _ w _ h (by omega) hc.2 (by omega) (fun r w' h' _ => hQ r w' (h'.wk (by omega)))
  refine Eq.mpr (q_Mo_go_19.eq_1 _ _ _ _ _) ?_
  refine g_kind h.1 i0 hx.2 (fun ho r e => ?_) (fun _ => ?_)
  · refine ⟨fun _ => ⟨hx, hx, fun _ => q0 _, fun _ => q0 _⟩, fun _ => ⟨fun c => g_until h i0 i1 ho (by omega) (fun r w' h' => hQ r w' (h'.wk (by omega))), fun _ => ⟨fun c => g_ramp h i0 i1 ho (by omega) (fun r w' h' => hQ r w' (h'.wk (by omega))), fun _ => ⟨fun _ => hP i w _ h i0 i1 (by omega) (fun r w' h' => hQ r w' h'), fun _ => ⟨fun _ => cur, fun _ => ⟨fun c => ?_, fun _ => ⟨fun _ => cur, fun _ => ⟨fun _ => ⟨hx, fun _ => q0 _, fun _ => q0 _⟩, fun _ => ⟨fun _ => cur, fun _ => ⟨fun _ => q0 _, fun _ => ⟨fun _ => q0 _, fun _ => ⟨fun _ => q0 _, fun _ => ⟨fun _ => ?_, fun _ => q0 _⟩⟩⟩⟩⟩⟩⟩⟩⟩⟩⟩⟩⟩
    · have f0 := hp.2.2.2 ho (by omega)
      have b210 := bd_210 h.1 (w.1 208 i.toInt.toNat).toInt.toNat
      exact go_207 (z := w) hG i0 (by omega) (fun w' h' => hQ _ w' h') hQ FU w (RnS.refl h) i1 f0 (fu_lt (by omega))
    · refine go_92 (z := w) hG i0 (by omega) (fun w' h' => hQ _ w' h') hQ FU w (RnS.refl h) i1 hb ?_
      rcases hc with hc | hc
      · exact Or.inl ⟨hc, fu_lt (by decide)⟩
      · exact Or.inr (fu_lt (by omega))
  · have n11 : ∀ k : Int, ¬ k = 23 → ¬ (23 : Int32).toInt = k := fun k hk q => hk (q.symm.trans (by decide))
    refine ⟨fun q => absurd q (n11 _ (by decide)), fun _ => ⟨fun q => absurd q (n11 _ (by decide)), fun _ => ⟨fun q => absurd q (n11 _ (by decide)), fun _ => ⟨fun q => absurd q (n11 _ (by decide)), fun _ => ⟨fun q => absurd q (n11 _ (by decide)), fun _ => ⟨fun q => absurd q (n11 _ (by decide)), fun _ => ⟨fun q => absurd q (n11 _ (by decide)), fun _ => ⟨fun q => absurd q (n11 _ (by decide)), fun _ => ⟨fun q => absurd q (n11 _ (by decide)), fun _ => ⟨fun q => absurd q (n11 _ (by decide)), fun _ => ⟨fun q => absurd q (n11 _ (by decide)), fun _ => ⟨fun q => absurd q (n11 _ (by decide)), fun _ => ⟨fun _ => ?_, fun _ => q0 _⟩⟩⟩⟩⟩⟩⟩⟩⟩⟩⟩⟩⟩
    refine go_92 (z := w) hG i0 (by omega) (fun w' h' => hQ _ w' h') hQ FU w (RnS.refl h) i1 hb ?_
    rcases hc with hc | hc
    · exact Or.inl ⟨hc, fu_lt (by decide)⟩
    · exact Or.inr (fu_lt (by omega))
theorem go_all (d : Nat) : GOK d ∧ GPK d := by
  induction d with
  | zero =>
    refine ⟨fun k w Q h _ _ _ _ => ?_, fun k w Q h _ _ _ _ => ?_⟩
    · have b60 := bd_127_60 h.1
      omega
    · have b60 := bd_127_60 h.1
      omega
  | succ d ih =>
    refine ⟨fun i w Q h i0 i1 hd hQ => ?_, fun i w Q h i0 i1 hd hQ => ?_⟩
    · have b60 := bd_127_60 h.1
      have hx : 0 ≤ i.toInt ∧ i.toInt < 502 := by omega
      refine Eq.mpr (pe_Mo_go d w i Q) (Eq.mpr (pb_Mo_go.eq_1 _ _ _ _ _) ⟨hx, fun c => go_19 ih.1 ih.2 h i0 i1 (by omega) c (fun r w' h' => hQ r w' h' (fun q => absurd q c)), fun c => ?_⟩)
      have c := Classical.not_not.mp c
      have p : 0 < i.toInt := by
        by_cases e : i.toInt = 0
        · rw [e] at c
          exact absurd c h.2.2.2.2.1.2.2.1
        · omega
      refine g_begin h p i1 (fun w' h' => ⟨fun q => absurd i_0 q, fun _ => hQ _ w' h' (fun _ q => absurd q (by decide))⟩) (fun w' h' => ⟨fun _ => ?_, fun q => absurd i_1 (fun e => q (fun e0 => by rw [e] at e0; exact absurd e0 (by decide)))⟩)
      have e60 : w'.1 127 60 = w.1 127 60 := (h'.1.2.1 127 60 rfl).1
      exact go_19 ih.1 ih.2 h'.1.1 i0 (by rw [e60]; exact i1) (by omega) h'.2.2 (fun r w2 h2 => hQ r w2 (h'.1.tr h2 (Int.le_refl _)) (fun _ _ => Int.lt_of_lt_of_le h'.2.1 h2.2.2.2))
    · have b60 := bd_127_60 h.1
      have hx : 0 ≤ i.toInt ∧ i.toInt < 502 := by omega
      have h8 := (h.2.2.2.1 i i0 i1).1
      refine Eq.mpr (pe_Mo_goPar d w i Q) (Eq.mpr (pb_Mo_goPar.eq_1 _ _ _ _ _) ⟨hx, go_9 (z := w) (i := i.toInt) ih.1 i0 (by omega) (fun a w' h' => ⟨fun _ => hQ _ w' h', fun _ => hQ _ w' h'⟩) hQ FU 1 _ w (RnS.refl h) h8 ?_⟩)
      rcases h8 with h8 | h8
      · exact Or.inl ⟨h8, fu_lt (by decide)⟩
      · exact Or.inr (fu_lt (by omega))
