/-! the reference's run: single steps -/
theorem QP_up {l : Pl} {w w' : MW} (hF : FR l w w') (ho : off l [(127, some 60), (129, some 12), (131, none), (207, none), (208, none), (209, none)] = true) (hc : ∀ i : Int32, 0 ≤ i.toInt → i.toInt < (w.1 127 60).toInt → ¬ (w'.1 210 i.toInt.toNat).toInt = 0 → (w'.1 213 i.toInt.toNat).toInt = -1 ∨ (i.toInt < (w'.1 213 i.toInt.toNat).toInt ∧ (w'.1 213 i.toInt.toNat).toInt < (w.1 127 60).toInt)) (h : QP w) : QP w' := by
  have hq : ∀ k j, hit [(127, some 60), (129, some 12), (131, none), (207, none), (208, none), (209, none)] k j = true → w'.1 k j = w.1 k j := fun k j hk => (hF k j (off_hit ho hk)).1
  have q60 := hq 127 60 rfl
  have q12 := hq 129 12 rfl
  have q131 : ∀ j, w'.1 131 j = w.1 131 j := fun j => hq 131 j rfl
  have q207 : ∀ j, w'.1 207 j = w.1 207 j := fun j => hq 207 j rfl
  have q208 : ∀ j, w'.1 208 j = w.1 208 j := fun j => hq 208 j rfl
  have q209 : ∀ j, w'.1 209 j = w.1 209 j := fun j => hq 209 j rfl
  unfold QP Wn nd1 at *
  simp only [q60, q12, q131, q207, q208, q209]
  exact fun i i0 i1 => ⟨(h i i0 i1).1, (h i i0 i1).2.1, hc i i0 i1, (h i i0 i1).2.2.2⟩
def lRn0 : Pl := [(127, some 60), (129, some 12), (129, some 30), (131, none), (132, none), (135, none), (137, none), (207, none), (208, none), (209, none), (127, some 4), (127, some 11), (127, some 26), (147, some 12), (147, some 20), (151, none), (152, none), (153, none), (154, none), (163, none), (169, none), (170, none), (171, none), (182, none), (185, none), (186, none), (187, none), (197, none), (199, none), (200, none)]
theorem RnX_up {l : Pl} {w w' : MW} (hF : FR l w w') (hI : BND w') (ho : off l lRn0 = true) (h0 : w'.1 210 0 = w.1 210 0) (hc : ∀ i : Int32, 0 ≤ i.toInt → i.toInt < (w.1 127 60).toInt → ¬ (w'.1 210 i.toInt.toNat).toInt = 0 → (w'.1 213 i.toInt.toNat).toInt = -1 ∨ (i.toInt < (w'.1 213 i.toInt.toNat).toInt ∧ (w'.1 213 i.toInt.toNat).toInt < (w.1 127 60).toInt)) (h : RnX w) : RnX w' :=
  ⟨hI, tex_fr hF (off_mono ho (by decide)) h.2.1, TSx_fr hF (off_mono ho (by decide)) h.2.2.1, QP_up hF (off_mono ho (by decide)) hc h.2.2.2.1, QS_fr hF (off_mono ho (by decide)) h0 h.2.2.2.2.1, PF_fr hF (off_mono ho (by decide)) h.2.2.2.2.2⟩
theorem nat_ne {i j : Int32} (i0 : 0 ≤ i.toInt) (j0 : 0 ≤ j.toInt) (h : ¬ i.toInt = j.toInt) : i.toInt.toNat ≠ j.toInt.toNat := by omega
theorem rn_cur {w : MW} {i v : Int32} (h : RnX w) (i0 : 0 ≤ i.toInt) (i1 : i.toInt < (w.1 127 60).toInt) (hv : v.toInt = -1 ∨ (i.toInt < v.toInt ∧ v.toInt < (w.1 127 60).toInt)) : RnS i.toInt w (sI w 213 i.toInt.toNat v) := by
  have b60 := bd_127_60 h.1
  have hF : FR [(213, none)] w (sI w 213 i.toInt.toNat v) := FR.I (FR.refl _ w) rfl
  refine ⟨RnX_up hF (wbd_213 h.1 _ (by omega) (by omega)) rfl (sI_oth _ _ _ _ _ _ (by decide)) (fun j j0 j1 hj => ?_) h, (FR.refl lgo w).tr hF rfl, fun j hj => ⟨sI_oth _ _ _ _ _ _ (by decide), sI_ne _ _ _ _ _ (by omega), rfl⟩, ?_⟩
  · by_cases e : j.toInt = i.toInt
    · rw [e, sI_same]
      exact hv
    · rw [sI_oth _ _ _ _ _ _ (by decide)] at hj
      rw [sI_ne _ _ _ _ _ (nat_ne j0 i0 e)]
      exact (h.2.2.2.1 j j0 j1).2.2.1 hj
  · rw [sI_oth _ _ _ _ _ _ (by decide)]
    omega
theorem rn_unb {w : MW} {i : Int32} (h : RnX w) (i0 : 0 < i.toInt) : RnS i.toInt w (sI w 210 i.toInt.toNat (vp_nar .boolean (0 : Int32))) := by
  have hF : FR [(210, none)] w (sI w 210 i.toInt.toNat (vp_nar .boolean (0 : Int32))) := FR.I (FR.refl _ w) rfl
  refine ⟨RnX_up hF (wbd_210 h.1 _ (by decide) (by decide)) rfl (sI_ne _ _ _ _ _ (by omega)) (fun j j0 j1 hj => ?_) h, (FR.refl lgo w).tr hF rfl, fun j hj => ⟨sI_ne _ _ _ _ _ (by omega), sI_oth _ _ _ _ _ _ (by decide), rfl⟩, ?_⟩
  · by_cases e : j.toInt = i.toInt
    · rw [e, sI_same] at hj
      exact absurd nb_bool0 hj
    · rw [sI_ne _ _ _ _ _ (nat_ne j0 (by omega) e)] at hj
      rw [sI_oth _ _ _ _ _ _ (by decide)]
      exact (h.2.2.2.1 j j0 j1).2.2.1 hj
  · rw [sI_oth _ _ _ _ _ _ (by decide)]
    omega
theorem sJ_fst0 (w : MW) (k j : Nat) (v : Int64) : (sJ w k j v).1 = w.1 := rfl
theorem rn_beg {w : MW} {i v : Int32} {x : Int64} (h : RnX w) (i0 : 0 < i.toInt) (i1 : i.toInt < (w.1 127 60).toInt) : RnS i.toInt w (sJ (sI (sI (sI w 210 i.toInt.toNat (vp_nar .boolean (1 : Int32))) 214 i.toInt.toNat v) 213 i.toInt.toNat (w.1 208 i.toInt.toNat)) 216 i.toInt.toNat x) ∧ ¬ ((sJ (sI (sI (sI w 210 i.toInt.toNat (vp_nar .boolean (1 : Int32))) 214 i.toInt.toNat v) 213 i.toInt.toNat (w.1 208 i.toInt.toNat)) 216 i.toInt.toNat x).1 210 i.toInt.toNat).toInt = 0 := by
  have b208 := bd_208 h.1 i.toInt.toNat
  have hF : FR [(210, none), (213, none), (214, none), (216, none)] w (sJ (sI (sI (sI w 210 i.toInt.toNat (vp_nar .boolean (1 : Int32))) 214 i.toInt.toNat v) 213 i.toInt.toNat (w.1 208 i.toInt.toNat)) 216 i.toInt.toNat x) := FR.J (FR.I (FR.I (FR.I (FR.refl _ w) rfl) rfl) rfl) rfl
  have hB : BND (sJ (sI (sI (sI w 210 i.toInt.toNat (vp_nar .boolean (1 : Int32))) 214 i.toInt.toNat v) 213 i.toInt.toNat (w.1 208 i.toInt.toNat)) 216 i.toInt.toNat x) := bnd_J (wbd_213 (wbd_214 (wbd_210 h.1 _ (by decide) (by decide)) _) _ (by omega) (by omega))
  have a0 : ∀ j, (sJ (sI (sI (sI w 210 i.toInt.toNat (vp_nar .boolean (1 : Int32))) 214 i.toInt.toNat v) 213 i.toInt.toNat (w.1 208 i.toInt.toNat)) 216 i.toInt.toNat x).1 210 j = (sI w 210 i.toInt.toNat (vp_nar .boolean (1 : Int32))).1 210 j := fun j => by rw [sJ_fst0, sI_oth _ 213 _ _ 210 _ (by decide), sI_oth _ 214 _ _ 210 _ (by decide)]
  have a3 : ∀ j, (sJ (sI (sI (sI w 210 i.toInt.toNat (vp_nar .boolean (1 : Int32))) 214 i.toInt.toNat v) 213 i.toInt.toNat (w.1 208 i.toInt.toNat)) 216 i.toInt.toNat x).1 213 j = if j = i.toInt.toNat then w.1 208 i.toInt.toNat else w.1 213 j := by
    intro j
    rw [sJ_fst0]
    by_cases e : j = i.toInt.toNat
    · rw [if_pos e, e, sI_same]
    · rw [if_neg e, sI_ne _ _ _ _ _ e, sI_oth _ 214 _ _ 213 _ (by decide), sI_oth _ 210 _ _ 213 _ (by decide)]
  have a5 : ∀ j, (sJ (sI (sI (sI w 210 i.toInt.toNat (vp_nar .boolean (1 : Int32))) 214 i.toInt.toNat v) 213 i.toInt.toNat (w.1 208 i.toInt.toNat)) 216 i.toInt.toNat x).2.1 215 j = w.2.1 215 j := fun j => by rw [sJ_at, if_neg (fun q => absurd q.1 (by decide))]; rfl
  have a7 : (sJ (sI (sI (sI w 210 i.toInt.toNat (vp_nar .boolean (1 : Int32))) 214 i.toInt.toNat v) 213 i.toInt.toNat (w.1 208 i.toInt.toNat)) 216 i.toInt.toNat x).1 127 72 = w.1 127 72 := (hF 127 72 rfl).1
  generalize (sJ (sI (sI (sI w 210 i.toInt.toNat (vp_nar .boolean (1 : Int32))) 214 i.toInt.toNat v) 213 i.toInt.toNat (w.1 208 i.toInt.toNat)) 216 i.toInt.toNat x) = w1 at *
  refine ⟨⟨RnX_up hF hB rfl ?_ (fun j j0 j1 hj => ?_) h, (FR.refl lgo w).tr hF rfl, fun j hj => ⟨?_, ?_, a5 j⟩, by rw [a7]; omega⟩, ?_⟩
  · rw [a0, sI_ne _ _ _ _ _ (by omega)]
  · rw [a3]
    rw [a0] at hj
    by_cases e : j.toInt = i.toInt
    · rw [if_pos (by rw [e]), e]
      exact (h.2.2.2.1 i (by omega) i1).1
    · rw [if_neg (nat_ne j0 (by omega) e)]
      rw [sI_ne _ _ _ _ _ (nat_ne j0 (by omega) e)] at hj
      exact (h.2.2.2.1 j j0 j1).2.2.1 hj
  · rw [a0, sI_ne _ _ _ _ _ (by omega)]
  · rw [a3, if_neg (by omega)]
  · rw [a0, sI_same]
    decide
theorem rn_215 {w : MW} {i : Int32} {v : Int64} (h : RnX w) : RnS i.toInt w (sJ w 215 i.toInt.toNat v) := by
  have hF : FR [(215, none)] w (sJ w 215 i.toInt.toNat v) := FR.J (FR.refl _ w) rfl
  exact ⟨RnX_fr hF (bnd_J h.1) rfl h, (FR.refl lgo w).tr hF rfl, fun j hj => ⟨rfl, rfl, by rw [sJ_at, if_neg (by omega)]⟩, Int.le_refl _⟩
theorem rn_perf {i : Int} {w w' : MW} (h : RnX w) (hI : BND w') (hF : FR l_Mo_perform w w') (hT : FT w') (hH : HW w') : RnS i w w' := by
  have p := h.2.2.2.2.2
  refine ⟨⟨hI, tex_fr hF rfl h.2.1, TSx_fr hF rfl h.2.2.1, QP_fr hF rfl h.2.2.2.1, QS_fr hF rfl (hF 210 0 rfl).1 h.2.2.2.2.1, DR_fr hF rfl p.1, hT, hH, MC_fr hF rfl p.2.2.2.1, MZ_fr hF rfl p.2.2.2.2.1, RP_fr hF rfl p.2.2.2.2.2.1, SZ_fr hF rfl p.2.2.2.2.2.2⟩, (FR.refl lgo w).tr hF rfl, fun j _ => ⟨(hF 210 j rfl).1, (hF 213 j rfl).1, (hF 215 j rfl).2.1⟩, by rw [(hF 127 72 rfl).1]; omega⟩
/-- what stands at a place that is not the first -/
theorem pl_of {w : MW} {i : Int32} (h : RnX w) (i0 : 0 ≤ i.toInt) (i1 : i.toInt < (w.1 127 60).toInt) (ho : 0 ≤ (w.1 207 i.toInt.toNat).toInt) : 0 < i.toInt ∧ (w.1 207 i.toInt.toNat).toInt < (w.1 129 30).toInt := by
  have p : 0 < i.toInt := by
    by_cases e : i.toInt = 0
    · rw [e] at ho
      have := h.2.2.2.2.1.2.1
      have e0 : (0 : Int).toNat = 0 := rfl
      rw [e0] at ho
      omega
    · omega
  exact ⟨p, (h.2.2.2.2.1.2.2.2 i p i1).2.1⟩
/-! limits -/
theorem lm_107 {d : Nat} {i y : Int32} {w : MW} {Q : Int32 → MW → Prop} (hrec : ∀ (k : Int32) (w : MW) (Q : Int32 → MW → Prop), RnX w → 0 ≤ k.toInt → k.toInt < (w.1 127 60).toInt → 502 - k.toInt < (d : Int) → (∀ (r : Int32) (w' : MW), RnS k.toInt w w' → Q r w') → pn_Mo_limits d w k Q) (h : RnX w) (i0 : 0 ≤ i.toInt) (i1 : i.toInt < (w.1 127 60).toInt) (hd : 502 - i.toInt < (d : Int) + 1) (hb : ¬ (w.1 210 i.toInt.toNat).toInt = 0) (hy : y.toInt = 17 → 0 ≤ (w.1 207 i.toInt.toNat).toInt ∧ Wn w (w.1 207 i.toInt.toNat) = 17) (hQ : ∀ (r : Int32) (w' : MW), RnS i.toInt w w' → Q r w') : q_Mo_limits_107 (pn_Mo_limits d) i y w Q := by
  have b60 := bd_127_60 h.1
  have hx : 0 ≤ i.toInt ∧ i.toInt < 502 := by omega
  have hc := (h.2.2.2.1 i i0 i1).2.2.1 hb
  have next : ∀ w1 : MW, RnS (i.toInt + 1) w w1 → ¬ (w.1 213 i.toInt.toNat).toInt = -1 → pn_Mo_limits d w1 (w1.1 213 i.toInt.toNat) (fun r w' => Q r w') := by
    intro w1 h1 c
    have e := (h1.2.2.1 i.toInt.toNat (by omega)).2.1
    have e60 : w1.1 127 60 = w.1 127 60 := (h1.2.1 127 60 rfl).1
    have hc := hc.resolve_left c
    refine hrec _ w1 _ h1.1 (by rw [e]; omega) (by rw [e, e60]; exact hc.2) (by rw [e]; omega) (fun r w' h' => hQ r w' ?_)
    rw [e] at h'
    exact (h1.wk (by omega)).tr (h'.wk (i := i.toInt) (by omega)) (Int.le_refl _)
  refine Eq.mpr (q_Mo_limits_107.eq_1 _ _ _ _ _) ⟨hx, fun c => ⟨fun _ => ⟨hx, next w (RnS.refl h) c⟩, fun c17 => ⟨hx, hx, fun _ => ⟨hx, next w (RnS.refl h) c⟩, fun cf => ⟨hx, ?_⟩⟩⟩, fun _ => hQ _ w (RnS.refl h)⟩
  have ho := hy (Classical.not_not.mp c17)
  have hp := pl_of h i0 i1 ho.1
  have cf := Classical.not_not.mp cf
  have ht := h.2.2.1 (w.1 207 i.toInt.toNat) ho.1 hp.2
  have hk := ht.1 (by omega)
  refine g_kr (i := i.toInt + 1) h ho.1 hp.2 (by decide) (by decide) (by rw [i_0]; exact hk) (fun r19 w19 h19 _ => ?_)
  refine g_isBad (i := i.toInt + 1) h19.1 (fun r20 w20 h20 _ => ?_)
  have h2 := h19.tr h20 (Int.le_refl _)
  refine ⟨fun _ => ⟨fun _ => ⟨hx, next w20 h2 c⟩, fun _ => ⟨hx, ?_⟩⟩, fun _ => hQ _ w20 (h2.wk (by omega))⟩
  refine g_raise (i := i.toInt + 1) h20.1 (by decide) (fun w26 h26 _ => ?_)
  have h3 := h2.tr h26 (Int.le_refl _)
  have e8 : w26.1 208 i.toInt.toNat = w.1 208 i.toInt.toNat := (h3.2.1 208 _ rfl).1
  have e9 : ∀ j, w26.1 209 j = w.1 209 j := fun j => (h3.2.1 209 _ rfl).1
  have e60 : w26.1 127 60 = w.1 127 60 := (h3.2.1 127 60 rfl).1
  have hs := h.2.2.2.2.1.2.2.2 i hp.1 i1
  have f0 := hs.2.2.2.1 (Or.inr ho.2)
  have f1 := hs.2.2.2.2 ho.2
  have q8 := (h.2.2.2.1 i i0 i1).1.resolve_left (by omega)
  have q9 := (h.2.2.2.1 (w.1 208 i.toInt.toNat) f0 q8.2).2.1.resolve_left (by omega)
  rw [e8, e9, sI_same]
  have hu := rn_cur (i := i) (v := w.1 209 (w.1 208 i.toInt.toNat).toInt.toNat) h3.1 i0 (by rw [e60]; exact i1) (Or.inr ⟨by omega, by rw [e60]; exact q9.2⟩)
  have hv := rn_unb (i := w.1 209 (w.1 208 i.toInt.toNat).toInt.toNat) hu.1 (by omega)
  exact ⟨hx, ⟨by omega, by omega⟩, hx, hx, ⟨by omega, by omega⟩, hQ _ _ (((h3.wk (by omega)).tr hu (Int.le_refl _)).tr hv (by omega))⟩
theorem lm_30 {d : Nat} {z : MW} {E : MW → Prop} {Q : Int32 → MW → Prop} {i : Int} (hrec : ∀ (k : Int32) (w : MW) (Q : Int32 → MW → Prop), RnX w → 0 ≤ k.toInt → k.toInt < (w.1 127 60).toInt → 502 - k.toInt < (d : Int) → (∀ (r : Int32) (w' : MW), RnS k.toInt w w' → Q r w') → pn_Mo_limits d w k Q) (hE : ∀ w : MW, RnS i z w → E w) (hQ : ∀ (r : Int32) (w : MW), RnS i z w → Q r w) (hd : 501 - i < (d : Int)) (n : Nat) : ∀ (k : Int32) (w : MW), RnS i z w → (k.toInt = -1 ∨ (i < k.toInt ∧ 0 ≤ k.toInt ∧ k.toInt < (w.1 127 60).toInt)) → (k.toInt = -1 ∧ 0 < n ∨ (502 - k.toInt).toNat < n) → q_Mo_limits_30 (pn_Mo_limits d) E Q n k w := by
  induction n with
  | zero => intros; omega
  | succ n ih =>
    intro k w h hk hm
    rw [q_Mo_limits_30.eq_2]
    have b60 := bd_127_60 h.1.1
    refine ⟨fun _ => hE w h, fun c => ?_⟩
    obtain ⟨k0, k1, k2⟩ := hk.resolve_left c
    have hx : 0 ≤ k.toInt ∧ k.toInt < 502 := by omega
    have nx : ∀ w' : MW, RnS k.toInt w w' → q_Mo_limits_30 (pn_Mo_limits d) E Q n (w'.1 209 k.toInt.toNat) w' := by
      intro w' h'
      have e60 : w'.1 127 60 = w.1 127 60 := (h'.2.1 127 60 rfl).1
      have h9 := (h'.1.2.2.2.1 k k1 (by rw [e60]; exact k2)).2.1
      refine ih _ w' (h.tr h' (by omega)) ?_ ?_
      · rcases h9 with h9 | h9
        · exact Or.inl h9
        · exact Or.inr ⟨by omega, by omega, h9.2⟩
      · rcases h9 with h9 | h9
        · left
          exact ⟨h9, by omega⟩
        · right
          rw [e60] at h9
          omega
    refine ⟨hx, fun _ => ⟨hx, nx w (RnS.refl h.1)⟩, fun _ => hrec k w _ h.1 k1 k2 (by omega) (fun r w' h' => ⟨fun _ => ⟨hx, nx w' h'⟩, fun _ => hQ _ w' (h.tr h' (by omega))⟩)⟩
theorem lm_all (d : Nat) : ∀ (i : Int32) (w : MW) (Q : Int32 → MW → Prop), RnX w → 0 ≤ i.toInt → i.toInt < (w.1 127 60).toInt → 502 - i.toInt < (d : Int) → (∀ (r : Int32) (w' : MW), RnS i.toInt w w' → Q r w') → pn_Mo_limits d w i Q := by
  induction d with
  | zero =>
    intro i w Q h _ _ _ _
    have b60 := bd_127_60 h.1
    omega
  | succ d ih =>
    intro i w Q h i0 i1 hd hQ
    have b60 := bd_127_60 h.1
    have hx : 0 ≤ i.toInt ∧ i.toInt < 502 := by omega
    have hp := h.2.2.2.1 i i0 i1
    refine Eq.mpr (pe_Mo_limits d w i Q) (Eq.mpr (pb_Mo_limits.eq_1 _ _ _ _) ⟨hx, fun c => ?_, fun _ => hQ _ w (RnS.refl h)⟩)
    have rest : ∀ r3 : Int32, (r3.toInt = 23 ∨ (0 ≤ (w.1 207 i.toInt.toNat).toInt ∧ r3.toInt = Wn w (w.1 207 i.toInt.toNat))) → ((¬ r3.toInt = 14 → ((¬ r3.toInt = 16 → ((r3.toInt = 23 → (q_Mo_limits_107 (pn_Mo_limits d) i r3 w Q)) ∧ (¬ (r3.toInt = 23) → ((r3.toInt = 15 → (q_Mo_limits_107 (pn_Mo_limits d) i r3 w Q)) ∧ (¬ (r3.toInt = 15) → ((r3.toInt = 19 → (q_Mo_limits_107 (pn_Mo_limits d) i r3 w Q)) ∧ (¬ (r3.toInt = 19) → ((¬ r3.toInt = 17 → (Q 1 w)) ∧ (¬ (¬ r3.toInt = 17) → (q_Mo_limits_107 (pn_Mo_limits d) i r3 w Q)))))))))) ∧ (¬ (¬ r3.toInt = 16) → ((0 ≤ i.toInt ∧ i.toInt < 502) ∧ (pn_Mo_limits d w (w.1 208 i.toInt.toNat) (fun r36 w36 => (Q r36 w36))))))) ∧ (¬ (¬ r3.toInt = 14) → ((0 ≤ i.toInt ∧ i.toInt < 502) ∧ (q_Mo_limits_30 (pn_Mo_limits d)  (fun (w45 : MW) => (Q 1 w45)) Q FU (w.1 208 i.toInt.toNat) w)))) := by
      intro r3 hr
      have h107 : q_Mo_limits_107 (pn_Mo_limits d) i r3 w Q := lm_107 (fun k w Q => ih k w Q) h i0 i1 (by omega) c (fun e => by have hh := hr.resolve_left (by omega); exact ⟨hh.1, by rw [← hh.2]; exact e⟩) hQ
      refine ⟨fun _ => ⟨fun _ => ⟨fun _ => h107, fun _ => ⟨fun _ => h107, fun _ => ⟨fun _ => h107, fun _ => ⟨fun _ => hQ _ w (RnS.refl h), fun _ => h107⟩⟩⟩⟩, fun c16 => ⟨hx, ?_⟩⟩, fun _ => ⟨hx, ?_⟩⟩
      · have c16 := Classical.not_not.mp c16
        have hh := hr.resolve_left (by omega)
        have f0 := hp.2.2.2 hh.1 (by omega)
        have f1 := hp.1.resolve_left (by omega)
        exact ih _ w _ h f0 f1.2 (by omega) (fun r w' h' => hQ r w' (h'.wk (by omega)))
      · have h8 := hp.1
        refine lm_30 (z := w) (i := i.toInt) (fun k w Q => ih k w Q) (fun w' h' => hQ _ w' h') (fun r w' h' => hQ r w' h') (by omega) FU _ w (RnS.refl h) ?_ ?_
        · rcases h8 with h8 | h8
          · exact Or.inl h8
          · exact Or.inr ⟨by omega, by omega, h8.2⟩
        · rcases h8 with h8 | h8
          · exact Or.inl ⟨h8, fu_lt (by decide)⟩
          · exact Or.inr (fu_lt (by omega))
    refine g_kind h.1 i0 (by omega) (fun h0 r3 e3 => rest r3 (Or.inr ⟨h0, e3⟩)) (fun _ => rest 23 (Or.inl (by decide)))
