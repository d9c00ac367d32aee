/-! the reference's text: declarations, the program -/
def topB (w : MW) (t : Int) : Int := (w.1 138 (300 * bhf w + t).toNat).toInt
def TpT (w : MW) : Prop := ∀ t, 0 ≤ t → t < (w.1 129 23).toInt → 0 ≤ topB w t ∧ topB w t < (w.1 129 13).toInt ∧ 10 ≤ Kb w (topB w t)
def SH2 (w w' : MW) : Prop := (∀ j : Nat, 300 * (w.1 129 12).toInt ≤ (j : Int) → (j : Int) < 300 * (w.1 129 12).toInt + 300 → w'.1 138 j = w.1 138 j) ∧ (∀ j : Nat, 40 * (w.1 129 12).toInt ≤ (j : Int) → (j : Int) < 40 * (w.1 129 12).toInt + 40 → w'.1 143 j = w.1 143 j)
def PgS (w w' : MW) : Prop := FR l_Tx_program w w' ∧ SHh w w' ∧ SH2 w w'
theorem PgS.refl (w : MW) : PgS w w := ⟨FR.refl _ w, SHh.refl w, fun _ _ _ => rfl, fun _ _ _ => rfl⟩
theorem SHh.tr2 {w w1 w2 : MW} (e : w1.1 129 12 = w.1 129 12) (h : SHh w w1) (h2 : SHh w1 w2) : SHh w w2 := fun j a b => by
  have q := h2 j (by rw [e]; exact a) (by rw [e]; exact b)
  have p := h j a b
  exact ⟨q.1.trans p.1, q.2.1.trans p.2.1, q.2.2.1.trans p.2.2.1, q.2.2.2.1.trans p.2.2.2.1, q.2.2.2.2.trans p.2.2.2.2⟩
theorem PgS.tr {w w1 w2 : MW} (h : PgS w w1) (h2 : PgS w1 w2) : PgS w w2 := by
  have e : w1.1 129 12 = w.1 129 12 := (h.1 129 12 rfl).1
  refine ⟨h.1.tr h2.1 rfl, SHh.tr2 e h.2.1 h2.2.1, fun j a b => ?_, fun j a b => ?_⟩
  · exact (h2.2.2.1 j (by rw [e]; exact a) (by rw [e]; exact b)).trans (h.2.2.1 j a b)
  · exact (h2.2.2.2 j (by rw [e]; exact a) (by rw [e]; exact b)).trans (h.2.2.2 j a b)
theorem PgS.of {m : Int} {w w' : MW} (h : TbS m w w') : PgS w w' := ⟨(FR.refl l_Tx_program w).tr h.1 rfl, h.2.1, fun j _ _ => (h.1 138 j rfl).1, fun j _ _ => (h.1 143 j rfl).1⟩
theorem tpt_ts {m : Int} {w w' : MW} (h : TpT w) (s : TbS m w w') : TpT w' := by
  have e12 : bhf w' = bhf w := by unfold bhf; rw [(s.1 129 12 rfl).1]
  have e138 : ∀ t, topB w' t = topB w t := fun t => by unfold topB; rw [e12, (s.1 138 _ rfl).1]
  intro t t0 t1
  rw [(s.1 129 23 rfl).1] at t1
  have q := h t t0 t1
  rw [e138, s.2.2.2.1 _ q.1 q.2.1]
  exact ⟨q.1, Int.lt_of_lt_of_le q.2.1 s.2.2.1, q.2.2⟩
def ltl : Pl := [(129, some 10), (129, some 24), (139, none), (140, none), (141, none), (142, none), (143, none)]
/-- a name more, or a step's node told: only stepNodes changes of what the tree hangs on -/
theorem tb_st {e : Int} {w w' : MW} (h : TbI e w) (hF : FR ltl w w') (hI : BND w') (hn : (w.1 129 24).toInt ≤ (w'.1 129 24).toInt) (hs : ∀ m, 0 ≤ m → m < (w.1 129 24).toInt → 0 ≤ stB w m → stB w' m = stB w m) (hx : ∀ m, 0 ≤ m → m < (w'.1 129 24).toInt → 0 ≤ stB w' m → (m < (w.1 129 24).toInt ∧ 0 ≤ stB w m) ∨ (stB w' m < (w.1 129 13).toInt ∧ Kb w (stB w' m) = 24)) : TbI e w' := by
  have q12 := (hF 129 12 rfl).1
  have q13 := (hF 129 13 rfl).1
  have q21 := (hF 129 21 rfl).1
  have q23 := (hF 129 23 rfl).1
  have q35 := (hF 129 35 rfl).1
  have q131 : ∀ j, w'.1 131 j = w.1 131 j := fun j => (hF 131 j rfl).1
  have q132 : ∀ j, w'.2.1 132 j = w.2.1 132 j := fun j => (hF 132 j rfl).2.1
  have q135 : ∀ j, w'.1 135 j = w.1 135 j := fun j => (hF 135 j rfl).1
  have q136 : ∀ j, w'.1 136 j = w.1 136 j := fun j => (hF 136 j rfl).1
  have q137 : ∀ j, w'.1 137 j = w.1 137 j := fun j => (hF 137 j rfl).1
  have q144 : ∀ j, w'.1 144 j = w.1 144 j := fun j => (hF 144 j rfl).1
  have eN : ∀ n, nb w' n = nb w n := fun n => by unfold nb bhf; rw [q12]
  have eK : ∀ n, Kb w' n = Kb w n := fun n => by unfold Kb; rw [eN, q131]
  have eM : ∀ n, numB w' n = numB w n := fun n => by unfold numB; rw [eN, q132]
  have eP : ∀ n, pil w' n = pil w n := fun n => by unfold pil; rw [q144]
  have eD : ∀ n k, kidB w' n k = kidB w n k := fun n k => by unfold kidB bhf; rw [eN, q135, q137, q12]
  refine ⟨hI, PV_fr hF rfl h.2.1, h.2.2.1, by rw [q35, q21, q23, q13]; exact h.2.2.2.1, fun n n0 n1 => ?_, fun k k0 k1 => ?_, fun m m0 m1 m2 => ?_⟩
  · rw [q13] at n1
    have g := h.2.2.2.2.1 n n0 n1
    have hd : (w.1 131 (nb w n)).toInt = Kb w n := rfl
    unfold TbN
    rw [eN, q135, q136, q21, eK, eM]
    refine ⟨g.1, fun k k0 k1 => ?_, TbC.mono g.2.2 (fun k _ _ => ?_) (fun k19 q => ?_)⟩
    · rw [eD, eK]
      exact g.2.1 k k0 k1
    · show Kb w' (kidB w' n k) = Kb w (kidB w n k)
      rw [eD, eK]
    · have m0 := g.2.2.1 (by omega)
      have s1 := hs (numB w n) m0.1 q.1 q.2.1
      unfold sn
      rw [s1, eK]
      exact ⟨Int.lt_of_lt_of_le q.1 hn, q.2⟩
  · rw [q35] at k1
    rw [eP, eK, q13]
    exact h.2.2.2.2.2.1 k k0 k1
  · rw [eK, q13]
    cases hx m m0 m1 m2 with
    | inl a =>
      rw [hs m m0 a.1 a.2]
      exact h.2.2.2.2.2.2 m m0 a.1 a.2
    | inr a => exact a
theorem tpt_tl {w w' : MW} (h : TpT w) (hF : FR ltl w w') : TpT w' := by
  have q12 := (hF 129 12 rfl).1
  have q13 := (hF 129 13 rfl).1
  have q23 := (hF 129 23 rfl).1
  have q131 : ∀ j, w'.1 131 j = w.1 131 j := fun j => (hF 131 j rfl).1
  have q138 : ∀ j, w'.1 138 j = w.1 138 j := fun j => (hF 138 j rfl).1
  unfold TpT topB Kb nb bhf at *
  simp only [q12, q13, q23, q131, q138]
  exact h
theorem pgs_tl {w w' : MW} (hF : FR ltl w w') (h : ∀ j : Nat, 40 * (w.1 129 12).toInt ≤ (j : Int) → (j : Int) < 40 * (w.1 129 12).toInt + 40 → w'.1 143 j = w.1 143 j) : PgS w w' := ⟨(FR.refl l_Tx_program w).tr hF rfl, fun j _ _ => ⟨(hF 131 j rfl).1, (hF 132 j rfl).2.1, (hF 135 j rfl).1, (hF 136 j rfl).1, (hF 137 j rfl).1⟩, fun j _ _ => (hF 138 j rfl).1, h⟩
theorem t_tell {e : Int} {w : MW} {a : Int32} {Q : Int32 → MW → Prop} (h : TbI e w) (hT : TpT w) (a0 : -1128 ≤ a.toInt) (a1 : a.toInt ≤ 1000) (hk : (w.1 129 4).toInt < 900 ∨ 2000 ≤ (w.1 129 4).toInt ∨ ((w.1 129 5).toInt ≤ (w.1 129 6).toInt ∧ (w.1 129 6).toInt ≤ (w.1 129 5).toInt + 12)) (hQ : ∀ (r : Int32) (w' : MW), TbI e w' → TpT w' → PgS w w' → (0 ≤ r.toInt → r.toInt < (w'.1 129 24).toInt ∧ (w.1 129 24).toInt < (w'.1 129 24).toInt ∧ stB w' r.toInt < 0) → Q r w') : p_Tx_tell w a Q := by
  have b24 := bd_129_24 h.1
  have b12 := bd_129_12 h.1
  have bh := bhf_b h.1
  have b5 := bd_129_5 h.1
  have b6 := bd_129_6 h.1
  have bad : p_Tx_bad w (fun r3 w3 => (Q r3 w3)) := t_bad h (fun r w' r0 h' m' => hQ r w' h' (tpt_ts hT m'.1) (PgS.of m'.1) (fun c => by omega))
  refine Eq.mpr (p_Tx_tell.eq_1 _ _ _) (Eq.mpr (p_Tx_isWord.eq_1 _ _ _) ⟨fun _ => ⟨fun _ => bad, fun c => absurd i_0 c⟩, fun ck => ⟨fun c => absurd c (by decide), fun _ => t_nameOf h.1 ⟨fun c => absurd c (by decide), fun _ => ⟨fun c40 => ?_, fun _ => bad⟩⟩ (fun r r0 r1 => ⟨fun _ => bad, fun c => absurd r0 c⟩)⟩⟩)
  have k999 : (w.1 129 4).toInt = 999 := by
    have z : ((1000 : Int32) + (-1)).toInt = 999 := by decide
    rw [z] at ck
    omega
  have ei := cc_ix (n := w.1 129 24) h.1 b24.1 (by omega)
  refine hq_Tx_tell_49 FU _ w h.1 a0 a1 (by omega) (by omega) b5.1 b5.2 (Int.le_refl _) (by omega) (fu_lt (by omega)) (fun w11 hI11 hF11 => ?_) (fun _ _ _ _ q => q.elim)
  refine ⟨⟨by omega, by omega⟩, ⟨by omega, by omega⟩, ⟨by omega, by omega⟩, ⟨by omega, by omega⟩, ?_⟩
  have e24 : w11.1 129 24 = w.1 129 24 := (hF11 129 24 rfl).1
  have e5 : w11.1 129 5 = w.1 129 5 := (hF11 129 5 rfl).1
  have e6 : w11.1 129 6 = w.1 129 6 := (hF11 129 6 rfl).1
  have sd := ti_sub2 (Eq.refl (w.1 129 6).toInt) (Eq.refl (w.1 129 5).toInt) (by omega) (by omega)
  have s24 := ti_add2 (Eq.refl (w.1 129 24).toInt) i_1 (by omega) (by omega)
  have t24 := ti_sub2 s24 i_1 (by omega) (by omega)
  rw [e24, e5, e6]
  generalize hX : (((40 : Int32) * ((1 : Int32) - (w.1 129 12))) + (w.1 129 24)).toInt.toNat = X
  have X0 : (X : Int) = 40 * bhf w + (w.1 129 24).toInt := by rw [← hX]; omega
  have hB : BND (sI (sI (sI (sI (sI w11 140 X ((w.1 129 6) - (w.1 129 5))) 141 X a) 142 X 0) 143 X (-1)) 129 24 ((w.1 129 24) + (1 : Int32))) := wbd_129_24 (wbd_143 (wbd_142 (wbd_141 (wbd_140 hI11 X (by omega) (by omega)) X) X (by decide) (by decide)) X (by decide) (by decide)) (by omega) (by omega)
  have hF : FR ltl w (sI (sI (sI (sI (sI w11 140 X ((w.1 129 6) - (w.1 129 5))) 141 X a) 142 X 0) 143 X (-1)) 129 24 ((w.1 129 24) + (1 : Int32))) := FR.I (FR.I (FR.I (FR.I (FR.I ((FR.refl ltl w).tr hF11 rfl) rfl) rfl) rfl) rfl) rfl
  have r24 : ((sI (sI (sI (sI (sI w11 140 X ((w.1 129 6) - (w.1 129 5))) 141 X a) 142 X 0) 143 X (-1)) 129 24 ((w.1 129 24) + (1 : Int32))).1 129 24).toInt = (w.1 129 24).toInt + 1 := s24
  have r143 : ∀ j, (sI (sI (sI (sI (sI w11 140 X ((w.1 129 6) - (w.1 129 5))) 141 X a) 142 X 0) 143 X (-1)) 129 24 ((w.1 129 24) + (1 : Int32))).1 143 j = (sI w11 143 X (-1)).1 143 j := fun j => rfl
  generalize (sI (sI (sI (sI (sI w11 140 X ((w.1 129 6) - (w.1 129 5))) 141 X a) 142 X 0) 143 X (-1)) 129 24 ((w.1 129 24) + (1 : Int32))) = w' at *
  have e12 : bhf w' = bhf w := by unfold bhf; rw [(hF 129 12 rfl).1]
  have ev : bhf w = 1 - (w.1 129 12).toInt := rfl
  have o143 : ∀ j, j ≠ X → w'.1 143 j = w.1 143 j := fun j hj => by rw [r143, sI_ne _ _ _ _ _ hj]; exact (hF11 143 j rfl).1
  have sN : stB w' (w.1 129 24).toInt = -1 := by
    unfold stB
    rw [e12, (by omega : (40 * bhf w + (w.1 129 24).toInt).toNat = X), r143, sI_same]
    decide
  have sO : ∀ m, 0 ≤ m → m < (w.1 129 24).toInt → stB w' m = stB w m := fun m m0 m1 => by
    unfold stB
    rw [e12, o143 _ (by omega)]
  refine hQ _ w' (tb_st h hF hB (by omega) (fun m m0 m1 _ => sO m m0 m1) (fun m m0 m1 m2 => Or.inl ?_)) (tpt_tl hT hF) (pgs_tl hF (fun j j0 j1 => o143 j (by omega))) (fun _ => ⟨by rw [t24]; omega, by omega, by rw [t24, (by omega : (w.1 129 24).toInt + 1 - 1 = (w.1 129 24).toInt), sN]; decide⟩)
  by_cases c : m = (w.1 129 24).toInt
  · rw [c, sN] at m2
    omega
  · exact ⟨by omega, by rw [← sO m m0 (by omega)]; exact m2⟩
