/-! the reference's text: declarations, the program -/
def topB (w : MW) (t : Int) : Int := (w.1 138 (300 * bhf w + t).toNat).toInt
def TpT (w : MW) : Prop := ∀ t, 0 ≤ t → t < (w.1 129 23).toInt → 0 ≤ topB w t ∧ topB w t < (w.1 129 13).toInt ∧ 10 ≤ Kb w (topB w t)
def SH2 (w w' : MW) : Prop := (∀ j : Nat, 300 * (w.1 129 12).toInt ≤ (j : Int) → (j : Int) < 300 * (w.1 129 12).toInt + 300 → w'.1 138 j = w.1 138 j) ∧ (∀ j : Nat, 40 * (w.1 129 12).toInt ≤ (j : Int) → (j : Int) < 40 * (w.1 129 12).toInt + 40 → w'.1 143 j = w.1 143 j)
def PgS (w w' : MW) : Prop := FR l_Tx_program w w' ∧ SHh w w' ∧ SH2 w w'
theorem PgS.refl (w : MW) : PgS w w := ⟨FR.refl _ w, SHh.refl w, fun _ _ _ => rfl, fun _ _ _ => rfl⟩
theorem SHh.tr2 {w w1 w2 : MW} (e : w1.1 129 12 = w.1 129 12) (h : SHh w w1) (h2 : SHh w1 w2) : SHh w w2 := fun j a b => by
  have q := h2 j (by rw [e]; exact a) (by rw [e]; exact b)
  have p := h j a b
  exact ⟨q.1.trans p.1, q.2.1.trans p.2.1, q.2.2.1.trans p.2.2.1, q.2.2.2.1.trans p.2.2.2.1, q.2.2.2.2.trans p.2.2.2.2⟩
theorem PgS.tr {w w1 w2 : MW} (h : PgS w w1) (h2 : PgS w1 w2) : PgS w w2 := by
  have e : w1.1 129 12 = w.1 129 12 := (h.1 129 12 rfl).1
  refine ⟨h.1.tr h2.1 rfl, SHh.tr2 e h.2.1 h2.2.1, fun j a b => ?_, fun j a b => ?_⟩
  · exact (h2.2.2.1 j (by rw [e]; exact a) (by rw [e]; exact b)).trans (h.2.2.1 j a b)
  · exact (h2.2.2.2 j (by rw [e]; exact a) (by rw [e]; exact b)).trans (h.2.2.2 j a b)
theorem PgS.of {m : Int} {w w' : MW} (h : TbS m w w') : PgS w w' := ⟨(FR.refl l_Tx_program w).tr h.1 rfl, h.2.1, fun j _ _ => (h.1 138 j rfl).1, fun j _ _ => (h.1 143 j rfl).1⟩
theorem tpt_ts {m : Int} {w w' : MW} (h : TpT w) (s : TbS m w w') : TpT w' := by
  have e12 : bhf w' = bhf w := by unfold bhf; rw [(s.1 129 12 rfl).1]
  have e138 : ∀ t, topB w' t = topB w t := fun t => by unfold topB; rw [e12, (s.1 138 _ rfl).1]
  intro t t0 t1
  rw [(s.1 129 23 rfl).1] at t1
  have q := h t t0 t1
  rw [e138, s.2.2.2.1 _ q.1 q.2.1]
  exact ⟨q.1, Int.lt_of_lt_of_le q.2.1 s.2.2.1, q.2.2⟩
def ltl : Pl := [(129, some 10), (129, some 24), (139, none), (140, none), (141, none), (142, none), (143, none)]
/-- a name more, or a step's node told: only stepNodes changes of what the tree hangs on -/
theorem tb_st {e : Int} {w w' : MW} (h : TbI e w) (hF : FR ltl w w') (hI : BND w') (hn : (w.1 129 24).toInt ≤ (w'.1 129 24).toInt) (hs : ∀ m, 0 ≤ m → m < (w.1 129 24).toInt → 0 ≤ stB w m → stB w' m = stB w m) (hx : ∀ m, 0 ≤ m → m < (w'.1 129 24).toInt → 0 ≤ stB w' m → (m < (w.1 129 24).toInt ∧ 0 ≤ stB w m) ∨ (stB w' m < (w.1 129 13).toInt ∧ Kb w (stB w' m) = 24)) : TbI e w' := by
  have q12 := (hF 129 12 rfl).1
  have q13 := (hF 129 13 rfl).1
  have q21 := (hF 129 21 rfl).1
  have q23 := (hF 129 23 rfl).1
  have q35 := (hF 129 35 rfl).1
  have q131 : ∀ j, w'.1 131 j = w.1 131 j := fun j => (hF 131 j rfl).1
  have q132 : ∀ j, w'.2.1 132 j = w.2.1 132 j := fun j => (hF 132 j rfl).2.1
  have q135 : ∀ j, w'.1 135 j = w.1 135 j := fun j => (hF 135 j rfl).1
  have q136 : ∀ j, w'.1 136 j = w.1 136 j := fun j => (hF 136 j rfl).1
  have q137 : ∀ j, w'.1 137 j = w.1 137 j := fun j => (hF 137 j rfl).1
  have q144 : ∀ j, w'.1 144 j = w.1 144 j := fun j => (hF 144 j rfl).1
  have eN : ∀ n, nb w' n = nb w n := fun n => by unfold nb bhf; rw [q12]
  have eK : ∀ n, Kb w' n = Kb w n := fun n => by unfold Kb; rw [eN, q131]
  have eM : ∀ n, numB w' n = numB w n := fun n => by unfold numB; rw [eN, q132]
  have eP : ∀ n, pil w' n = pil w n := fun n => by unfold pil; rw [q144]
  have eD : ∀ n k, kidB w' n k = kidB w n k := fun n k => by unfold kidB bhf; rw [eN, q135, q137, q12]
  refine ⟨hI, PV_fr hF rfl h.2.1, h.2.2.1, by rw [q35, q21, q23, q13]; exact h.2.2.2.1, fun n n0 n1 => ?_, fun k k0 k1 => ?_, fun m m0 m1 m2 => ?_⟩
  · rw [q13] at n1
    have g := h.2.2.2.2.1 n n0 n1
    have hd : (w.1 131 (nb w n)).toInt = Kb w n := rfl
    unfold TbN
    rw [eN, q135, q136, q21, eK, eM]
    refine ⟨g.1, fun k k0 k1 => ?_, TbC.mono g.2.2 (fun k _ _ => ?_) (fun k19 q => ?_)⟩
    · rw [eD, eK]
      exact g.2.1 k k0 k1
    · show Kb w' (kidB w' n k) = Kb w (kidB w n k)
      rw [eD, eK]
    · have m0 := g.2.2.1 (by omega)
      have s1 := hs (numB w n) m0.1 q.1 q.2.1
      unfold sn
      rw [s1, eK]
      exact ⟨Int.lt_of_lt_of_le q.1 hn, q.2⟩
  · rw [q35] at k1
    rw [eP, eK, q13]
    exact h.2.2.2.2.2.1 k k0 k1
  · rw [eK, q13]
    cases hx m m0 m1 m2 with
    | inl a =>
      rw [hs m m0 a.1 a.2]
      exact h.2.2.2.2.2.2 m m0 a.1 a.2
    | inr a => exact a
theorem tpt_tl {w w' : MW} (h : TpT w) (hF : FR ltl w w') : TpT w' := by
  have q12 := (hF 129 12 rfl).1
  have q13 := (hF 129 13 rfl).1
  have q23 := (hF 129 23 rfl).1
  have q131 : ∀ j, w'.1 131 j = w.1 131 j := fun j => (hF 131 j rfl).1
  have q138 : ∀ j, w'.1 138 j = w.1 138 j := fun j => (hF 138 j rfl).1
  unfold TpT topB Kb nb bhf at *
  simp only [q12, q13, q23, q131, q138]
  exact h
theorem pgs_tl {w w' : MW} (hF : FR ltl w w') (h : ∀ j : Nat, 40 * (w.1 129 12).toInt ≤ (j : Int) → (j : Int) < 40 * (w.1 129 12).toInt + 40 → w'.1 143 j = w.1 143 j) : PgS w w' := ⟨(FR.refl l_Tx_program w).tr hF rfl, fun j _ _ => ⟨(hF 131 j rfl).1, (hF 132 j rfl).2.1, (hF 135 j rfl).1, (hF 136 j rfl).1, (hF 137 j rfl).1⟩, fun j _ _ => (hF 138 j rfl).1, h⟩
theorem t_tell {e : Int} {w : MW} {a : Int32} {Q : Int32 → MW → Prop} (h : TbI e w) (hT : TpT w) (a0 : -1128 ≤ a.toInt) (a1 : a.toInt ≤ 1000) (hk : (w.1 129 4).toInt < 900 ∨ 2000 ≤ (w.1 129 4).toInt ∨ ((w.1 129 5).toInt ≤ (w.1 129 6).toInt ∧ (w.1 129 6).toInt ≤ (w.1 129 5).toInt + 12)) (hQ : ∀ (r : Int32) (w' : MW), TbI e w' → TpT w' → PgS w w' → (0 ≤ r.toInt → r.toInt < (w'.1 129 24).toInt ∧ (w.1 129 24).toInt < (w'.1 129 24).toInt ∧ stB w' r.toInt < 0 ∧ (MD w → MD w')) → Q r w') : p_Tx_tell w a Q := by
  have b24 := bd_129_24 h.1
  have b12 := bd_129_12 h.1
  have bh := bhf_b h.1
  have b5 := bd_129_5 h.1
  have b6 := bd_129_6 h.1
  have bad : p_Tx_bad w (fun r3 w3 => (Q r3 w3)) := t_bad h (fun r w' r0 h' m' => hQ r w' h' (tpt_ts hT m'.1) (PgS.of m'.1) (fun c => by omega))
  refine Eq.mpr (p_Tx_tell.eq_1 _ _ _) (Eq.mpr (p_Tx_isWord.eq_1 _ _ _) ⟨fun _ => ⟨fun _ => bad, fun c => absurd i_0 c⟩, fun ck => ⟨fun c => absurd c (by decide), fun _ => t_nameOf h.1 ⟨fun c => absurd c (by decide), fun _ => ⟨fun c40 => ?_, fun _ => bad⟩⟩ (fun r r0 r1 => ⟨fun _ => bad, fun c => absurd r0 c⟩)⟩⟩)
  have k999 : (w.1 129 4).toInt = 999 := by
    have z : ((1000 : Int32) + (-1)).toInt = 999 := by decide
    rw [z] at ck
    omega
  have ei := cc_ix (n := w.1 129 24) h.1 b24.1 (by omega)
  refine hq_Tx_tell_49 FU _ w h.1 a0 a1 (by omega) (by omega) b5.1 b5.2 (Int.le_refl _) (by omega) (fu_lt (by omega)) (fun w11 hI11 hF11 => ?_) (fun _ _ _ _ q => q.elim)
  refine ⟨⟨by omega, by omega⟩, ⟨by omega, by omega⟩, ⟨by omega, by omega⟩, ⟨by omega, by omega⟩, ?_⟩
  have e24 : w11.1 129 24 = w.1 129 24 := (hF11 129 24 rfl).1
  have e5 : w11.1 129 5 = w.1 129 5 := (hF11 129 5 rfl).1
  have e6 : w11.1 129 6 = w.1 129 6 := (hF11 129 6 rfl).1
  have sd := ti_sub2 (Eq.refl (w.1 129 6).toInt) (Eq.refl (w.1 129 5).toInt) (by omega) (by omega)
  have s24 := ti_add2 (Eq.refl (w.1 129 24).toInt) i_1 (by omega) (by omega)
  have t24 := ti_sub2 s24 i_1 (by omega) (by omega)
  rw [e24, e5, e6]
  generalize hX : (((40 : Int32) * ((1 : Int32) - (w.1 129 12))) + (w.1 129 24)).toInt.toNat = X
  have X0 : (X : Int) = 40 * bhf w + (w.1 129 24).toInt := by rw [← hX]; omega
  have hB : BND (sI (sI (sI (sI (sI w11 140 X ((w.1 129 6) - (w.1 129 5))) 141 X a) 142 X 0) 143 X (-1)) 129 24 ((w.1 129 24) + (1 : Int32))) := wbd_129_24 (wbd_143 (wbd_142 (wbd_141 (wbd_140 hI11 X (by omega) (by omega)) X) X (by decide) (by decide)) X (by decide) (by decide)) (by omega) (by omega)
  have hF : FR ltl w (sI (sI (sI (sI (sI w11 140 X ((w.1 129 6) - (w.1 129 5))) 141 X a) 142 X 0) 143 X (-1)) 129 24 ((w.1 129 24) + (1 : Int32))) := FR.I (FR.I (FR.I (FR.I (FR.I ((FR.refl ltl w).tr hF11 rfl) rfl) rfl) rfl) rfl) rfl
  have r24 : ((sI (sI (sI (sI (sI w11 140 X ((w.1 129 6) - (w.1 129 5))) 141 X a) 142 X 0) 143 X (-1)) 129 24 ((w.1 129 24) + (1 : Int32))).1 129 24).toInt = (w.1 129 24).toInt + 1 := s24
  have r143 : ∀ j, (sI (sI (sI (sI (sI w11 140 X ((w.1 129 6) - (w.1 129 5))) 141 X a) 142 X 0) 143 X (-1)) 129 24 ((w.1 129 24) + (1 : Int32))).1 143 j = (sI w11 143 X (-1)).1 143 j := fun j => rfl
  generalize (sI (sI (sI (sI (sI w11 140 X ((w.1 129 6) - (w.1 129 5))) 141 X a) 142 X 0) 143 X (-1)) 129 24 ((w.1 129 24) + (1 : Int32))) = w' at *
  have e12 : bhf w' = bhf w := by unfold bhf; rw [(hF 129 12 rfl).1]
  have ev : bhf w = 1 - (w.1 129 12).toInt := rfl
  have o143 : ∀ j, j ≠ X → w'.1 143 j = w.1 143 j := fun j hj => by rw [r143, sI_ne _ _ _ _ _ hj]; exact (hF11 143 j rfl).1
  have sN : stB w' (w.1 129 24).toInt = -1 := by
    unfold stB
    rw [e12, (by omega : (40 * bhf w + (w.1 129 24).toInt).toNat = X), r143, sI_same]
    decide
  have sO : ∀ m, 0 ≤ m → m < (w.1 129 24).toInt → stB w' m = stB w m := fun m m0 m1 => by
    unfold stB
    rw [e12, o143 _ (by omega)]
  refine hQ _ w' (tb_st h hF hB (by omega) (fun m m0 m1 _ => sO m m0 m1) (fun m m0 m1 m2 => Or.inl ?_)) (tpt_tl hT hF) (pgs_tl hF (fun j j0 j1 => o143 j (by omega))) (fun _ => ⟨by rw [t24]; omega, by omega, by rw [t24, (by omega : (w.1 129 24).toInt + 1 - 1 = (w.1 129 24).toInt), sN]; decide, fun m => by unfold MD; rw [(hF 129 38 rfl).1, (hF 129 13 rfl).1]; exact m⟩)
  by_cases c : m = (w.1 129 24).toInt
  · rw [c, sN] at m2
    omega
  · exact ⟨by omega, by rw [← sO m m0 (by omega)]; exact m2⟩
/-- the node of a step is told -/
theorem tb_step {e : Int} {w : MW} {m s : Int32} (h : TbI e w) (hT : TpT w) (m0 : 0 ≤ m.toInt) (m1 : m.toInt < (w.1 129 24).toInt) (hm : stB w m.toInt < 0) (s0 : 0 ≤ s.toInt) (s1 : s.toInt < (w.1 129 13).toInt) (hk : Kb w s.toInt = 24) {X : Nat} (hX : (X : Int) = 40 * bhf w + m.toInt) : TbI e (sI w 143 X s) ∧ TpT (sI w 143 X s) ∧ PgS w (sI w 143 X s) ∧ (∀ n, Kb (sI w 143 X s) n = Kb w n) := by
  have b24 := bd_129_24 h.1
  have b13 := bd_129_13 h.1
  have bh := bhf_b h.1
  have hF : FR ltl w (sI w 143 X s) := FR.I (FR.refl _ w) rfl
  have hB : BND (sI w 143 X s) := wbd_143 h.1 X (by omega) (by omega)
  have o143 : ∀ j, j ≠ X → (sI w 143 X s).1 143 j = w.1 143 j := fun j hj => sI_ne _ _ _ _ _ hj
  have n143 : (sI w 143 X s).1 143 X = s := sI_same _ _ _ _
  have e24 : (sI w 143 X s).1 129 24 = w.1 129 24 := rfl
  have eK : ∀ n, Kb (sI w 143 X s) n = Kb w n := fun n => rfl
  generalize (sI w 143 X s) = w' at *
  have e12 : bhf w' = bhf w := by unfold bhf; rw [(hF 129 12 rfl).1]
  have ev : bhf w = 1 - (w.1 129 12).toInt := rfl
  have sN : stB w' m.toInt = s.toInt := by
    unfold stB
    rw [e12, (by omega : (40 * bhf w + m.toInt).toNat = X), n143]
  have sO : ∀ k, 0 ≤ k → k ≠ m.toInt → stB w' k = stB w k := fun k k0 k1 => by
    unfold stB
    rw [e12, o143 _ (by omega)]
  refine ⟨tb_st h hF hB (by rw [e24]; exact Int.le_refl _) (fun k k0 k1 k2 => sO k k0 (fun c => by rw [c] at k2; omega)) (fun k k0 k1 k2 => ?_), tpt_tl hT hF, pgs_tl hF (fun j j0 j1 => o143 j (by omega)), eK⟩
  by_cases c : k = m.toInt
  · right
    rw [c, sN]
    exact ⟨s1, hk⟩
  · left
    rw [e24] at k1
    rw [sO k k0 c] at k2
    exact ⟨k1, k2⟩
def ltp : Pl := [(129, some 23), (138, none)]
/-- a top more -/
theorem tb_top {e : Int} {w : MW} {s x : Int32} {X : Nat} (h : TbI (e + 1) w) (he : 0 ≤ e) (hT : TpT w) (s0 : 0 ≤ s.toInt) (s1 : s.toInt < (w.1 129 13).toInt) (hk : 10 ≤ Kb w s.toInt) (hX : (X : Int) = 300 * bhf w + (w.1 129 23).toInt) (hx : x.toInt = (w.1 129 23).toInt + 1) : TbI e (sI (sI w 138 X s) 129 23 x) ∧ TpT (sI (sI w 138 X s) 129 23 x) ∧ PgS w (sI (sI w 138 X s) 129 23 x) := by
  have b23 := bd_129_23 h.1
  have b13 := bd_129_13 h.1
  have b21 := bd_129_21 h.1
  have b35 := bd_129_35 h.1
  have bh := bhf_b h.1
  have hs := h.2.2.2.1
  have hF : FR ltp w (sI (sI w 138 X s) 129 23 x) := FR.I (FR.I (FR.refl _ w) rfl) rfl
  have hB : BND (sI (sI w 138 X s) 129 23 x) := wbd_129_23 (wbd_138 h.1 X s0 (by omega)) (by omega) (by omega)
  have r138 : ∀ j, (sI (sI w 138 X s) 129 23 x).1 138 j = (sI w 138 X s).1 138 j := fun j => rfl
  have r23 : (sI (sI w 138 X s) 129 23 x).1 129 23 = x := rfl
  generalize (sI (sI w 138 X s) 129 23 x) = w' at *
  have q12 := (hF 129 12 rfl).1
  have q13 := (hF 129 13 rfl).1
  have q21 := (hF 129 21 rfl).1
  have q24 := (hF 129 24 rfl).1
  have q35 := (hF 129 35 rfl).1
  have q131 : ∀ j, w'.1 131 j = w.1 131 j := fun j => (hF 131 j rfl).1
  have q132 : ∀ j, w'.2.1 132 j = w.2.1 132 j := fun j => (hF 132 j rfl).2.1
  have q135 : ∀ j, w'.1 135 j = w.1 135 j := fun j => (hF 135 j rfl).1
  have q136 : ∀ j, w'.1 136 j = w.1 136 j := fun j => (hF 136 j rfl).1
  have q137 : ∀ j, w'.1 137 j = w.1 137 j := fun j => (hF 137 j rfl).1
  have q143 : ∀ j, w'.1 143 j = w.1 143 j := fun j => (hF 143 j rfl).1
  have q144 : ∀ j, w'.1 144 j = w.1 144 j := fun j => (hF 144 j rfl).1
  have e12 : bhf w' = bhf w := by unfold bhf; rw [q12]
  have eK : ∀ n, Kb w' n = Kb w n := fun n => by unfold Kb nb bhf; rw [q12, q131]
  have ev : bhf w = 1 - (w.1 129 12).toInt := rfl
  refine ⟨⟨hB, PV_fr hF rfl h.2.1, he, by rw [q35, q21, r23, q13]; omega, ?_⟩, fun t t0 t1 => ?_, ⟨(FR.refl l_Tx_program w).tr hF rfl, fun j _ _ => ⟨q131 j, q132 j, q135 j, q136 j, q137 j⟩, fun j j0 j1 => ?_, fun j _ _ => q143 j⟩⟩
  · have g := h.2.2.2.2
    unfold TbN sn stB kidB Kb numB nb bhf pil at *
    simp only [q12, q13, q21, q24, q35, q131, q132, q135, q136, q137, q143, q144]
    exact g
  · rw [r23, hx] at t1
    by_cases c : t = (w.1 129 23).toInt
    · have et : topB w' t = s.toInt := by
        unfold topB
        rw [e12, c, (by omega : (300 * bhf w + (w.1 129 23).toInt).toNat = X), r138, sI_same]
      rw [et, eK, q13]
      exact ⟨s0, s1, hk⟩
    · have et : topB w' t = topB w t := by
        unfold topB
        rw [e12, r138, sI_ne _ _ _ _ _ (by omega)]
      rw [et, eK, q13]
      exact hT t t0 (by omega)
  · rw [r138, sI_ne _ _ _ _ _ (by omega)]
def PgI (w : MW) : Prop := TbI 0 w ∧ TpT w
theorem t_decl {w : MW} {Q : Int32 → MW → Prop} (h : PgI w) (hQ : ∀ (r : Int32) (w' : MW), PgI w' → PgS w w' → (r.toInt = 0 ∨ (r.toInt = 1 ∧ (w.1 129 24).toInt < (w'.1 129 24).toInt ∧ (MD w → MD w'))) → Q r w') : p_Tx_declaration w Q := by
  have b4 := bd_129_4 h.1.1
  have er := ti_sub2 (Eq.refl (w.1 129 4).toInt) (by decide : ((1000 : Int32)).toInt = 1000) (by omega) (by omega)
  rw [p_Tx_declaration.eq_1]
  generalize ((w.1 129 4) - (1000 : Int32)) = role at *
  refine t_go h.1 (fun r1 w1 h1 f1 _ _ k1 => ?_)
  have m1 := TbM.fr f1 rfl rfl
  have T1 := tpt_ts h.2 m1.1
  have P1 := PgS.of m1.1
  have n1 : w1.1 129 24 = w.1 129 24 := (f1 129 24 rfl).1
  refine ⟨fun c1 => t_tell h1 T1 (by omega) (by omega) (by omega) (fun r3 w3 h3 T3 P3' k3 => ?_), fun _ => hQ 0 w1 ⟨h1, T1⟩ P1 (Or.inl i_0)⟩
  have P3 := P1.tr P3'
  refine ⟨fun _ => hQ 0 w3 ⟨h3, T3⟩ P3 (Or.inl i_0), fun c3 => ?_⟩
  have q3 := k3 (by omega)
  rw [n1] at q3
  have b24 := bd_129_24 h3.1
  have bh := bhf_b h3.1
  refine t_go h3 (fun r5 w5 h5 f5 _ _ _ => ?_)
  have m5 := TbM.fr f5 rfl rfl
  have T5 := tpt_ts T3 m5.1
  have P5 := P3.tr (PgS.of m5.1)
  have n5 : w5.1 129 24 = w3.1 129 24 := (f5 129 24 rfl).1
  have ei := cc_ix (n := r3) h5.1 (by omega) (by omega)
  have bh5 := bhf_b h5.1
  refine ⟨fun _ => ⟨fun c24 => ?_, fun _ => ?_⟩, fun _ => hQ 0 w5 ⟨h5, T5⟩ P5 (Or.inl i_0)⟩
  · refine t_block h5 (fun r8 w8 t8 => t_pushed t8 (by omega) (by omega) (fun r9 w9 t9 => ⟨fun c9 => ?_, fun _ => hQ 0 w9 ⟨t9.1, tpt_ts T5 t9.2.1⟩ (P5.tr (PgS.of t9.2.1)) (Or.inl i_0)⟩))
    have q9 := t9.2.2 c9
    have b35 := bd_129_35 h5.1
    have T9 := tpt_ts T5 t9.2.1
    have P9 := P5.tr (PgS.of t9.2.1)
    refine t_node t9.1 (by decide) (by decide) (by decide) (by decide) b35.1 (by omega) (tc_24 (by decide) (by omega) ?_) (fun r11 w11 h11 s11 k11 => ?_)
    · show 10 ≤ Kb w9 (pil w9 ((w5.1 129 35).toInt + 0))
      rw [Int.add_zero]
      have := q9.2.2.1
      omega
    have S11 := s11 0
    have T11 := tpt_ts T9 S11
    have P11 := P9.tr (PgS.of S11)
    refine ⟨fun c11 => ?_, fun _ => hQ 0 w11 ⟨h11, T11⟩ P11 (Or.inl i_0)⟩
    have q11 := k11 c11
    have e12 : w11.1 129 12 = w5.1 129 12 := ((S11.1 129 12 rfl).1).trans (t9.2.1.1 129 12 rfl).1
    have e24 : w11.1 129 24 = w5.1 129 24 := ((S11.1 129 24 rfl).1).trans (t9.2.1.1 129 24 rfl).1
    have eh : bhf w11 = bhf w5 := by unfold bhf; rw [e12]
    have es : stB w11 r3.toInt = stB w3 r3.toInt := by
      have a1 := stB_fr f5 rfl r3.toInt
      unfold stB at *
      rw [eh, (S11.1 143 _ rfl).1, (t9.2.1.1 143 _ rfl).1]
      exact a1
    have q12' := tb_step (m := r3) (s := r11) (X := (((40 : Int32) * ((1 : Int32) - (w5.1 129 12))) + r3).toInt.toNat) q11.2.2.1 T11 (by omega) (by rw [e24, n5]; exact q3.1) (by rw [es]; exact q3.2.2.1) c11 q11.1 (by rw [q11.2.1]; decide) (by rw [eh]; omega)
    rw [e12]
    refine ⟨⟨by omega, by omega⟩, Eq.mpr (p_Tx_base.eq_1 _ _) ?_⟩
    have e13 : (sI w11 143 (((40 : Int32) * ((1 : Int32) - (w5.1 129 12))) + r3).toInt.toNat r11).1 129 13 = w11.1 129 13 := rfl
    have M11 : MD w → MD (sI w11 143 (((40 : Int32) * ((1 : Int32) - (w5.1 129 12))) + r3).toInt.toNat r11) := fun m => by
      have z : MD w9 := q9.2.2.2.2.2 (m5.2.2.2 (q3.2.2.2 (m1.2.2.2 m)))
      show MD w11
      unfold MD
      rw [q11.2.2.2.2.2.2, q11.2.2.2.2.2.1]
      exact ⟨z.1, by have := z.2; omega⟩
    have f24 : (sI w11 143 (((40 : Int32) * ((1 : Int32) - (w5.1 129 12))) + r3).toInt.toNat r11).1 129 24 = w11.1 129 24 := rfl
    generalize (sI w11 143 (((40 : Int32) * ((1 : Int32) - (w5.1 129 12))) + r3).toInt.toNat r11) = w14 at *
    have b23 := bd_129_23 q12'.1.1
    have b13 := bd_129_13 q12'.1.1
    have b21 := bd_129_21 q12'.1.1
    have c35 := bd_129_35 q12'.1.1
    have hs := q12'.1.2.2.2.1
    have et := bb_ix (n := w14.1 129 23) q12'.1.1 (by omega) (by omega)
    have bh14 := bhf_b q12'.1.1
    have s23 := ti_add2 (Eq.refl (w14.1 129 23).toInt) i_1 (by omega) (by omega)
    have z := tb_top (X := (((300 : Int32) * ((1 : Int32) - (w14.1 129 12))) + (w14.1 129 23)).toInt.toNat) (x := (w14.1 129 23) + (1 : Int32)) (e := 0) q12'.1 (by omega) q12'.2.1 c11 (by rw [e13]; exact q11.1) (by rw [q12'.2.2.2, q11.2.1]; decide) (by omega) s23
    refine ⟨⟨by omega, by omega⟩, hQ 1 _ ⟨z.1, z.2.1⟩ ((P11.tr q12'.2.2.1).tr z.2.2) (Or.inr ⟨i_1, ?_, M11⟩)⟩
    show (w.1 129 24).toInt < (w14.1 129 24).toInt
    rw [f24, e24, n5]
    exact q3.2.1
  · refine t_unitWord (fun u u0 u1 => ⟨⟨by omega, by omega⟩, ?_⟩)
    have hF : FR ltl w5 (sI w5 142 ((((40 : Int32) * ((1 : Int32) - (w5.1 129 12))) + r3).toInt.toNat) u) := FR.I (FR.refl _ w5) rfl
    have h6 : TbI 0 (sI w5 142 ((((40 : Int32) * ((1 : Int32) - (w5.1 129 12))) + r3).toInt.toNat) u) := TbI_fr (l := [(142, none)]) h5 (FR.I (FR.refl _ w5) rfl) (wbd_142 h5.1 _ u0 u1) (PV_fr (l := [(142, none)]) (FR.I (FR.refl _ w5) rfl) rfl h5.2.1) rfl
    have M6 : MD w → MD (sI w5 142 ((((40 : Int32) * ((1 : Int32) - (w5.1 129 12))) + r3).toInt.toNat) u) := fun m => m5.2.2.2 (q3.2.2.2 (m1.2.2.2 m))
    have n6 : (sI w5 142 ((((40 : Int32) * ((1 : Int32) - (w5.1 129 12))) + r3).toInt.toNat) u).1 129 24 = w5.1 129 24 := rfl
    have f143 : ∀ j, (sI w5 142 ((((40 : Int32) * ((1 : Int32) - (w5.1 129 12))) + r3).toInt.toNat) u).1 143 j = w5.1 143 j := fun j => rfl
    generalize (sI w5 142 ((((40 : Int32) * ((1 : Int32) - (w5.1 129 12))) + r3).toInt.toNat) u) = w6 at *
    have T6 := tpt_tl T5 hF
    have P6 := P5.tr (pgs_tl hF (fun j _ _ => f143 j))
    have fin : ∀ w7 : MW, TbI 0 w7 → FR l_Tx_go w6 w7 → PgI w7 ∧ PgS w w7 ∧ (w.1 129 24).toInt < (w7.1 129 24).toInt ∧ (MD w → MD w7) := fun w7 h7 f7 => by
      have m7 := TbM.fr f7 rfl rfl
      refine ⟨⟨h7, tpt_ts T6 m7.1⟩, P6.tr (PgS.of m7.1), ?_, fun m => m7.2.2.2 (M6 m)⟩
      rw [(f7 129 24 rfl).1, n6, n5]
      exact q3.2.1
    refine ⟨fun _ => t_over h6 (fun r19 w19 h19 f19 => ⟨fun _ => hQ 0 w19 (fin w19 h19 f19).1 (fin w19 h19 f19).2.1 (Or.inl i_0), fun _ => hQ 1 w19 (fin w19 h19 f19).1 (fin w19 h19 f19).2.1 (Or.inr ⟨i_1, (fin w19 h19 f19).2.2⟩)⟩), fun _ => t_go h6 (fun r21 w21 h21 f21 _ _ _ => ⟨fun _ => hQ 0 w21 (fin w21 h21 f21).1 (fin w21 h21 f21).2.1 (Or.inl i_0), fun _ => t_over h21 (fun r19 w19 h19 f19 => ?_)⟩)⟩
    have f := f21.tr f19 rfl
    exact ⟨fun _ => hQ 0 w19 (fin w19 h19 f).1 (fin w19 h19 f).2.1 (Or.inl i_0), fun _ => hQ 1 w19 (fin w19 h19 f).1 (fin w19 h19 f).2.1 (Or.inr ⟨i_1, (fin w19 h19 f).2.2⟩)⟩
theorem x_pg5 {w0 : MW} {E : Int32 → MW → Prop} {Q : Int32 → MW → Prop} (hE : ∀ (r : Int32) (w' : MW), PgI w' → PgS w0 w' → (r.toInt = 0 ∨ (r.toInt = 1 ∧ (MD w0 → MD w'))) → E r w') (n : Nat) : ∀ (x : Int32) (w : MW), PgI w → PgS w0 w → (x.toInt = 0 ∨ (x.toInt = 1 ∧ (MD w0 → MD w))) → (41 - (w.1 129 24).toInt).toNat < n → q_Tx_program_5 E Q n x w := by
  induction n with
  | zero => intros; omega
  | succ n ih =>
    intro x w h s hx hm
    have b24 := bd_129_24 h.1.1
    rw [q_Tx_program_5.eq_2]
    have D : ¬ x.toInt = 0 → p_Tx_declaration w (fun r5 w5 => (q_Tx_program_5  E Q n r5 w5)) := fun cx => t_decl h (fun r w' h' s' k => by
      cases k with
      | inl z =>
        cases n with
        | zero => omega
        | succ n =>
          rw [q_Tx_program_5.eq_2]
          exact ⟨fun _ => hE r w' h' (s.tr s') (Or.inl z), fun c => absurd z c⟩
      | inr z => exact ih r w' h' (s.tr s') (Or.inr ⟨z.1, fun m => z.2.2 ((hx.resolve_left cx).2 m)⟩) (by have := z.2.1; have := bd_129_24 h'.1.1; omega))
    have X := hE x w h s hx
    refine ⟨fun _ => X, fun cx => t_isWord ⟨fun _ => D cx, fun _ => t_isWord ⟨fun _ => D cx, fun _ => t_isWord ⟨fun _ => X, fun _ => D cx⟩ ⟨fun _ => X, fun _ => D cx⟩⟩ ⟨fun _ => D cx, fun _ => t_isWord ⟨fun _ => X, fun _ => D cx⟩ ⟨fun _ => X, fun _ => D cx⟩⟩⟩ ⟨fun _ => D cx, fun _ => t_isWord ⟨fun _ => D cx, fun _ => t_isWord ⟨fun _ => X, fun _ => D cx⟩ ⟨fun _ => X, fun _ => D cx⟩⟩ ⟨fun _ => D cx, fun _ => t_isWord ⟨fun _ => X, fun _ => D cx⟩ ⟨fun _ => X, fun _ => D cx⟩⟩⟩⟩
theorem x_pg44 {w0 : MW} {E : Int32 → MW → Prop} {Q : Int32 → MW → Prop} (hE : ∀ (r : Int32) (w' : MW), PgI w' → PgS w0 w' → (r.toInt = 0 ∨ (r.toInt = 1 ∧ (MD w0 → MD w'))) → E r w') (n : Nat) : ∀ (x : Int32) (w : MW), PgI w → PgS w0 w → (x.toInt = 0 ∨ (x.toInt = 1 ∧ (MD w0 → MD w))) → (301 - (w.1 129 13).toInt).toNat < n → q_Tx_program_44 E Q n x w := by
  induction n with
  | zero => intros; omega
  | succ n ih =>
    intro x w h s hx hm
    have b13 := bd_129_13 h.1.1
    rw [q_Tx_program_44.eq_2]
    have X := hE x w h s hx
    refine ⟨fun _ => X, fun cx => ⟨fun _ => X, fun _ => t_statement h.1 (fun r15 w15 t15 => ?_)⟩⟩
    have T15 := tpt_ts h.2 t15.2.1
    have P15 := s.tr (PgS.of t15.2.1)
    refine ⟨fun _ => Eq.mpr (q_Tx_program_70.eq_1 _ _ _ _ _ _) ⟨fun _ => ?_, fun c => absurd i_0 c⟩, fun c => Eq.mpr (q_Tx_program_70.eq_1 _ _ _ _ _ _) ⟨fun c => absurd c (by decide), fun _ => Eq.mpr (p_Tx_base.eq_1 _ _) ?_⟩⟩
    · cases n with
      | zero => omega
      | succ n =>
        rw [q_Tx_program_44.eq_2]
        exact ⟨fun _ => hE _ w15 ⟨t15.1, T15⟩ P15 (Or.inl i_0), fun c => absurd i_0 c⟩
    · have q := t15.2.2 (by omega)
      have b23 := bd_129_23 t15.1.1
      have c13 := bd_129_13 t15.1.1
      have b21 := bd_129_21 t15.1.1
      have b35 := bd_129_35 t15.1.1
      have hs := q.2.2.2.1.2.2.2.1
      have et := bb_ix (n := w15.1 129 23) t15.1.1 (by omega) (by omega)
      have bh := bhf_b t15.1.1
      have s23 := ti_add2 (Eq.refl (w15.1 129 23).toInt) i_1 (by omega) (by omega)
      have z := tb_top (X := (((300 : Int32) * ((1 : Int32) - (w15.1 129 12))) + (w15.1 129 23)).toInt.toNat) (x := (w15.1 129 23) + (1 : Int32)) (e := 0) q.2.2.2.1 (by omega) T15 (by omega) q.1 q.2.1 (by omega) s23
      refine ⟨⟨by omega, by omega⟩, ih _ _ ⟨z.1, z.2.1⟩ (P15.tr z.2.2) (Or.inr ⟨i_1, fun m => q.2.2.2.2.1.2.2.2 ((hx.resolve_left cx).2 m)⟩) ?_⟩
      show (301 - (w15.1 129 13).toInt).toNat < n
      have := q.2.2.2.2.2
      omega
theorem t_program {w : MW} {Q : Int32 → MW → Prop} (h : PgI w) (hQ : ∀ (r : Int32) (w' : MW), PgI w' → PgS w w' → (r.toInt = 0 ∨ (r.toInt = 1 ∧ (MD w → MD w'))) → Q r w') : p_Tx_program w Q :=
  Eq.mpr (p_Tx_program.eq_1 _ _) (t_go h.1 (fun r1 w1 h1 f1 r0 r1' _ => x_pg5 (fun r w' h' s' k => x_pg44 (fun r2 w2 h2 s2 k2 => ⟨by omega, hQ r2 w2 h2 s2 k2⟩) FU r w' h' s' k (fu_lt (by have := bd_129_13 h'.1.1; omega))) FU r1 w1 ⟨h1, tpt_ts h.2 (TbM.fr f1 rfl rfl).1⟩ (PgS.of (TbM.fr f1 rfl rfl).1) (by
    by_cases z : r1.toInt = 0
    · exact Or.inl z
    · exact Or.inr ⟨by omega, (TbM.fr f1 rfl rfl).2.2.2⟩) (fu_lt (by have := bd_129_24 h1.1; omega))))
