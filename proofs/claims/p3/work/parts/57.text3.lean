/-! the reference's text: blocks and statements -/
theorem sn_fr {l : Pl} {w w' : MW} {m n : Int} (hF : FR l w w') (ho : off l lTb = true) (h : sn w m n) : sn w' m n := by
  unfold sn
  rw [stB_fr hF ho, kb_fr hF ho, (hF 129 24 (off_hit ho rfl)).1]
  exact h
theorem tc_10 {K m c : Int} {kk : Int → Int} {sn : Prop} (h : K = 10 ∨ K = 11 ∨ K = 12) (hm : K = 10 → 0 ≤ m ∧ m < 40) (c1 : 1 ≤ c) (k0 : kk 0 ≤ 9) : TbC K m c kk sn :=
  ⟨fun q => hm (by omega), fun q => by omega, fun q => by omega, fun q => by omega, fun _ => ⟨c1, k0⟩, fun q => by omega, fun q => by omega, fun q => by omega, fun q => by omega, fun q => by omega⟩
theorem tc_13 {K m c : Int} {kk : Int → Int} {sn : Prop} (h : K = 13) (m0 : 0 ≤ m) (m1 : m < 40) (c1 : 2 ≤ c) (k0 : kk 0 ≤ 9) (k1 : kk 1 ≤ 9) : TbC K m c kk sn :=
  ⟨fun _ => ⟨m0, m1⟩, fun q => by omega, fun q => by omega, fun q => by omega, fun _ => ⟨by omega, k0⟩, fun _ => ⟨c1, k1⟩, fun q => by omega, fun q => by omega, fun q => by omega, fun q => by omega⟩
theorem tc_14 {K m c : Int} {kk : Int → Int} {sn : Prop} (h : K = 14 ∨ K = 20 ∨ K = 21 ∨ K = 23) : TbC K m c kk sn :=
  ⟨fun q => by omega, fun q => by omega, fun q => by omega, fun q => by omega, fun q => by omega, fun q => by omega, fun q => by omega, fun q => by omega, fun q => by omega, fun q => by omega⟩
theorem tc_15 {K m c : Int} {kk : Int → Int} {sn : Prop} (h : K = 15 ∨ K = 16 ∨ K = 17) (c1 : 2 ≤ c) (k0 : kk 0 ≤ 9) (k1 : 10 ≤ kk 1) (k2 : K = 17 → 3 ≤ c ∧ 10 ≤ kk 2) : TbC K m c kk sn :=
  ⟨fun q => by omega, fun q => by omega, fun q => by omega, fun q => by omega, fun _ => ⟨by omega, k0⟩, fun q => by omega, fun _ => ⟨c1, k1⟩, k2, fun q => by omega, fun q => by omega⟩
theorem tc_18 {K m c : Int} {kk : Int → Int} {sn : Prop} (h : K = 18 ∨ K = 19) (m0 : 0 ≤ m) (m1 : m < 40) (hs : K = 19 → sn) : TbC K m c kk sn :=
  ⟨fun _ => ⟨m0, m1⟩, fun q => by omega, fun q => by omega, fun q => by omega, fun q => by omega, fun q => by omega, fun q => by omega, fun q => by omega, fun q => by omega, hs⟩
theorem tc_22 {K m c : Int} {kk : Int → Int} {sn : Prop} (h : K = 22) (m0 : 0 ≤ m) (m1 : m ≤ 31) : TbC K m c kk sn :=
  ⟨fun q => by omega, fun _ => ⟨m0, m1⟩, fun q => by omega, fun q => by omega, fun q => by omega, fun q => by omega, fun q => by omega, fun q => by omega, fun q => by omega, fun q => by omega⟩
theorem tc_24 {K m c : Int} {kk : Int → Int} {sn : Prop} (h : K = 24) (c1 : 1 ≤ c) (k0 : 10 ≤ kk 0) : TbC K m c kk sn :=
  ⟨fun q => by omega, fun q => by omega, fun q => by omega, fun q => by omega, fun q => by omega, fun q => by omega, fun q => by omega, fun q => by omega, fun _ => ⟨c1, k0⟩, fun q => by omega⟩
/-- in a statement: c nodes are pushed, of the kinds that P says -/
def STk (e : Int) (w : MW) (c : Int) (P : Int → Int → Prop) (w1 : MW) : Prop := TbI e w1 ∧ TbS (w.1 129 35).toInt w w1 ∧ w1.1 129 11 = w.1 129 11 ∧ (w1.1 129 35).toInt = (w.1 129 35).toInt + c ∧ (0 ≤ c ∧ 0 ≤ (w.1 129 35).toInt ∧ (MD w → MD w1)) ∧ (∀ k, 0 ≤ k → k < c → P k (Kb w1 (pil w1 ((w.1 129 35).toInt + k))))
theorem STk.refl {e : Int} {w : MW} {P : Int → Int → Prop} (h : TbI e w) : STk e w 0 P w := ⟨h, TbS.refl w, rfl, by omega, ⟨by omega, (bd_129_35 h.1).1, id⟩, fun k a b => by omega⟩
theorem STk.fr {e c : Int} {w w1 w2 : MW} {P : Int → Int → Prop} (h : STk e w c P w1) (hI : TbI e w2) (hF : FR l_Tx_go w1 w2) : STk e w c P w2 := by
  have m := TbM.fr hF rfl rfl
  have c0 := h.2.2.2.2.1.1
  have z0 := h.2.2.2.2.1.2.1
  have e35 := h.2.2.2.1
  refine ⟨hI, h.2.1.tr m.1 (by omega), m.2.2.1.trans h.2.2.1, by rw [m.2.1]; exact e35, ⟨c0, z0, fun q => m.2.2.2 (h.2.2.2.2.1.2.2 q)⟩, fun k a b => ?_⟩
  rw [kb_fr hF rfl, pil_fr hF rfl]
  exact h.2.2.2.2.2 k a b
theorem STk.push {e c lo hi : Int} {w w1 w2 : MW} {P : Int → Int → Prop} {r : Int32} (h : STk e w c P w1) (t : TpO lo hi e w1 r w2) (hr : ¬ r.toInt = 0) (hP : ∀ K, lo ≤ K → K ≤ hi → P c K) : STk e w (c + 1) P w2 := by
  have q := t.2.2 hr
  have c0 := h.2.2.2.2.1.1
  have z0 := h.2.2.2.2.1.2.1
  have e35 := h.2.2.2.1
  have b35 := bd_129_35 h.1.1
  have b0 := bd_129_35 t.1.1
  refine ⟨t.1, h.2.1.tr t.2.1 (by omega), q.2.1.trans h.2.2.1, by rw [q.1, e35]; omega, ⟨by omega, z0, fun m => q.2.2.2.2.2 (h.2.2.2.2.1.2.2 m)⟩, fun k a b => ?_⟩
  by_cases ck : k = c
  · rw [ck, ← e35]
    exact hP _ q.2.2.1 q.2.2.2.1
  · have hw : 0 ≤ (w.1 129 35).toInt + k := by omega
    have p := h.1.2.2.2.2.2.1 ((w.1 129 35).toInt + k) hw (by omega)
    rw [t.2.1.2.2.2.2 _ hw (by omega), t.2.1.2.2.2.1 _ p.1 p.2.1]
    exact h.2.2.2.2.2 k a (by omega)
theorem STk.out {e c lo hi : Int} {w w1 w2 : MW} {P : Int → Int → Prop} {r : Int32} (h : STk e w c P w1) (t : TpO lo hi e w1 r w2) : TbI e w2 ∧ TbS (w.1 129 35).toInt w w2 := by
  have c0 := h.2.2.2.2.1.1
  have z0 := h.2.2.2.2.1.2.1
  have e35 := h.2.2.2.1
  exact ⟨t.1, h.2.1.tr t.2.1 (by omega)⟩
theorem STk.out2 {e c lo hi : Int} {w w1 w2 : MW} {P : Int → Int → Prop} {r : Int32} (h : STk e w c P w1) (t : TxO e lo hi w1 r w2) : TbI e w2 ∧ TbS (w.1 129 35).toInt w w2 := by
  have c0 := h.2.2.2.2.1.1
  have z0 := h.2.2.2.2.1.2.1
  have e35 := h.2.2.2.1
  exact ⟨t.1, h.2.1.tr t.2.1 (by omega)⟩
/-- a statement's node -/
theorem st_good {e c : Int} {v w9 : MW} {P : Int → Int → Prop} {wh n ln x : Int32} {Q : Int32 → MW → Prop} (st : STk e v c P w9) (w0 : 10 ≤ wh.toInt) (w1 : wh.toInt ≤ 22) (hx : MD w9 → 0 ≤ x.toInt ∧ x.toInt ≤ (w9.1 129 13).toInt + 1) (hc : TbC wh.toInt n.toInt c (fun k => Kb w9 (pil w9 ((v.1 129 35).toInt + k))) (sn w9 n.toInt (w9.1 129 13).toInt)) (hQ : ∀ r w', TxO e 10 22 v r w' → Q r w') : p_Tx_node0 (sI w9 129 38 x) wh (Int32.toInt64 n) ln (-1) (v.1 129 35) (fun r10 w10 => (Q r10 w10)) := by
  have hF : FR [(129, some 38)] w9 (sI w9 129 38 x) := FR.I (FR.refl _ w9) rfl
  have h10 : TbI e (sI w9 129 38 x) := t_made st.1
  have s0 : ∀ m, TbS m w9 (sI w9 129 38 x) := fun m => TbS_fr hF rfl rfl
  have x38 : (sI w9 129 38 x).1 129 38 = x := rfl
  generalize (sI w9 129 38 x) = w10 at *
  have e35 := st.2.2.2.1
  have c0 := st.2.2.2.2.1.1
  have z := st.2.2.2.2.1.2.1
  have q35 : w10.1 129 35 = w9.1 129 35 := (hF 129 35 rfl).1
  have q13 : w10.1 129 13 = w9.1 129 13 := (hF 129 13 rfl).1
  have s10 : TbS (v.1 129 35).toInt v w10 := st.2.1.tr (s0 _) (Int.le_refl _)
  have b35 := bd_129_35 st.1.1
  refine t_node h10 (by omega) (by omega) (by decide) (by decide) z (by rw [q35]; omega) ?_ (fun r w' hI' hS hr => hQ r w' (TxO.node s10 (((hF 129 11 rfl).1).trans st.2.2.1) (fun m => by rw [x38, q13]; exact hx (st.2.2.2.2.1.2.2 m)) rfl w0 w1 hI' hS hr))
  have ec : (w10.1 129 35).toInt - (v.1 129 35).toInt = c := by rw [q35]; omega
  rw [ec, i2l2i]
  refine TbC.mono hc (fun k _ _ => ?_) (fun _ q => ?_)
  · show Kb w10 (pil w10 ((v.1 129 35).toInt + k)) = Kb w9 (pil w9 ((v.1 129 35).toInt + k))
    rw [kb_fr hF rfl, pil_fr hF rfl]
  · rw [q13]
    exact sn_fr hF rfl q
theorem st_bad {e : Int} {v w9 : MW} {X : Prop} {Q : Int32 → MW → Prop} (h : TbI e w9 ∧ TbS (v.1 129 35).toInt v w9) (hQ : ∀ r w', TxO e 10 22 v r w' → Q r w') : (¬ (0 : Int32).toInt = 0 → X) ∧ (¬ (¬ (0 : Int32).toInt = 0) → (Q (-1) w9)) := ⟨fun c => absurd i_0 c, fun _ => hQ _ w9 (TxO.bad h.1 h.2 (by decide))⟩
theorem st_ok {w9 : MW} {X : Prop} {Q : Int32 → MW → Prop} (h : X) : (¬ (1 : Int32).toInt = 0 → X) ∧ (¬ (¬ (1 : Int32).toInt = 0) → (Q (-1) w9)) := ⟨fun _ => h, fun c => absurd (by decide) c⟩
def PA9 : Int → Int → Prop := fun _ K => K ≤ 9
def PB9 : Int → Int → Prop := fun k K => (k = 0 → K ≤ 9) ∧ (1 ≤ k → 10 ≤ K)
def PTr : Int → Int → Prop := fun _ _ => True
theorem STk.k0 {e c : Int} {w w1 : MW} {P : Int → Int → Prop} (h : STk e w c P w1) (k : Int) (a : 0 ≤ k) (b : k < c) : P k (Kb w1 (pil w1 ((w.1 129 35).toInt + k))) := h.2.2.2.2.2 k a b
/-- set, ramp: the end -/
theorem st_195 {e : Int} {v : MW} {wh : Int32} {ln : Int32} {Q : Int32 → MW → Prop} {n y : Int32} {w9 : MW} (hQ : ∀ r w', TxO e 10 22 v r w' → Q r w') (h : TbI e w9 ∧ TbS (v.1 129 35).toInt v w9) (hy : ¬ y.toInt = 0 → ∀ x : Int32, (MD w9 → 0 ≤ x.toInt ∧ x.toInt ≤ (w9.1 129 13).toInt + 1) → p_Tx_node0 (sI w9 129 38 x) wh (Int32.toInt64 n) ln (-1) (v.1 129 35) (fun r10 w10 => (Q r10 w10))) : (¬ y.toInt = 0 → (p_Tx_node0 (sI w9 129 38 ((w9.1 129 38) + (1 : Int32))) wh (Int32.toInt64 n) ln (-1) (v.1 129 35) (fun r10 w10 => (Q r10 w10)))) ∧ (¬ (¬ y.toInt = 0) → (Q (-1) w9)) := ⟨fun c => hy c _ (fun m => by
    have b := bd_129_13 h.1.1
    have := m.2
    have := m.1
    have s := ti_add2 (Eq.refl (w9.1 129 38).toInt) i_1 (by omega) (by omega)
    omega), fun _ => hQ _ w9 (TxO.bad h.1 h.2 (by decide))⟩
theorem st_set {B : MW → (Int32 → MW → Prop) → Prop} {S : MW → (Int32 → MW → Prop) → Prop} {e : Int} {v : MW} {wh : Int32} {ln : Int32} {Q : Int32 → MW → Prop} (h : TbI e v) (hw : wh.toInt = 10) (hQ : ∀ r w', TxO e 10 22 v r w' → Q r w') : (p_Tx_known v 31 (fun r7 w7 => ((r7.toInt < 0 → (q_Tx_statement_195 B S wh ln (v.1 129 35) r7 0 w7 Q)) ∧ (¬ (r7.toInt < 0) → ((0 ≤ (((40 : Int32) * ((1 : Int32) - (w7.1 129 12))) + r7).toInt ∧ (((40 : Int32) * ((1 : Int32) - (w7.1 129 12))) + r7).toInt < 80) ∧ (p_Tx_sumOf w7 (w7.1 142 ((((40 : Int32) * ((1 : Int32) - (w7.1 129 12))) + r7).toInt.toNat)) (fun r12 w12 => ((r12.toInt = 0 → (q_Tx_statement_195 B S wh ln (v.1 129 35) r7 0 w12 Q)) ∧ (¬ (r12.toInt = 0) → (p_Tx_over w12 59 (fun r15 w15 => ((r15.toInt = 0 → (q_Tx_statement_195 B S wh ln (v.1 129 35) r7 0 w15 Q)) ∧ (¬ (r15.toInt = 0) → (q_Tx_statement_195 B S wh ln (v.1 129 35) r7 1 w15 Q)))))))))))))) := by
  refine tq_known h (fun r7 w7 h7 f7 k7 => ?_)
  have s7 : STk e v 0 PA9 w7 := (STk.refl h).fr h7 f7
  have b24 := bd_129_24 h7.1
  have bh := bhf_b h7.1
  refine ⟨fun _ => Eq.mpr (q_Tx_statement_195.eq_1 _ _ _ _ _ _ _ _ _) (st_bad ⟨h7, s7.2.1⟩ hQ), fun c => ?_⟩
  have ei := cc_ix (n := r7) h7.1 (by omega) (by omega)
  refine ⟨⟨by omega, by omega⟩, t_sumOf h7 (fun r12 w12 t12 => ⟨fun _ => Eq.mpr (q_Tx_statement_195.eq_1 _ _ _ _ _ _ _ _ _) (st_bad (s7.out t12) hQ), fun d => t_over t12.1 (fun r15 w15 h15 f15 => ?_)⟩)⟩
  have s15 : STk e v (0 + 1) PA9 w15 := (s7.push t12 d (fun K _ a => a)).fr h15 f15
  refine ⟨fun _ => Eq.mpr (q_Tx_statement_195.eq_1 _ _ _ _ _ _ _ _ _) (st_bad ⟨h15, s15.2.1⟩ hQ), fun _ => Eq.mpr (q_Tx_statement_195.eq_1 _ _ _ _ _ _ _ _ _) (st_195 hQ ⟨h15, s15.2.1⟩ (fun _ x hx => st_good s15 (by omega) (by omega) hx (tc_10 (Or.inl hw) (fun _ => ⟨by omega, by omega⟩) (by omega) (s15.k0 0 (by omega) (by omega))) hQ))⟩
theorem st_wait {B : MW → (Int32 → MW → Prop) → Prop} {S : MW → (Int32 → MW → Prop) → Prop} {e : Int} {v : MW} {wh : Int32} {ln : Int32} {Q : Int32 → MW → Prop} (h : TbI e v) (hw : wh.toInt = 11) (hQ : ∀ r w', TxO e 10 22 v r w' → Q r w') : (p_Tx_sumOf v 3 (fun r18 w18 => ((r18.toInt = 0 → (q_Tx_statement_222 B S wh ln (v.1 129 35) 0 0 w18 Q)) ∧ (¬ (r18.toInt = 0) → (p_Tx_over w18 59 (fun r22 w22 => ((r22.toInt = 0 → (q_Tx_statement_222 B S wh ln (v.1 129 35) 0 0 w22 Q)) ∧ (¬ (r22.toInt = 0) → (q_Tx_statement_222 B S wh ln (v.1 129 35) 0 1 w22 Q))))))))) := by
  have s0 : STk e v 0 PA9 v := STk.refl h
  refine t_sumOf h (fun r12 w12 t12 => ⟨fun _ => Eq.mpr (q_Tx_statement_222.eq_1 _ _ _ _ _ _ _ _ _) (st_bad (s0.out t12) hQ), fun d => t_over t12.1 (fun r15 w15 h15 f15 => ?_)⟩)
  have s15 : STk e v (0 + 1) PA9 w15 := (s0.push t12 d (fun K _ a => a)).fr h15 f15
  exact ⟨fun _ => Eq.mpr (q_Tx_statement_222.eq_1 _ _ _ _ _ _ _ _ _) (st_bad ⟨h15, s15.2.1⟩ hQ), fun _ => Eq.mpr (q_Tx_statement_222.eq_1 _ _ _ _ _ _ _ _ _) (st_195 hQ ⟨h15, s15.2.1⟩ (fun _ x hx => st_good s15 (by omega) (by omega) hx (tc_10 (Or.inr (Or.inl hw)) (fun _ => by omega) (by omega) (s15.k0 0 (by omega) (by omega))) hQ))⟩
theorem st_until {B : MW → (Int32 → MW → Prop) → Prop} {S : MW → (Int32 → MW → Prop) → Prop} {e : Int} {v : MW} {wh : Int32} {ln : Int32} {Q : Int32 → MW → Prop} (h : TbI e v) (hw : wh.toInt = 12) (hQ : ∀ r w', TxO e 10 22 v r w' → Q r w') : (p_Tx_test v  (fun r25 w25 => (p_Tx_pushed w25 r25 (fun r26 w26 => ((r26.toInt = 0 → (q_Tx_statement_252 B S wh ln (v.1 129 35) 0 0 w26 Q)) ∧ (¬ (r26.toInt = 0) → (p_Tx_over w26 59 (fun r30 w30 => ((r30.toInt = 0 → (q_Tx_statement_252 B S wh ln (v.1 129 35) 0 0 w30 Q)) ∧ (¬ (r30.toInt = 0) → (q_Tx_statement_252 B S wh ln (v.1 129 35) 0 1 w30 Q))))))))))) := by
  have s0 : STk e v 0 PA9 v := STk.refl h
  refine t_test h (fun r25 w25 t25 => t_pushed t25 h.2.2.1 (by omega) (fun r12 w12 t12 => ⟨fun _ => Eq.mpr (q_Tx_statement_252.eq_1 _ _ _ _ _ _ _ _ _) (st_bad (s0.out t12) hQ), fun d => t_over t12.1 (fun r15 w15 h15 f15 => ?_)⟩))
  have s15 : STk e v (0 + 1) PA9 w15 := (s0.push t12 d (fun K _ a => a)).fr h15 f15
  exact ⟨fun _ => Eq.mpr (q_Tx_statement_252.eq_1 _ _ _ _ _ _ _ _ _) (st_bad ⟨h15, s15.2.1⟩ hQ), fun _ => Eq.mpr (q_Tx_statement_252.eq_1 _ _ _ _ _ _ _ _ _) (st_195 hQ ⟨h15, s15.2.1⟩ (fun _ x hx => st_good s15 (by omega) (by omega) hx (tc_10 (Or.inr (Or.inr hw)) (fun _ => by omega) (by omega) (s15.k0 0 (by omega) (by omega))) hQ))⟩
theorem st_ramp {B : MW → (Int32 → MW → Prop) → Prop} {S : MW → (Int32 → MW → Prop) → Prop} {e : Int} {v : MW} {wh : Int32} {ln : Int32} {Q : Int32 → MW → Prop} (h : TbI e v) (hw : wh.toInt = 13) (hQ : ∀ r w', TxO e 10 22 v r w' → Q r w') : (p_Tx_known v 31 (fun r33 w33 => ((r33.toInt < 0 → (q_Tx_statement_195 B S wh ln (v.1 129 35) r33 0 w33 Q)) ∧ (¬ (r33.toInt < 0) → ((0 ≤ (((40 : Int32) * ((1 : Int32) - (w33.1 129 12))) + r33).toInt ∧ (((40 : Int32) * ((1 : Int32) - (w33.1 129 12))) + r33).toInt < 80) ∧ (p_Tx_sumOf w33 (w33.1 142 ((((40 : Int32) * ((1 : Int32) - (w33.1 129 12))) + r33).toInt.toNat)) (fun r36 w36 => ((r36.toInt = 0 → (q_Tx_statement_195 B S wh ln (v.1 129 35) r33 0 w36 Q)) ∧ (¬ (r36.toInt = 0) → (p_Tx_over w36 1032 (fun r39 w39 => ((r39.toInt = 0 → (q_Tx_statement_195 B S wh ln (v.1 129 35) r33 0 w39 Q)) ∧ (¬ (r39.toInt = 0) → (p_Tx_sumOf w39 3 (fun r41 w41 => ((r41.toInt = 0 → (q_Tx_statement_195 B S wh ln (v.1 129 35) r33 0 w41 Q)) ∧ (¬ (r41.toInt = 0) → (p_Tx_over w41 59 (fun r43 w43 => ((r43.toInt = 0 → (q_Tx_statement_195 B S wh ln (v.1 129 35) r33 0 w43 Q)) ∧ (¬ (r43.toInt = 0) → (q_Tx_statement_195 B S wh ln (v.1 129 35) r33 1 w43 Q)))))))))))))))))))))) := by
  refine tq_known h (fun r7 w7 h7 f7 k7 => ?_)
  have s7 : STk e v 0 PA9 w7 := (STk.refl h).fr h7 f7
  have b24 := bd_129_24 h7.1
  have bh := bhf_b h7.1
  refine ⟨fun _ => Eq.mpr (q_Tx_statement_195.eq_1 _ _ _ _ _ _ _ _ _) (st_bad ⟨h7, s7.2.1⟩ hQ), fun c => ?_⟩
  have ei := cc_ix (n := r7) h7.1 (by omega) (by omega)
  refine ⟨⟨by omega, by omega⟩, t_sumOf h7 (fun r12 w12 t12 => ⟨fun _ => Eq.mpr (q_Tx_statement_195.eq_1 _ _ _ _ _ _ _ _ _) (st_bad (s7.out t12) hQ), fun d => t_over t12.1 (fun r15 w15 h15 f15 => ?_)⟩)⟩
  have s15 : STk e v (0 + 1) PA9 w15 := (s7.push t12 d (fun K _ a => a)).fr h15 f15
  refine ⟨fun _ => Eq.mpr (q_Tx_statement_195.eq_1 _ _ _ _ _ _ _ _ _) (st_bad ⟨h15, s15.2.1⟩ hQ), fun _ => t_sumOf h15 (fun r41 w41 t41 => ⟨fun _ => Eq.mpr (q_Tx_statement_195.eq_1 _ _ _ _ _ _ _ _ _) (st_bad (s15.out t41) hQ), fun d2 => t_over t41.1 (fun r43 w43 h43 f43 => ?_)⟩)⟩
  have s43 : STk e v (0 + 1 + 1) PA9 w43 := (s15.push t41 d2 (fun K _ a => a)).fr h43 f43
  exact ⟨fun _ => Eq.mpr (q_Tx_statement_195.eq_1 _ _ _ _ _ _ _ _ _) (st_bad ⟨h43, s43.2.1⟩ hQ), fun _ => Eq.mpr (q_Tx_statement_195.eq_1 _ _ _ _ _ _ _ _ _) (st_195 hQ ⟨h43, s43.2.1⟩ (fun _ x hx => st_good s43 (by omega) (by omega) hx (tc_13 hw (by omega) (by omega) (by omega) (s43.k0 0 (by omega) (by omega)) (s43.k0 1 (by omega) (by omega))) hQ))⟩
theorem st_480 {B : MW → (Int32 → MW → Prop) → Prop} {S : MW → (Int32 → MW → Prop) → Prop} {e : Int} {v : MW} {wh : Int32} {ln : Int32} {Q : Int32 → MW → Prop} {a : Int32} (h : TbI e v) (hw : (wh.toInt = 18) ∨ (wh.toInt = 19 ∧ a.toInt = 24)) (hQ : ∀ r w', TxO e 10 22 v r w' → Q r w') : q_Tx_statement_480 B S wh ln (v.1 129 35) a v Q := by
  refine Eq.mpr (q_Tx_statement_480.eq_1 _ _ _ _ _ _ _ _) (tq_known h (fun r7 w7 h7 f7 k7 => ?_))
  have s7 : STk e v 0 PA9 w7 := (STk.refl h).fr h7 f7
  have b24 := bd_129_24 h7.1
  refine ⟨fun _ => Eq.mpr (q_Tx_statement_504.eq_1 _ _ _ _ _ _ _ _ _) (st_bad ⟨h7, s7.2.1⟩ hQ), fun c => t_over h7 (fun r15 w15 h15 f15 => ?_)⟩
  have s15 : STk e v 0 PA9 w15 := s7.fr h15 f15
  refine ⟨fun _ => Eq.mpr (q_Tx_statement_504.eq_1 _ _ _ _ _ _ _ _ _) (st_bad ⟨h15, s15.2.1⟩ hQ), fun _ => Eq.mpr (q_Tx_statement_504.eq_1 _ _ _ _ _ _ _ _ _) (st_195 hQ ⟨h15, s15.2.1⟩ (fun _ x hx => st_good s15 (by omega) (by omega) hx (tc_18 (by omega) (by omega) (by omega) (fun q => ?_)) hQ))⟩
  have k := k7.resolve_left c
  have st : 0 ≤ stB w15 r7.toInt := by rw [stB_fr f15 rfl]; exact k.2.2 (by omega)
  have n15 : r7.toInt < (w15.1 129 24).toInt := by rw [(f15 129 24 rfl).1]; exact k.2.1
  have z := h15.2.2.2.2.2.2 r7.toInt k.1 n15 st
  exact ⟨n15, st, z.1, z.2⟩
theorem st_stop {e : Int} {v : MW} {wh : Int32} {ln : Int32} {Q : Int32 → MW → Prop} (h : TbI e v) (hw : wh.toInt = 20 ∨ wh.toInt = 21) (hQ : ∀ r w', TxO e 10 22 v r w' → Q r w') : (p_Tx_over v 59 (fun r113 w113 => ((¬ r113.toInt = 0 → (p_Tx_node0 (sI w113 129 38 ((w113.1 129 38) + (1 : Int32))) wh (Int32.toInt64 (0 : Int32)) ln (-1) (v.1 129 35) (fun r115 w115 => (Q r115 w115)))) ∧ (¬ (¬ r113.toInt = 0) → (Q (-1) w113))))) := by
  refine t_over h (fun r15 w15 h15 f15 => ?_)
  have s15 : STk e v 0 PA9 w15 := (STk.refl h).fr h15 f15
  exact st_195 hQ ⟨h15, s15.2.1⟩ (fun _ x hx => st_good s15 (by omega) (by omega) hx (tc_14 (by omega)) hQ)
theorem st_act {B : MW → (Int32 → MW → Prop) → Prop} {S : MW → (Int32 → MW → Prop) → Prop} {e : Int} {v : MW} {wh : Int32} {ln : Int32} {Q : Int32 → MW → Prop} (h : TbI e v) (hw : wh.toInt = 22) (hQ : ∀ r w', TxO e 10 22 v r w' → Q r w') : ((¬ (v.1 129 4).toInt = 2000 → (p_Tx_bad v  (fun r122 w122 => (Q r122 w122)))) ∧ (¬ (¬ (v.1 129 4).toInt = 2000) → ((¬ (v.1 129 9).toInt = 0 → (p_Tx_bad v  (fun r124 w124 => (Q r124 w124)))) ∧ (¬ (¬ (v.1 129 9).toInt = 0) → (((lg_cmp (v.2.1 129 8) (32000 : Int64)).toInt < 0 → (p_Tx_go v  (fun r126 w126 => ((r126.toInt = 0 → (q_Tx_statement_574 B S wh ln (v.1 129 35) (Int64.toInt32 ((v.2.1 129 8) / (1000 : Int64))) 0 w126 Q)) ∧ (¬ (r126.toInt = 0) → (p_Tx_over w126 59 (fun r130 w130 => ((r130.toInt = 0 → (q_Tx_statement_574 B S wh ln (v.1 129 35) (Int64.toInt32 ((v.2.1 129 8) / (1000 : Int64))) 0 w130 Q)) ∧ (¬ (r130.toInt = 0) → (q_Tx_statement_574 B S wh ln (v.1 129 35) (Int64.toInt32 ((v.2.1 129 8) / (1000 : Int64))) 1 w130 Q)))))))))) ∧ (¬ ((lg_cmp (v.2.1 129 8) (32000 : Int64)).toInt < 0) → (p_Tx_bad v  (fun r132 w132 => (Q r132 w132))))))))) := by
  have bad : p_Tx_bad v (fun r122 w122 => (Q r122 w122)) := t_bad h (fun r w' r0 h' m' => hQ r w' (TxO.bad h' m'.1 r0))
  refine ⟨fun _ => bad, fun _ => ⟨fun _ => bad, fun _ => ⟨fun c => ?_, fun _ => bad⟩⟩⟩
  have hV : 0 ≤ (v.2.1 129 8).toInt := h.2.1.2
  have cm := nb_cmp (v.2.1 129 8) (32000 : Int64)
  rw [(by decide : ((32000 : Int64)).toInt = 32000)] at cm
  have ed := nb_ldiv hV (by decide : ((1000 : Int64)).toInt = 1000) (by omega)
  have en := nb_l2i (x := (v.2.1 129 8) / (1000 : Int64)) (by omega) (by omega)
  refine t_go h (fun r7 w7 h7 f7 _ _ _ => ?_)
  have s7 : STk e v 0 PA9 w7 := (STk.refl h).fr h7 f7
  refine ⟨fun _ => Eq.mpr (q_Tx_statement_574.eq_1 _ _ _ _ _ _ _ _ _) (st_bad ⟨h7, s7.2.1⟩ hQ), fun c => t_over h7 (fun r15 w15 h15 f15 => ?_)⟩
  have s15 : STk e v 0 PA9 w15 := s7.fr h15 f15
  exact ⟨fun _ => Eq.mpr (q_Tx_statement_574.eq_1 _ _ _ _ _ _ _ _ _) (st_bad ⟨h15, s15.2.1⟩ hQ), fun _ => Eq.mpr (q_Tx_statement_574.eq_1 _ _ _ _ _ _ _ _ _) (st_195 hQ ⟨h15, s15.2.1⟩ (fun _ x hx => st_good s15 (by omega) (by omega) hx (tc_22 hw (by omega) (by omega)) hQ))⟩
/-- a block more -/
theorem st_blk {B : MW → (Int32 → MW → Prop) → Prop} {e : Int} {v : MW} {c : Int} {P : Int → Int → Prop} {w1 : MW} {R : Int32 → MW → Prop} (hB : RcE 23 23 (v.1 129 11).toInt B) (s1 : STk e v c P w1) (h0 : ∀ r w2, r.toInt = 0 → TbI e w2 ∧ TbS (v.1 129 35).toInt v w2 → R r w2) (h1 : ∀ r w2, ¬ r.toInt = 0 → STk e v (c + 1) P w2 → (w1.1 129 13).toInt < (w2.1 129 13).toInt → R r w2) (hP : ∀ K, 23 ≤ K → K ≤ 23 → P c K) : B w1 (fun r51 w51 => (p_Tx_pushed w51 r51 (fun r52 w52 => R r52 w52))) :=
  hB e w1 _ s1.1 (congrArg Int32.toInt s1.2.2.1) (fun r51 w51 t51 => t_pushed t51 s1.1.2.2.1 (by omega) (fun r52 w52 t52 => by
    by_cases z : r52.toInt = 0
    · exact h0 r52 w52 z (s1.out t52)
    · exact h1 r52 w52 z (s1.push t52 z hP) (t52.2.2 z).2.2.2.2.1))
theorem st_286 {B : MW → (Int32 → MW → Prop) → Prop} {S : MW → (Int32 → MW → Prop) → Prop} {e : Int} {v : MW} {wh : Int32} {ln : Int32} {Q : Int32 → MW → Prop} (hB : RcE 23 23 (v.1 129 11).toInt B) (hw : wh.toInt = 14) (hQ : ∀ r w', TxO e 10 22 v r w' → Q r w') (m : Nat) : ∀ (x : Int32) (w1 : MW) (c : Int), TbI e w1 ∧ TbS (v.1 129 35).toInt v w1 → (¬ x.toInt = 0 → STk e v c PTr w1) → (301 - (w1.1 129 13).toInt).toNat < m → q_Tx_statement_286 B S wh ln (v.1 129 35) 0 (fun (e286_5_53 : Int32) (w53 : MW) => ((¬ e286_5_53.toInt = 0 → (p_Tx_node0 (sI w53 129 38 ((w53.1 129 38) + (1 : Int32))) wh (Int32.toInt64 0) ln (-1) (v.1 129 35) (fun r55 w55 => (Q r55 w55)))) ∧ (¬ (¬ e286_5_53.toInt = 0) → (Q (-1) w53)))) Q m x w1 := by
  induction m with
  | zero => intros; omega
  | succ m ih =>
    intro x w1 c h1 s1 hm
    rw [q_Tx_statement_286.eq_2]
    have out : (¬ x.toInt = 0 → (p_Tx_node0 (sI w1 129 38 ((w1.1 129 38) + (1 : Int32))) wh (Int32.toInt64 0) ln (-1) (v.1 129 35) (fun r55 w55 => (Q r55 w55)))) ∧ (¬ (¬ x.toInt = 0) → (Q (-1) w1)) := st_195 hQ h1 (fun d x hx => st_good (s1 d) (by omega) (by omega) hx (tc_14 (by omega)) hQ)
    refine ⟨fun _ => out, fun d => ⟨fun _ => out, fun _ => st_blk hB (s1 d) (fun r w2 r0 h2 => ?_) (fun r w2 r0 s2 n2 => ?_) (fun _ _ _ => trivial)⟩⟩
    · have b1 := bd_129_13 h1.1.1
      have b2 := bd_129_13 h2.1.1
      cases m with
      | zero => omega
      | succ m =>
        rw [q_Tx_statement_286.eq_2]
        exact ⟨fun _ => st_195 hQ h2 (fun d => absurd r0 d), fun d => absurd r0 d⟩
    · have b2 := bd_129_13 s2.1.1
      exact ih r w2 (c + 1) ⟨s2.1, s2.2.1⟩ (fun _ => s2) (by omega)
theorem st_par {B : MW → (Int32 → MW → Prop) → Prop} {S : MW → (Int32 → MW → Prop) → Prop} {e : Int} {v : MW} {wh : Int32} {ln : Int32} {Q : Int32 → MW → Prop} (h : TbI e v) (hB : RcE 23 23 (v.1 129 11).toInt B) (hw : wh.toInt = 14) (hQ : ∀ r w', TxO e 10 22 v r w' → Q r w') : (B v  (fun r46 w46 => (p_Tx_pushed w46 r46 (fun r47 w47 => ((r47.toInt = 0 → (q_Tx_statement_284 B S wh ln (v.1 129 35) 0 0 w47 Q)) ∧ (¬ (r47.toInt = 0) → (B w47  (fun r56 w56 => (p_Tx_pushed w56 r56 (fun r57 w57 => ((r57.toInt = 0 → (q_Tx_statement_284 B S wh ln (v.1 129 35) 0 0 w57 Q)) ∧ (¬ (r57.toInt = 0) → (q_Tx_statement_284 B S wh ln (v.1 129 35) 0 1 w57 Q))))))))))))) := by
  have s0 : STk e v 0 PTr v := STk.refl h
  have L0 : ∀ w2 : MW, TbI e w2 ∧ TbS (v.1 129 35).toInt v w2 → q_Tx_statement_284 B S wh ln (v.1 129 35) 0 0 w2 Q := fun w2 h2 => Eq.mpr (q_Tx_statement_284.eq_1 _ _ _ _ _ _ _ _ _) (st_286 hB hw hQ FU 0 w2 0 h2 (fun d => absurd i_0 d) (fu_lt (by have := bd_129_13 h2.1.1; omega)))
  refine st_blk hB s0 (fun r w2 r0 h2 => ⟨fun _ => L0 w2 h2, fun d => absurd r0 d⟩) (fun r w2 r0 s2 _ => ⟨fun d => absurd d r0, fun _ => st_blk hB s2 (fun r w3 r0 h3 => ⟨fun _ => L0 w3 h3, fun d => absurd r0 d⟩) (fun r w3 r0 s3 _ => ⟨fun d => absurd d r0, fun _ => ?_⟩) (fun _ _ _ => trivial)⟩) (fun _ _ _ => trivial)
  exact Eq.mpr (q_Tx_statement_284.eq_1 _ _ _ _ _ _ _ _ _) (st_286 hB hw hQ FU 1 w3 _ ⟨s3.1, s3.2.1⟩ (fun _ => s3) (fu_lt (by have := bd_129_13 s3.1.1; omega)))
theorem pb_0 : ∀ K : Int, 0 ≤ K → K ≤ 9 → PB9 0 K := fun _ _ b => ⟨fun _ => b, fun c => by omega⟩
theorem pb_1 {c : Int} (hc : 1 ≤ c) : ∀ K : Int, 23 ≤ K → K ≤ 23 → PB9 c K := fun _ a _ => ⟨fun c => by omega, fun _ => by omega⟩
theorem st_nodeB {e : Int} {v : MW} {wh : Int32} {ln : Int32} {Q : Int32 → MW → Prop} {c : Int} {w9 : MW} {x : Int32} (hx : MD w9 → 0 ≤ x.toInt ∧ x.toInt ≤ (w9.1 129 13).toInt + 1) (s : STk e v c PB9 w9) (hw : wh.toInt = 15 ∨ wh.toInt = 16 ∨ (wh.toInt = 17 ∧ 3 ≤ c)) (c2 : 2 ≤ c) (hQ : ∀ r w', TxO e 10 22 v r w' → Q r w') : p_Tx_node0 (sI w9 129 38 x) wh (Int32.toInt64 (0 : Int32)) ln (-1) (v.1 129 35) (fun r10 w10 => (Q r10 w10)) :=
  st_good s (by omega) (by omega) hx (tc_15 (by omega) c2 ((s.k0 0 (by omega) (by omega)).1 rfl) ((s.k0 1 (by omega) (by omega)).2 (by omega)) (fun q => ⟨by omega, (s.k0 2 (by omega) (by omega)).2 (by omega)⟩)) hQ
theorem st_if {B : MW → (Int32 → MW → Prop) → Prop} {S : MW → (Int32 → MW → Prop) → Prop} {e : Int} {v : MW} {wh : Int32} {ln : Int32} {Q : Int32 → MW → Prop} (h : TbI e v) (hB : RcE 23 23 (v.1 129 11).toInt B) (hw : wh.toInt = 15) (hQ : ∀ r w', TxO e 10 22 v r w' → Q r w') : (p_Tx_test v  (fun r60 w60 => (p_Tx_pushed w60 r60 (fun r61 w61 => ((r61.toInt = 0 → (q_Tx_statement_340 B S wh ln (v.1 129 35) 0 0 w61 Q)) ∧ (¬ (r61.toInt = 0) → (B w61  (fun r77 w77 => (p_Tx_pushed w77 r77 (fun r78 w78 => ((r78.toInt = 0 → (q_Tx_statement_340 B S wh ln (v.1 129 35) 0 0 w78 Q)) ∧ (¬ (r78.toInt = 0) → (q_Tx_statement_340 B S wh ln (v.1 129 35) 0 1 w78 Q))))))))))))) := by
  have s0 : STk e v 0 PB9 v := STk.refl h
  have L0 : ∀ w2 : MW, TbI e w2 ∧ TbS (v.1 129 35).toInt v w2 → q_Tx_statement_340 B S wh ln (v.1 129 35) 0 0 w2 Q := fun w2 h2 => Eq.mpr (q_Tx_statement_340.eq_1 _ _ _ _ _ _ _ _ _) ⟨fun _ => st_bad h2 hQ, fun d => absurd i_0 d⟩
  have M0 : ∀ w2 : MW, TbI e w2 ∧ TbS (v.1 129 35).toInt v w2 → q_Tx_statement_379 B S wh ln (v.1 129 35) 0 0 w2 Q := fun w2 h2 => Eq.mpr (q_Tx_statement_379.eq_1 _ _ _ _ _ _ _ _ _) (st_bad h2 hQ)
  refine t_test h (fun r60 w60 t60 => t_pushed t60 h.2.2.1 (by omega) (fun r61 w61 t61 => ⟨fun _ => L0 w61 (s0.out t61), fun d => ?_⟩))
  have s61 := s0.push t61 d pb_0
  refine st_blk hB s61 (fun r w2 r0 h2 => ⟨fun _ => L0 w2 h2, fun d => absurd r0 d⟩) (fun r w2 r0 s2 _ => ⟨fun d => absurd d r0, fun _ => ?_⟩) (pb_1 (by omega))
  have nn : ((¬ (1 : Int32).toInt = 0 → (p_Tx_node0 (sI w2 129 38 ((w2.1 129 38) + (1 : Int32))) wh (Int32.toInt64 0) ln (-1) (v.1 129 35) (fun r69 w69 => (Q r69 w69)))) ∧ (¬ (¬ (1 : Int32).toInt = 0) → (Q (-1) w2))) := st_195 hQ ⟨s2.1, s2.2.1⟩ (fun _ x hx => st_nodeB hx s2 (Or.inl hw) (by omega) hQ)
  have G : p_Tx_go w2  (fun r70 w70 => ((r70.toInt = 0 → (q_Tx_statement_379 B S wh ln (v.1 129 35) 0 0 w70 Q)) ∧ (¬ (r70.toInt = 0) → (B w70  (fun r74 w74 => (p_Tx_pushed w74 r74 (fun r75 w75 => ((r75.toInt = 0 → (q_Tx_statement_379 B S wh ln (v.1 129 35) 0 0 w75 Q)) ∧ (¬ (r75.toInt = 0) → (q_Tx_statement_379 B S wh ln (v.1 129 35) 0 1 w75 Q)))))))))) := t_go s2.1 (fun r70 w70 h70 f70 _ _ _ => ⟨fun _ => M0 w70 ⟨h70, (s2.fr h70 f70).2.1⟩, fun _ => st_blk hB (s2.fr h70 f70) (fun r w3 r0 h3 => ⟨fun _ => M0 w3 h3, fun d => absurd r0 d⟩) (fun r w3 r0 s3 _ => ⟨fun d => absurd d r0, fun _ => Eq.mpr (q_Tx_statement_379.eq_1 _ _ _ _ _ _ _ _ _) (st_195 hQ ⟨s3.1, s3.2.1⟩ (fun _ x hx => st_nodeB hx s3 (Or.inl hw) (by omega) hQ))⟩) (pb_1 (by omega))⟩)
  exact Eq.mpr (q_Tx_statement_340.eq_1 _ _ _ _ _ _ _ _ _) ⟨fun d => absurd d (by decide), fun _ => t_isWord ⟨fun _ => nn, fun _ => G⟩ ⟨fun _ => nn, fun _ => G⟩⟩
theorem st_rep {B : MW → (Int32 → MW → Prop) → Prop} {S : MW → (Int32 → MW → Prop) → Prop} {e : Int} {v : MW} {wh : Int32} {ln : Int32} {Q : Int32 → MW → Prop} (h : TbI e v) (hB : RcE 23 23 (v.1 129 11).toInt B) (hw : wh.toInt = 16) (hQ : ∀ r w', TxO e 10 22 v r w' → Q r w') : (p_Tx_sumOf v 0 (fun r81 w81 => ((r81.toInt = 0 → (q_Tx_statement_408 B S wh ln (v.1 129 35) 0 0 w81 Q)) ∧ (¬ (r81.toInt = 0) → (B w81  (fun r85 w85 => (p_Tx_pushed w85 r85 (fun r86 w86 => ((r86.toInt = 0 → (q_Tx_statement_408 B S wh ln (v.1 129 35) 0 0 w86 Q)) ∧ (¬ (r86.toInt = 0) → (q_Tx_statement_408 B S wh ln (v.1 129 35) 0 1 w86 Q))))))))))) := by
  have s0 : STk e v 0 PB9 v := STk.refl h
  have L0 : ∀ w2 : MW, TbI e w2 ∧ TbS (v.1 129 35).toInt v w2 → q_Tx_statement_408 B S wh ln (v.1 129 35) 0 0 w2 Q := fun w2 h2 => Eq.mpr (q_Tx_statement_408.eq_1 _ _ _ _ _ _ _ _ _) (st_bad h2 hQ)
  refine t_sumOf h (fun r61 w61 t61 => ⟨fun _ => L0 w61 (s0.out t61), fun d => ?_⟩)
  have s61 := s0.push t61 d pb_0
  exact st_blk hB s61 (fun r w2 r0 h2 => ⟨fun _ => L0 w2 h2, fun d => absurd r0 d⟩) (fun r w2 r0 s2 _ => ⟨fun d => absurd d r0, fun _ => Eq.mpr (q_Tx_statement_408.eq_1 _ _ _ _ _ _ _ _ _) (st_195 hQ ⟨s2.1, s2.2.1⟩ (fun _ x hx => st_nodeB hx s2 (Or.inr (Or.inl hw)) (by omega) hQ))⟩) (pb_1 (by omega))
theorem st_limit {B : MW → (Int32 → MW → Prop) → Prop} {S : MW → (Int32 → MW → Prop) → Prop} {e : Int} {v : MW} {wh : Int32} {ln : Int32} {Q : Int32 → MW → Prop} (h : TbI e v) (hB : RcE 23 23 (v.1 129 11).toInt B) (hw : wh.toInt = 17) (hQ : ∀ r w', TxO e 10 22 v r w' → Q r w') : (p_Tx_test v  (fun r89 w89 => (p_Tx_pushed w89 r89 (fun r90 w90 => ((r90.toInt = 0 → (q_Tx_statement_461 B S wh ln (v.1 129 35) 0 0 w90 Q)) ∧ (¬ (r90.toInt = 0) → (B w90  (fun r94 w94 => (p_Tx_pushed w94 r94 (fun r95 w95 => ((r95.toInt = 0 → (q_Tx_statement_461 B S wh ln (v.1 129 35) 0 0 w95 Q)) ∧ (¬ (r95.toInt = 0) → (p_Tx_over w95 1034 (fun r97 w97 => ((r97.toInt = 0 → (q_Tx_statement_461 B S wh ln (v.1 129 35) 0 0 w97 Q)) ∧ (¬ (r97.toInt = 0) → (B w97  (fun r99 w99 => (p_Tx_pushed w99 r99 (fun r100 w100 => ((r100.toInt = 0 → (q_Tx_statement_461 B S wh ln (v.1 129 35) 0 0 w100 Q)) ∧ (¬ (r100.toInt = 0) → (q_Tx_statement_461 B S wh ln (v.1 129 35) 0 1 w100 Q))))))))))))))))))))))) := by
  have s0 : STk e v 0 PB9 v := STk.refl h
  have L0 : ∀ w2 : MW, TbI e w2 ∧ TbS (v.1 129 35).toInt v w2 → q_Tx_statement_461 B S wh ln (v.1 129 35) 0 0 w2 Q := fun w2 h2 => Eq.mpr (q_Tx_statement_461.eq_1 _ _ _ _ _ _ _ _ _) (st_bad h2 hQ)
  refine t_test h (fun r60 w60 t60 => t_pushed t60 h.2.2.1 (by omega) (fun r61 w61 t61 => ⟨fun _ => L0 w61 (s0.out t61), fun d => ?_⟩))
  have s61 := s0.push t61 d pb_0
  refine st_blk hB s61 (fun r w2 r0 h2 => ⟨fun _ => L0 w2 h2, fun d => absurd r0 d⟩) (fun r w2 r0 s2 _ => ⟨fun d => absurd d r0, fun _ => t_over s2.1 (fun r97 w97 h97 f97 => ⟨fun _ => L0 w97 ⟨h97, (s2.fr h97 f97).2.1⟩, fun _ => st_blk hB (s2.fr h97 f97) (fun r w3 r0 h3 => ⟨fun _ => L0 w3 h3, fun d => absurd r0 d⟩) (fun r w3 r0 s3 _ => ⟨fun d => absurd d r0, fun _ => ?_⟩) (pb_1 (by omega))⟩)⟩) (pb_1 (by omega))
  exact Eq.mpr (q_Tx_statement_461.eq_1 _ _ _ _ _ _ _ _ _) (st_195 hQ ⟨s3.1, s3.2.1⟩ (fun _ x hx => st_nodeB hx s3 (Or.inr (Or.inr ⟨hw, by omega⟩)) (by omega) hQ))
theorem x_statement {B S : MW → (Int32 → MW → Prop) → Prop} {e : Int} {w : MW} {Q : Int32 → MW → Prop} (h : TbI e w) (hB : RcE 23 23 (w.1 129 11).toInt B) (hQ : ∀ r w', TxO e 10 22 w r w' → Q r w') : pb_Tx_statement B S w Q := by
  have bad : p_Tx_bad w (fun r2 w2 => (Q r2 w2)) := t_bad h (fun r w' r0 h' m' => hQ r w' (TxO.bad h' m'.1 r0))
  rw [pb_Tx_statement.eq_1]
  generalize ((w.1 129 4) - (1000 : Int32)) = wh
  refine ⟨fun _ => bad, fun c => ⟨fun c2 => t_go' h (fun r4 v h4 m4 => ⟨fun _ => ?_, fun _ => hQ _ v (TxO.bad h4 m4.1 (by decide))⟩), fun _ => bad⟩⟩
  have hQ4 : ∀ r w', TxO e 10 22 v r w' → Q r w' := fun r w' t => hQ r w' (TxO.seq m4 t)
  have hB4 : RcE 23 23 (v.1 129 11).toInt B := by rw [m4.2.2.1]; exact hB
  exact ⟨fun k => st_set h4 k hQ4, fun _ => ⟨fun k => st_wait h4 k hQ4, fun _ => ⟨fun k => st_until h4 k hQ4, fun _ => ⟨fun k => st_ramp h4 k hQ4, fun _ => ⟨fun k => st_par h4 hB4 k hQ4, fun _ => ⟨fun k => st_if h4 hB4 k hQ4, fun _ => ⟨fun k => st_rep h4 hB4 k hQ4, fun _ => ⟨fun k => st_limit h4 hB4 k hQ4, fun _ => ⟨fun k => ⟨fun d => absurd k d, fun _ => st_480 h4 (Or.inl k) hQ4⟩, fun _ => ⟨fun k => ⟨fun _ => st_480 h4 (Or.inr ⟨k, by decide⟩) hQ4, fun d => absurd (by omega) d⟩, fun _ => ⟨fun k => st_stop h4 (Or.inl k) hQ4, fun _ => ⟨fun k => st_stop h4 (Or.inr k) hQ4, fun _ => ⟨fun k => st_act h4 k hQ4, fun k => absurd (by omega) k⟩⟩⟩⟩⟩⟩⟩⟩⟩⟩⟩⟩⟩
/-- the statements of a block -/
theorem x_52 {B S : MW → (Int32 → MW → Prop) → Prop} {e : Int} {w : MW} {ln : Int32} {E : MW → Prop} {Q : Int32 → MW → Prop} (hS : RcE 10 22 ((w.1 129 11).toInt + 1) S) (e0 : 0 ≤ e) (b35 : 0 ≤ (w.1 129 35).toInt) (hE : ∀ w', TbI e w' → TbS (w.1 129 35).toInt w w' → (w.1 129 35).toInt ≤ (w'.1 129 35).toInt → (w'.1 129 11).toInt = (w.1 129 11).toInt + 1 → (MD w → MD w') → E w') (hQ : ∀ w', TbI e w' → TbS (w.1 129 35).toInt w w' → Q (-1) w') (n : Nat) : ∀ w1 : MW, TbI e w1 → TbS (w.1 129 35).toInt w w1 → (w.1 129 35).toInt ≤ (w1.1 129 35).toInt → (w1.1 129 11).toInt = (w.1 129 11).toInt + 1 → (MD w → MD w1) → (300 - (w1.1 129 13).toInt).toNat < n → q_Tx_block_52 B S ln (w.1 129 35) E Q n w1 := by
  induction n with
  | zero => intros; omega
  | succ n ih =>
    intro w1 h1 s1 p1 o1 d1 hm
    rw [q_Tx_block_52.eq_2]
    refine ⟨fun _ => hE w1 h1 s1 p1 o1 d1, fun _ => hS e w1 _ h1 o1 (fun r w2 t => ⟨fun c => ?_, fun _ => hQ w2 t.1 (s1.tr t.2.1 p1)⟩)⟩
    have q := t.2.2 c
    refine t_push q.2.2.2.1 e0 c q.1 (by omega) (fun w3 h3 s3 => ?_)
    have e35 := s3.2.1
    have m35 : (w2.1 129 35).toInt = (w1.1 129 35).toInt := congrArg Int32.toInt q.2.2.2.2.1.2.1
    have m11 : (w2.1 129 11).toInt = (w1.1 129 11).toInt := congrArg Int32.toInt q.2.2.2.2.1.2.2.1
    have b := bd_129_13 h3.1
    have n3 : (w3.1 129 13).toInt = (w2.1 129 13).toInt := congrArg Int32.toInt s3.2.2.2.2.1
    have o3 : (w3.1 129 11).toInt = (w2.1 129 11).toInt := congrArg Int32.toInt s3.2.2.2.1
    exact ih w3 h3 ((s1.tr t.2.1 p1).tr s3.1 (by omega)) (by omega) (by omega) (fun m => by unfold MD; rw [(s3.2.2.2.2.2.2 129 38 rfl).1, s3.2.2.2.2.1]; exact q.2.2.2.2.1.2.2.2 (d1 m)) (by have := q.2.2.2.2.2; omega)
theorem x_block {B S : MW → (Int32 → MW → Prop) → Prop} {e : Int} {w : MW} {Q : Int32 → MW → Prop} (h : TbI e w) (hS : (w.1 129 11).toInt < 20 → RcE 10 22 ((w.1 129 11).toInt + 1) S) (hQ : ∀ r w', TxO e 23 23 w r w' → Q r w') : pb_Tx_block B S w Q := by
  have b11 := bd_129_11 h.1
  have b35 := bd_129_35 h.1
  have bad : p_Tx_bad w (fun r2 w2 => (Q r2 w2)) := t_bad h (fun r w' r0 h' m' => hQ r w' (TxO.bad h' m'.1 r0))
  refine Eq.mpr (pb_Tx_block.eq_1 _ _ _ _) ⟨fun _ => bad, fun _ => ⟨fun c => ?_, fun _ => bad⟩⟩
  have so := ti_add2 (Eq.refl (w.1 129 11).toInt) i_1 (by omega) (by omega)
  have h1 : TbI e (sI w 129 11 ((w.1 129 11) + (1 : Int32))) := t_open h (by omega) (by omega)
  have s1 : TbS (w.1 129 35).toInt w (sI w 129 11 ((w.1 129 11) + (1 : Int32))) := s_open
  refine t_go' h1 (fun r4 w4 h4 m4 => ?_)
  have e35 : w4.1 129 35 = w.1 129 35 := m4.2.1
  have e11 : w4.1 129 11 = w.1 129 11 + 1 := m4.2.2.1
  have M4 : MD w → MD w4 := m4.2.2.2
  have s4 : TbS (w.1 129 35).toInt w w4 := s1.tr m4.1 (Int.le_refl _)
  refine ⟨fun _ => x_52 (hS (by omega)) h.2.2.1 b35.1 (fun w10 h10 s10 p10 o10 d10 => ?_) (fun w' h' s' => hQ _ w' (TxO.bad h' s' (by decide))) FU w4 h4 s4 (by rw [e35]; exact Int.le_refl _) (by rw [e11]; exact so) M4 (fu_lt (by have := bd_129_13 h4.1; omega)), fun _ => hQ _ w4 (TxO.bad h4 s4 (by decide))⟩
  have sb := ti_sub2 o10 i_1 (by omega) (by omega)
  have h11 : TbI e (sI w10 129 11 ((w10.1 129 11) - (1 : Int32))) := t_open h10 (by omega) (by omega)
  refine t_go' h11 (fun r11 w11 h11' m11 => ?_)
  have s11 : TbS (w.1 129 35).toInt w w11 := (s10.tr s_open (Int.le_refl _)).tr (m11.1.wk p10) (Int.le_refl _)
  have q35 : (w11.1 129 35).toInt = (w10.1 129 35).toInt := congrArg Int32.toInt m11.2.1
  have q11 : w11.1 129 11 = w.1 129 11 := by
    rw [m11.2.2.1]
    show (w10.1 129 11) - (1 : Int32) = w.1 129 11
    exact Int32.toInt_inj.mp (by rw [sb]; omega)
  exact ⟨fun _ => hQ _ w11 (TxO.bad h11' s11 (by decide)), fun _ => t_node h11' (by decide) (by decide) (by decide) (by decide) b35.1 (by omega) (tc_14 (by decide)) (fun r w' hI' hS' hr => hQ r w' (TxO.node s11 q11 (fun m => by have z : MD w11 := m11.2.2.2 (d10 m); exact ⟨z.1, by have := z.2; omega⟩) rfl (by decide) (by decide) hI' hS' hr))⟩
theorem bs_all (d : Nat) : (∀ o : Int, (2 * (20 - o)).toNat < d → RcE 23 23 o (pn_Tx_block d)) ∧ (∀ o : Int, (2 * (20 - o) + 1).toNat < d → RcE 10 22 o (pn_Tx_statement d)) := by
  induction d with
  | zero => exact ⟨fun _ h => by omega, fun _ h => by omega⟩
  | succ d ih =>
    refine ⟨fun o hm e w Q h ho hQ => ?_, fun o hm e w Q h ho hQ => ?_⟩
    · rw [pe_Tx_block]
      have b11 := bd_129_11 h.1
      exact x_block h (fun c => ih.2 _ (by omega)) hQ
    · rw [pe_Tx_statement]
      have b11 := bd_129_11 h.1
      exact x_statement h (ih.1 _ (by omega)) hQ
theorem t_block {e : Int} {w : MW} {Q : Int32 → MW → Prop} (h : TbI e w) (hQ : ∀ r w', TxO e 23 23 w r w' → Q r w') : p_Tx_block w Q :=
  (bs_all 400).1 (w.1 129 11).toInt (by have := bd_129_11 h.1; omega) e w Q h rfl hQ
theorem t_statement {e : Int} {w : MW} {Q : Int32 → MW → Prop} (h : TbI e w) (hQ : ∀ r w', TxO e 10 22 w r w' → Q r w') : p_Tx_statement w Q :=
  (bs_all 400).2 (w.1 129 11).toInt (by have := bd_129_11 h.1; omega) e w Q h rfl hQ
