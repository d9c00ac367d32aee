/-! the reference's text: names and expressions -/
theorem cc_ix {w : MW} {n : Int32} (hI : BND w) (n0 : 0 ≤ n.toInt) (n1 : n.toInt < 80) : (((40 : Int32) * ((1 : Int32) - (w.1 129 12))) + n).toInt = 40 * bhf w + n.toInt := by
  have b := bd_129_12 hI
  have s := ti_sub2 (by decide : ((1 : Int32)).toInt = 1) (Eq.refl (w.1 129 12).toInt) (by omega) (by omega)
  have m := ti_mul2 (by decide : ((40 : Int32)).toInt = 40) s (by omega) (by omega)
  exact ti_add2 m (Eq.refl n.toInt) (by unfold bhf at *; omega) (by unfold bhf at *; omega)
theorem x_nameOf {w : MW} {Q : Int32 → MW → Prop} (hI : BND w) (hB : Q (-1) w) (hQ : ∀ r : Int32, 0 ≤ r.toInt → r.toInt < (w.1 129 24).toInt → Q r w) (n : Nat) : ∀ x : Int32, 0 ≤ x.toInt → x.toInt ≤ 40 → (40 - x.toInt).toNat < n → q_Tx_nameOf_2 (fun (w14 : MW) => (Q (-1) w14)) Q n x w := by
  induction n with
  | zero => intros; omega
  | succ n ih =>
    intro x x0 x1 hm
    have b24 := bd_129_24 hI
    have bh := bhf_b hI
    have b5 := bd_129_5 hI
    have b6 := bd_129_6 hI
    have ei := cc_ix hI x0 (by omega)
    have ed := ti_sub2 (Eq.refl (w.1 129 6).toInt) (Eq.refl (w.1 129 5).toInt) (by omega) (by omega)
    have hx := ti_add2 (Eq.refl x.toInt) i_1 (by omega) (by omega)
    rw [q_Tx_nameOf_2.eq_2]
    refine ⟨fun _ => hB, fun c => ⟨⟨by omega, by omega⟩, ⟨fun d => ?_, fun d => ?_⟩⟩⟩
    · exact hq_Tx_nameOf_49 FU _ _ w hI x0 (by omega) (by omega) (by omega) (by decide) (by decide) (by decide) (by decide) (Or.inl i_0) (fu_lt (by decide)) (fun e w' _ hF _ _ => by
        obtain rfl := fr_nil hF rfl
        exact ⟨fun _ => ih _ (by omega) (by omega) (by omega), fun _ => hQ x x0 (by omega)⟩) (fun _ _ _ _ q => q.elim)
    · exact hq_Tx_nameOf_49 FU _ _ w hI x0 (by omega) (by omega) (by omega) (by decide) (by decide) (by decide) (by decide) (Or.inr (by omega)) (fu_lt (by decide)) (fun e w' _ hF _ _ => by
        obtain rfl := fr_nil hF rfl
        exact ⟨fun _ => ih _ (by omega) (by omega) (by omega), fun _ => hQ x x0 (by omega)⟩) (fun _ _ _ _ q => q.elim)
theorem t_nameOf {w : MW} {Q : Int32 → MW → Prop} (hI : BND w) (hB : Q (-1) w) (hQ : ∀ r : Int32, 0 ≤ r.toInt → r.toInt < (w.1 129 24).toInt → Q r w) : p_Tx_nameOf w Q :=
  Eq.mpr (p_Tx_nameOf.eq_1 _ _) (x_nameOf hI hB hQ FU 0 (by decide) (by decide) (fu_lt (by decide)))
theorem t_isWord {w : MW} {a : Int32} {Q : Int32 → MW → Prop} (h0 : Q 0 w) (h1 : Q 1 w) : p_Tx_isWord w a Q := Eq.mpr (p_Tx_isWord.eq_1 _ _ _) ⟨fun _ => h0, fun _ => h1⟩
theorem t_unitWord {w : MW} {Q : Int32 → MW → Prop} (hQ : ∀ r : Int32, 0 ≤ r.toInt → r.toInt ≤ 5 → Q r w) : p_Tx_unitWord w Q := Eq.mpr (p_Tx_unitWord.eq_1 _ _) ⟨fun _ => hQ 0 (by decide) (by decide), fun _ => ⟨fun _ => hQ 0 (by decide) (by decide), fun _ => hQ _ (by omega) (by omega)⟩⟩
theorem tq_known {e : Int} {w : MW} {a : Int32} {Q : Int32 → MW → Prop} (h : TbI e w) (hQ : ∀ (r : Int32) (w' : MW), TbI e w' → FR l_Tx_go w w' → (r.toInt < 0 ∨ (0 ≤ r.toInt ∧ r.toInt < (w'.1 129 24).toInt ∧ (a.toInt = 24 → 0 ≤ stB w' r.toInt))) → Q r w') : p_Tx_known w a Q := by
  have b24 := bd_129_24 h.1
  have bh := bhf_b h.1
  have bad : p_Tx_bad w (fun r4 w4 => (Q r4 w4)) := Eq.mpr (p_Tx_bad.eq_1 _ _) (hQ _ _ (t_wrong h) (FR.I (FR.refl _ w) rfl) (Or.inl (by decide)))
  have K : ∀ y : Int32, (y.toInt < 0 ∨ (0 ≤ y.toInt ∧ y.toInt < (w.1 129 24).toInt)) → q_Tx_known_16 a y w Q := fun y hy => by
    have G : (a.toInt = 24 → 0 ≤ stB w y.toInt) → ¬ (y.toInt < 0) → p_Tx_go w (fun r9 w9 => ((r9.toInt = 0 → (Q (-1) w9)) ∧ (¬ (r9.toInt = 0) → (Q y w9)))) := fun hs c => t_go h (fun r9 w9 h9 hF _ _ _ => ⟨fun _ => hQ _ w9 h9 hF (Or.inl (by decide)), fun _ => hQ y w9 h9 hF (Or.inr ⟨by omega, by rw [(hF 129 24 rfl).1]; omega, fun q => by rw [stB_fr hF rfl]; exact hs q⟩)⟩)
    refine Eq.mpr (q_Tx_known_16.eq_1 _ _ _ _) ⟨fun _ => bad, fun c => ?_⟩
    have ei := cc_ix (n := y) h.1 (by omega) (by omega)
    refine ⟨⟨by omega, by omega⟩, fun _ => bad, fun _ => ⟨fun d => G (fun q => absurd q d) c, fun _ => ⟨⟨by omega, by omega⟩, fun d => G (fun _ => ?_) c, fun _ => bad⟩⟩⟩
    rw [ei] at d
    exact d
  exact Eq.mpr (p_Tx_known.eq_1 _ _ _) (t_isWord ⟨fun _ => K _ (Or.inl (by decide)), fun h => absurd i_0 h⟩ ⟨fun _ => K _ (Or.inl (by decide)), fun _ => t_nameOf h.1 (K _ (Or.inl (by decide))) (fun r r0 r1 => K r (Or.inr ⟨r0, r1⟩))⟩)
theorem TxO.node {e lo hi : Int} {w w1 w' : MW} {r a f : Int32} (hs : TbS (w.1 129 35).toInt w w1) (ho : w1.1 129 11 = w.1 129 11) (hm : MD w → 0 ≤ (w1.1 129 38).toInt ∧ (w1.1 129 38).toInt ≤ (w1.1 129 13).toInt + 1) (hf : f = w.1 129 35) (h1 : lo ≤ a.toInt) (h2 : a.toInt ≤ hi) (hI : TbI e w') (hS : ∀ m, TbS m w1 w') (hr : 0 ≤ r.toInt → r.toInt < (w'.1 129 13).toInt ∧ Kb w' r.toInt = a.toInt ∧ TbI (e + 1) w' ∧ w'.1 129 35 = f ∧ w'.1 129 11 = w1.1 129 11 ∧ (w'.1 129 13).toInt = (w1.1 129 13).toInt + 1 ∧ w'.1 129 38 = w1.1 129 38) : TxO e lo hi w r w' :=
  ⟨hI, hs.tr (hS _) (Int.le_refl _), fun c => ⟨(hr c).1, by rw [(hr c).2.1]; exact h1, by rw [(hr c).2.1]; exact h2, (hr c).2.2.1, ⟨hs.tr (hS _) (Int.le_refl _), (hr c).2.2.2.1.trans hf, (hr c).2.2.2.2.1.trans ho, fun q => by unfold MD; rw [(hr c).2.2.2.2.2.2, (hr c).2.2.2.2.2.1]; exact hm q⟩, by have := hs.2.2.1; have := (hr c).2.2.2.2.2.1; omega⟩⟩
theorem md_1 {w w1 : MW} (h : TbM w w1) (q : MD w) : 0 ≤ (w1.1 129 38).toInt ∧ (w1.1 129 38).toInt ≤ (w1.1 129 13).toInt + 1 := ⟨(h.2.2.2 q).1, by have := (h.2.2.2 q).2; omega⟩
theorem tc_0 {K m c : Int} {kk : Int → Int} {sn : Prop} (h : K = 0) : TbC K m c kk sn := by
  refine ⟨fun q => by omega, fun q => by omega, fun _ q => by omega, fun _ q => by omega, fun q => by omega, fun q => by omega, fun q => by omega, fun q => by omega, fun q => by omega, fun q => by omega⟩
theorem tc_1 {K m c : Int} {kk : Int → Int} {sn : Prop} (h : K = 1) (m0 : 0 ≤ m) (m1 : m < 40) : TbC K m c kk sn := by
  refine ⟨fun q => by omega, fun q => by omega, fun _ _ q => by omega, fun _ _ q => by omega, fun q => by omega, fun q => by omega, fun q => by omega, fun q => by omega, fun q => by omega, fun q => by omega⟩
theorem tc_6 {K m c : Int} {kk : Int → Int} {sn : Prop} (h : K = 6) (c1 : 1 ≤ c) (k0 : kk 0 ≤ 9) : TbC K m c kk sn := by
  refine ⟨fun q => by omega, fun q => by omega, fun _ _ _ => ⟨c1, k0⟩, fun _ _ _ q => by omega, fun q => by omega, fun q => by omega, fun q => by omega, fun q => by omega, fun q => by omega, fun q => by omega⟩
theorem i2l2i (r : Int32) : (Int64.toInt32 (Int32.toInt64 r)).toInt = r.toInt := by
  have l := ti_lo r
  have u := ti_hi r
  rw [nb_l2i (by rw [nb_i2l]; exact l) (by rw [nb_i2l]; exact u), nb_i2l]
theorem t_numberNode {e : Int} {w : MW} {a : Int32} {Q : Int32 → MW → Prop} (h : TbI e w) (hQ : ∀ (r : Int32) (w' : MW), TxO e 0 9 w r w' → Q r w') : p_Tx_numberNode w a Q := by
  have N : ∀ (w1 : MW) (v : Int64) (u : Int32), TbI e w1 → TbM w w1 → 0 ≤ u.toInt → u.toInt ≤ 5 → p_Tx_node0 w1 0 v a u (w1.1 129 35) (fun r8 w8 => (Q r8 w8)) := fun w1 v u h1 m1 u0 u1 => by
    have b35 := bd_129_35 h1.1
    exact t_node h1 (by decide) (by decide) (by omega) u1 b35.1 (Int.le_refl _) (tc_0 i_0) (fun r w' hI' hS hr => hQ r w' (TxO.node m1.1 m1.2.2.1 (md_1 m1) m1.2.1 (by decide) (by decide) hI' hS hr))
  have K : ∀ (w1 : MW) (v : Int64) (u : Int32), TbI e w1 → TbM w w1 → 0 ≤ u.toInt → u.toInt ≤ 5 → q_Tx_numberNode_87 a v u w1 Q := fun w1 v u h1 m1 u0 u1 => Eq.mpr (q_Tx_numberNode_87.eq_1 _ _ _ _ _) ⟨fun _ => N w1 v u h1 m1 u0 u1, fun _ => t_go' h1 (fun r9 w9 h9 m9 => ⟨fun _ => N w9 v u h9 (m1.tr m9) u0 u1, fun _ => hQ _ w9 (TxO.bad h9 (m1.tr m9).1 (by decide))⟩)⟩
  have B : ∀ w1 : MW, TbI e w1 → TbM w w1 → p_Tx_bad w1 (fun r15 w15 => (Q r15 w15)) := fun w1 h1 m1 => t_bad h1 (fun r w' r0 h' m' => hQ r w' (TxO.bad h' (m1.tr m').1 r0))
  have L : ∀ (w1 : MW) (v : Int64) (u y : Int32), TbI e w1 → TbM w w1 → 0 ≤ u.toInt → u.toInt ≤ 5 → q_Tx_numberNode_43 a v u y w1 Q := fun w1 v u y h1 m1 u0 u1 => Eq.mpr (q_Tx_numberNode_43.eq_1 _ _ _ _ _ _) ⟨fun _ => K w1 v u h1 m1 u0 u1, fun _ => t_isWord ⟨fun _ => ⟨fun _ => K w1 _ 3 h1 m1 (by decide) (by decide), fun _ => B w1 h1 m1⟩, fun _ => ⟨fun _ => K w1 _ 3 h1 m1 (by decide) (by decide), fun _ => B w1 h1 m1⟩⟩ ⟨fun _ => ⟨fun _ => K w1 _ 3 h1 m1 (by decide) (by decide), fun _ => B w1 h1 m1⟩, fun _ => ⟨fun _ => K w1 _ 3 h1 m1 (by decide) (by decide), fun _ => B w1 h1 m1⟩⟩⟩
  exact Eq.mpr (p_Tx_numberNode.eq_1 _ _ _) (t_go' h (fun r1 w1 h1 m1 => ⟨fun _ => t_unitWord (fun u u0 u1 => t_isWord ⟨fun _ => L w1 _ u 1 h1 m1 u0 u1, fun _ => t_isWord ⟨fun _ => L w1 _ u 0 h1 m1 u0 u1, fun _ => L w1 _ u 1 h1 m1 u0 u1⟩ ⟨fun _ => L w1 _ u 0 h1 m1 u0 u1, fun _ => L w1 _ u 1 h1 m1 u0 u1⟩⟩ ⟨fun _ => L w1 _ u 1 h1 m1 u0 u1, fun _ => t_isWord ⟨fun _ => L w1 _ u 0 h1 m1 u0 u1, fun _ => L w1 _ u 1 h1 m1 u0 u1⟩ ⟨fun _ => L w1 _ u 0 h1 m1 u0 u1, fun _ => L w1 _ u 1 h1 m1 u0 u1⟩⟩), fun _ => hQ _ w1 (TxO.bad h1 m1.1 (by decide))⟩))
/-- what a part of the text that calls itself must do, at depth o -/
def RcE (lo hi o : Int) (F : MW → (Int32 → MW → Prop) → Prop) : Prop := ∀ (e : Int) (w : MW) (Q : Int32 → MW → Prop), TbI e w → (w.1 129 11).toInt = o → (∀ r w', TxO e lo hi w r w' → Q r w') → F w Q
theorem i_back {x y : Int32} (h : x = y + (1 : Int32)) (h0 : 0 ≤ y.toInt) (h1 : y.toInt ≤ 20) : x - (1 : Int32) = y := by
  have s := ti_add2 (Eq.refl y.toInt) i_1 (by omega) (by omega)
  have hx : x.toInt = y.toInt + 1 := by rw [h]; exact s
  have t := ti_sub2 hx i_1 (by omega) (by omega)
  exact Int32.toInt_inj.mp (by rw [t]; omega)
theorem x_f122 {F P S : MW → (Int32 → MW → Prop) → Prop} {e : Int} {w w9 : MW} {ln mi a : Int32} {Q : Int32 → MW → Prop} (hw : TbI e w) (h : TbI (e + 1) w9) (hs : TbS (w.1 129 35).toInt w w9) (e35 : w9.1 129 35 = w.1 129 35) (e11 : w9.1 129 11 = w.1 129 11 + 1) (ho : (w.1 129 11).toInt < 20) (a0 : 0 ≤ a.toInt) (a1 : a.toInt < (w9.1 129 13).toInt) (ka : Kb w9 a.toInt ≤ 9) (hn : (w.1 129 13).toInt < (w9.1 129 13).toInt) (hm : MD w → MD w9) (hQ : ∀ r w', TxO e 0 9 w r w' → Q r w') : q_Tx_factor_122 F P S ln mi a w9 Q := by
  have b11 := bd_129_11 hw.1
  have b35 := bd_129_35 hw.1
  have b13 := bd_129_13 h.1
  have eb := i_back e11 b11.1 b11.2
  have h10 : TbI (e + 1) (sI w9 129 11 ((w9.1 129 11) - (1 : Int32))) := t_open h (by rw [eb]; omega) (by rw [eb]; omega)
  have s10 : TbS (w.1 129 35).toInt w (sI w9 129 11 ((w9.1 129 11) - (1 : Int32))) := hs.tr s_open (Int.le_refl _)
  have q11 : (sI w9 129 11 ((w9.1 129 11) - (1 : Int32))).1 129 11 = w.1 129 11 := eb
  have q35 : (sI w9 129 11 ((w9.1 129 11) - (1 : Int32))).1 129 35 = w.1 129 35 := e35
  have q13 : (sI w9 129 11 ((w9.1 129 11) - (1 : Int32))).1 129 13 = w9.1 129 13 := rfl
  have qM : MD w → MD (sI w9 129 11 ((w9.1 129 11) - (1 : Int32))) := hm
  have qK : Kb (sI w9 129 11 ((w9.1 129 11) - (1 : Int32))) a.toInt = Kb w9 a.toInt := rfl
  refine Eq.mpr (q_Tx_factor_122.eq_1 _ _ _ _ _ _ _ _) ?_
  rw [e35]
  generalize (sI w9 129 11 ((w9.1 129 11) - (1 : Int32))) = w10 at *
  refine ⟨fun _ => t_push h10 hw.2.2.1 a0 (by rw [q13]; exact a1) (by rw [qK]; omega) (fun w12 h12 s12 => ?_), fun _ => hQ a w10 ⟨h10.wk hw.2.2.1 (by omega), s10, fun _ => ⟨by rw [q13]; exact a1, (bd_131 h10.1 _).1, by rw [qK]; exact ka, h10, ⟨s10, q35, q11, qM⟩, by rw [q13]; exact hn⟩⟩⟩
  have e12 := s12.2.1
  rw [q35] at e12
  have p1 : pil w12 (w.1 129 35).toInt = a.toInt := by rw [← q35]; exact s12.2.2.1
  refine t_unit h12.1 a0 (by omega) (fun u u0 u1 => t_node h12 (by decide) (by decide) u0 u1 b35.1 (by omega) (tc_6 (by decide) (by omega) ?_) (fun r w' hI' hS hr => hQ r w' (TxO.node (s10.tr (s12.1.wk (by rw [q35]; exact Int.le_refl _)) (Int.le_refl _)) (s12.2.2.2.1.trans q11) (fun q => by rw [(s12.2.2.2.2.2.2 129 38 rfl).1, s12.2.2.2.2.1]; exact ⟨(qM q).1, by have := (qM q).2; omega⟩) rfl (by decide) (by decide) hI' hS hr)))
  show Kb w12 (pil w12 ((w.1 129 35).toInt + 0)) ≤ 9
  rw [Int.add_zero, p1, s12.2.2.2.2.2.1, qK]
  exact ka
theorem x_factor {F P S : MW → (Int32 → MW → Prop) → Prop} {e : Int} {w : MW} {Q : Int32 → MW → Prop} (h : TbI e w) (hF : (w.1 129 11).toInt < 20 → RcE 0 9 ((w.1 129 11).toInt + 1) F) (hS : (w.1 129 11).toInt < 20 → RcE 0 9 ((w.1 129 11).toInt + 1) S) (hQ : ∀ r w', TxO e 0 9 w r w' → Q r w') : pb_Tx_factor F P S w Q := by
  have b11 := bd_129_11 h.1
  have b24 := bd_129_24 h.1
  have bh := bhf_b h.1
  have bad : p_Tx_bad w (fun r18 w18 => (Q r18 w18)) := t_bad h (fun r w' r0 h' m' => hQ r w' (TxO.bad h' m'.1 r0))
  have K53 : ∀ ln mi : Int32, q_Tx_factor_53 F P S ln mi w Q := fun ln mi => by
    refine Eq.mpr (q_Tx_factor_53.eq_1 _ _ _ _ _ _ _) ⟨fun c => ?_, fun _ => bad⟩
    have so := ti_add2 (Eq.refl (w.1 129 11).toInt) i_1 (by omega) (by omega)
    have h1 : TbI e (sI w 129 11 ((w.1 129 11) + (1 : Int32))) := t_open h (by omega) (by omega)
    have s1 : TbS (w.1 129 35).toInt w (sI w 129 11 ((w.1 129 11) + (1 : Int32))) := s_open
    refine t_go' h1 (fun r5 w5 h5 m5 => ?_)
    have e35 : w5.1 129 35 = w.1 129 35 := m5.2.1
    have e11 : w5.1 129 11 = w.1 129 11 + 1 := m5.2.2.1
    have M5 : MD w → MD w5 := m5.2.2.2
    have s5 : TbS (w.1 129 35).toInt w w5 := s1.tr m5.1 (Int.le_refl _)
    have o5 : (w5.1 129 11).toInt = (w.1 129 11).toInt + 1 := by rw [e11]; exact so
    have T : ∀ (r8 : Int32) (w8 : MW), TxO e 0 9 w5 r8 w8 → q_Tx_factor_102 F P S ln mi r8 w8 Q := fun r8 w8 t8 => by
      have s8 : TbS (w.1 129 35).toInt w w8 := s5.tr t8.2.1 (by rw [e35]; exact Int.le_refl _)
      refine Eq.mpr (q_Tx_factor_102.eq_1 _ _ _ _ _ _ _ _) ⟨fun _ => hQ _ w8 (TxO.bad t8.1 s8 (by decide)), fun d => ?_⟩
      have q := t8.2.2 (by omega)
      have n8 : (w.1 129 13).toInt < (w8.1 129 13).toInt := Int.lt_of_le_of_lt s5.2.2.1 q.2.2.2.2.2
      refine ⟨fun _ => x_f122 h q.2.2.2.1 s8 (q.2.2.2.2.1.2.1.trans e35) (q.2.2.2.2.1.2.2.1.trans e11) (by omega) (by omega) q.1 q.2.2.1 n8 (fun m => q.2.2.2.2.1.2.2.2 (M5 m)) hQ, fun _ => t_over q.2.2.2.1 (fun r15 w15 h15 f15 => ?_)⟩
      have m15 := TbM.fr f15 rfl rfl
      have s15 : TbS (w.1 129 35).toInt w w15 := s8.tr (m15.1.wk (by rw [q.2.2.2.2.1.2.1, e35]; exact Int.le_refl _)) (Int.le_refl _)
      exact ⟨fun _ => x_f122 h h15 s15 (m15.2.1.trans (q.2.2.2.2.1.2.1.trans e35)) (m15.2.2.1.trans (q.2.2.2.2.1.2.2.1.trans e11)) (by omega) (by omega) (by rw [(f15 129 13 rfl).1]; exact q.1) (by rw [kb_fr f15 rfl]; exact q.2.2.1) (by rw [(f15 129 13 rfl).1]; exact n8) (fun m => m15.2.2.2 (q.2.2.2.2.1.2.2.2 (M5 m))) hQ, fun _ => hQ _ w15 (TxO.bad (h15.wk h.2.2.1 (by omega)) s15 (by decide))⟩
    exact ⟨fun _ => ⟨fun _ => hS (by omega) e w5 _ h5 o5 T, fun _ => hF (by omega) e w5 _ h5 o5 T⟩, fun _ => hQ _ w5 (TxO.bad h5 s5 (by decide))⟩
  have K181 : ∀ ln y : Int32, (y.toInt < 0 ∨ (0 ≤ y.toInt ∧ y.toInt < (w.1 129 24).toInt)) → q_Tx_factor_181 F P S ln y w Q := fun ln y hy => by
    refine Eq.mpr (q_Tx_factor_181.eq_1 _ _ _ _ _ _ _) ⟨fun _ => bad, fun c => ?_⟩
    have ei := cc_ix (n := y) h.1 (by omega) (by omega)
    have b142 := bd_142 h.1 ((((40 : Int32) * ((1 : Int32) - (w.1 129 12))) + y).toInt.toNat)
    refine ⟨⟨by omega, by omega⟩, fun _ => ⟨⟨by omega, by omega⟩, t_go' h (fun r27 w27 h27 m27 => ⟨fun _ => hQ _ w27 (TxO.bad h27 m27.1 (by decide)), fun _ => ?_⟩)⟩, fun _ => bad⟩
    have b35 := bd_129_35 h27.1
    exact t_node h27 (by decide) (by decide) (by omega) (by omega) b35.1 (Int.le_refl _) (tc_1 (by decide) (by rw [i2l2i]; omega) (by rw [i2l2i]; omega)) (fun r w' hI' hS hr => hQ r w' (TxO.node m27.1 m27.2.2.1 (md_1 m27) m27.2.1 (by decide) (by decide) hI' hS hr))
  refine Eq.mpr (pb_Tx_factor.eq_1 _ _ _ _ _) ⟨fun _ => ⟨fun _ => ⟨fun _ => K53 _ _, fun _ => K53 _ _⟩, fun _ => ⟨fun _ => t_isWord ⟨fun _ => K181 _ _ (Or.inl (by decide)), fun c => absurd i_0 c⟩ ⟨fun c => absurd c (by decide), fun _ => t_nameOf h.1 (K181 _ _ (Or.inl (by decide))) (fun r r0 r1 => K181 _ r (Or.inr ⟨r0, r1⟩))⟩, fun _ => K53 _ _⟩⟩, fun _ => t_numberNode h hQ⟩
/-- the loops of product and sum: the state -/
theorem x_prod5 {F P S : MW → (Int32 → MW → Prop) → Prop} {e : Int} {w0 : MW} {Q : Int32 → MW → Prop} (e0 : 0 ≤ e) (hF : RcE 0 9 (w0.1 129 11).toInt F) (hQ : ∀ r w', TxO e 0 9 w0 r w' → Q r w') (n : Nat) : ∀ (x : Int32) (w : MW), TxO e 0 9 w0 x w → (300 - (w.1 129 13).toInt).toNat < n → q_Tx_product_5 F P S (fun (e5_1_22 : Int32) (w22 : MW) => (Q e5_1_22 w22)) Q n x w := by
  induction n with
  | zero => intros; omega
  | succ n ih =>
    intro x w t hm
    rw [q_Tx_product_5.eq_2]
    have main : ¬ (x.toInt < 0) → q_Tx_product_27 F P S x w (fun (x5_1 : Int32) (w : MW) => q_Tx_product_5 F P S  (fun (e5_1_22 : Int32) (w22 : MW) => (Q e5_1_22 w22)) Q n x5_1 w) (fun (e5_1_22 : Int32) (w22 : MW) => (Q e5_1_22 w22)) Q := fun c => by
      have q := t.2.2 (by omega)
      have b13 := bd_129_13 t.1.1
      have K62 : ∀ (k sg y : Int32) (w2 : MW), 4 ≤ k.toInt → k.toInt ≤ 5 → TbI (e + 1) w2 → TbS (w0.1 129 35).toInt w0 w2 → (0 ≤ y.toInt → TbI (e + 1 + 1) w2 ∧ TbM w w2 ∧ y.toInt < (w2.1 129 13).toInt ∧ Kb w2 y.toInt ≤ 9 ∧ (w.1 129 13).toInt < (w2.1 129 13).toInt) → q_Tx_product_62 F P S x k sg y w2 (fun (x5_1 : Int32) (w : MW) => q_Tx_product_5 F P S  (fun (e5_1_22 : Int32) (w22 : MW) => (Q e5_1_22 w22)) Q n x5_1 w) (fun (e5_1_22 : Int32) (w22 : MW) => (Q e5_1_22 w22)) Q := fun k sg y w2 k0 k1 h2 s2 hy => by
        refine Eq.mpr (q_Tx_product_62.eq_1 _ _ _ _ _ _ _ _ _ _ _) ⟨fun d => ?_, fun _ => hQ _ w2 (TxO.bad (h2.wk e0 (by omega)) s2 (by decide))⟩
        have y2 := hy d
        have b2 := bd_129_13 h2.1
        have K137 : ∀ u : Int32, -1 ≤ u.toInt → u.toInt ≤ 5 → q_Tx_product_137 F P S x k sg y u w2 (fun (x5_1 : Int32) (w : MW) => q_Tx_product_5 F P S  (fun (e5_1_22 : Int32) (w22 : MW) => (Q e5_1_22 w22)) Q n x5_1 w) (fun (e5_1_22 : Int32) (w22 : MW) => (Q e5_1_22 w22)) Q := fun u u0 u1 => by
          refine Eq.mpr (q_Tx_product_137.eq_1 _ _ _ _ _ _ _ _ _ _ _ _) ⟨fun _ => t_two y2.1 e0 (by omega) (by omega) u0 u1 (by omega) (by omega) (by rw [y2.2.1.1.2.2.2.1 _ (by omega) q.1]; exact q.2.2.1) d y2.2.2.1 y2.2.2.2.1 (fun r w' tr => ih r w' (TxO.seq (q.2.2.2.2.1.tr y2.2.1) tr) ?_), fun _ => hQ _ _ (TxO.bad (t_wrong (h2.wk e0 (by omega))) (s2.tr (s_wrong.1.wk ?_) (Int.le_refl _)) (by decide))⟩
          · have b' := bd_129_13 tr.1.1
            have := tr.2.1.2.2.1
            omega
          · rw [y2.2.1.2.1, q.2.2.2.2.1.2.1]
            exact Int.le_refl _
        exact t_unit h2.1 (by omega) (by omega) (fun r8 a0 a1 => t_unit h2.1 d (by omega) (fun r9 c0 c1 => ⟨fun _ => ⟨fun _ => ⟨fun _ => K137 _ (by decide) (by decide), fun _ => K137 _ (by decide) (by decide)⟩, fun _ => K137 _ a0 a1⟩, fun _ => ⟨fun _ => ⟨fun _ => K137 _ (by decide) (by decide), fun _ => K137 _ a0 a1⟩, fun _ => K137 _ c0 c1⟩⟩))
      have G : ∀ k : Int32, 4 ≤ k.toInt → k.toInt ≤ 5 → (p_Tx_go w  (fun r5 w5 => ((r5.toInt = 0 → (q_Tx_product_62 F P S x k (w.1 129 5) (-1) w5 (fun (x5_1 : Int32) (w : MW) => q_Tx_product_5 F P S  (fun (e5_1_22 : Int32) (w22 : MW) => (Q e5_1_22 w22)) Q n x5_1 w) (fun (e5_1_22 : Int32) (w22 : MW) => (Q e5_1_22 w22)) Q)) ∧ (¬ (r5.toInt = 0) → (F w5  (fun r17 w17 => (q_Tx_product_62 F P S x k (w.1 129 5) r17 w17 (fun (x5_1 : Int32) (w : MW) => q_Tx_product_5 F P S  (fun (e5_1_22 : Int32) (w22 : MW) => (Q e5_1_22 w22)) Q n x5_1 w) (fun (e5_1_22 : Int32) (w22 : MW) => (Q e5_1_22 w22)) Q))))))) := fun k k0 k1 => t_go' q.2.2.2.1 (fun r5 w5 h5 m5 => ⟨fun _ => K62 k _ (-1) w5 k0 k1 h5 (q.2.2.2.2.1.tr m5).1 (fun d => absurd d (by decide)), fun _ => hF (e + 1) w5 _ h5 (congrArg Int32.toInt (q.2.2.2.2.1.tr m5).2.2.1) (fun r17 w17 t17 => K62 k _ r17 w17 k0 k1 t17.1 ((q.2.2.2.2.1.tr m5).1.tr t17.2.1 (by rw [(q.2.2.2.2.1.tr m5).2.1]; exact Int.le_refl _)) (fun d => ⟨(t17.2.2 d).2.2.2.1, m5.tr (t17.2.2 d).2.2.2.2.1, (t17.2.2 d).1, (t17.2.2 d).2.2.1, Int.lt_of_le_of_lt m5.1.2.2.1 (t17.2.2 d).2.2.2.2.2⟩))⟩)
      exact Eq.mpr (q_Tx_product_27.eq_1 _ _ _ _ _ _ _ _) ⟨fun _ => G 5 (by decide) (by decide), fun _ => G 4 (by decide) (by decide)⟩
    exact ⟨fun _ => hQ x w t, fun c => ⟨fun _ => main c, fun _ => ⟨fun _ => hQ x w t, fun _ => main c⟩⟩⟩
theorem x_sum5 {F P S : MW → (Int32 → MW → Prop) → Prop} {e : Int} {w0 : MW} {Q : Int32 → MW → Prop} (e0 : 0 ≤ e) (hP : RcE 0 9 (w0.1 129 11).toInt P) (hQ : ∀ r w', TxO e 0 9 w0 r w' → Q r w') (n : Nat) : ∀ (x : Int32) (w : MW), TxO e 0 9 w0 x w → (300 - (w.1 129 13).toInt).toNat < n → q_Tx_sum_5 F P S (fun (e5_1_18 : Int32) (w18 : MW) => (Q e5_1_18 w18)) Q n x w := by
  induction n with
  | zero => intros; omega
  | succ n ih =>
    intro x w t hm
    rw [q_Tx_sum_5.eq_2]
    have main : ¬ (x.toInt < 0) → q_Tx_sum_27 F P S x w (fun (x5_1 : Int32) (w : MW) => q_Tx_sum_5 F P S  (fun (e5_1_18 : Int32) (w18 : MW) => (Q e5_1_18 w18)) Q n x5_1 w) (fun (e5_1_18 : Int32) (w18 : MW) => (Q e5_1_18 w18)) Q := fun c => by
      have q := t.2.2 (by omega)
      have b13 := bd_129_13 t.1.1
      have K62 : ∀ (k sg y : Int32) (w2 : MW), 2 ≤ k.toInt → k.toInt ≤ 3 → TbI (e + 1) w2 → TbS (w0.1 129 35).toInt w0 w2 → (0 ≤ y.toInt → TbI (e + 1 + 1) w2 ∧ TbM w w2 ∧ y.toInt < (w2.1 129 13).toInt ∧ Kb w2 y.toInt ≤ 9 ∧ (w.1 129 13).toInt < (w2.1 129 13).toInt) → q_Tx_sum_62 F P S x k sg y w2 (fun (x5_1 : Int32) (w : MW) => q_Tx_sum_5 F P S  (fun (e5_1_18 : Int32) (w18 : MW) => (Q e5_1_18 w18)) Q n x5_1 w) (fun (e5_1_18 : Int32) (w18 : MW) => (Q e5_1_18 w18)) Q := fun k sg y w2 k0 k1 h2 s2 hy => by
        refine Eq.mpr (q_Tx_sum_62.eq_1 _ _ _ _ _ _ _ _ _ _ _) ⟨fun d => ?_, fun _ => hQ _ w2 (TxO.bad (h2.wk e0 (by omega)) s2 (by decide))⟩
        have y2 := hy d
        have b2 := bd_129_13 h2.1
        refine t_unit h2.1 (by omega) (by omega) (fun r8 a0 a1 => t_unit h2.1 d (by omega) (fun r9 c0 c1 => ⟨fun _ => t_unit h2.1 (by omega) (by omega) (fun u u0 u1 => t_two y2.1 e0 (by omega) (by omega) u0 u1 (by omega) (by omega) (by rw [y2.2.1.1.2.2.2.1 _ (by omega) q.1]; exact q.2.2.1) d y2.2.2.1 y2.2.2.2.1 (fun r w' tr => ih r w' (TxO.seq (q.2.2.2.2.1.tr y2.2.1) tr) ?_)), fun _ => hQ _ _ (TxO.bad (t_wrong (h2.wk e0 (by omega))) (s2.tr (s_wrong.1.wk ?_) (Int.le_refl _)) (by decide))⟩))
        · have b' := bd_129_13 tr.1.1
          have := tr.2.1.2.2.1
          omega
        · rw [y2.2.1.2.1, q.2.2.2.2.1.2.1]
          exact Int.le_refl _
      have G : ∀ k : Int32, 2 ≤ k.toInt → k.toInt ≤ 3 → (p_Tx_go w  (fun r5 w5 => ((r5.toInt = 0 → (q_Tx_sum_62 F P S x k (w.1 129 5) (-1) w5 (fun (x5_1 : Int32) (w : MW) => q_Tx_sum_5 F P S  (fun (e5_1_18 : Int32) (w18 : MW) => (Q e5_1_18 w18)) Q n x5_1 w) (fun (e5_1_18 : Int32) (w18 : MW) => (Q e5_1_18 w18)) Q)) ∧ (¬ (r5.toInt = 0) → (P w5  (fun r17 w17 => (q_Tx_sum_62 F P S x k (w.1 129 5) r17 w17 (fun (x5_1 : Int32) (w : MW) => q_Tx_sum_5 F P S  (fun (e5_1_18 : Int32) (w18 : MW) => (Q e5_1_18 w18)) Q n x5_1 w) (fun (e5_1_18 : Int32) (w18 : MW) => (Q e5_1_18 w18)) Q))))))) := fun k k0 k1 => t_go' q.2.2.2.1 (fun r5 w5 h5 m5 => ⟨fun _ => K62 k _ (-1) w5 k0 k1 h5 (q.2.2.2.2.1.tr m5).1 (fun d => absurd d (by decide)), fun _ => hP (e + 1) w5 _ h5 (congrArg Int32.toInt (q.2.2.2.2.1.tr m5).2.2.1) (fun r17 w17 t17 => K62 k _ r17 w17 k0 k1 t17.1 ((q.2.2.2.2.1.tr m5).1.tr t17.2.1 (by rw [(q.2.2.2.2.1.tr m5).2.1]; exact Int.le_refl _)) (fun d => ⟨(t17.2.2 d).2.2.2.1, m5.tr (t17.2.2 d).2.2.2.2.1, (t17.2.2 d).1, (t17.2.2 d).2.2.1, Int.lt_of_le_of_lt m5.1.2.2.1 (t17.2.2 d).2.2.2.2.2⟩))⟩)
      exact Eq.mpr (q_Tx_sum_27.eq_1 _ _ _ _ _ _ _ _) ⟨fun _ => G 3 (by decide) (by decide), fun _ => G 2 (by decide) (by decide)⟩
    exact ⟨fun _ => hQ x w t, fun c => ⟨fun _ => main c, fun _ => ⟨fun _ => hQ x w t, fun _ => main c⟩⟩⟩
/-- factor, product, sum -/
theorem fps_all (d : Nat) : (∀ o : Int, (3 * (20 - o)).toNat < d → RcE 0 9 o (pn_Tx_factor d)) ∧ (∀ o : Int, (3 * (20 - o) + 1).toNat < d → RcE 0 9 o (pn_Tx_product d)) ∧ (∀ o : Int, (3 * (20 - o) + 2).toNat < d → RcE 0 9 o (pn_Tx_sum d)) := by
  induction d with
  | zero => exact ⟨fun _ h => by omega, fun _ h => by omega, fun _ h => by omega⟩
  | succ d ih =>
    refine ⟨fun o hm e w Q h ho hQ => ?_, fun o hm e w Q h ho hQ => ?_, fun o hm e w Q h ho hQ => ?_⟩
    · rw [pe_Tx_factor]
      have b11 := bd_129_11 h.1
      exact x_factor h (fun c => ih.1 _ (by omega)) (fun c => ih.2.2 _ (by omega)) hQ
    · rw [pe_Tx_product]
      have b11 := bd_129_11 h.1
      have hF := ih.1 (w.1 129 11).toInt (by omega)
      exact Eq.mpr (pb_Tx_product.eq_1 _ _ _ _ _) (hF e w _ h rfl (fun r1 w1 t1 => x_prod5 h.2.2.1 hF hQ FU r1 w1 t1 (fu_lt (by have := bd_129_13 t1.1.1; omega))))
    · rw [pe_Tx_sum]
      have b11 := bd_129_11 h.1
      have hP := ih.2.1 (w.1 129 11).toInt (by omega)
      exact Eq.mpr (pb_Tx_sum.eq_1 _ _ _ _ _) (hP e w _ h rfl (fun r1 w1 t1 => x_sum5 h.2.2.1 hP hQ FU r1 w1 t1 (fu_lt (by have := bd_129_13 t1.1.1; omega))))
theorem t_sum {e : Int} {w : MW} {Q : Int32 → MW → Prop} (h : TbI e w) (hQ : ∀ r w', TxO e 0 9 w r w' → Q r w') : p_Tx_sum w Q :=
  (fps_all 400).2.2 (w.1 129 11).toInt (by have := bd_129_11 h.1; omega) e w Q h rfl hQ
/-- a good push of a node that was just made: pile, kinds, all as before below -/
def TpO (lo hi : Int) (e : Int) (w : MW) (r : Int32) (w' : MW) : Prop := TbI e w' ∧ TbS (w.1 129 35).toInt w w' ∧ (¬ r.toInt = 0 → (w'.1 129 35).toInt = (w.1 129 35).toInt + 1 ∧ w'.1 129 11 = w.1 129 11 ∧ lo ≤ Kb w' (pil w' (w.1 129 35).toInt) ∧ Kb w' (pil w' (w.1 129 35).toInt) ≤ hi ∧ (w.1 129 13).toInt < (w'.1 129 13).toInt ∧ (MD w → MD w'))
theorem t_pushed {e lo hi : Int} {w w1 : MW} {r : Int32} {Q : Int32 → MW → Prop} (t : TxO e lo hi w r w1) (e0 : 0 ≤ e) (h23 : hi ≤ 23) (hQ : ∀ r' w', TpO lo hi e w r' w' → Q r' w') : p_Tx_pushed w1 r Q := by
  refine Eq.mpr (p_Tx_pushed.eq_1 _ _ _) ⟨fun c => ?_, fun _ => hQ 0 w1 ⟨t.1, t.2.1, fun c => absurd i_0 c⟩⟩
  have q := t.2.2 c
  refine t_push q.2.2.2.1 e0 c q.1 (by omega) (fun w' h' s' => hQ 1 w' ⟨h', t.2.1.tr (s'.1.wk ?_) (Int.le_refl _), fun _ => ?_⟩)
  · rw [q.2.2.2.2.1.2.1]
    exact Int.le_refl _
  · have p := s'.2.2.1
    have e35 := s'.2.1
    rw [q.2.2.2.2.1.2.1] at p e35
    rw [p, s'.2.2.2.2.2.1, s'.2.2.2.2.1]
    exact ⟨e35, s'.2.2.2.1.trans q.2.2.2.2.1.2.2.1, q.2.1, q.2.2.1, q.2.2.2.2.2, fun m => by unfold MD; rw [(s'.2.2.2.2.2.2 129 38 rfl).1, s'.2.2.2.2.1]; exact q.2.2.2.2.1.2.2.2 m⟩
theorem t_sumOf {e : Int} {w : MW} {a : Int32} {Q : Int32 → MW → Prop} (h : TbI e w) (hQ : ∀ r w', TpO 0 9 e w r w' → Q r w') : p_Tx_sumOf w a Q := by
  refine Eq.mpr (p_Tx_sumOf.eq_1 _ _ _) (t_sum h (fun r1 w1 t => ⟨fun c => ?_, fun _ => hQ 0 w1 ⟨t.1, t.2.1, fun c => absurd i_0 c⟩⟩))
  have q := t.2.2 c
  have b13 := bd_129_13 t.1.1
  refine t_unit t.1.1 c (by omega) (fun u _ _ => ⟨fun _ => ?_, fun _ => hQ 0 _ ⟨t_wrong t.1, t.2.1.tr (s_wrong.1.wk ?_) (Int.le_refl _), fun c => absurd i_0 c⟩⟩)
  · have P := t_pushed (Q := Q) t h.2.2.1 (by omega) hQ
    rw [p_Tx_pushed.eq_1] at P
    exact P.1 c
  · rw [q.2.2.2.2.1.2.1]
    exact Int.le_refl _
theorem t_test {e : Int} {w : MW} {Q : Int32 → MW → Prop} (h : TbI e w) (hQ : ∀ r w', TxO e 0 9 w r w' → Q r w') : p_Tx_test w Q := by
  refine Eq.mpr (p_Tx_test.eq_1 _ _) (t_sum h (fun x w1 t => ⟨fun c => ?_, fun _ => hQ _ w1 (TxO.bad t.1 t.2.1 (by decide))⟩))
  have q := t.2.2 c
  have b13 := bd_129_13 t.1.1
  have e0 := h.2.2.1
  have K94 : ∀ (k sg y : Int32) (w2 : MW), 7 ≤ k.toInt → k.toInt ≤ 9 → TbI (e + 1) w2 → TbS (w.1 129 35).toInt w w2 → (0 ≤ y.toInt → TbI (e + 1 + 1) w2 ∧ TbM w1 w2 ∧ y.toInt < (w2.1 129 13).toInt ∧ Kb w2 y.toInt ≤ 9 ∧ (w1.1 129 13).toInt < (w2.1 129 13).toInt) → q_Tx_test_94 x k sg y w2 Q := fun k sg y w2 k0 k1 h2 s2 hy => by
    refine Eq.mpr (q_Tx_test_94.eq_1 _ _ _ _ _ _) ⟨fun d => ?_, fun _ => hQ _ w2 (TxO.bad (h2.wk e0 (by omega)) s2 (by decide))⟩
    have y2 := hy d
    have b2 := bd_129_13 h2.1
    refine t_unit h2.1 (by omega) (by omega) (fun r8 a0 a1 => t_unit h2.1 d (by omega) (fun r9 c0 c1 => ⟨fun _ => t_two y2.1 e0 (by omega) (by omega) (by decide) (by decide) (by omega) (by omega) (by rw [y2.2.1.1.2.2.2.1 _ (by omega) q.1]; exact q.2.2.1) d y2.2.2.1 y2.2.2.2.1 (fun r w' tr => hQ r w' (TxO.seq (q.2.2.2.2.1.tr y2.2.1) tr)), fun _ => hQ _ _ (TxO.bad (t_wrong (h2.wk e0 (by omega))) (s2.tr (s_wrong.1.wk ?_) (Int.le_refl _)) (by decide))⟩))
    rw [y2.2.1.2.1, q.2.2.2.2.1.2.1]
    exact Int.le_refl _
  have G : ∀ k : Int32, 7 ≤ k.toInt → k.toInt ≤ 9 → (p_Tx_go w1  (fun r6 w6 => ((r6.toInt = 0 → (q_Tx_test_94 x k (w1.1 129 5) (-1) w6 Q)) ∧ (¬ (r6.toInt = 0) → (p_Tx_sum w6  (fun r13 w13 => (q_Tx_test_94 x k (w1.1 129 5) r13 w13 Q))))))) := fun k k0 k1 => t_go' q.2.2.2.1 (fun r5 w5 h5 m5 => ⟨fun _ => K94 k _ (-1) w5 k0 k1 h5 (q.2.2.2.2.1.tr m5).1 (fun d => absurd d (by decide)), fun _ => t_sum h5 (fun r17 w17 t17 => K94 k _ r17 w17 k0 k1 t17.1 ((q.2.2.2.2.1.tr m5).1.tr t17.2.1 (by rw [(q.2.2.2.2.1.tr m5).2.1]; exact Int.le_refl _)) (fun d => ⟨(t17.2.2 d).2.2.2.1, m5.tr (t17.2.2 d).2.2.2.2.1, (t17.2.2 d).1, (t17.2.2 d).2.2.1, Int.lt_of_le_of_lt m5.1.2.2.1 (t17.2.2 d).2.2.2.2.2⟩))⟩)
  have K43 : q_Tx_test_43 x w1 Q := Eq.mpr (q_Tx_test_43.eq_1 _ _ _) ⟨fun _ => ⟨fun _ => G 9 (by decide) (by decide), fun _ => G 8 (by decide) (by decide)⟩, fun _ => G 7 (by decide) (by decide)⟩
  exact ⟨fun _ => K43, fun _ => ⟨fun _ => K43, fun _ => ⟨fun _ => K43, fun _ => t_bad t.1 (fun r w' r0 h' m' => hQ r w' (TxO.bad h' (t.2.1.tr (m'.1.wk (by rw [q.2.2.2.2.1.2.1]; exact Int.le_refl _)) (Int.le_refl _)) r0))⟩⟩⟩
