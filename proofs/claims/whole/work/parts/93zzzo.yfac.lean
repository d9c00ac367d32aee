/-! the reference reads sums and tests: factors, products, sums -/
/-- g reads what XP says at m, within depth d -/
def CYm (g : Nat → MW → (Int32 → MW → Prop) → Prop) (m s : Nat) (f : Int → Int) (n : Int) (nm : List Nm) (d : Nat) : Prop := ∀ (op : Nat) (e p : Int) (ns : List Nod) (w : MW) (Q : Int32 → MW → Prop), op ≤ 20 → 3 * (20 - op) + s < d → YS w f n nm op e p ns → (∀ (y : Int32) (w' : MW) (r : XR), (∃ k, XP f n (lkn nm) k m op 0 p ns r) → YO w w' f n nm op e ns.length p r y → Q y w') → g d w Q
theorem lkn_e (nm : List Nm) (l : List Int) : (0 ≤ (lkn nm l).1 ∧ ¬ (lkn nm l).2.1 = 10 ↔ 0 ≤ (lki l nm 0).1 ∧ ¬ (lki l nm 0).2.1 = 10) ∧ (¬ (lki l nm 0).2.1 = 10 → lkn nm l = lki l nm 0) := by
  unfold lkn
  by_cases c : (lki l nm 0).2.1 = 10 ∧ (lki l nm 0).2.2.2 < 0
  · rw [if_pos c]
    refine ⟨⟨fun z => ?_, fun z => absurd c.1 z.2⟩, fun z => absurd c.1 z⟩
    have z1 : (0 : Int) ≤ -1 := z.1
    omega
  · rw [if_neg c]
    exact ⟨Iff.rfl, fun _ => rfl⟩
/-- behind the inside of a bracket or a minus -/
theorem y_f122m {F P S : MW → (Int32 → MW → Prop) → Prop} {w w8 : MW} {f : Int → Int} {n : Int} {nm : List Nm} {op : Nat} {e p q u : Int} {ns ns1 : List Nod} {ln y : Int32} {Q : Int32 → MW → Prop} (he : 0 ≤ e) (ho : op < 20) (Y8 : YS w8 f n nm (op + 1) (e + 1) q ns1) (hy : y.toInt + 1 = (ns1.length : Int)) (hu : (w8.1 134 (nb w8 y.toInt)).toInt = u) (u0 : 0 ≤ u) (K8 : KX w w8) (pq : p ≤ q) (nn : ns.length < ns1.length) (hQ : ∀ (y : Int32) (w' : MW) (r : XR), r = xnd f n u q ns1 (34, 0, 0, [ns1.length - 1]) → YO w w' f n nm op e ns.length p r y → Q y w') : q_Tx_factor_122 F P S ln 1 y w8 Q := by
  have o8 := Y8.1.2.2.2
  have l3 := ys_len Y8
  have s11 := ti_sub2 o8 i_1 (by omega) (by omega)
  have Y9 := ys_op (op' := op) (v := (w8.1 129 11) - (1 : Int32)) Y8 (by omega) (by omega)
  have b8 := bd_129_35 Y8.1.1.1
  have e9 : (sI w8 129 11 ((w8.1 129 11) - (1 : Int32))).1 129 35 = w8.1 129 35 := Y9.2.2.1
  have u9 := kx_unit Y8 Y9.2 (by omega) (by omega) hu
  refine Eq.mpr (q_Tx_factor_122.eq_1 _ _ _ _ _ _ _ _) ⟨fun _ => ?_, fun z => absurd i1n z⟩
  generalize (sI w8 129 11 ((w8.1 129 11) - (1 : Int32))) = w9 at *
  refine y_push Y9.1 he (by omega) (by omega) (fun w12 F12 Y12 K12 e12 k12 v12 => y_unit Y12.1.1.1 (by omega) (by omega) ?_)
  have eu : (w12.1 134 (nb w12 y.toInt)).toInt = u := by
    have e13 := Y9.1.2.2.2.1.1
    rw [(knm_b K12).2, (K12.2.2.2.1 y.toInt (by omega) (by omega)).2.2.1]
    exact u9
  have ub := bd_134 Y12.1.1.1 (nb w12 y.toInt)
  refine y_node (d := (34, 0, 0, [ns1.length - 1])) (lo := (w8.1 129 35).toInt) Y12 (show (6 : Int32).toInt = wht 34 by decide) (show 0 ≤ wht 34 by decide) (show wht 34 ≤ 24 by decide) (by omega) (by omega) rfl ⟨by rw [e12, e9]; show _ = _ + ((1 : Nat) : Int); omega, b8.1, fun i c hi => ?_⟩ (fun z => absurd z (show ¬ (34 : Int) = 31 by decide)) (fun _ _ => (show (0 : Int64).toInt = 0 by decide)) (fun n3 w' e' => hQ (-1) w' (xer (wrd f n q).2.1) (by unfold xnd; rw [if_pos n3]) (yo_bad e')) (fun n3 r w' er Y' KN e35 kp eu' e38 _ => hQ r w' (true, 0, u, q, ns1 ++ [(34, 0, 0, [ns1.length - 1])]) (by unfold xnd; rw [if_neg n3]) (Or.inl ⟨rfl, Y', ?_, ?_, u0, (K8.tr Y9.2).tr ⟨K12.tr KN, e35.trans e9.symm, fun k k0 k1 => ?_, e38.trans (F12 129 38 rfl).1⟩, pq, ?_⟩))
  · cases i with
    | zero =>
      have ec : ns1.length - 1 = c := Option.some.inj hi
      rw [← ec, show ((w8.1 129 35).toInt + ((0 : Nat) : Int)) = (w9.1 129 35).toInt by rw [e9]; omega, v12]
      omega
    | succ i => cases hi
  · show r.toInt + 1 = ((ns1 ++ [(34, 0, 0, [ns1.length - 1])]).length : Int)
    rw [List.length_append, List.length_singleton]
    omega
  · show (w'.1 134 (nb w' r.toInt)).toInt = u
    rw [er, eu', eu]
  · rw [kp, k12 k k0 k1]
  · show ns.length < (ns1 ++ [(34, 0, 0, [ns1.length - 1])]).length
    rw [List.length_append, List.length_singleton]
    omega
theorem y_f122s {F P S : MW → (Int32 → MW → Prop) → Prop} {w w8 : MW} {f : Int → Int} {n : Int} {nm : List Nm} {op : Nat} {e p q u : Int} {ns ns1 : List Nod} {ln y : Int32} {Q : Int32 → MW → Prop} (ho : op < 20) (Y8 : YS w8 f n nm (op + 1) (e + 1) q ns1) (hy : y.toInt + 1 = (ns1.length : Int)) (hu : (w8.1 134 (nb w8 y.toInt)).toInt = u) (u0 : 0 ≤ u) (K8 : KX w w8) (pq : p ≤ q) (nn : ns.length < ns1.length) (hQ : ∀ (y : Int32) (w' : MW) (r : XR), r = (true, 0, u, q, ns1) → YO w w' f n nm op e ns.length p r y → Q y w') : q_Tx_factor_122 F P S ln 0 y w8 Q := by
  have o8 := Y8.1.2.2.2
  have s11 := ti_sub2 o8 i_1 (by omega) (by omega)
  have Y9 := ys_op (op' := op) (v := (w8.1 129 11) - (1 : Int32)) Y8 (by omega) (by omega)
  have u9 := kx_unit Y8 Y9.2 (by omega) (by omega) hu
  exact Eq.mpr (q_Tx_factor_122.eq_1 _ _ _ _ _ _ _ _) ⟨fun z => absurd i_0 z, fun _ => hQ y _ (true, 0, u, q, ns1) rfl (Or.inl ⟨rfl, Y9.1, hy, u9, u0, K8.tr Y9.2, pq, nn⟩)⟩
theorem y_fac {f : Int → Int} {n : Int} {nm : List Nm} {d : Nat} (hF : CYm pn_Tx_factor 3 0 f n nm d) (hS : CYm pn_Tx_sum 1 2 f n nm d) : CYm pn_Tx_factor 3 0 f n nm (d + 1) := by
  intro op e p ns w Q ho hd h hQ
  have tk := y_tk h
  have t40 := tk_sign (f := f) (n := n) (p := p) (c := 40) h.2.2.1 (by decide) (by decide)
  have t45 := tk_sign (f := f) (n := n) (p := p) (c := 45) h.2.2.1 (by decide) (by decide)
  have t31 := tk_num (f := f) (n := n) (p := p) h.2.2.1
  have o8 := h.1.2.2.2
  have he := h.1.1.2.1
  rw [pe_Tx_factor]
  refine Eq.mpr (pb_Tx_factor.eq_1 _ _ _ _ _) ?_
  rw [tk]
  have K53 : ((wrd f n p).1 = 40 ∨ (wrd f n p).1 = 45) → ∀ mi : Int32, (mi = 0 ∧ (wrd f n p).1 = 40 ∨ mi = 1 ∧ (wrd f n p).1 = 45) → q_Tx_factor_53 (pn_Tx_factor d) (pn_Tx_product d) (pn_Tx_sum d) (w.1 129 7) mi w Q := fun kc mi hm => by
    have n31 : ¬ (wrd f n p).1 = 31 := by omega
    have up : ∀ (r : XR) (k : Nat), xfo f n (XP f n (lkn nm) k) op p ns r → XP f n (lkn nm) (k + 1) 3 op 0 p ns r := fun r k hr => by
      rw [XP_3]
      unfold xfa
      rw [if_neg n31, if_pos kc]
      exact hr
    refine Eq.mpr (q_Tx_factor_53.eq_1 _ _ _ _ _ _ _) ⟨fun c => ?_, fun c => y_bad h (fun w' e' => hQ (-1) w' (xer (wrd f n p).2.1) ⟨1, up _ 0 (by
      unfold xfo
      rw [if_pos (by have := Classical.not_not.mp c; omega)])⟩ (yo_bad e'))⟩
    have lo : op < 20 := by omega
    have s11 := ti_add2 o8 i_1 (by omega) (by omega)
    have Y1 := ys_op (op' := op + 1) (v := (w.1 129 11) + (1 : Int32)) h (by omega) (by omega)
    refine y_go Y1.1 (fun ok w5 F5 Y5 K5 pn => ⟨fun _ => ?_, fun z => absurd i1n z⟩) (fun bad w5 e5 => ⟨fun z => absurd i_0 z, fun _ => hQ (-1) w5 (xer (wrd f n (wrd f n p).2.2.1).2.1) ⟨1, up _ 0 (by
      unfold xfo xgo
      rw [if_neg (by omega), if_pos bad])⟩ (yo_bad e5)⟩)
    rcases hm with ⟨rfl, k40⟩ | ⟨rfl, k45⟩
    · have n45 : ¬ (wrd f n p).1 = 45 := by omega
      have up2 : ∀ (r r1 : XR) (k : Nat), XP f n (lkn nm) k 1 (op + 1) 0 (wrd f n p).2.2.1 ns r1 → (if r1.1 = true then (if (wrd f n r1.2.2.2.1).1 = 41 then xgo f n r1.2.2.2.1 r (r = (true, 0, r1.2.2.1, (wrd f n r1.2.2.2.1).2.2.1, r1.2.2.2.2)) else r = xer (wrd f n r1.2.2.2.1).2.1) else r = r1) → ∃ k, XP f n (lkn nm) k 3 op 0 p ns r := fun r r1 k a b => ⟨k + 1, up r k (by
        unfold xfo xgo
        rw [if_neg (by omega), if_neg ok, if_neg n45]
        exact ⟨r1, a, b⟩)⟩
      refine ⟨fun _ => hS (op + 1) e _ ns w5 _ (by omega) (by omega) Y5 (fun y w8 r1 hr1 o1 => ?_), fun z => absurd i_0 z⟩
      obtain ⟨k1, hr1⟩ := hr1
      refine Eq.mpr (q_Tx_factor_102.eq_1 _ _ _ _ _ _ _ _) ?_
      rcases o1 with ⟨g1, Y8, y8, u8, u0, K8, p8, n8⟩ | ⟨g1, y8, e8⟩
      · have K := (Y1.2.tr K5).tr K8
        have t41 := tk_sign (f := f) (n := n) (p := r1.2.2.2.1) (c := 41) Y8.2.2.1 (by decide) (by decide)
        refine ⟨fun z => absurd z (by omega), fun _ => ⟨fun z => absurd i_0 z, fun _ => y_over (c := 41) Y8 t41 (fun k41 ok2 w15 F15 Y15 K15 pn15 => ⟨fun _ => y_f122s lo Y15 y8 (kx_unit Y8 K15 (by omega) (by omega) u8) u0 (K.tr K15) (p := p) (ns := ns) (by omega) n8 (fun y' w' r er o' => hQ y' w' r (up2 r r1 k1 hr1 ?_) o'), fun z => absurd i1n z⟩) (fun k41 bad2 w15 e15 => ⟨fun z => absurd i_0 z, fun _ => hQ (-1) w15 (xer (wrd f n (wrd f n r1.2.2.2.1).2.2.1).2.1) (up2 _ r1 k1 hr1 ?_) (yo_bad e15)⟩) (fun n41 w15 e15 => ⟨fun z => absurd i_0 z, fun _ => hQ (-1) w15 (xer (wrd f n r1.2.2.2.1).2.1) (up2 _ r1 k1 hr1 ?_) (yo_bad e15)⟩)⟩⟩
        · rw [if_pos g1, if_pos k41]
          unfold xgo
          rw [if_neg ok2]
          exact er
        · rw [if_pos g1, if_pos k41]
          unfold xgo
          rw [if_pos bad2]
        · rw [if_pos g1, if_neg n41]
      · refine ⟨fun _ => hQ (-1) w8 r1 (up2 r1 r1 k1 hr1 ?_) (Or.inr ⟨g1, by decide, e8⟩), fun z => absurd y8 z⟩
        rw [if_neg (by rw [g1]; decide)]
    · have up2 : ∀ (r r1 : XR) (k : Nat), XP f n (lkn nm) k 3 (op + 1) 0 (wrd f n p).2.2.1 ns r1 → (if r1.1 = true then r = xnd f n r1.2.2.1 r1.2.2.2.1 r1.2.2.2.2 (34, 0, 0, [r1.2.2.2.2.length - 1]) else r = r1) → ∃ k, XP f n (lkn nm) k 3 op 0 p ns r := fun r r1 k a b => ⟨k + 1, up r k (by
        unfold xfo xgo
        rw [if_neg (by omega), if_neg ok, if_pos k45]
        exact ⟨r1, a, b⟩)⟩
      refine ⟨fun z => absurd z i1n, fun _ => hF (op + 1) e _ ns w5 _ (by omega) (by omega) Y5 (fun y w8 r1 hr1 o1 => ?_)⟩
      obtain ⟨k1, hr1⟩ := hr1
      refine Eq.mpr (q_Tx_factor_102.eq_1 _ _ _ _ _ _ _ _) ?_
      rcases o1 with ⟨g1, Y8, y8, u8, u0, K8, p8, n8⟩ | ⟨g1, y8, e8⟩
      · have K := (Y1.2.tr K5).tr K8
        refine ⟨fun z => absurd z (by omega), fun _ => ⟨fun _ => y_f122m he lo Y8 y8 u8 u0 K (p := p) (ns := ns) (by omega) n8 (fun y' w' r er o' => hQ y' w' r (up2 r r1 k1 hr1 ?_) o'), fun z => absurd i1n z⟩⟩
        rw [if_pos g1]
        exact er
      · refine ⟨fun _ => hQ (-1) w8 r1 (up2 r1 r1 k1 hr1 ?_) (Or.inr ⟨g1, by decide, e8⟩), fun z => absurd y8 z⟩
        rw [if_neg (by rw [g1]; decide)]
  refine ⟨fun n31 => ⟨fun k40 => ⟨fun n45 => K53 (Or.inl (t40.mp k40)) 0 (Or.inl ⟨rfl, t40.mp k40⟩), fun k45 => by have := t45.mp (Classical.not_not.mp k45); have := t40.mp k40; omega⟩, fun n40 => ⟨fun n45 => ?_, fun k45 => K53 (Or.inr (t45.mp (Classical.not_not.mp k45))) 1 (Or.inr ⟨rfl, t45.mp (Classical.not_not.mp k45)⟩)⟩⟩, fun k31 => y_num h (t31.mp (Classical.not_not.mp k31)) (fun y w' r hr o => hQ y w' r ⟨1, by
      rw [XP_3]
      unfold xfa
      rw [if_pos (t31.mp (Classical.not_not.mp k31))]
      exact hr⟩ o)⟩
  have m31 : ¬ (wrd f n p).1 = 31 := fun z => n31 (t31.mpr z)
  have m40 : ¬ ((wrd f n p).1 = 40 ∨ (wrd f n p).1 = 45) := fun z => z.elim (fun z => n40 (t40.mpr z)) (fun z => n45 (t45.mpr z))
  have up : ∀ r : XR, (if (wrd f n p).1 = 30 ∧ 0 ≤ (lkn nm (wrd f n p).2.2.2.1).1 ∧ ¬ (lkn nm (wrd f n p).2.2.2.1).2.1 = 10 then xgo f n p r (r = xnd f n (lkn nm (wrd f n p).2.2.2.1).2.2.1 (wrd f n p).2.2.1 ns (30, (lkn nm (wrd f n p).2.2.2.1).1, 0, [])) else r = xer (wrd f n p).2.1) → ∃ k, XP f n (lkn nm) k 3 op 0 p ns r := fun r hr => ⟨1, by
    rw [XP_3]
    unfold xfa
    rw [if_neg m31, if_neg m40]
    exact hr⟩
  have nob : ¬ ((wrd f n p).1 = 30 ∧ 0 ≤ (lkn nm (wrd f n p).2.2.2.1).1 ∧ ¬ (lkn nm (wrd f n p).2.2.2.1).2.1 = 10) → p_Tx_bad w (fun r23 w23 => (Q r23 w23)) := fun no => y_bad h (fun w' e' => hQ (-1) w' (xer (wrd f n p).2.1) (up _ (by rw [if_neg no])) (yo_bad e'))
  have neg : ¬ ((wrd f n p).1 = 30 ∧ 0 ≤ (lkn nm (wrd f n p).2.2.2.1).1 ∧ ¬ (lkn nm (wrd f n p).2.2.2.1).2.1 = 10) → q_Tx_factor_181 (pn_Tx_factor d) (pn_Tx_product d) (pn_Tx_sum d) (w.1 129 7) (-1) w Q := fun no => Eq.mpr (q_Tx_factor_181.eq_1 _ _ _ _ _ _ _) ⟨fun _ => nob no, fun z => absurd (show (-1 : Int32).toInt < 0 by decide) z⟩
  refine y_isn h (fun k30 => ⟨fun z => absurd z i1n, fun _ => mn_x h.1.1.1 h.1.2.2.1 (y_sg h (Or.inl k30)) (fun no => neg ?_) (fun j x hx ex el => ?_)⟩) (fun n30 => ⟨fun _ => neg (fun z => n30 z.1), fun z => absurd i_0 z⟩)
  · intro z
    have t := ((lkn_e nm (wrd f n p).2.2.2.1).1.mp z.2).1
    rw [no] at t
    have t' : (0 : Int) ≤ -1 := t
    omega
  · have n4 := h.1.2.2.1.2.1
    have jl := (List.getElem?_eq_some_iff.mp hx).1
    have tj : (nI j).toInt = (j : Int) := nI_toInt (by omega)
    have bh := bhf_b h.1.1.1
    have ei := cc_ix (n := nI j) h.1.1.1 (by omega) (by omega)
    have g := h.1.2.2.1.2.2 j x hx
    have eN : (((40 : Int32) * ((1 : Int32) - (w.1 129 12))) + (nI j)).toInt.toNat = (40 * bhf w + (j : Int)).toNat := by omega
    refine Eq.mpr (q_Tx_factor_181.eq_1 _ _ _ _ _ _ _) ⟨fun z => absurd z (by omega), fun _ => ⟨⟨by omega, by omega⟩, ?_⟩⟩
    rw [eN, g.2.2.2.1]
    have rl : mrl x.2.1 = 24 ↔ x.2.1 = 10 := by
      unfold mrl
      rcases g.2.2.2.2.2.2 with q | q | q
      · rw [if_pos q]
        omega
      · rw [if_neg (by omega), if_pos q]
        omega
      · rw [if_neg (by omega), if_neg (by omega)]
        omega
    refine ⟨fun n24 => ⟨⟨by omega, by omega⟩, ?_⟩, fun k24 => nob (fun z => ?_)⟩
    · have n10 : ¬ x.2.1 = 10 := fun z => n24 (rl.mpr z)
      have n10' : ¬ (lki (wrd f n p).2.2.2.1 nm 0).2.1 = 10 := by rw [el]; exact n10
      have ek : lkn nm (wrd f n p).2.2.2.1 = ((j : Int), x.2.1, x.2.2.1, x.2.2.2) := ((lkn_e nm (wrd f n p).2.2.2.1).2 n10').trans el
      have yes : (wrd f n p).1 = 30 ∧ 0 ≤ (lkn nm (wrd f n p).2.2.2.1).1 ∧ ¬ (lkn nm (wrd f n p).2.2.2.1).2.1 = 10 := ⟨k30, by rw [ek]; show (0 : Int) ≤ (j : Int); omega, by rw [ek]; exact n10⟩
      have ub := bd_142 h.1.1.1 (40 * bhf w + (j : Int)).toNat
      refine y_go h (fun ok w27 F27 Y27 K27 pn => ⟨fun z => absurd z i1n, fun _ => ?_⟩) (fun bad w27 e27 => ⟨fun _ => hQ (-1) w27 (xer (wrd f n (wrd f n p).2.2.1).2.1) (up _ (by
        rw [if_pos yes]
        unfold xgo
        rw [if_pos bad])) (yo_bad e27), fun z => absurd i_0 z⟩)
      have go2 : ∀ r : XR, r = xnd f n x.2.2.1 (wrd f n p).2.2.1 ns (30, (j : Int), 0, []) → ∃ k, XP f n (lkn nm) k 3 op 0 p ns r := fun r hr => up r (by
        rw [if_pos yes]
        unfold xgo
        rw [if_neg ok, ek]
        exact hr)
      refine y_node (d := (30, (j : Int), 0, [])) Y27 (show (1 : Int32).toInt = wht 30 by decide) (show 0 ≤ wht 30 by decide) (show wht 30 ≤ 24 by decide) (by omega) (by omega) rfl (pil_nil Y27.1.1.1) (fun z => absurd z (show ¬ (30 : Int) = 31 by decide)) (fun _ _ => by rw [nb_i2l]; exact tj) (fun n3 w' e' => hQ (-1) w' (xer (wrd f n (wrd f n p).2.2.1).2.1) (go2 _ (by unfold xnd; rw [if_pos n3])) (yo_bad e')) (fun n3 r w' er Y' KN e35 kp eu e38 _ => hQ r w' (true, 0, x.2.2.1, (wrd f n p).2.2.1, ns ++ [(30, (j : Int), 0, [])]) (go2 _ (by unfold xnd; rw [if_neg n3])) (Or.inl ⟨rfl, Y', ?_, ?_, ?_, K27.tr ⟨KN, e35, fun k _ _ => kp _, e38⟩, pn, ?_⟩))
      · show r.toInt + 1 = ((ns ++ [(30, (j : Int), 0, [])]).length : Int)
        rw [List.length_append, List.length_singleton]
        omega
      · show (w'.1 134 (nb w' r.toInt)).toInt = x.2.2.1
        rw [er, eu]
        exact g.2.2.2.2.1
      · show 0 ≤ x.2.2.1
        rw [← g.2.2.2.2.1]
        exact ub.1
      · show ns.length < (ns ++ [(30, (j : Int), 0, [])]).length
        rw [List.length_append, List.length_singleton]
        omega
    · have t := ((lkn_e nm (wrd f n p).2.2.2.1).1.mp z.2).2
      rw [el] at t
      exact t (rl.mp (Classical.not_not.mp k24))
