/-! the reference reads sums and tests: the small pieces -/
theorem XP_1 (f : Int → Int) (n : Int) (lk : List Int → Int × Int × Int × Int) (k op : Nat) (u p : Int) (ns : List Nod) (r : XR) : XP f n lk (k + 1) 1 op u p ns r = xlv (XP f n lk k) 1 op p ns r := rfl
theorem XP_0 (f : Int → Int) (n : Int) (lk : List Int → Int × Int × Int × Int) (k op : Nat) (u p : Int) (ns : List Nod) (r : XR) : XP f n lk (k + 1) 0 op u p ns r = xlv (XP f n lk k) 0 op p ns r := rfl
theorem XP_2 (f : Int → Int) (n : Int) (lk : List Int → Int × Int × Int × Int) (k op : Nat) (u p : Int) (ns : List Nod) (r : XR) : XP f n lk (k + 1) 2 op u p ns r = xlv (XP f n lk k) 2 op p ns r := rfl
theorem XP_3 (f : Int → Int) (n : Int) (lk : List Int → Int × Int × Int × Int) (k op : Nat) (u p : Int) (ns : List Nod) (r : XR) : XP f n lk (k + 1) 3 op u p ns r = xfa f n lk (XP f n lk k) op p ns r := rfl
theorem XP_4 (f : Int → Int) (n : Int) (lk : List Int → Int × Int × Int × Int) (k op : Nat) (u p : Int) (ns : List Nod) (r : XR) : XP f n lk (k + 1) 4 op u p ns r = xlo f n (XP f n lk k) 0 op u p ns r := rfl
theorem XP_5 (f : Int → Int) (n : Int) (lk : List Int → Int × Int × Int × Int) (k op : Nat) (u p : Int) (ns : List Nod) (r : XR) : XP f n lk (k + 1) 5 op u p ns r = xlo f n (XP f n lk k) 1 op u p ns r := rfl
theorem XP_6 (f : Int → Int) (n : Int) (lk : List Int → Int × Int × Int × Int) (k op : Nat) (u p : Int) (ns : List Nod) (r : XR) : XP f n lk (k + 1) 6 op u p ns r = xlo f n (XP f n lk k) 2 op u p ns r := rfl
/-- what reading leaves: N nodes were there -/
def YO (w w' : MW) (f : Int → Int) (n : Int) (nm : List Nm) (op : Nat) (e : Int) (N : Nat) (p : Int) (r : XR) (y : Int32) : Prop := (r.1 = true ∧ YS w' f n nm op (e + 1) r.2.2.2.1 r.2.2.2.2 ∧ y.toInt + 1 = (r.2.2.2.2.length : Int) ∧ (w'.1 134 (nb w' y.toInt)).toInt = r.2.2.1 ∧ 0 ≤ r.2.2.1 ∧ KX w w' ∧ p ≤ r.2.2.2.1 ∧ N < r.2.2.2.2.length) ∨ (r.1 = false ∧ y.toInt < 0 ∧ (w'.1 129 10).toInt = r.2.1)
theorem yo_bad {w w' : MW} {f : Int → Int} {n : Int} {nm : List Nm} {op : Nat} {e : Int} {N : Nat} {p q : Int} (h : (w'.1 129 10).toInt = q) : YO w w' f n nm op e N p (xer q) (-1) := Or.inr ⟨rfl, by decide, h⟩
theorem yo_tr {w0 w w' : MW} {f : Int → Int} {n : Int} {nm : List Nm} {op : Nat} {e : Int} {N M : Nat} {p q : Int} {r : XR} {y : Int32} (h : YO w w' f n nm op e N p r y) (K : KX w0 w) (hM : M ≤ N) (hq : q ≤ p) : YO w0 w' f n nm op e M q r y := by
  rcases h with h | h
  · exact Or.inl ⟨h.1, h.2.1, h.2.2.1, h.2.2.2.1, h.2.2.2.2.1, K.tr h.2.2.2.2.2.1, by have := h.2.2.2.2.2.2.1; omega, by have := h.2.2.2.2.2.2.2; omega⟩
  · exact Or.inr h
theorem ys_len {w : MW} {f : Int → Int} {n : Int} {nm : List Nm} {op : Nat} {e p : Int} {ns : List Nod} (h : YS w f n nm op e p ns) : ns.length ≤ 300 := by
  have b := bd_129_13 h.1.1.1
  have := h.2.2.2.1.1
  omega
/-- the unit of a node that stands -/
theorem kx_unit {w w' : MW} {f : Int → Int} {n : Int} {nm : List Nm} {op : Nat} {e p u : Int} {ns : List Nod} {x : Int32} (h : YS w f n nm op e p ns) (K : KX w w') (x0 : 0 ≤ x.toInt) (x1 : x.toInt < (ns.length : Int)) (hu : (w.1 134 (nb w x.toInt)).toInt = u) : (w'.1 134 (nb w' x.toInt)).toInt = u := by
  have e13 := h.2.2.2.1.1
  rw [(knm_b K.1).2, (K.1.2.2.2.1 x.toInt x0 (by omega)).2.2.1]
  exact hu
theorem pil_nil {w : MW} (hI : BND w) : PiL w (w.1 129 35).toInt [] :=
  ⟨by show (w.1 129 35).toInt = (w.1 129 35).toInt + ((0 : Nat) : Int); omega, (bd_129_35 hI).1, fun k c h => (by cases h)⟩
theorem y_two {w : MW} {f : Int → Int} {n : Int} {nm : List Nm} {op : Nat} {e p c : Int} {ns : List Nod} {k a b u : Int32} {A B : Nat} {Q : Int32 → MW → Prop} (h : YS w f n nm op (e + 1 + 1) p ns) (he : 0 ≤ e) (hk : k.toInt = wht c) (hc : 2 ≤ wht c ∧ wht c ≤ 9 ∧ ¬ c = 31) (ha : a.toInt = (A : Int)) (hb : b.toInt = (B : Int)) (hA : A < ns.length) (hB : B < ns.length) (u0 : -1 ≤ u.toInt) (u1 : u.toInt ≤ 5) (h0 : ns.length = 300 → ∀ w', (w'.1 129 10).toInt = (wrd f n p).2.1 → Q (-1) w') (h1 : ¬ ns.length = 300 → ∀ (r : Int32) (w' : MW), r.toInt = (ns.length : Int) → YS w' f n nm op (e + 1) p (ns ++ [(c, 0, 0, [A, B])]) → KX w w' → w'.1 134 (nb w' (ns.length : Int)) = u → Q r w') : p_Tx_two w k a b u Q := by
  have l3 := ys_len h
  have b35 := bd_129_35 h.1.1.1
  refine Eq.mpr (p_Tx_two.eq_1 _ _ _ _ _ _) (y_push h (by omega) (by omega) (by omega) (fun w1 F1 Y1 K1 e1 k1 v1 => y_push Y1 he (by omega) (by omega) (fun w2 F2 Y2 K2 e2 k2 v2 => Eq.mpr (p_Tx_base.eq_1 _ _) ?_)))
  have ei := bb_ix (n := a) Y2.1.1.1 (by omega) (by omega)
  have bh := bhf_b Y2.1.1.1
  refine ⟨⟨by omega, by omega⟩, y_node (d := (c, 0, 0, [A, B])) (lo := (w.1 129 35).toInt) Y2 hk (show 0 ≤ wht c by omega) (show wht c ≤ 24 by omega) u0 u1 rfl ⟨by show _ = _ + ((2 : Nat) : Int); omega, b35.1, fun i cc hi => ?_⟩ (fun z => absurd z hc.2.2) (fun _ _ => (show (0 : Int64).toInt = 0 by decide)) h0 (fun n3 r w' er Y' KN e35 kp eu e38 _ => h1 n3 r w' er Y' ⟨(K1.tr K2).tr KN, e35, fun j j0 j1 => ?_, (e38.trans (F2 129 38 rfl).1).trans (F1 129 38 rfl).1⟩ eu)⟩
  · cases i with
    | zero =>
      have ec : A = cc := Option.some.inj hi
      rw [← ec, show ((w.1 129 35).toInt + ((0 : Nat) : Int)) = (w.1 129 35).toInt by omega, k2 _ b35.1 (by omega), v1]
      exact ha
    | succ i =>
      cases i with
      | zero =>
        have ec : B = cc := Option.some.inj hi
        rw [← ec, show ((w.1 129 35).toInt + ((0 + 1 : Nat) : Int)) = (w1.1 129 35).toInt by omega, v2]
        exact hb
      | succ i => cases hi
  · rw [kp, k2 j j0 (by omega), k1 j j0 j1]
theorem mng_u (k : Int) (h : k = 30 ∨ (1 ≤ k ∧ k ≤ 26)) : (40 ≤ mng k ∧ mng k ≤ 44 ↔ 1 ≤ k ∧ k ≤ 5) ∧ (1 ≤ k ∧ k ≤ 5 → mng k = 39 + k) := by
  have t : ∀ j : Nat, j < 31 → ((j : Int) = 30 ∨ (1 ≤ (j : Int) ∧ (j : Int) ≤ 26)) → (40 ≤ mng (j : Int) ∧ mng (j : Int) ≤ 44 ↔ 1 ≤ (j : Int) ∧ (j : Int) ≤ 5) ∧ (1 ≤ (j : Int) ∧ (j : Int) ≤ 5 → mng (j : Int) = 39 + (j : Int)) := by decide +kernel
  have := t k.toNat (by omega)
  rw [show ((k.toNat : Nat) : Int) = k by omega] at this
  exact this h
theorem tk_unit {f : Int → Int} {n p : Int} (h : ¬ (wrd f n p).1 = 33) : (1040 ≤ tkm (wrd f n p).1 ∧ tkm (wrd f n p).1 ≤ 1044 ↔ 1 ≤ (wrd f n p).1 ∧ (wrd f n p).1 ≤ 5) ∧ (1 ≤ (wrd f n p).1 ∧ (wrd f n p).1 ≤ 5 → tkm (wrd f n p).1 = 1039 + (wrd f n p).1) ∧ 0 ≤ tkm (wrd f n p).1 ∧ tkm (wrd f n p).1 ≤ 2000 := by
  unfold tkm
  rcases wrd_k f n p with k | k | k | k | k
  · exact absurd k h
  · rw [if_pos k]
    omega
  · rw [if_neg (by omega), if_pos k]
    omega
  · rw [if_neg (by omega), if_neg (by omega), if_neg (by omega)]
    omega
  · have b := mng_u _ k.1
    have c := mng_r _ k.1
    have k1 := k.1
    rw [if_neg (by omega), if_neg (by omega), if_pos (by omega)]
    omega
theorem y_uw {w : MW} {f : Int → Int} {n : Int} {nm : List Nm} {op : Nat} {e p : Int} {ns : List Nod} {Q : Int32 → MW → Prop} (h : YS w f n nm op e p ns) (hQ : ∀ r : Int32, r.toInt = (if 1 ≤ (wrd f n p).1 ∧ (wrd f n p).1 ≤ 5 then (wrd f n p).1 else 0) → Q r w) : p_Tx_unitWord w Q := by
  have t := tk_unit (f := f) (n := n) (p := p) h.2.2.1
  have s1 := ti_sub2 (y_tk h) (show (1000 : Int32).toInt = 1000 by decide) (by omega) (by omega)
  have s2 := ti_sub2 s1 (show (39 : Int32).toInt = 39 by decide) (by omega) (by omega)
  refine Eq.mpr (p_Tx_unitWord.eq_1 _ _) ⟨fun c => hQ 0 ?_, fun c => ⟨fun d => hQ 0 ?_, fun d => hQ _ ?_⟩⟩
  · rw [if_neg (by omega)]
    decide
  · rw [if_neg (by omega)]
    decide
  · rw [if_pos (by omega)]
    omega
theorem xut_b (c : Int) : 0 ≤ xut c ∧ xut c ≤ 5 := by
  unfold xut
  by_cases a : c = 6 ∨ c = 7
  · rw [if_pos a]
    decide
  · rw [if_neg a]
    by_cases b : 1 ≤ c ∧ c ≤ 5
    · rw [if_pos b]
      omega
    · rw [if_neg b]
      decide
/-- a number -/
theorem y_num {w : MW} {f : Int → Int} {n : Int} {nm : List Nm} {op : Nat} {e p : Int} {ns : List Nod} {a : Int32} {Q : Int32 → MW → Prop} (h : YS w f n nm op e p ns) (k31 : (wrd f n p).1 = 31) (hQ : ∀ (y : Int32) (w' : MW) (r : XR), xfn f n p ns r → YO w w' f n nm op e ns.length p r y → Q y w') : p_Tx_numberNode w a Q := by
  have ev : (w.2.1 129 8).toInt = (wrd f n p).2.2.2.2.1 := (h.2.1.2.2.2.2 k31).1
  have vb := wrd_v (f := f) (n := n) (p := p)
  have l3 := ys_len h
  refine Eq.mpr (p_Tx_numberNode.eq_1 _ _ _) (y_go h (fun ok w1 F1 Y1 K1 pn => ⟨fun _ => ?_, fun z => absurd i1n z⟩) (fun bad w1 e1 => ⟨fun z => absurd i_0 z, fun _ => hQ (-1) w1 (xer (wrd f n (wrd f n p).2.2.1).2.1) (by
      unfold xfn xgo
      rw [if_pos bad]) (yo_bad e1)⟩))
  have mb := xmu_b (wrd f n (wrd f n p).2.2.1).1
  have ub := xut_b (wrd f n (wrd f n p).2.2.1).1
  have N : ∀ (w2 : MW) (q : Int) (V : Int64) (U : Int32) (VV : Int), YS w2 f n nm op e q ns → KX w w2 → p ≤ q → V.toInt = VV → 0 ≤ U.toInt → U.toInt ≤ 5 → (∀ r, r = xnd f n U.toInt q ns (31, 0, VV, []) → xfn f n p ns r) → p_Tx_node0 w2 0 V a U (w2.1 129 35) (fun r8 w8 => (Q r8 w8)) := fun w2 q V U VV Y2 K2 pq eV u0 u1 hx => by
    refine y_node (d := (31, 0, VV, [])) Y2 (show (0 : Int32).toInt = wht 31 by decide) (show 0 ≤ wht 31 by decide) (show wht 31 ≤ 24 by decide) (by omega) u1 rfl (pil_nil Y2.1.1.1) (fun _ => eV) (fun z => absurd rfl z) (fun n3 w' e' => hQ (-1) w' (xer (wrd f n q).2.1) (hx _ (by unfold xnd; rw [if_pos n3])) (yo_bad e')) (fun n3 r w' er Y' KN e35 kp eu e38 _ => hQ r w' (true, 0, U.toInt, q, ns ++ [(31, 0, VV, [])]) (hx _ (by unfold xnd; rw [if_neg n3])) (Or.inl ⟨rfl, Y', ?_, ?_, u0, K2.tr ⟨KN, e35, fun k _ _ => kp _, e38⟩, pq, ?_⟩))
    · show r.toInt + 1 = ((ns ++ [(31, 0, VV, [])]).length : Int)
      rw [List.length_append, List.length_singleton]
      omega
    · show (w'.1 134 (nb w' r.toInt)).toInt = U.toInt
      rw [er, eu]
    · show ns.length < (ns ++ [(31, 0, VV, [])]).length
      rw [List.length_append, List.length_singleton]
      omega
  have K : ∀ (V : Int64) (U : Int32), V.toInt = (wrd f n p).2.2.2.2.1 * xmu (wrd f n (wrd f n p).2.2.1).1 → ¬ 999999999999 < (wrd f n p).2.2.2.2.1 * xmu (wrd f n (wrd f n p).2.2.1).1 → U.toInt = xut (wrd f n (wrd f n p).2.2.1).1 → q_Tx_numberNode_87 a V U w1 Q := fun V U eV small eU => by
    refine Eq.mpr (q_Tx_numberNode_87.eq_1 _ _ _ _ _) ⟨fun u0 => N w1 _ V U _ Y1 K1 pn eV (by omega) (by omega) (fun r er => ?_), fun u1 => y_go Y1 (fun ok2 w2 F2 Y2 K2 pn2 => ⟨fun _ => N w2 _ V U _ Y2 (K1.tr K2) (by omega) eV (by omega) (by omega) (fun r er => ?_), fun z => absurd i1n z⟩) (fun bad2 w2 e2 => ⟨fun z => absurd i_0 z, fun _ => hQ (-1) w2 (xer (wrd f n (wrd f n (wrd f n p).2.2.1).2.2.1).2.1) ?_ (yo_bad e2)⟩)⟩
    · unfold xfn xgo
      rw [if_neg ok, if_neg small, if_neg (by omega)]
      rw [er, show U.toInt = 0 by omega]
    · unfold xfn xgo
      rw [if_neg ok, if_neg small, if_pos (by omega), if_neg ok2]
      rw [er, eU]
    · unfold xfn xgo
      rw [if_neg ok, if_neg small, if_pos (by omega), if_pos bad2]
  have m1 : ∀ m : Int, 0 ≤ m → m ≤ 3600 → 0 ≤ (wrd f n p).2.2.2.2.1 * m ∧ (wrd f n p).2.2.2.2.1 * m ≤ 999999999999 * 3600 := fun m m0 m1 => ⟨Int.mul_nonneg vb.1 m0, Int.mul_le_mul vb.2 m1 m0 (by decide)⟩
  have B : ∀ x : Int, xmu (wrd f n (wrd f n p).2.2.1).1 = x → 999999999999 < (wrd f n p).2.2.2.2.1 * x → p_Tx_bad w1 (fun r15 w15 => (Q r15 w15)) := fun x ex big => y_bad Y1 (fun w' e' => hQ (-1) w' (xer (wrd f n (wrd f n p).2.2.1).2.1) (by
      unfold xfn xgo
      rw [if_neg ok, ex, if_pos big]) (yo_bad e'))
  have eg : (999999999999 : Int64).toInt = 999999999999 := by decide
  have T : ∀ (M : Int64) (x : Int) (U : Int32), M.toInt = x → 0 ≤ x → x ≤ 3600 → xmu (wrd f n (wrd f n p).2.2.1).1 = x → U.toInt = xut (wrd f n (wrd f n p).2.2.1).1 → ((lg_cmp ((w.2.1 129 8) * M) (999999999999 : Int64)).toInt ≤ 0 → (q_Tx_numberNode_87 a ((w.2.1 129 8) * M) U w1 Q)) ∧ (¬ ((lg_cmp ((w.2.1 129 8) * M) (999999999999 : Int64)).toInt ≤ 0) → (p_Tx_bad w1  (fun r15 w15 => (Q r15 w15)))) := fun M x U eM x0 x1 ex eU => by
    have mm := m1 x x0 x1
    have em := li_mul ev eM (by omega) (by omega)
    have cm := nb_cmp ((w.2.1 129 8) * M) (999999999999 : Int64)
    rw [em, eg] at cm
    exact ⟨fun c => K _ U (by rw [em, ex]) (by rw [ex]; omega) eU, fun c => B x ex (by omega)⟩
  have L1 : ∀ u : Int32, ((wrd f n (wrd f n p).2.2.1).1 = 6 ∨ (wrd f n (wrd f n p).2.2.1).1 = 7) → q_Tx_numberNode_43 a (w.2.1 129 8) u 1 w1 Q := fun u k67 => by
    have eU : (3 : Int32).toInt = xut (wrd f n (wrd f n p).2.2.1).1 := by
      unfold xut
      rw [if_pos k67]
      decide
    refine Eq.mpr (q_Tx_numberNode_43.eq_1 _ _ _ _ _ _) ⟨fun z => absurd z i1n, fun _ => y_isw (c := 6) Y1 (by decide) (by decide) (fun y6 => ⟨fun z => absurd z i1n, fun _ => T 60 60 3 (by decide) (by decide) (by decide) ?_ eU⟩) (fun n6 => ⟨fun _ => T 3600 3600 3 (by decide) (by decide) (by decide) ?_ eU, fun z => absurd i_0 z⟩)⟩
    · unfold xmu
      rw [if_pos y6]
    · unfold xmu
      rw [if_neg n6, if_pos (by omega)]
  refine y_uw Y1 (fun u eu => y_isw (c := 6) Y1 (by decide) (by decide) (fun y6 => ⟨fun _ => L1 u (Or.inl y6), fun z => absurd i1n z⟩) (fun n6 => ⟨fun z => absurd i_0 z, fun _ => y_isw (c := 7) Y1 (by decide) (by decide) (fun y7 => ⟨fun z => absurd z i1n, fun _ => L1 u (Or.inr y7)⟩) (fun n7 => ⟨fun _ => ?_, fun z => absurd i_0 z⟩)⟩))
  have ex : xmu (wrd f n (wrd f n p).2.2.1).1 = 1 := by
    unfold xmu
    rw [if_neg n6, if_neg n7]
  have et : u.toInt = xut (wrd f n (wrd f n p).2.2.1).1 := by
    unfold xut
    rw [if_neg (by omega)]
    exact eu
  exact Eq.mpr (q_Tx_numberNode_43.eq_1 _ _ _ _ _ _) ⟨fun _ => K _ u (by rw [ex, ev]; omega) (by rw [ex]; omega) et, fun z => absurd i_0 z⟩
theorem ys_op {w : MW} {f : Int → Int} {n : Int} {nm : List Nm} {op op' : Nat} {e p : Int} {ns : List Nod} {v : Int32} (h : YS w f n nm op e p ns) (hv : v.toInt = (op' : Int)) (o2 : op' ≤ 20) : YS (sI w 129 11 v) f n nm op' e p ns ∧ KX w (sI w 129 11 v) := by
  have F : FR [(129, some 11)] w (sI w 129 11 v) := FR.I (FR.refl _ w) rfl
  have hB : BND (sI w 129 11 v) := wbd_129_11 h.1.1.1 (by omega) (by omega)
  refine ⟨⟨⟨yj_fr h.1.1 F hB rfl, txm_fr h.1.2.1 F rfl, nmm_fr h.1.2.2.1 F rfl, by rw [sI_same]; exact hv⟩, ?_, h.2.2.1, pnm_k h.2.2.2.1 (KNm.fr F rfl) h.1.1.1 (F 129 13 rfl).1, h.2.2.2.2⟩, KX.fr F rfl⟩
  have t := h.2.1
  unfold TkM at t ⊢
  rw [(F 129 4 rfl).1, (F 129 5 rfl).1, (F 129 2 rfl).1, (F 129 6 rfl).1, (F 129 8 rfl).2.1, (F 129 9 rfl).1]
  exact t
theorem y_over {w : MW} {f : Int → Int} {n : Int} {nm : List Nm} {op : Nat} {e p c : Int} {ns : List Nod} {a : Int32} {Q : Int32 → MW → Prop} (h : YS w f n nm op e p ns) (hc : tkm (wrd f n p).1 = a.toInt ↔ (wrd f n p).1 = c) (h1 : (wrd f n p).1 = c → ¬ (wrd f n (wrd f n p).2.2.1).1 = 33 → ∀ w', FR lgt w w' → YS w' f n nm op e (wrd f n p).2.2.1 ns → KX w w' → p ≤ (wrd f n p).2.2.1 → Q 1 w') (h0 : (wrd f n p).1 = c → (wrd f n (wrd f n p).2.2.1).1 = 33 → ∀ w', (w'.1 129 10).toInt = (wrd f n (wrd f n p).2.2.1).2.1 → Q 0 w') (hn : ¬ (wrd f n p).1 = c → ∀ w', (w'.1 129 10).toInt = (wrd f n p).2.1 → Q 0 w') : p_Tx_over w a Q := by
  refine Eq.mpr (p_Tx_over.eq_1 _ _ _) ⟨fun z => ?_, fun z => hn (fun q => z ?_) _ (y_bg h rfl w)⟩
  · rw [y_tk h] at z
    have k := hc.mp z
    exact y_go h (h1 k) (h0 k)
  · rw [y_tk h]
    exact hc.mpr q
