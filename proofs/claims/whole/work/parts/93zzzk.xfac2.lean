/-! the class reads factors: the whole -/
/-- behind a bracket or a minus, something being wrong -/
theorem w_284 {rF : MW → (Int32 → MW → Prop) → Prop} {rL : MW → Int32 → (Int32 → MW → Prop) → Prop} {w : MW} {f : Int → Int} {n : Int} {nm : List Nm} {op N : Nat} {e : Int} {x y : Int32} {Q : Int32 → MW → Prop} (h : XW w f n nm (op + 1) e N) (ho : op ≤ 20) (hQ : ∀ w', FR lexp w w' → KNd N w w' → XW w' f n nm op e N → Q y w') : q_Rd_readFactor_284 rF rL x y w Q := by
  have fin : ∀ w1, FR lexp w w1 → KNd N w w1 → XW w1 f n nm (op + 1) e N → Q y (sI w1 87 8 ((w1.1 87 8) - (1 : Int32))) := fun w1 F1 K1 X1 => by
    have s := ti_sub2 X1.1.2.2.2.2.2.2.2.1 i_1 (by omega) (by omega)
    have F2 : FR [(87, some 8)] w1 (sI w1 87 8 ((w1.1 87 8) - (1 : Int32))) := FR.I (FR.refl _ w1) rfl
    exact hQ _ (F1.tr F2 rfl) (K1.tr (KNd.fr F2 rfl)) (xw_op X1 (by rw [s]; omega) ho)
  have K0 : KNd N w w := fun _ _ _ _ => ⟨rfl, rfl⟩
  exact Eq.mpr (q_Rd_readFactor_284.eq_1 _ _ _ _ _ _) ⟨fun _ => ⟨fun _ => fl_w h (fin w (FR.refl _ w) K0 h), fun _ => nx_w h (fun w' F' X' => fin w' (FR.tr (FR.refl _ w) F' rfl) (KNd.fr F' rfl) X')⟩, fun _ => mk_w h (fun r w' F' K' _ _ _ X' => fin w' (FR.tr (FR.refl _ w) F' rfl) K' X')⟩
theorem w_201 {rF : MW → (Int32 → MW → Prop) → Prop} {rL : MW → Int32 → (Int32 → MW → Prop) → Prop} {w : MW} {f : Int → Int} {n : Int} {nm : List Nm} {op N : Nat} {e : Int} {v : Int64} {u : Int32} {Q : Int32 → MW → Prop} (h : XW w f n nm op e N) (hQ : ∀ (y : Int32) (w' : MW), FR lexp w w' → KNd N w w' → XW w' f n nm op e N → Q y w') : q_Rd_readFactor_201 rF rL v u w Q :=
  Eq.mpr (q_Rd_readFactor_201.eq_1 _ _ _ _ _ _) ⟨fun _ => ⟨h.1.2.2.1, mk_nw (Q := fun _ w' => Q u w') h (fun _ w' F' K' X' => hQ u w' F' K' X')⟩, fun _ => nx_w h (fun w1 F1 X1 => ⟨X1.1.2.2.1, mk_nw (Q := fun _ w' => Q u w') X1 (fun _ w' F' K' X' => hQ u w' (FR.tr (FR.tr (FR.refl _ w) F1 rfl) F' rfl) ((KNd.fr F1 rfl : KNd N w w1).tr K') X')⟩)⟩
theorem w_137 {rF : MW → (Int32 → MW → Prop) → Prop} {rL : MW → Int32 → (Int32 → MW → Prop) → Prop} {w : MW} {f : Int → Int} {n : Int} {nm : List Nm} {op N : Nat} {e : Int} {v k : Int64} {Q : Int32 → MW → Prop} (h : XW w f n nm op e N) (hQ : ∀ (y : Int32) (w' : MW), FR lexp w w' → KNd N w w' → XW w' f n nm op e N → Q y w') : q_Rd_readFactor_137 rF rL k v w Q :=
  Eq.mpr (q_Rd_readFactor_137.eq_1 _ _ _ _ _ _) ⟨fun _ => ⟨fun _ => w_201 h hQ, fun _ => ⟨fun _ => ⟨fun _ => w_201 h hQ, fun _ => ⟨fun _ => w_201 h hQ, fun _ => w_201 h hQ⟩⟩, fun _ => w_201 h hQ⟩⟩, fun _ => fl_w h (hQ 0 w (FR.refl _ w) (fun _ _ _ _ => ⟨rfl, rfl⟩) h)⟩
theorem xmu_b (c : Int) : 1 ≤ xmu c ∧ xmu c ≤ 3600 := by
  unfold xmu
  by_cases a : c = 6
  · rw [if_pos a]
    decide
  · rw [if_neg a]
    by_cases b : c = 7
    · rw [if_pos b]
      decide
    · rw [if_neg b]
      decide
/-- a number -/
theorem fn_g {rF : MW → (Int32 → MW → Prop) → Prop} {rL : MW → Int32 → (Int32 → MW → Prop) → Prop} {w : MW} {f : Int → Int} {n : Int} {nm : List Nm} {op : Nat} {p : Int} {ns : List Nod} {z : Int32} {Q : Int32 → MW → Prop} (h : XS w f n nm op p ns) (k31 : (wrd f n p).1 = 31) (hQ : ∀ (y : Int32) (w' : MW) (r : XR), xfn f n p ns r → XO w w' f n nm op ns.length p r y → Q y w') : q_Rd_readFactor_88 rF rL (w.1 87 3) z w Q := by
  have c3 : (w.1 87 3).toInt = (wrd f n p).1 := h.2.1.1
  have ev : (w.2.1 87 6).toInt = (wrd f n p).2.2.2.2.1 := (h.2.1.2.2.2.2 k31).1
  have vb := wrd_v (f := f) (n := n) (p := p)
  have wn := wrd_n (f := f) (n := n) (p := p) (xb_f h.1) h.2.2.2.2.2.2.1 h.2.2.2.2.2.2.2
  refine Eq.mpr (q_Rd_readFactor_88.eq_1 _ _ _ _ _ _) (nx_g h.1 h.2.2.2.1 h.2.1.2.2.1 h.2.2.2.2.1 h.2.2.2.2.2.1 (fun ok w7 F7 X7 => ⟨fun q => absurd (c3.trans k31) q, fun _ => ?_⟩) (fun bad w7 F7 X7 => ⟨fun q => absurd (c3.trans k31) q, fun _ => ?_⟩))
  · have c7 : (w7.1 87 3).toInt = (wrd f n (wrd f n p).2.2.1).1 := X7.2.1.1
    have K7 : KNd ns.length w w7 := KNd.fr F7 rfl
    have G7 : FR lexp w w7 := FR.tr (FR.refl _ w) F7 rfl
    have mb := xmu_b (wrd f n (wrd f n p).2.2.1).1
    have p0 := h.2.2.2.2.2.2.1
    have wn2 := wrd_n (f := f) (n := n) (p := (wrd f n p).2.2.1) (xb_f h.1) (by omega) wn.2.1
    have num : ∀ k0 : Int64, k0.toInt = xmu (wrd f n (wrd f n p).2.2.1).1 → q_Rd_readFactor_137 rF rL k0 (w.2.1 87 6) w7 Q := fun k0 ek => by
      have m0 : 0 ≤ (wrd f n p).2.2.2.2.1 * xmu (wrd f n (wrd f n p).2.2.1).1 := Int.mul_nonneg vb.1 (by omega)
      have m1 : (wrd f n p).2.2.2.2.1 * xmu (wrd f n (wrd f n p).2.2.1).1 ≤ 999999999999 * 3600 := Int.mul_le_mul vb.2 mb.2 (by omega) (by decide)
      have em := li_mul ev ek (by omega) (by omega)
      have cm := nb_cmp ((w.2.1 87 6) * k0) (999999999999 : Int64)
      have eg : (999999999999 : Int64).toInt = 999999999999 := by decide
      rw [em, eg] at cm
      have q201 : ¬ 999999999999 < (wrd f n p).2.2.2.2.1 * xmu (wrd f n (wrd f n p).2.2.1).1 → ∀ U : Int32, U.toInt = xut (wrd f n (wrd f n p).2.2.1).1 → q_Rd_readFactor_201 rF rL ((w.2.1 87 6) * k0) U w7 Q := fun small U eU => by
        refine Eq.mpr (q_Rd_readFactor_201.eq_1 _ _ _ _ _ _) ⟨fun u0 => ⟨X7.1.2.2.1, mk_n (Q := fun _ w' => Q U w') X7 em (fun n3 w' F' K' X' => ?_) (fun n3 w' F' K' X' => ?_)⟩, fun u1 => ?_⟩
        · have e0 : xut (wrd f n (wrd f n p).2.2.1).1 = 0 := by
            have : 0 ≤ xut (wrd f n (wrd f n p).2.2.1).1 := by
              unfold xut
              by_cases a : (wrd f n (wrd f n p).2.2.1).1 = 6 ∨ (wrd f n (wrd f n p).2.2.1).1 = 7
              · rw [if_pos a]
                decide
              · rw [if_neg a]
                by_cases b : 1 ≤ (wrd f n (wrd f n p).2.2.1).1 ∧ (wrd f n (wrd f n p).2.2.1).1 ≤ 5
                · rw [if_pos b]
                  omega
                · rw [if_neg b]
                  decide
            omega
          refine hQ U w' (true, 0, 0, (wrd f n p).2.2.1, ns ++ [(31, 0, (wrd f n p).2.2.2.2.1 * xmu (wrd f n (wrd f n p).2.2.1).1, [])]) ?_ ⟨K7.tr K', G7.tr F' rfl, Or.inl ⟨rfl, X', by rw [eU, e0], Int.le_refl _, wn.1, ?_⟩⟩
          · unfold xfn xgo
            rw [if_neg ok, if_neg small, if_neg (by omega)]
            unfold xnd
            rw [if_neg n3]
          · show ns.length < (ns ++ [(31, 0, (wrd f n p).2.2.2.2.1 * xmu (wrd f n (wrd f n p).2.2.1).1, [])]).length
            rw [List.length_append, List.length_singleton]
            omega
        · refine hQ U w' (xer (wrd f n (wrd f n p).2.2.1).2.1) ?_ ⟨K7.tr K', G7.tr F' rfl, Or.inr ⟨rfl, X'⟩⟩
          unfold xfn xgo
          rw [if_neg ok, if_neg small, if_neg (by omega)]
          unfold xnd
          rw [if_pos n3]
        · refine nx_g X7.1 X7.2.2.2.1 X7.2.1.2.2.1 X7.2.2.2.2.1 X7.2.2.2.2.2.1 (fun ok2 w8 F8 X8 => ⟨X8.1.2.2.1, mk_n (Q := fun _ w' => Q U w') X8 em (fun n3 w' F' K' X' => ?_) (fun n3 w' F' K' X' => ?_)⟩) (fun bad2 w8 F8 X8 => ⟨X8.1.2.2.1, mk_nw (Q := fun _ w' => Q U w') X8 (fun _ w' F' K' X' => ?_)⟩)
          · have K8 : KNd ns.length w w8 := K7.tr (KNd.fr F8 rfl)
            refine hQ U w' (true, 0, xut (wrd f n (wrd f n p).2.2.1).1, (wrd f n (wrd f n p).2.2.1).2.2.1, ns ++ [(31, 0, (wrd f n p).2.2.2.2.1 * xmu (wrd f n (wrd f n p).2.2.1).1, [])]) ?_ ⟨K8.tr K', (G7.tr F8 rfl).tr F' rfl, Or.inl ⟨rfl, X', eU, ?_, ?_, ?_⟩⟩
            · unfold xfn xgo
              rw [if_neg ok, if_neg small, if_pos (by omega), if_neg ok2]
              unfold xnd
              rw [if_neg n3]
            · show 0 ≤ xut (wrd f n (wrd f n p).2.2.1).1
              omega
            · show p ≤ (wrd f n (wrd f n p).2.2.1).2.2.1
              omega
            · show ns.length < (ns ++ [(31, 0, (wrd f n p).2.2.2.2.1 * xmu (wrd f n (wrd f n p).2.2.1).1, [])]).length
              rw [List.length_append, List.length_singleton]
              omega
          · have K8 : KNd ns.length w w8 := K7.tr (KNd.fr F8 rfl)
            refine hQ U w' (xer (wrd f n (wrd f n (wrd f n p).2.2.1).2.2.1).2.1) ?_ ⟨K8.tr K', (G7.tr F8 rfl).tr F' rfl, Or.inr ⟨rfl, X'⟩⟩
            unfold xfn xgo
            rw [if_neg ok, if_neg small, if_pos (by omega), if_neg ok2]
            unfold xnd
            rw [if_pos n3]
          · have K8 : KNd ns.length w w8 := K7.tr (KNd.fr F8 rfl)
            refine hQ U w' (xer (wrd f n (wrd f n (wrd f n p).2.2.1).2.2.1).2.1) ?_ ⟨K8.tr K', (G7.tr F8 rfl).tr F' rfl, Or.inr ⟨rfl, X'⟩⟩
            unfold xfn xgo
            rw [if_neg ok, if_neg small, if_pos (by omega), if_pos bad2]
      refine Eq.mpr (q_Rd_readFactor_137.eq_1 _ _ _ _ _ _) ⟨fun c => ?_, fun c => fl_g X7 (fun w' F' X' => ?_)⟩
      · have small : ¬ 999999999999 < (wrd f n p).2.2.2.2.1 * xmu (wrd f n (wrd f n p).2.2.1).1 := by omega
        rw [c7]
        refine ⟨fun y6 => q201 small 3 ?_, fun n6 => ⟨fun n7 => ⟨fun l1 => q201 small 0 ?_, fun g1 => ⟨fun g5 => q201 small 0 ?_, fun l5 => q201 small _ ?_⟩⟩, fun y7 => q201 small 3 ?_⟩⟩
        · unfold xut
          rw [if_pos (Or.inl y6)]
          decide
        · unfold xut
          rw [if_neg (by omega), if_neg (by omega)]
          decide
        · unfold xut
          rw [if_neg (by omega), if_neg (by omega)]
          decide
        · unfold xut
          rw [if_neg (by omega), if_pos (by omega)]
          exact c7
        · unfold xut
          rw [if_pos (Or.inr (Classical.not_not.mp y7))]
          decide
      · refine hQ 0 w' (xer (wrd f n (wrd f n p).2.2.1).2.1) ?_ ⟨K7.tr (KNd.fr F' rfl), G7.tr F' rfl, Or.inr ⟨rfl, X'⟩⟩
        unfold xfn xgo
        rw [if_neg ok, if_pos (by omega)]
    rw [c7]
    refine ⟨fun n6 => ⟨fun n7 => num 1 ?_, fun y7 => num 3600 ?_⟩, fun y6 => num 60 ?_⟩
    · unfold xmu
      rw [if_neg n6, if_neg n7]
      decide
    · unfold xmu
      rw [if_neg n6, if_pos (Classical.not_not.mp y7)]
      decide
    · unfold xmu
      rw [if_pos (Classical.not_not.mp y6)]
      decide
  · have ww : ∀ k0 : Int64, q_Rd_readFactor_137 rF rL k0 (w.2.1 87 6) w7 Q := fun k0 => w_137 X7 (fun y w' F' K' X' => hQ y w' (xer (wrd f n (wrd f n p).2.2.1).2.1) (by
      unfold xfn xgo
      rw [if_pos bad]) ⟨(KNd.fr F7 rfl : KNd ns.length w w7).tr K', FR.tr (FR.tr (FR.refl _ w) F7 rfl) F' rfl, Or.inr ⟨rfl, X'⟩⟩)
    exact ⟨fun _ => ⟨fun _ => ww _, fun _ => ww _⟩, fun _ => ww _⟩
/-- a bracket or a minus -/
theorem fo_g {w : MW} {f : Int → Int} {n : Int} {nm : List Nm} {op d : Nat} {p : Int} {ns : List Nod} {z : Int32} {Q : Int32 → MW → Prop} (hF : CFa f n nm d) (hL : CLv f n nm d) (hd : 4 * (21 - op) ≤ d + 1) (ho : op < 20) (h : XS w f n nm op p ns) (kc : (wrd f n p).1 = 40 ∨ (wrd f n p).1 = 45) (hQ : ∀ (y : Int32) (w' : MW) (r : XR), (∃ k, xfo f n (XP f n (lkn nm) k) op p ns r) → XO w w' f n nm op ns.length p r y → Q y w') : q_Rd_readFactor_88 (pn_Rd_readFactor d) (pn_Rd_readLevel d) (w.1 87 3) z w Q := by
  have c3 : (w.1 87 3).toInt = (wrd f n p).1 := h.2.1.1
  have wn := wrd_n (f := f) (n := n) (p := p) (xb_f h.1) h.2.2.2.2.2.2.1 h.2.2.2.2.2.2.2
  have no20 : ¬ 20 ≤ op := by omega
  refine Eq.mpr (q_Rd_readFactor_88.eq_1 _ _ _ _ _ _) (nx_g h.1 h.2.2.2.1 h.2.1.2.2.1 h.2.2.2.2.1 h.2.2.2.2.2.1 (fun ok w7 F7 X7 => ?_) (fun bad w7 F7 X7 => ?_))
  · have s := ti_add2 X7.1.2.2.2.2.2.2.2.1 i_1 (by omega) (by omega)
    have F8 : FR [(87, some 8)] w7 (sI w7 87 8 ((w7.1 87 8) + (1 : Int32))) := FR.I (FR.refl _ w7) rfl
    have X8 : XS (sI w7 87 8 ((w7.1 87 8) + (1 : Int32))) f n nm (op + 1) (wrd f n p).2.2.1 ns := xs_op X7 (by rw [s]; omega) (by omega)
    have G8 : FR lexp w (sI w7 87 8 ((w7.1 87 8) + (1 : Int32))) := FR.tr (FR.tr (FR.refl _ w) F7 rfl) F8 rfl
    have K8 : KNd ns.length w (sI w7 87 8 ((w7.1 87 8) + (1 : Int32))) := (KNd.fr F7 rfl : KNd ns.length w w7).tr (KNd.fr F8 rfl)
    generalize (sI w7 87 8 ((w7.1 87 8) + (1 : Int32))) = w8 at *
    -- open is one less again
    have fg : ∀ (y : Int32) (w1 : MW) (r : XR) (p' : Int) (ns' : List Nod), (∃ k, xfo f n (XP f n (lkn nm) k) op p ns r) → r = (true, 0, y.toInt, p', ns') → FR lexp w w1 → KNd ns.length w w1 → XS w1 f n nm (op + 1) p' ns' → 0 ≤ y.toInt → p ≤ p' → ns.length < ns'.length → Q y (sI w1 87 8 ((w1.1 87 8) - (1 : Int32))) := fun y w1 r p' ns' hk er F1 K1 X1 y0 pp nn => by
      have s1 := ti_sub2 X1.1.2.2.2.2.2.2.2.1 i_1 (by omega) (by omega)
      have F2 : FR [(87, some 8)] w1 (sI w1 87 8 ((w1.1 87 8) - (1 : Int32))) := FR.I (FR.refl _ w1) rfl
      rw [er] at hk
      exact hQ y _ _ hk ⟨K1.tr (KNd.fr F2 rfl), F1.tr F2 rfl, Or.inl ⟨rfl, xs_op X1 (by rw [s1]; omega) (by omega), rfl, y0, pp, nn⟩⟩
    have fw : ∀ (y : Int32) (w1 : MW) (r : XR) (e : Int), (∃ k, xfo f n (XP f n (lkn nm) k) op p ns r) → r.1 = false → r.2.1 = e → FR lexp w w1 → KNd ns.length w w1 → XW w1 f n nm (op + 1) e ns.length → Q y (sI w1 87 8 ((w1.1 87 8) - (1 : Int32))) := fun y w1 r e hk r1 er F1 K1 X1 => by
      have s1 := ti_sub2 X1.1.2.2.2.2.2.2.2.1 i_1 (by omega) (by omega)
      have F2 : FR [(87, some 8)] w1 (sI w1 87 8 ((w1.1 87 8) - (1 : Int32))) := FR.I (FR.refl _ w1) rfl
      exact hQ y _ r hk ⟨K1.tr (KNd.fr F2 rfl), F1.tr F2 rfl, Or.inr ⟨r1, by rw [er]; exact xw_op X1 (by rw [s1]; omega) (by omega)⟩⟩
    refine ⟨fun _ => ⟨fun _ => ⟨fun n45 => hL 1 (op + 1) _ ns w8 _ (by decide) (by omega) (by omega) X8 (fun y w1 r1 hk hx => ?_), fun y45 => hF (op + 1) _ ns w8 _ (by omega) (by omega) X8 (fun y w1 r1 hk hx => ?_)⟩, fun q => ?_⟩, fun q => ?_⟩
    · rw [c3] at n45
      have e40 : (wrd f n p).1 = 40 := by omega
      obtain ⟨k, hk⟩ := hk
      obtain ⟨kn, fr, st⟩ := hx
      have kn0 := K8.tr kn
      have fr0 := G8.tr fr rfl
      rcases st with ⟨g1, X1, ey, y0, pp, nn⟩ | ⟨g1, X1⟩
      · have c1 : (w1.1 87 3).toInt = (wrd f n r1.2.2.2.1).1 := X1.2.1.1
        have wn1 := wrd_n (f := f) (n := n) (p := r1.2.2.2.1) (xb_f h.1) X1.2.2.2.2.2.2.1 X1.2.2.2.2.2.2.2
        refine Eq.mpr (q_Rd_readFactor_284.eq_1 _ _ _ _ _ _) ⟨fun _ => ⟨fun n41 => fl_g X1 (fun w2 F2 X2 => ?_), fun y41 => nx_g X1.1 X1.2.2.2.1 X1.2.1.2.2.1 X1.2.2.2.2.1 X1.2.2.2.2.2.1 (fun ok2 w2 F2 X2 => ?_) (fun bad2 w2 F2 X2 => ?_)⟩, fun q => absurd (fun z => n45 (c3.symm.trans z)) q⟩
        · refine fw y w2 (xer (wrd f n r1.2.2.2.1).2.1) _ ⟨k, ?_⟩ rfl rfl (fr0.tr F2 rfl) (kn0.tr (KNd.fr F2 rfl)) (w_mono X2 (by omega))
          unfold xfo xgo
          rw [if_neg no20, if_neg ok, if_neg n45]
          exact ⟨r1, hk, by rw [if_pos g1, if_neg (by omega)]⟩
        · refine fg y w2 (true, 0, r1.2.2.1, (wrd f n r1.2.2.2.1).2.2.1, r1.2.2.2.2) _ _ ⟨k, ?_⟩ (by rw [ey]) (fr0.tr F2 rfl) (kn0.tr (KNd.fr F2 rfl)) X2 (by omega) (by omega) nn
          unfold xfo xgo
          rw [if_neg no20, if_neg ok, if_neg n45]
          exact ⟨r1, hk, by rw [if_pos g1, if_pos (by omega), if_neg ok2]⟩
        · refine fw y w2 (xer (wrd f n (wrd f n r1.2.2.2.1).2.2.1).2.1) _ ⟨k, ?_⟩ rfl rfl (fr0.tr F2 rfl) (kn0.tr (KNd.fr F2 rfl)) (w_mono X2 (by omega))
          unfold xfo xgo
          rw [if_neg no20, if_neg ok, if_neg n45]
          exact ⟨r1, hk, by rw [if_pos g1, if_pos (by omega), if_pos bad2]⟩
      · have hk0 : ∃ k, xfo f n (XP f n (lkn nm) k) op p ns r1 := ⟨k, by
          unfold xfo xgo
          rw [if_neg no20, if_neg ok, if_neg n45]
          exact ⟨r1, hk, by rw [if_neg (nt g1)]⟩⟩
        exact w_284 X1 (by omega) (fun w2 F2 K2 X2 => hQ y w2 r1 hk0 ⟨kn0.tr K2, fr0.tr F2 rfl, Or.inr ⟨g1, X2⟩⟩)
    · have e45 : (wrd f n p).1 = 45 := by
        have := Classical.not_not.mp y45
        omega
      obtain ⟨k, hk⟩ := hk
      obtain ⟨kn, fr, st⟩ := hx
      have kn0 := K8.tr kn
      have fr0 := G8.tr fr rfl
      rcases st with ⟨g1, X1, ey, y0, pp, nn⟩ | ⟨g1, X1⟩
      · refine Eq.mpr (q_Rd_readFactor_284.eq_1 _ _ _ _ _ _) ⟨fun q => absurd (c3.trans e45) q, fun _ => mk_g (d := (34, 0, 0, [r1.2.2.2.2.length - 1])) X1 (show (34 : Int32).toInt = 34 by decide) i_0 (by show ¬ (34 : Int) = 31; decide) (fun n3 w2 F2 K2 X2 _ _ _ _ _ _ => ?_) (fun n3 w2 F2 K2 X2 => ?_)⟩
        · refine fg y w2 (true, 0, r1.2.2.1, r1.2.2.2.1, r1.2.2.2.2 ++ [(34, 0, 0, [r1.2.2.2.2.length - 1])]) _ _ ⟨k, ?_⟩ (by rw [ey]) (fr0.tr F2 rfl) (kn0.tr (K2.mono (by omega))) X2 (by omega) (by omega) (by rw [List.length_append]; omega)
          unfold xfo xgo
          rw [if_neg no20, if_neg ok, if_pos e45]
          refine ⟨r1, hk, ?_⟩
          rw [if_pos g1]
          unfold xnd
          rw [if_neg n3]
        · refine fw y w2 (xer (wrd f n r1.2.2.2.1).2.1) _ ⟨k, ?_⟩ rfl rfl (fr0.tr F2 rfl) (kn0.tr (K2.mono (by omega))) (w_mono X2 (by omega))
          unfold xfo xgo
          rw [if_neg no20, if_neg ok, if_pos e45]
          refine ⟨r1, hk, ?_⟩
          rw [if_pos g1]
          unfold xnd
          rw [if_pos n3]
      · have hk0 : ∃ k, xfo f n (XP f n (lkn nm) k) op p ns r1 := ⟨k, by
          unfold xfo xgo
          rw [if_neg no20, if_neg ok, if_pos e45]
          exact ⟨r1, hk, by rw [if_neg (nt g1)]⟩⟩
        exact w_284 X1 (by omega) (fun w2 F2 K2 X2 => hQ y w2 r1 hk0 ⟨kn0.tr K2, fr0.tr F2 rfl, Or.inr ⟨g1, X2⟩⟩)
    · have := Classical.not_not.mp q
      omega
    · have := Classical.not_not.mp q
      omega
  · have s := ti_add2 X7.1.2.2.2.2.2.2.2.1 i_1 (by omega) (by omega)
    have F8 : FR [(87, some 8)] w7 (sI w7 87 8 ((w7.1 87 8) + (1 : Int32))) := FR.I (FR.refl _ w7) rfl
    have X8 : XW (sI w7 87 8 ((w7.1 87 8) + (1 : Int32))) f n nm (op + 1) (wrd f n (wrd f n p).2.2.1).2.1 ns.length := xw_op X7 (by rw [s]; omega) (by omega)
    have G8 : FR lexp w (sI w7 87 8 ((w7.1 87 8) + (1 : Int32))) := FR.tr (FR.tr (FR.refl _ w) F7 rfl) F8 rfl
    have K8 : KNd ns.length w (sI w7 87 8 ((w7.1 87 8) + (1 : Int32))) := (KNd.fr F7 rfl : KNd ns.length w w7).tr (KNd.fr F8 rfl)
    have hk0 : ∃ k, xfo f n (XP f n (lkn nm) k) op p ns (xer (wrd f n (wrd f n p).2.2.1).2.1) := ⟨0, by
      unfold xfo xgo
      rw [if_neg no20, if_pos bad]⟩
    have fin : ∀ y : Int32, q_Rd_readFactor_284 (pn_Rd_readFactor d) (pn_Rd_readLevel d) (w.1 87 3) y (sI w7 87 8 ((w7.1 87 8) + (1 : Int32))) Q := fun y => w_284 X8 (by omega) (fun w2 F2 K2 X2 => hQ y w2 _ hk0 ⟨K8.tr K2, G8.tr F2 rfl, Or.inr ⟨rfl, X2⟩⟩)
    refine ⟨fun _ => ⟨fun _ => ⟨fun n45 => ?_, fun y45 => ?_⟩, fun q => ?_⟩, fun q => ?_⟩
    · rw [show d = (d - 3) + 1 + 2 by omega]
      rw [show d = (d - 3) + 1 + 2 by omega] at fin
      exact w_lev X8 1 1 (d - 3) _ (by decide) fin
    · rw [show d = (d - 1) + 1 by omega]
      rw [show d = (d - 1) + 1 by omega] at fin
      exact w_fac X8 fin
    · have := Classical.not_not.mp q
      omega
    · have := Classical.not_not.mp q
      omega
theorem fac_c {f : Int → Int} {n : Int} {nm : List Nm} {d : Nat} (hF : CFa f n nm d) (hL : CLv f n nm d) : CFa f n nm (d + 1) := by
  intro op p ns w Q ho hd h hQ
  have hw := h.2.2.2.1
  have c3 : (w.1 87 3).toInt = (wrd f n p).1 := h.2.1.1
  have hop : (w.1 87 8).toInt = (op : Int) := h.1.2.2.2.2.2.2.2.1
  have wn := wrd_n (f := f) (n := n) (p := p) (xb_f h.1) h.2.2.2.2.2.2.1 h.2.2.2.2.2.2.2
  have mkr : ∀ (k : Nat) (r : XR), xfa f n (lkn nm) (XP f n (lkn nm) k) op p ns r → ∃ k, XP f n (lkn nm) k 3 op 0 p ns r := fun k r hr => ⟨k + 1, by
    rw [XP_u, if_pos rfl]
    exact hr⟩
  have bad : xfa f n (lkn nm) (XP f n (lkn nm) 0) op p ns (xer (wrd f n p).2.1) → p_Rd_fail w (fun w5 => Q 0 w5) := fun hx => fl_g h (fun w' F' X' => hQ 0 w' _ (mkr 0 _ hx) ⟨KNd.fr F' rfl, FR.tr (FR.refl _ w) F' rfl, Or.inr ⟨rfl, X'⟩⟩)
  have no : ∀ Q' : Int32 → MW → Prop, Q' 0 w → p_Pr_hasValues108 w (-1) Q' := fun Q' q => Eq.mpr (p_Pr_hasValues108.eq_1 _ _ _) ⟨fun _ => q, fun z => absurd (by decide) z⟩
  have nw : ¬ 0 ≤ (w.1 87 9).toInt := by omega
  rw [pe_Rd_readFactor]
  refine Eq.mpr (pb_Rd_readFactor.eq_1 _ _ _ _) ⟨fun n30 => ?_, fun y30 => ⟨h.1.2.2.1, ?_⟩⟩
  · rw [c3] at n30
    have k53 : ∀ x : Int32, (¬ x.toInt = 0 → ((wrd f n p).1 = 40 ∨ (wrd f n p).1 = 45) ∧ op < 20) → (x.toInt = 0 → (((wrd f n p).1 = 40 ∨ (wrd f n p).1 = 45) → 20 ≤ op)) → q_Rd_readFactor_53 (pn_Rd_readFactor d) (pn_Rd_readLevel d) (w.1 87 3) (-1) x w Q := fun x h1 h0 => by
      refine Eq.mpr (q_Rd_readFactor_53.eq_1 _ _ _ _ _ _ _) ⟨fun q => absurd q nw, fun _ => ⟨fun y31 => ?_, fun n31 => ⟨fun xn => ?_, fun xz => ⟨h.1.2.2.1, no _ ⟨fun q => absurd i_0 q, fun _ => bad ?_⟩⟩⟩⟩⟩
      · have k31 := c3.symm.trans y31
        refine fn_g h k31 (fun y w' r hk hx => hQ y w' r (mkr 0 r ?_) hx)
        unfold xfa
        rw [if_pos k31]
        exact hk
      · have kc := h1 xn
        rw [c3] at n31
        refine fo_g hF hL hd kc.2 h kc.1 (fun y w' r hk hx => ?_)
        obtain ⟨k, hk⟩ := hk
        refine hQ y w' r (mkr k r ?_) hx
        unfold xfa
        rw [if_neg n31, if_pos kc.1]
        exact hk
      · rw [c3] at n31
        have kz := h0 (Classical.not_not.mp xz)
        unfold xfa
        rw [if_neg n31]
        by_cases kc : (wrd f n p).1 = 40 ∨ (wrd f n p).1 = 45
        · rw [if_pos kc]
          unfold xfo
          rw [if_pos (kz kc)]
        · rw [if_neg kc, if_neg (fun z => n30 z.1)]
    refine Eq.mpr (q_Rd_readFactor_26.eq_1 _ _ _ _ _ _) ⟨fun y40 => ⟨fun o => k53 0 (fun q => absurd i_0 q) (fun _ _ => by omega), fun o => k53 1 (fun _ => ⟨Or.inl (by omega), by omega⟩) (fun q => absurd q i1n)⟩, fun n40 => ⟨fun n45 => k53 0 (fun q => absurd i_0 q) (fun _ kc => by omega), fun y45 => ⟨fun o => k53 0 (fun q => absurd i_0 q) (fun _ _ => by omega), fun o => k53 1 (fun _ => ⟨Or.inr (by have := Classical.not_not.mp y45; omega), by omega⟩) (fun q => absurd q i1n)⟩⟩⟩
  · have k30 : (wrd f n p).1 = 30 := by
      have := Classical.not_not.mp y30
      omega
    have wl := wrd_l (f := f) (n := n) (p := p) (by omega)
    have NM := h.1.2.2.2.2.2.2.1
    have i26 : ∀ x : Int32, q_Rd_readFactor_53 (pn_Rd_readFactor d) (pn_Rd_readLevel d) (w.1 87 3) x 0 w Q → q_Rd_readFactor_26 (pn_Rd_readFactor d) (pn_Rd_readLevel d) (w.1 87 3) x w Q := fun x k => Eq.mpr (q_Rd_readFactor_26.eq_1 _ _ _ _ _ _) ⟨fun z => by omega, fun _ => ⟨fun _ => k, fun z => by have := Classical.not_not.mp z; omega⟩⟩
    have fl : (¬ ((wrd f n p).1 = 30 ∧ 0 ≤ (lkn nm (wrd f n p).2.2.2.1).1 ∧ ¬ (lkn nm (wrd f n p).2.2.2.1).2.1 = 10)) → p_Rd_fail w (fun w5 => Q 0 w5) := fun z => bad (by
      unfold xfa
      rw [if_neg (by omega), if_neg (by omega), if_neg z])
    refine fd_x NM (h.2.1.2.2.2.1 (by omega)) wl.1 wl.2 (fun z => i26 _ ?_) (fun j x hx el => i26 _ ?_)
    · exact Eq.mpr (q_Rd_readFactor_53.eq_1 _ _ _ _ _ _ _) ⟨fun q => absurd q nw, fun _ => ⟨fun q => by omega, fun _ => ⟨fun q => absurd i_0 q, fun _ => ⟨h.1.2.2.1, no _ ⟨fun q => absurd i_0 q, fun _ => fl (fun q => by have := q.2.1; omega)⟩⟩⟩⟩⟩
    · have n4 := NM.2.1
      have jl : j < nm.length := (List.getElem?_eq_some_iff.mp hx).1
      have tj : (nI j).toInt = (j : Int) := nI_toInt (by omega)
      have tn : (nI j).toInt.toNat = j := by omega
      have t := NM.2.2 j x hx
      refine Eq.mpr (q_Rd_readFactor_53.eq_1 _ _ _ _ _ _ _) ⟨fun q => absurd q nw, fun _ => ⟨fun q => by omega, fun _ => ⟨fun q => absurd i_0 q, fun _ => ⟨h.1.2.2.1, Eq.mpr (p_Pr_hasValues108.eq_1 _ _ _) ⟨fun q => by omega, fun _ => ⟨fun q => by have := NM.1; omega, fun _ => ⟨by omega, ?_⟩⟩⟩⟩⟩⟩⟩
      rw [tn]
      refine ⟨fun st => ⟨fun q => absurd i_0 q, fun _ => fl (fun q => ?_)⟩, fun ns10 => ⟨fun _ => ?_, fun q => absurd i1n q⟩⟩
      · have q2 := q.2.2
        rw [el] at q2
        exact q2 (t.2.1.symm.trans st)
      · have good : (wrd f n p).1 = 30 ∧ 0 ≤ (lkn nm (wrd f n p).2.2.2.1).1 ∧ ¬ (lkn nm (wrd f n p).2.2.2.1).2.1 = 10 := ⟨k30, by rw [el]; show 0 ≤ (j : Int); omega, by rw [el]; exact fun z => ns10 (t.2.1.trans z)⟩
        have eu : (lkn nm (wrd f n p).2.2.2.1).2.2.1 = x.2.2.1 := by rw [el]
        have ei : (lkn nm (wrd f n p).2.2.2.1).1 = (j : Int) := by rw [el]
        refine Eq.mpr (q_Rd_readFactor_88.eq_1 _ _ _ _ _ _) (nx_g h.1 hw h.2.1.2.2.1 h.2.2.2.2.1 h.2.2.2.2.2.1 (fun ok w7 F7 X7 => ⟨fun _ => ⟨fun q => by omega, fun _ => ?_⟩, fun q => by have := Classical.not_not.mp q; omega⟩) (fun bd w7 F7 X7 => ⟨fun _ => ⟨fun q => by omega, fun _ => ?_⟩, fun q => by have := Classical.not_not.mp q; omega⟩))
        · refine mk_g (d := (30, (j : Int), 0, [])) X7 (show (30 : Int32).toInt = 30 by decide) tj (by show ¬ (30 : Int) = 31; decide) (fun n3 w2 F2 K2 X2 _ _ _ _ _ _ => ⟨X2.1.2.2.1, by omega, ?_⟩) (fun n3 w2 F2 K2 X2 => ⟨X2.1.2.2.1, by omega, ?_⟩)
          · rw [tn]
            have t2 := X2.1.2.2.2.2.2.2.1.2.2 j x hx
            refine hQ _ w2 (true, 0, x.2.2.1, (wrd f n p).2.2.1, ns ++ [(30, (j : Int), 0, [])]) (mkr 0 _ ?_) ⟨(KNd.fr F7 rfl : KNd ns.length w w7).tr K2, FR.tr (FR.tr (FR.refl _ w) F7 rfl) F2 rfl, Or.inl ⟨rfl, X2, t2.2.2.1, t2.2.2.2.2.2.2, wn.1, ?_⟩⟩
            · unfold xfa xgo
              rw [if_neg (by omega), if_neg (by omega), if_pos good, if_neg ok]
              unfold xnd
              rw [if_neg n3, eu, ei]
            · show ns.length < (ns ++ [(30, (j : Int), 0, [])]).length
              rw [List.length_append, List.length_singleton]
              omega
          · refine hQ _ w2 (xer (wrd f n (wrd f n p).2.2.1).2.1) (mkr 0 _ ?_) ⟨(KNd.fr F7 rfl : KNd ns.length w w7).tr K2, FR.tr (FR.tr (FR.refl _ w) F7 rfl) F2 rfl, Or.inr ⟨rfl, X2⟩⟩
            unfold xfa xgo
            rw [if_neg (by omega), if_neg (by omega), if_pos good, if_neg ok]
            unfold xnd
            rw [if_pos n3]
        · refine mk_w X7 (fun r w2 F2 K2 _ _ _ X2 => ⟨X2.1.2.2.1, by omega, ?_⟩)
          refine hQ _ w2 (xer (wrd f n (wrd f n p).2.2.1).2.1) (mkr 0 _ ?_) ⟨(KNd.fr F7 rfl : KNd ns.length w w7).tr K2, FR.tr (FR.tr (FR.refl _ w) F7 rfl) F2 rfl, Or.inr ⟨rfl, X2⟩⟩
          unfold xfa xgo
          rw [if_neg (by omega), if_neg (by omega), if_pos good, if_pos bd]
theorem exp_c (f : Int → Int) (n : Int) (nm : List Nm) : ∀ d, CFa f n nm d ∧ CLv f n nm d := by
  intro d
  induction d with
  | zero => exact ⟨fun op p ns w Q ho hd _ _ => by omega, fun m op p ns w Q hm ho hd _ _ => by omega⟩
  | succ d ih => exact ⟨fac_c ih.1 ih.2, lev_c ih.1 ih.2⟩
