/-! the reference reads sums and tests: the loops -/
theorem lvo_1 {c : Int} : lvo c = 1 ↔ c = 43 ∨ c = 45 := by
  unfold lvo
  by_cases a : c = 60 ∨ c = 61 ∨ c = 62
  · rw [if_pos a]
    omega
  · rw [if_neg a]
    by_cases b : c = 43 ∨ c = 45
    · rw [if_pos b]
      omega
    · rw [if_neg b]
      by_cases d : c = 42 ∨ c = 47
      · rw [if_pos d]
        omega
      · rw [if_neg d]
        omega
theorem lvo_2 {c : Int} : lvo c = 2 ↔ c = 42 ∨ c = 47 := by
  unfold lvo
  by_cases a : c = 60 ∨ c = 61 ∨ c = 62
  · rw [if_pos a]
    omega
  · rw [if_neg a]
    by_cases b : c = 43 ∨ c = 45
    · rw [if_pos b]
      omega
    · rw [if_neg b]
      by_cases d : c = 42 ∨ c = 47
      · rw [if_pos d]
        omega
      · rw [if_neg d]
        omega
theorem lvo_0 {c : Int} : lvo c = 0 ↔ c = 60 ∨ c = 61 ∨ c = 62 := by
  unfold lvo
  by_cases a : c = 60 ∨ c = 61 ∨ c = 62
  · rw [if_pos a]
    omega
  · rw [if_neg a]
    by_cases b : c = 43 ∨ c = 45
    · rw [if_pos b]
      omega
    · rw [if_neg b]
      by_cases d : c = 42 ∨ c = 47
      · rw [if_pos d]
        omega
      · rw [if_neg d]
        omega
theorem wht_op {c : Int} (h : c = 43 ∨ c = 45 ∨ c = 42 ∨ c = 47 ∨ c = 60 ∨ c = 61 ∨ c = 62) : 2 ≤ wht c ∧ wht c ≤ 9 ∧ ¬ c = 31 := by
  rcases h with h | h | h | h | h | h | h <;> (rw [h]; decide)
theorem xun_s {c x y : Int} (h : c = 43 ∨ c = 45 ∨ c = 60 ∨ c = 61 ∨ c = 62) : xun c x y = if x = y then x else -1 := by
  unfold xun
  rw [if_neg (by omega), if_neg (by omega)]
theorem xun_42 {x y : Int} : xun 42 x y = if x = 0 then y else if y = 0 then x else -1 := rfl
theorem xun_47 {x y : Int} : xun 47 x y = if y = 0 then x else if x = y then 0 else -1 := rfl
/-- a read level: how it is told -/
def HYm (P : MW → (Int32 → MW → Prop) → Prop) (m op : Nat) (f : Int → Int) (n : Int) (nm : List Nm) : Prop := ∀ (e p : Int) (ns : List Nod) (w : MW) (Q : Int32 → MW → Prop), YS w f n nm op e p ns → (∀ (y : Int32) (w' : MW) (r : XR), (∃ k, XP f n (lkn nm) k m op 0 p ns r) → YO w w' f n nm op e ns.length p r y → Q y w') → P w Q
theorem y_sum5 {F P S : MW → (Int32 → MW → Prop) → Prop} {w0 : MW} {f : Int → Int} {n : Int} {nm : List Nm} {op : Nat} {e p0 : Int} {N : Nat} {Q : Int32 → MW → Prop} (he : 0 ≤ e) (hP : HYm P 2 op f n nm) (m : Nat) : ∀ (x : Int32) (p u : Int) (ns : List Nod) (w : MW), YS w f n nm op (e + 1) p ns → x.toInt + 1 = (ns.length : Int) → (w.1 134 (nb w x.toInt)).toInt = u → 0 ≤ u → KX w0 w → p0 ≤ p → N < ns.length → (∀ (y : Int32) (w' : MW) (r : XR), (∃ k, XP f n (lkn nm) k 5 op u p ns r) → YO w0 w' f n nm op e N p0 r y → Q y w') → 300 - ns.length < m → q_Tx_sum_5 F P S (fun (e5 : Int32) (w22 : MW) => (Q e5 w22)) Q m x w := by
  induction m with
  | zero => intros; omega
  | succ m ih =>
    intro x p u ns w h hx hu u0 K pp nN hQ hm
    have l3 := ys_len h
    have tk := y_tk h
    have tA := tk_sign (f := f) (n := n) (p := p) (c := 43) h.2.2.1 (by decide) (by decide)
    have tB := tk_sign (f := f) (n := n) (p := p) (c := 45) h.2.2.1 (by decide) (by decide)
    have lv := @lvo_1 (wrd f n p).1
    have done : ¬ lvo (wrd f n p).1 = 1 → Q x w := fun no => hQ x w (true, 0, u, p, ns) ⟨1, by
      rw [XP_5]
      unfold xlo
      rw [if_neg no, if_neg (by decide)]⟩ (Or.inl ⟨rfl, h, hx, hu, u0, K, pp, nN⟩)
    rw [q_Tx_sum_5.eq_2, tk]
    have main : lvo (wrd f n p).1 = 1 → q_Tx_sum_27 F P S x w (fun (x5_1 : Int32) (w : MW) => q_Tx_sum_5 F P S (fun (e5 : Int32) (w22 : MW) => (Q e5 w22)) Q m x5_1 w) (fun (e5 : Int32) (w22 : MW) => (Q e5 w22)) Q := fun yes => by
      have up : ∀ (r r2 : XR) (k : Nat), ¬ (wrd f n (wrd f n p).2.2.1).1 = 33 → XP f n (lkn nm) k 2 op 0 (wrd f n p).2.2.1 ns r2 → (if r2.1 = true then (if xun (wrd f n p).1 u r2.2.2.1 < 0 then r = xer (wrd f n p).2.1 else if r2.2.2.2.2.length = 300 then r = xer (wrd f n r2.2.2.2.1).2.1 else XP f n (lkn nm) k 5 op (xun (wrd f n p).1 u r2.2.2.1) r2.2.2.2.1 (r2.2.2.2.2 ++ [((wrd f n p).1, 0, 0, [ns.length - 1, r2.2.2.2.2.length - 1])]) r) else r = r2) → ∃ k, XP f n (lkn nm) k 5 op u p ns r := fun r r2 k ok a b => ⟨k + 1, by
        rw [XP_5]
        unfold xlo xgo
        rw [if_pos yes, if_neg ok]
        refine ⟨r2, a, ?_⟩
        rw [show (if (1 : Nat) = 0 then (r = (true, 0, xun (wrd f n p).1 u r2.2.2.1, r2.2.2.2.1, r2.2.2.2.2 ++ [((wrd f n p).1, 0, 0, [ns.length - 1, r2.2.2.2.2.length - 1])])) else XP f n (lkn nm) k (1 + 4) op (xun (wrd f n p).1 u r2.2.2.1) r2.2.2.2.1 (r2.2.2.2.2 ++ [((wrd f n p).1, 0, 0, [ns.length - 1, r2.2.2.2.2.length - 1])]) r) = XP f n (lkn nm) k (1 + 4) op (xun (wrd f n p).1 u r2.2.2.1) r2.2.2.2.1 (r2.2.2.2.2 ++ [((wrd f n p).1, 0, 0, [ns.length - 1, r2.2.2.2.2.length - 1])]) r from if_neg (by decide)]
        exact b⟩
      have two : ∀ (kk y U : Int32) (w2 : MW) (r2 : XR) (k2 : Nat), kk.toInt = wht (wrd f n p).1 → ¬ (wrd f n (wrd f n p).2.2.1).1 = 33 → XP f n (lkn nm) k2 2 op 0 (wrd f n p).2.2.1 ns r2 → r2.1 = true → YS w2 f n nm op (e + 1 + 1) r2.2.2.2.1 r2.2.2.2.2 → y.toInt + 1 = (r2.2.2.2.2.length : Int) → KX w w2 → p ≤ r2.2.2.2.1 → ns.length < r2.2.2.2.2.length → U.toInt = xun (wrd f n p).1 u r2.2.2.1 → 0 ≤ U.toInt → U.toInt ≤ 5 → p_Tx_two w2 kk x y U (fun r12 w12 => q_Tx_sum_5 F P S (fun (e5 : Int32) (w22 : MW) => (Q e5 w22)) Q m r12 w12) := fun kk y U w2 r2 k2 ek ok hr2 g2 Y2 y2 K2 p2 n2 eU U0 U1 => by
        have l2 := ys_len Y2
        refine y_two (c := (wrd f n p).1) (A := ns.length - 1) (B := r2.2.2.2.2.length - 1) Y2 he ek (wht_op (by have := lv.mp yes; omega)) (by omega) (by omega) (by omega) (by omega) (by omega) U1 (fun n3 w' e' => ?_) (fun n3 r w' er Y' K' eu => ?_)
        · cases m with
          | zero => omega
          | succ m =>
            rw [q_Tx_sum_5.eq_2]
            refine ⟨fun _ => hQ (-1) w' (xer (wrd f n r2.2.2.2.1).2.1) (up _ r2 k2 ok hr2 ?_) (yo_bad e'), fun z => absurd (show (-1 : Int32).toInt < 0 by decide) z⟩
            rw [if_pos g2, if_neg (by omega), if_pos n3]
        · refine ih r r2.2.2.2.1 U.toInt (r2.2.2.2.2 ++ [((wrd f n p).1, 0, 0, [ns.length - 1, r2.2.2.2.2.length - 1])]) w' Y' ?_ ?_ U0 ((K.tr K2).tr K') (by omega) ?_ (fun y' w'' r' hr' o' => ?_) ?_
          · rw [List.length_append, List.length_singleton]
            omega
          · rw [er, eu]
          · rw [List.length_append, List.length_singleton]
            omega
          · obtain ⟨k', hr'⟩ := hr'
            refine hQ y' w'' r' (up r' r2 (k2 + k') ok (XP_le (Nat.le_add_right _ _) _ _ _ _ _ _ hr2) ?_) o'
            rw [if_pos g2, if_neg (by omega), if_neg n3, ← eU]
            exact XP_le (Nat.le_add_left _ _) _ _ _ _ _ _ hr'
          · rw [List.length_append, List.length_singleton]
            omega
      have sg : ∀ (w9 : MW) (r2 : XR) (k2 : Nat), ¬ (wrd f n (wrd f n p).2.2.1).1 = 33 → XP f n (lkn nm) k2 2 op 0 (wrd f n p).2.2.1 ns r2 → r2.1 = true → xun (wrd f n p).1 u r2.2.2.1 < 0 → Q (-1) (sI w9 129 10 (w.1 129 5)) := fun w9 r2 k2 ok hr2 g2 neg => hQ (-1) _ (xer (wrd f n p).2.1) (up _ r2 k2 ok hr2 (by rw [if_pos g2, if_pos neg])) (yo_bad (y_bg h rfl w9))
      have G : ∀ kk : Int32, kk.toInt = wht (wrd f n p).1 → p_Tx_go w (fun r5 w5 => ((r5.toInt = 0 → (q_Tx_sum_62 F P S x kk (w.1 129 5) (-1) w5 (fun (x5_1 : Int32) (w : MW) => q_Tx_sum_5 F P S (fun (e5 : Int32) (w22 : MW) => (Q e5 w22)) Q m x5_1 w) (fun (e5 : Int32) (w22 : MW) => (Q e5 w22)) Q)) ∧ (¬ (r5.toInt = 0) → (P w5 (fun r13 w13 => (q_Tx_sum_62 F P S x kk (w.1 129 5) r13 w13 (fun (x5_1 : Int32) (w : MW) => q_Tx_sum_5 F P S (fun (e5 : Int32) (w22 : MW) => (Q e5 w22)) Q m x5_1 w) (fun (e5 : Int32) (w22 : MW) => (Q e5 w22)) Q)))))) := fun kk ek => by
        refine y_go h (fun ok w5 F5 Y5 K5 pn => ⟨fun z => absurd z i1n, fun _ => hP (e + 1) _ ns w5 _ Y5 (fun y w2 r2 hr2 o2 => ?_)⟩) (fun bad w5 e5 => ⟨fun _ => Eq.mpr (q_Tx_sum_62.eq_1 _ _ _ _ _ _ _ _ _ _ _) ⟨fun z => absurd z (by decide), fun _ => hQ (-1) w5 (xer (wrd f n (wrd f n p).2.2.1).2.1) ⟨1, by
          rw [XP_5]
          unfold xlo xgo
          rw [if_pos yes, if_pos bad]⟩ (yo_bad e5)⟩, fun z => absurd i_0 z⟩)
        obtain ⟨k2, hr2⟩ := hr2
        refine Eq.mpr (q_Tx_sum_62.eq_1 _ _ _ _ _ _ _ _ _ _ _) ?_
        rcases o2 with ⟨g2, Y2, y2, u2, u20, K2, p2, n2⟩ | ⟨g2, y2, e2⟩
        · have K52 := K5.tr K2
          have l2 := ys_len Y2
          have ux := kx_unit h K52 (by omega) (by omega) hu
          have bx := bd_134 Y2.1.1.1 (nb w2 x.toInt)
          have by2 := bd_134 Y2.1.1.1 (nb w2 y.toInt)
          have xs : xun (wrd f n p).1 u r2.2.2.1 = if u = r2.2.2.1 then u else -1 := xun_s (by have := lv.mp yes; omega)
          refine ⟨fun _ => y_unit Y2.1.1.1 (by omega) (by omega) (y_unit Y2.1.1.1 (by omega) (by omega) ⟨fun eq => y_unit Y2.1.1.1 (by omega) (by omega) (two kk y _ w2 r2 k2 ek ok hr2 g2 Y2 y2 K52 (by omega) n2 ?_ ?_ bx.2), fun ne => sg w2 r2 k2 ok hr2 g2 ?_⟩), fun z => absurd (show 0 ≤ y.toInt by omega) z⟩
          · rw [xs, if_pos (by omega)]
            exact ux
          · rw [ux]
            exact u0
          · rw [xs, if_neg (fun q => ne (by rw [ux, u2]; exact q))]
            decide
        · refine ⟨fun z => absurd z (by omega), fun _ => hQ (-1) w2 r2 (up r2 r2 k2 ok hr2 ?_) (Or.inr ⟨g2, by decide, e2⟩)⟩
          rw [if_neg (by rw [g2]; decide)]
      refine Eq.mpr (q_Tx_sum_27.eq_1 _ _ _ _ _ _ _ _) ?_
      rw [tk]
      refine ⟨fun z => G 3 ?_, fun z => G 2 ?_⟩
      · have e2 : (wrd f n p).1 = 45 := by
          have a := lv.mp yes
          have b := tA.mpr
          omega
        rw [e2]
        decide
      · rw [tA.mp (Classical.not_not.mp z)]
        decide
    refine ⟨fun z => absurd z (by omega), fun _ => ⟨fun z => main (lv.mpr (Or.inl (tA.mp z))), fun z => ⟨fun z2 => done (fun q => ?_), fun z2 => main (lv.mpr (Or.inr (tB.mp (Classical.not_not.mp z2))))⟩⟩⟩
    rcases lv.mp q with a | a
    · exact z (tA.mpr a)
    · exact z2 (tB.mpr a)
theorem y_product5 {F P S : MW → (Int32 → MW → Prop) → Prop} {w0 : MW} {f : Int → Int} {n : Int} {nm : List Nm} {op : Nat} {e p0 : Int} {N : Nat} {Q : Int32 → MW → Prop} (he : 0 ≤ e) (hP : HYm F 3 op f n nm) (m : Nat) : ∀ (x : Int32) (p u : Int) (ns : List Nod) (w : MW), YS w f n nm op (e + 1) p ns → x.toInt + 1 = (ns.length : Int) → (w.1 134 (nb w x.toInt)).toInt = u → 0 ≤ u → KX w0 w → p0 ≤ p → N < ns.length → (∀ (y : Int32) (w' : MW) (r : XR), (∃ k, XP f n (lkn nm) k 6 op u p ns r) → YO w0 w' f n nm op e N p0 r y → Q y w') → 300 - ns.length < m → q_Tx_product_5 F P S (fun (e5 : Int32) (w22 : MW) => (Q e5 w22)) Q m x w := by
  induction m with
  | zero => intros; omega
  | succ m ih =>
    intro x p u ns w h hx hu u0 K pp nN hQ hm
    have l3 := ys_len h
    have tk := y_tk h
    have tA := tk_sign (f := f) (n := n) (p := p) (c := 42) h.2.2.1 (by decide) (by decide)
    have tB := tk_sign (f := f) (n := n) (p := p) (c := 47) h.2.2.1 (by decide) (by decide)
    have lv := @lvo_2 (wrd f n p).1
    have done : ¬ lvo (wrd f n p).1 = 2 → Q x w := fun no => hQ x w (true, 0, u, p, ns) ⟨1, by
      rw [XP_6]
      unfold xlo
      rw [if_neg no, if_neg (by decide)]⟩ (Or.inl ⟨rfl, h, hx, hu, u0, K, pp, nN⟩)
    rw [q_Tx_product_5.eq_2, tk]
    have main : lvo (wrd f n p).1 = 2 → q_Tx_product_27 F P S x w (fun (x5_1 : Int32) (w : MW) => q_Tx_product_5 F P S (fun (e5 : Int32) (w22 : MW) => (Q e5 w22)) Q m x5_1 w) (fun (e5 : Int32) (w22 : MW) => (Q e5 w22)) Q := fun yes => by
      have up : ∀ (r r2 : XR) (k : Nat), ¬ (wrd f n (wrd f n p).2.2.1).1 = 33 → XP f n (lkn nm) k 3 op 0 (wrd f n p).2.2.1 ns r2 → (if r2.1 = true then (if xun (wrd f n p).1 u r2.2.2.1 < 0 then r = xer (wrd f n p).2.1 else if r2.2.2.2.2.length = 300 then r = xer (wrd f n r2.2.2.2.1).2.1 else XP f n (lkn nm) k 6 op (xun (wrd f n p).1 u r2.2.2.1) r2.2.2.2.1 (r2.2.2.2.2 ++ [((wrd f n p).1, 0, 0, [ns.length - 1, r2.2.2.2.2.length - 1])]) r) else r = r2) → ∃ k, XP f n (lkn nm) k 6 op u p ns r := fun r r2 k ok a b => ⟨k + 1, by
        rw [XP_6]
        unfold xlo xgo
        rw [if_pos yes, if_neg ok]
        refine ⟨r2, a, ?_⟩
        rw [show (if (2 : Nat) = 0 then (r = (true, 0, xun (wrd f n p).1 u r2.2.2.1, r2.2.2.2.1, r2.2.2.2.2 ++ [((wrd f n p).1, 0, 0, [ns.length - 1, r2.2.2.2.2.length - 1])])) else XP f n (lkn nm) k (2 + 4) op (xun (wrd f n p).1 u r2.2.2.1) r2.2.2.2.1 (r2.2.2.2.2 ++ [((wrd f n p).1, 0, 0, [ns.length - 1, r2.2.2.2.2.length - 1])]) r) = XP f n (lkn nm) k (2 + 4) op (xun (wrd f n p).1 u r2.2.2.1) r2.2.2.2.1 (r2.2.2.2.2 ++ [((wrd f n p).1, 0, 0, [ns.length - 1, r2.2.2.2.2.length - 1])]) r from if_neg (by decide)]
        exact b⟩
      have two : ∀ (kk y U : Int32) (w2 : MW) (r2 : XR) (k2 : Nat), kk.toInt = wht (wrd f n p).1 → ¬ (wrd f n (wrd f n p).2.2.1).1 = 33 → XP f n (lkn nm) k2 3 op 0 (wrd f n p).2.2.1 ns r2 → r2.1 = true → YS w2 f n nm op (e + 1 + 1) r2.2.2.2.1 r2.2.2.2.2 → y.toInt + 1 = (r2.2.2.2.2.length : Int) → KX w w2 → p ≤ r2.2.2.2.1 → ns.length < r2.2.2.2.2.length → U.toInt = xun (wrd f n p).1 u r2.2.2.1 → 0 ≤ U.toInt → U.toInt ≤ 5 → p_Tx_two w2 kk x y U (fun r12 w12 => q_Tx_product_5 F P S (fun (e5 : Int32) (w22 : MW) => (Q e5 w22)) Q m r12 w12) := fun kk y U w2 r2 k2 ek ok hr2 g2 Y2 y2 K2 p2 n2 eU U0 U1 => by
        have l2 := ys_len Y2
        refine y_two (c := (wrd f n p).1) (A := ns.length - 1) (B := r2.2.2.2.2.length - 1) Y2 he ek (wht_op (by have := lv.mp yes; omega)) (by omega) (by omega) (by omega) (by omega) (by omega) U1 (fun n3 w' e' => ?_) (fun n3 r w' er Y' K' eu => ?_)
        · cases m with
          | zero => omega
          | succ m =>
            rw [q_Tx_product_5.eq_2]
            refine ⟨fun _ => hQ (-1) w' (xer (wrd f n r2.2.2.2.1).2.1) (up _ r2 k2 ok hr2 ?_) (yo_bad e'), fun z => absurd (show (-1 : Int32).toInt < 0 by decide) z⟩
            rw [if_pos g2, if_neg (by omega), if_pos n3]
        · refine ih r r2.2.2.2.1 U.toInt (r2.2.2.2.2 ++ [((wrd f n p).1, 0, 0, [ns.length - 1, r2.2.2.2.2.length - 1])]) w' Y' ?_ ?_ U0 ((K.tr K2).tr K') (by omega) ?_ (fun y' w'' r' hr' o' => ?_) ?_
          · rw [List.length_append, List.length_singleton]
            omega
          · rw [er, eu]
          · rw [List.length_append, List.length_singleton]
            omega
          · obtain ⟨k', hr'⟩ := hr'
            refine hQ y' w'' r' (up r' r2 (k2 + k') ok (XP_le (Nat.le_add_right _ _) _ _ _ _ _ _ hr2) ?_) o'
            rw [if_pos g2, if_neg (by omega), if_neg n3, ← eU]
            exact XP_le (Nat.le_add_left _ _) _ _ _ _ _ _ hr'
          · rw [List.length_append, List.length_singleton]
            omega
      have sg : ∀ (w9 : MW) (r2 : XR) (k2 : Nat), ¬ (wrd f n (wrd f n p).2.2.1).1 = 33 → XP f n (lkn nm) k2 3 op 0 (wrd f n p).2.2.1 ns r2 → r2.1 = true → xun (wrd f n p).1 u r2.2.2.1 < 0 → Q (-1) (sI w9 129 10 (w.1 129 5)) := fun w9 r2 k2 ok hr2 g2 neg => hQ (-1) _ (xer (wrd f n p).2.1) (up _ r2 k2 ok hr2 (by rw [if_pos g2, if_pos neg])) (yo_bad (y_bg h rfl w9))
      have G : ∀ kk : Int32, kk.toInt = wht (wrd f n p).1 → p_Tx_go w (fun r5 w5 => ((r5.toInt = 0 → (q_Tx_product_62 F P S x kk (w.1 129 5) (-1) w5 (fun (x5_1 : Int32) (w : MW) => q_Tx_product_5 F P S (fun (e5 : Int32) (w22 : MW) => (Q e5 w22)) Q m x5_1 w) (fun (e5 : Int32) (w22 : MW) => (Q e5 w22)) Q)) ∧ (¬ (r5.toInt = 0) → (F w5 (fun r13 w13 => (q_Tx_product_62 F P S x kk (w.1 129 5) r13 w13 (fun (x5_1 : Int32) (w : MW) => q_Tx_product_5 F P S (fun (e5 : Int32) (w22 : MW) => (Q e5 w22)) Q m x5_1 w) (fun (e5 : Int32) (w22 : MW) => (Q e5 w22)) Q)))))) := fun kk ek => by
        refine y_go h (fun ok w5 F5 Y5 K5 pn => ⟨fun z => absurd z i1n, fun _ => hP (e + 1) _ ns w5 _ Y5 (fun y w2 r2 hr2 o2 => ?_)⟩) (fun bad w5 e5 => ⟨fun _ => Eq.mpr (q_Tx_product_62.eq_1 _ _ _ _ _ _ _ _ _ _ _) ⟨fun z => absurd z (by decide), fun _ => hQ (-1) w5 (xer (wrd f n (wrd f n p).2.2.1).2.1) ⟨1, by
          rw [XP_6]
          unfold xlo xgo
          rw [if_pos yes, if_pos bad]⟩ (yo_bad e5)⟩, fun z => absurd i_0 z⟩)
        obtain ⟨k2, hr2⟩ := hr2
        refine Eq.mpr (q_Tx_product_62.eq_1 _ _ _ _ _ _ _ _ _ _ _) ?_
        rcases o2 with ⟨g2, Y2, y2, u2, u20, K2, p2, n2⟩ | ⟨g2, y2, e2⟩
        · have K52 := K5.tr K2
          have l2 := ys_len Y2
          have ux := kx_unit h K52 (by omega) (by omega) hu
          have bx := bd_134 Y2.1.1.1 (nb w2 x.toInt)
          have by2 := bd_134 Y2.1.1.1 (nb w2 y.toInt)
          have K137 : ∀ U : Int32, U.toInt = xun (wrd f n p).1 u r2.2.2.1 → U.toInt ≤ 5 → -1 ≤ U.toInt → q_Tx_product_137 F P S x kk (w.1 129 5) y U w2 (fun (x5_1 : Int32) (w : MW) => q_Tx_product_5 F P S (fun (e5 : Int32) (w22 : MW) => (Q e5 w22)) Q m x5_1 w) (fun (e5 : Int32) (w22 : MW) => (Q e5 w22)) Q := fun U eU U1 U0 => Eq.mpr (q_Tx_product_137.eq_1 _ _ _ _ _ _ _ _ _ _ _ _) ⟨fun z => two kk y U w2 r2 k2 ek ok hr2 g2 Y2 y2 K52 (by omega) n2 eU (by omega) U1, fun z => sg w2 r2 k2 ok hr2 g2 (by have := Classical.not_not.mp z; omega)⟩
          refine ⟨fun _ => y_unit Y2.1.1.1 (by omega) (by omega) (y_unit Y2.1.1.1 (by omega) (by omega) ?_), fun z => absurd (show 0 ≤ y.toInt by omega) z⟩
          have a := lv.mp yes
          refine ⟨fun n4 => ?_, fun y4 => ?_⟩
          · have e47 : (wrd f n p).1 = 47 := by
              rcases a with a | a
              · rw [a] at ek
                exact absurd (ek.trans (by decide)) n4
              · exact a
            have xs : xun (wrd f n p).1 u r2.2.2.1 = if r2.2.2.1 = 0 then u else if u = r2.2.2.1 then 0 else -1 := by rw [e47]; exact xun_47
            refine ⟨fun ny => ⟨fun ne => K137 (-1) ?_ (by decide) (by decide), fun eq => K137 0 ?_ (by decide) (by decide)⟩, fun y0 => K137 _ ?_ bx.2 bx.1⟩
            · rw [xs, if_neg (by omega), if_neg (by omega)]
              decide
            · rw [xs, if_neg (by omega), if_pos (by omega)]
              decide
            · rw [xs, if_pos (by omega)]
              exact ux
          · have e42 : (wrd f n p).1 = 42 := by
              rcases a with a | a
              · exact a
              · rw [a] at ek
                have t := Classical.not_not.mp y4
                rw [ek] at t
                exact absurd t (by decide)
            have xs : xun (wrd f n p).1 u r2.2.2.1 = if u = 0 then r2.2.2.1 else if r2.2.2.1 = 0 then u else -1 := by rw [e42]; exact xun_42
            refine ⟨fun nx => ⟨fun ny => K137 (-1) ?_ (by decide) (by decide), fun y0 => K137 _ ?_ bx.2 bx.1⟩, fun x0 => K137 _ ?_ by2.2 by2.1⟩
            · rw [xs, if_neg (by omega), if_neg (by omega)]
              decide
            · rw [xs, if_neg (by omega), if_pos (by omega)]
              exact ux
            · rw [xs, if_pos (by omega)]
              exact u2
        · refine ⟨fun z => absurd z (by omega), fun _ => hQ (-1) w2 r2 (up r2 r2 k2 ok hr2 ?_) (Or.inr ⟨g2, by decide, e2⟩)⟩
          rw [if_neg (by rw [g2]; decide)]
      refine Eq.mpr (q_Tx_product_27.eq_1 _ _ _ _ _ _ _ _) ?_
      rw [tk]
      refine ⟨fun z => G 5 ?_, fun z => G 4 ?_⟩
      · have e2 : (wrd f n p).1 = 47 := by
          have a := lv.mp yes
          have b := tA.mpr
          omega
        rw [e2]
        decide
      · rw [tA.mp (Classical.not_not.mp z)]
        decide
    refine ⟨fun z => absurd z (by omega), fun _ => ⟨fun z => main (lv.mpr (Or.inl (tA.mp z))), fun z => ⟨fun z2 => done (fun q => ?_), fun z2 => main (lv.mpr (Or.inr (tB.mp (Classical.not_not.mp z2))))⟩⟩⟩
    rcases lv.mp q with a | a
    · exact z (tA.mpr a)
    · exact z2 (tB.mpr a)
theorem n_sum5 {F P S : MW → (Int32 → MW → Prop) → Prop} {E Q : Int32 → MW → Prop} {x : Int32} {w : MW} (hx : x.toInt < 0) (h : E x w) (m : Nat) (hm : 0 < m) : q_Tx_sum_5 F P S E Q m x w := by
  cases m with
  | zero => omega
  | succ m =>
    rw [q_Tx_sum_5.eq_2]
    exact ⟨fun _ => h, fun z => absurd hx z⟩
theorem n_product5 {F P S : MW → (Int32 → MW → Prop) → Prop} {E Q : Int32 → MW → Prop} {x : Int32} {w : MW} (hx : x.toInt < 0) (h : E x w) (m : Nat) (hm : 0 < m) : q_Tx_product_5 F P S E Q m x w := by
  cases m with
  | zero => omega
  | succ m =>
    rw [q_Tx_product_5.eq_2]
    exact ⟨fun _ => h, fun z => absurd hx z⟩
theorem y_lproduct {f : Int → Int} {n : Int} {nm : List Nm} {d : Nat} (hP : CYm pn_Tx_factor 3 0 f n nm d) : CYm pn_Tx_product 2 1 f n nm (d + 1) := by
  intro op e p ns w Q ho hd h hQ
  have hH : HYm (pn_Tx_factor d) 3 op f n nm := fun e p ns w Q h hQ => hP op e p ns w Q ho (by omega) h hQ
  have fu : (1000 : Nat) < FU := fu_lt (by decide)
  rw [pe_Tx_product]
  refine Eq.mpr (pb_Tx_product.eq_1 _ _ _ _ _) (hH e p ns w _ h (fun y w1 r1 hr1 o1 => ?_))
  obtain ⟨k1, hr1⟩ := hr1
  rcases o1 with ⟨g1, Y1, y1, u1, u0, K1, p1, n1⟩ | ⟨g1, y1, e1⟩
  · refine y_product5 h.1.1.2.1 hH FU y r1.2.2.2.1 r1.2.2.1 r1.2.2.2.2 w1 Y1 y1 u1 u0 K1 p1 n1 (fun y' w' r hr o => ?_) (by omega)
    obtain ⟨k2, hr⟩ := hr
    refine hQ y' w' r ⟨k1 + k2 + 1, ?_⟩ o
    rw [XP_2]
    refine ⟨r1, XP_le (Nat.le_add_right _ _) _ _ _ _ _ _ hr1, ?_⟩
    rw [if_pos g1]
    exact XP_le (Nat.le_add_left _ _) _ _ _ _ _ _ hr
  · refine n_product5 y1 (hQ y w1 r1 ⟨k1 + 1, ?_⟩ (Or.inr ⟨g1, y1, e1⟩)) FU (by omega)
    rw [XP_2]
    refine ⟨r1, hr1, ?_⟩
    rw [if_neg (by rw [g1]; decide)]
theorem y_lsum {f : Int → Int} {n : Int} {nm : List Nm} {d : Nat} (hP : CYm pn_Tx_product 2 1 f n nm d) : CYm pn_Tx_sum 1 2 f n nm (d + 1) := by
  intro op e p ns w Q ho hd h hQ
  have hH : HYm (pn_Tx_product d) 2 op f n nm := fun e p ns w Q h hQ => hP op e p ns w Q ho (by omega) h hQ
  have fu : (1000 : Nat) < FU := fu_lt (by decide)
  rw [pe_Tx_sum]
  refine Eq.mpr (pb_Tx_sum.eq_1 _ _ _ _ _) (hH e p ns w _ h (fun y w1 r1 hr1 o1 => ?_))
  obtain ⟨k1, hr1⟩ := hr1
  rcases o1 with ⟨g1, Y1, y1, u1, u0, K1, p1, n1⟩ | ⟨g1, y1, e1⟩
  · refine y_sum5 h.1.1.2.1 hH FU y r1.2.2.2.1 r1.2.2.1 r1.2.2.2.2 w1 Y1 y1 u1 u0 K1 p1 n1 (fun y' w' r hr o => ?_) (by omega)
    obtain ⟨k2, hr⟩ := hr
    refine hQ y' w' r ⟨k1 + k2 + 1, ?_⟩ o
    rw [XP_1]
    refine ⟨r1, XP_le (Nat.le_add_right _ _) _ _ _ _ _ _ hr1, ?_⟩
    rw [if_pos g1]
    exact XP_le (Nat.le_add_left _ _) _ _ _ _ _ _ hr
  · refine n_sum5 y1 (hQ y w1 r1 ⟨k1 + 1, ?_⟩ (Or.inr ⟨g1, y1, e1⟩)) FU (by omega)
    rw [XP_1]
    refine ⟨r1, hr1, ?_⟩
    rw [if_neg (by rw [g1]; decide)]
theorem y_fps (f : Int → Int) (n : Int) (nm : List Nm) : ∀ d, CYm pn_Tx_factor 3 0 f n nm d ∧ CYm pn_Tx_product 2 1 f n nm d ∧ CYm pn_Tx_sum 1 2 f n nm d := by
  intro d
  induction d with
  | zero => exact ⟨fun _ _ _ _ _ _ _ h => by omega, fun _ _ _ _ _ _ _ h => by omega, fun _ _ _ _ _ _ _ h => by omega⟩
  | succ d ih => exact ⟨y_fac ih.1 ih.2.2, y_lproduct ih.1, y_lsum ih.2.1⟩
/-- THE REFERENCE READS A SUM exactly -/
theorem y_sum {w : MW} {f : Int → Int} {n : Int} {nm : List Nm} {op : Nat} {e p : Int} {ns : List Nod} {Q : Int32 → MW → Prop} (h : YS w f n nm op e p ns) (hQ : ∀ (y : Int32) (w' : MW) (r : XR), (∃ k, XP f n (lkn nm) k 1 op 0 p ns r) → YO w w' f n nm op e ns.length p r y → Q y w') : p_Tx_sum w Q := by
  have b := bd_129_11 h.1.1.1
  have o := h.1.2.2.2
  exact (y_fps f n nm 400).2.2 op e p ns w Q (by omega) (by omega) h hQ
/-- what a test leaves -/
def YT (w w' : MW) (f : Int → Int) (n : Int) (nm : List Nm) (op : Nat) (e : Int) (N : Nat) (p : Int) (r : XR) (y : Int32) : Prop := (r.1 = true ∧ YS w' f n nm op (e + 1) r.2.2.2.1 r.2.2.2.2 ∧ y.toInt + 1 = (r.2.2.2.2.length : Int) ∧ KX w w' ∧ p ≤ r.2.2.2.1 ∧ N < r.2.2.2.2.length) ∨ (r.1 = false ∧ y.toInt < 0 ∧ (w'.1 129 10).toInt = r.2.1)
theorem yt_bad {w w' : MW} {f : Int → Int} {n : Int} {nm : List Nm} {op : Nat} {e : Int} {N : Nat} {p q : Int} (h : (w'.1 129 10).toInt = q) : YT w w' f n nm op e N p (xer q) (-1) := Or.inr ⟨rfl, by decide, h⟩
/-- THE REFERENCE READS A TEST exactly -/
theorem y_test {w : MW} {f : Int → Int} {n : Int} {nm : List Nm} {op : Nat} {e p : Int} {ns : List Nod} {Q : Int32 → MW → Prop} (h : YS w f n nm op e p ns) (hQ : ∀ (y : Int32) (w' : MW) (r : XR), (∃ k, XP f n (lkn nm) k 0 op 0 p ns r) → YT w w' f n nm op e ns.length p r y → Q y w') : p_Tx_test w Q := by
  refine Eq.mpr (p_Tx_test.eq_1 _ _) (y_sum h (fun x w1 r1 hr1 o1 => ?_))
  obtain ⟨k1, hr1⟩ := hr1
  rcases o1 with ⟨g1, Y1, x1, u1, u0, K1, p1, n1⟩ | ⟨g1, y1, e1⟩
  · refine ⟨fun _ => ?_, fun z => absurd (show 0 ≤ x.toInt by omega) z⟩
    have tk := y_tk Y1
    have l1 := ys_len Y1
    have he := h.1.1.2.1
    have t60 := tk_sign (f := f) (n := n) (p := r1.2.2.2.1) (c := 60) Y1.2.2.1 (by decide) (by decide)
    have t61 := tk_sign (f := f) (n := n) (p := r1.2.2.2.1) (c := 61) Y1.2.2.1 (by decide) (by decide)
    have t62 := tk_sign (f := f) (n := n) (p := r1.2.2.2.1) (c := 62) Y1.2.2.1 (by decide) (by decide)
    have lv := @lvo_0 (wrd f n r1.2.2.2.1).1
    have out : ∀ (r : XR) (k : Nat), XP f n (lkn nm) k 4 op r1.2.2.1 r1.2.2.2.1 r1.2.2.2.2 r → ∃ k, XP f n (lkn nm) k 0 op 0 p ns r := fun r k hr => ⟨k1 + k + 1, by
      rw [XP_0]
      refine ⟨r1, XP_le (Nat.le_add_right _ _) _ _ _ _ _ _ hr1, ?_⟩
      rw [if_pos g1]
      exact XP_le (Nat.le_add_left _ _) _ _ _ _ _ _ hr⟩
    have main : lvo (wrd f n r1.2.2.2.1).1 = 0 → q_Tx_test_43 x w1 Q := fun yes => by
      have xs : ∀ r2 : XR, xun (wrd f n r1.2.2.2.1).1 r1.2.2.1 r2.2.2.1 = if r1.2.2.1 = r2.2.2.1 then r1.2.2.1 else -1 := fun r2 => xun_s (by have := lv.mp yes; omega)
      have up : ∀ (r r2 : XR) (k : Nat), ¬ (wrd f n (wrd f n r1.2.2.2.1).2.2.1).1 = 33 → XP f n (lkn nm) k 1 op 0 (wrd f n r1.2.2.2.1).2.2.1 r1.2.2.2.2 r2 → (if r2.1 = true then (if xun (wrd f n r1.2.2.2.1).1 r1.2.2.1 r2.2.2.1 < 0 then r = xer (wrd f n r1.2.2.2.1).2.1 else if r2.2.2.2.2.length = 300 then r = xer (wrd f n r2.2.2.2.1).2.1 else r = (true, 0, xun (wrd f n r1.2.2.2.1).1 r1.2.2.1 r2.2.2.1, r2.2.2.2.1, r2.2.2.2.2 ++ [((wrd f n r1.2.2.2.1).1, 0, 0, [r1.2.2.2.2.length - 1, r2.2.2.2.2.length - 1])])) else r = r2) → ∃ k, XP f n (lkn nm) k 0 op 0 p ns r := fun r r2 k ok a b => out r (k + 1) (by
        rw [XP_4]
        unfold xlo xgo
        rw [if_pos yes, if_neg ok]
        refine ⟨r2, a, ?_⟩
        exact b)
      have G : ∀ kk : Int32, kk.toInt = wht (wrd f n r1.2.2.2.1).1 → p_Tx_go w1 (fun r6 w6 => ((r6.toInt = 0 → (q_Tx_test_94 x kk (w1.1 129 5) (-1) w6 Q)) ∧ (¬ (r6.toInt = 0) → (p_Tx_sum w6 (fun r13 w13 => (q_Tx_test_94 x kk (w1.1 129 5) r13 w13 Q)))))) := fun kk ek => by
        refine y_go Y1 (fun ok w5 F5 Y5 K5 pn => ⟨fun z => absurd z i1n, fun _ => y_sum Y5 (fun y w2 r2 hr2 o2 => ?_)⟩) (fun bad w5 e5 => ⟨fun _ => Eq.mpr (q_Tx_test_94.eq_1 _ _ _ _ _ _) ⟨fun z => absurd z (by decide), fun _ => hQ (-1) w5 (xer (wrd f n (wrd f n r1.2.2.2.1).2.2.1).2.1) (out _ 1 (by
          rw [XP_4]
          unfold xlo xgo
          rw [if_pos yes, if_pos bad])) (yt_bad e5)⟩, fun z => absurd i_0 z⟩)
        obtain ⟨k2, hr2⟩ := hr2
        refine Eq.mpr (q_Tx_test_94.eq_1 _ _ _ _ _ _) ?_
        rcases o2 with ⟨g2, Y2, y2, u2, u20, K2, p2, n2⟩ | ⟨g2, y2, e2⟩
        · have K52 := K5.tr K2
          have l2 := ys_len Y2
          have ux := kx_unit Y1 K52 (by omega) (by omega) u1
          refine ⟨fun _ => y_unit Y2.1.1.1 (by omega) (by omega) (y_unit Y2.1.1.1 (by omega) (by omega) ⟨fun eq => y_two (c := (wrd f n r1.2.2.2.1).1) (A := r1.2.2.2.2.length - 1) (B := r2.2.2.2.2.length - 1) Y2 he ek (wht_op (by have := lv.mp yes; omega)) (by omega) (by omega) (by omega) (by omega) (by decide) (by decide) (fun n3 w' e' => hQ (-1) w' (xer (wrd f n r2.2.2.2.1).2.1) (up _ r2 k2 ok hr2 ?_) (yt_bad e')) (fun n3 r w' er Y' K' eu => hQ r w' (true, 0, xun (wrd f n r1.2.2.2.1).1 r1.2.2.1 r2.2.2.1, r2.2.2.2.1, r2.2.2.2.2 ++ [((wrd f n r1.2.2.2.1).1, 0, 0, [r1.2.2.2.2.length - 1, r2.2.2.2.2.length - 1])]) (up _ r2 k2 ok hr2 ?_) (Or.inl ⟨rfl, Y', ?_, (K1.tr K52).tr K', ?_, ?_⟩)), fun ne => hQ (-1) _ (xer (wrd f n r1.2.2.2.1).2.1) (up _ r2 k2 ok hr2 ?_) (yt_bad (y_bg Y1 rfl w2))⟩), fun z => absurd (show 0 ≤ y.toInt by omega) z⟩
          · rw [if_pos g2, xs, if_pos (show r1.2.2.1 = r2.2.2.1 by omega), if_neg (by omega), if_pos n3]
          · rw [if_pos g2, xs, if_pos (show r1.2.2.1 = r2.2.2.1 by omega), if_neg (by omega), if_neg n3]
          · show r.toInt + 1 = ((r2.2.2.2.2 ++ [((wrd f n r1.2.2.2.1).1, 0, 0, [r1.2.2.2.2.length - 1, r2.2.2.2.2.length - 1])]).length : Int)
            rw [List.length_append, List.length_singleton]
            omega
          · show p ≤ r2.2.2.2.1
            omega
          · show ns.length < (r2.2.2.2.2 ++ [((wrd f n r1.2.2.2.1).1, 0, 0, [r1.2.2.2.2.length - 1, r2.2.2.2.2.length - 1])]).length
            rw [List.length_append, List.length_singleton]
            omega
          · rw [if_pos g2, xs, if_neg (show ¬ r1.2.2.1 = r2.2.2.1 from fun q => ne (by rw [ux, u2]; exact q)), if_pos (show (-1 : Int) < 0 by decide)]
        · refine ⟨fun z => absurd z (by omega), fun _ => hQ (-1) w2 r2 (up r2 r2 k2 ok hr2 ?_) (Or.inr ⟨g2, by decide, e2⟩)⟩
          rw [if_neg (by rw [g2]; decide)]
      refine Eq.mpr (q_Tx_test_43.eq_1 _ _ _) ?_
      rw [tk]
      refine ⟨fun z => ⟨fun z2 => G 9 ?_, fun z2 => G 8 ?_⟩, fun z => G 7 ?_⟩
      · have e2 : (wrd f n r1.2.2.2.1).1 = 62 := by
          have a := lv.mp yes
          have b := t60.mpr
          have c := t61.mpr
          omega
        rw [e2]
        decide
      · rw [t61.mp (Classical.not_not.mp z2)]
        decide
      · rw [t60.mp (Classical.not_not.mp z)]
        decide
    rw [tk]
    refine ⟨fun z => main (lv.mpr (Or.inl (t60.mp z))), fun z => ⟨fun z2 => main (lv.mpr (Or.inr (Or.inl (t61.mp z2)))), fun z2 => ⟨fun z3 => main (lv.mpr (Or.inr (Or.inr (t62.mp z3)))), fun z3 => y_bad Y1 (fun w' e' => hQ (-1) w' (xer (wrd f n r1.2.2.2.1).2.1) (out _ 1 ?_) (yt_bad e'))⟩⟩⟩
    rw [XP_4]
    unfold xlo
    rw [if_neg (fun q => ?_), if_pos rfl]
    rcases lv.mp q with a | a | a
    · exact z (t60.mpr a)
    · exact z2 (t61.mpr a)
    · exact z3 (t62.mpr a)
  · refine ⟨fun z => absurd z (by omega), fun _ => hQ (-1) w1 r1 ⟨k1 + 1, ?_⟩ (Or.inr ⟨g1, by decide, e1⟩)⟩
    rw [XP_0]
    refine ⟨r1, hr1, ?_⟩
    rw [if_neg (by rw [g1]; decide)]
