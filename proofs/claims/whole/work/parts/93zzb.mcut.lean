/-! the reference cuts a text into words -/
def MT (w : MW) (f : Int → Int) (n : Int) : Prop := ∀ p : Nat, (p : Int) < n → (w.1 148 p).toInt = f p
def WC (w : MW) (f : Int → Int) (n : Int) (W : Nat) : Prop := (w.1 147 4).toInt = (W : Int) ∧ W ≤ 4000 ∧ ∀ j : Nat, j < W → (w.1 149 j).toInt = wat f n j ∧ (w.1 150 j).toInt = wnd f n j ∧ wat f n j < n
theorem i1n : ¬ (1 : Int32).toInt = 0 := by decide
theorem sg_x {w : MW} {c : Int32} {Q : Int32 → MW → Prop} (h1 : mrk c.toInt = true → Q 1 w) (h0 : mrk c.toInt = false → Q 0 w) : p_Mr_isSign w c Q :=
  Eq.mpr (p_Mr_isSign.eq_1 _ _ _) ⟨fun d => h1 (mrk_t (Or.inl d)), fun d => ⟨fun d2 => h1 (mrk_t (Or.inr (Or.inl d2))), fun d2 => ⟨fun d3 => h0 (mrk_f d d2 d3), fun d3 => h1 (mrk_t (Or.inr (Or.inr (Classical.not_not.mp d3))))⟩⟩⟩
theorem mq_53 {w : MW} {f : Int → Int} {n T : Int} {b : Int32} {E : Int32 → MW → Prop} {Q : MW → Prop} (hs : (w.1 147 1).toInt = n) (n4 : n ≤ 4000) (hM : MT w f n) (hb : mrk b.toInt = false) (hE : ∀ x : Int32, x.toInt = T → E x w) (m : Nat) : ∀ x : Int32, 0 ≤ x.toInt → x.toInt ≤ n → rnw f n 4001 x.toInt = T → (n - x.toInt).toNat < m → q_Mr_cut_53 b E Q m x w := by
  induction m with
  | zero => intros; omega
  | succ m ih =>
    intro x x0 x1 hT hm
    rw [q_Mr_cut_53.eq_2]
    refine sg_x (fun z => absurd (hb.symm.trans z) (by decide)) (fun _ => ⟨fun z => absurd i_0 z, fun _ => ⟨fun c => hE x ?_, fun c => ?_⟩⟩)
    · rw [hs] at c
      rw [rnw_n 4001 (fun z => by have := z.1; omega)] at hT
      exact hT
    · rw [hs] at c
      have ev := hM x.toInt.toNat (by omega)
      rw [show ((x.toInt.toNat : Nat) : Int) = x.toInt by omega] at ev
      have bx : 0 ≤ x.toInt ∧ x.toInt < 4020 := by omega
      rw [ev]
      refine ⟨bx, fun d => hE x ?_, fun d => ⟨bx, fun d2 => hE x ?_, fun d2 => ⟨bx, sg_x (fun q => ⟨fun _ => hE x ?_, fun z => absurd i1n z⟩) (fun q => ⟨fun z => absurd i_0 z, fun _ => ?_⟩)⟩⟩⟩
      · rw [rnw_n 4001 (fun z => by rw [blk_t (Or.inl d)] at z; exact absurd z.2.1 (by decide))] at hT
        exact hT
      · rw [rnw_n 4001 (fun z => by rw [blk_t (Or.inr d2)] at z; exact absurd z.2.1 (by decide))] at hT
        exact hT
      · rw [ev] at q
        rw [rnw_n 4001 (fun z => by rw [q] at z; exact absurd z.2.2 (by decide))] at hT
        exact hT
      · rw [ev] at q
        have s := ti_add2 (Eq.refl x.toInt) i_1 (by omega) (by omega)
        refine ih _ (by omega) (by omega) ?_ (by omega)
        rw [s, ← rnw_1 (by omega) ⟨by omega, blk_f d d2, q⟩]
        exact hT
theorem mq_53s {w : MW} {b : Int32} {E : Int32 → MW → Prop} {Q : MW → Prop} (hb : mrk b.toInt = true) {x : Int32} (hE : E x w) (m : Nat) (hm : 0 < m) : q_Mr_cut_53 b E Q m x w := by
  cases m with
  | zero => omega
  | succ m =>
    rw [q_Mr_cut_53.eq_2]
    exact sg_x (fun _ => ⟨fun _ => hE, fun z => absurd i1n z⟩) (fun z => absurd (z.symm.trans hb) (by decide))
theorem mq_in {w : MW} {f : Int → Int} {n : Int} {b x : Int32} {E : Int32 → MW → Prop} {Q : MW → Prop} (hs : (w.1 147 1).toInt = n) (x0 : 0 ≤ x.toInt) (hx : x.toInt < n) (n4 : n ≤ 4000) (hM : MT w f n) (hb : b.toInt = f x.toInt) (nb : blk (f x.toInt) = false) (hE : ∀ y : Int32, y.toInt = wen f n x.toInt → E y w) : q_Mr_cut_53 b E Q FU (x + (1 : Int32)) w := by
  have s := ti_add2 (Eq.refl x.toInt) i_1 (by omega) (by omega)
  by_cases q : mrk (f x.toInt) = true
  · have er : rnw f n 4001 x.toInt = x.toInt := rnw_n 4001 (fun z => by rw [q] at z; exact absurd z.2.2 (by decide))
    have ew : wen f n x.toInt = x.toInt + 1 := by unfold wen; rw [if_pos ⟨er, hx⟩]
    exact mq_53s (by rw [hb]; exact q) (hE _ (by rw [s, ew])) FU (fu_lt (by decide))
  · have q' : mrk (f x.toInt) = false := by
      cases e : mrk (f x.toInt) with
      | true => exact absurd e q
      | false => rfl
    have er : rnw f n 4001 x.toInt = rnw f n 4001 (x.toInt + 1) := rnw_1 (by omega) ⟨hx, nb, q'⟩
    have b := rnw_b f n 4001 (x.toInt + 1)
    have ew : wen f n x.toInt = rnw f n 4001 (x.toInt + 1) := by
      unfold wen
      rw [if_neg (fun z => by have := z.1; omega)]
      exact er
    exact mq_53 (T := rnw f n 4001 (x.toInt + 1)) hs n4 hM (by rw [hb]; exact q') (fun y hy => hE y (by rw [hy, ew])) FU _ (by omega) (by omega) (by rw [s]) (Nat.lt_of_le_of_lt (show _ ≤ 4000 by omega) (fu_lt (by decide)))
def lct : Pl := [(147, some 4), (149, none), (150, none)]
theorem mq_7 {w0 : MW} {f : Int → Int} {n : Int} {E Q : MW → Prop} (n0 : 0 ≤ n) (n4 : n ≤ 4000) (hs : (w0.1 147 1).toInt = n) (hM : MT w0 f n) (hE : ∀ w' W, FR lct w0 w' → WC w' f n W → wat f n W = n → E w') (m : Nat) : ∀ (W : Nat) (x : Int32) (w : MW), FR lct w0 w → WC w f n W → 0 ≤ x.toInt → x.toInt ≤ n → skp f n 4001 x.toInt = wat f n W → (n - x.toInt).toNat < m → q_Mr_cut_7 E Q m x w := by
  induction m with
  | zero => intros; omega
  | succ m ih =>
    intro W x w hF hW x0 x1 hT hm
    have es : (w.1 147 1).toInt = n := by rw [(hF 147 1 rfl).1]; exact hs
    have hMw : MT w f n := fun p hp => by rw [(hF 148 p rfl).1]; exact hM p hp
    rw [q_Mr_cut_7.eq_2]
    refine ⟨fun c => ?_, fun c => ?_⟩
    · rw [es] at c
      rw [skp_n 4001 (fun z => by have := z.1; omega)] at hT
      exact hE w W hF hW (by omega)
    rw [es] at c
    have ev := hMw x.toInt.toNat (by omega)
    rw [show ((x.toInt.toNat : Nat) : Int) = x.toInt by omega] at ev
    have s := ti_add2 (Eq.refl x.toInt) i_1 (by omega) (by omega)
    have blank : blk (f x.toInt) = true → q_Mr_cut_7 E Q m (x + (1 : Int32)) w := fun d => by
      refine ih W _ w hF hW (by omega) (by omega) ?_ (by omega)
      rw [s, ← skp_1 (by omega) ⟨by omega, d⟩]
      exact hT
    rw [ev]
    refine ⟨⟨x0, by omega⟩, fun d => blank (blk_t (Or.inl d)), fun d => ⟨fun d2 => ?_, fun d2 => blank (blk_t (Or.inr (Classical.not_not.mp d2)))⟩⟩
    have nb := blk_f d d2
    have hx : wat f n W = x.toInt := by
      rw [skp_n 4001 (fun z => by rw [nb] at z; exact absurd z.2 (by decide))] at hT
      exact hT.symm
    have iw := wat_i (f := f) n0 W (by omega)
    have bW : 0 ≤ (w.1 147 4).toInt ∧ (w.1 147 4).toInt < 4021 := by rw [hW.1]; omega
    have eW : (w.1 147 4).toInt.toNat = W := by rw [hW.1]; omega
    refine ⟨bW, ?_⟩
    rw [eW]
    have F1 : FR lct w0 (sI w 149 W x) := FR.I hF rfl
    refine mq_in (f := f) (n := n) ?_ x0 (by omega) n4 ?_ ev nb (fun y hy => ?_)
    · rw [sI_oth _ _ _ _ _ _ (by decide)]
      exact es
    · exact fun p hp => by rw [sI_oth _ _ _ _ _ _ (by decide)]; exact hMw p hp
    have e4 : (sI w 149 W x).1 147 4 = w.1 147 4 := sI_oth _ _ _ _ _ _ (by decide)
    show (0 ≤ ((sI w 149 W x).1 147 4).toInt ∧ ((sI w 149 W x).1 147 4).toInt < 4021) ∧ _
    rw [e4, eW]
    have s4 := ti_add2 hW.1 i_1 (by omega) (by omega)
    have wb := wat_s (f := f) n0 W
    have w4 := wb.2.2.2 (by omega)
    have hy' : y.toInt = wnd f n W := by rw [hy, ← hx]; rfl
    refine ⟨bW, ih (W + 1) y _ (FR.I (FR.I F1 rfl) rfl) ⟨by rw [sI_same, s4]; omega, by omega, fun j hj => ?_⟩ (by omega) (by omega) (by rw [hy']; rfl) (by omega)⟩
    by_cases q : j = W
    · rw [q]
      refine ⟨?_, ?_, ?_⟩
      · rw [sI_oth _ _ _ _ _ _ (by decide), sI_oth _ _ _ _ _ _ (by decide), sI_same]
        exact hx.symm
      · rw [sI_oth _ _ _ _ _ _ (by decide), sI_same]
        exact hy'
      · omega
    · have t := hW.2.2 j (by omega)
      refine ⟨?_, ?_, t.2.2⟩
      · rw [sI_oth _ _ _ _ _ _ (by decide), sI_oth _ _ _ _ _ _ (by decide), sI_ne _ _ _ _ _ q]
        exact t.1
      · rw [sI_oth _ _ _ _ _ _ (by decide), sI_ne _ _ _ _ _ q, sI_oth _ _ _ _ _ _ (by decide)]
        exact t.2.1
theorem mq_cut {w : MW} {f : Int → Int} {n : Int} {Q : MW → Prop} (n0 : 0 ≤ n) (n4 : n ≤ 4000) (hs : (w.1 147 1).toInt = n) (hM : MT w f n) (hQ : ∀ w' W, FR lct w w' → WC w' f n W → wat f n W = n → Q w') : p_Mr_cut w Q := by
  refine Eq.mpr (p_Mr_cut.eq_1 _ _) ?_
  have F0 : FR lct w (sI w 147 4 0) := FR.I (FR.refl _ w) rfl
  exact mq_7 (w0 := w) n0 n4 hs hM hQ FU 0 0 _ F0 ⟨by rw [sI_same]; exact i_0, Nat.zero_le _, fun j hj => absurd hj (Nat.not_lt_zero j)⟩ (by decide) (by rw [i_0]; exact n0) (by rw [i_0]; rfl) (Nat.lt_of_le_of_lt (show _ ≤ 4000 by rw [i_0]; omega) (fu_lt (by decide)))
