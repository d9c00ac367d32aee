/-! the reference looks at its word -/
def TXW (f : Int → Int) (n : Int) (W : Nat) : Prop := 0 ≤ n ∧ n ≤ 4000 ∧ wat f n W = n
def MS (w : MW) (f : Int → Int) (n : Int) (W i : Nat) : Prop := MT w f n ∧ WC w f n W ∧ (w.1 147 5).toInt = (i : Int) ∧ i ≤ W
theorem wat_e {f : Int → Int} {n : Int} {W : Nat} (n0 : 0 ≤ n) (h : wat f n W = n) : ∀ d : Nat, wat f n (W + d) = n ∧ wnd f n (W + d) = n := by
  intro d
  induction d with
  | zero =>
    have s := wat_s (f := f) n0 W
    exact ⟨h, by show wnd f n W = n; omega⟩
  | succ d ih =>
    have s := wat_s (f := f) n0 (W + d)
    have b := wat_b (f := f) n0 (W + d + 1)
    have s2 := wat_s (f := f) n0 (W + d + 1)
    have e1 : wat f n (W + d + 1) = n := by omega
    exact ⟨e1, by show wnd f n (W + d + 1) = n; omega⟩
/-- a word that is wide is one of the words -/
theorem lt_W {f : Int → Int} {n : Int} {W i : Nat} (hT : TXW f n W) (h : 0 < wnd f n i - wat f n i) : i < W := by
  by_cases q : W ≤ i
  · have e := wat_e hT.1 hT.2.2 (i - W)
    rw [show W + (i - W) = i by omega] at e
    omega
  · omega
def atv (f : Int → Int) (n : Int) (i : Nat) (a : Int) : Int := if wat f n i + a < wnd f n i then f (wat f n i + a) else 0
theorem mat {w : MW} {f : Int → Int} {n : Int} {W i : Nat} {a : Int32} {A : Int} {Q : Int32 → MW → Prop} (hT : TXW f n W) (h : MS w f n W i) (ha : a.toInt = A) (a0 : 0 ≤ A) (a1 : A ≤ 10000) (hQ : ∀ r : Int32, r.toInt = atv f n i A → Q r w) : p_Mr_at w a Q := by
  have e5 := h.2.2.1
  have e4 := h.2.1.1
  refine Eq.mpr (p_Mr_at.eq_1 _ _ _) ⟨fun c => ?_, fun c => ?_⟩
  · rw [e4, e5] at c
    refine Eq.mpr (q_Mr_at_28.eq_1 _ _ _) ⟨fun _ => hQ 0 ?_, fun z => ?_⟩
    · have e := wat_e hT.1 hT.2.2 (i - W)
      rw [show W + (i - W) = i by omega] at e
      unfold atv
      rw [if_neg (by omega)]
      exact i_0
    · rw [e4, e5] at z
      omega
  · rw [e4, e5] at c
    have iW : i < W := by omega
    have q := h.2.1.2.2 i iW
    have W4 := h.2.1.2.1
    have n4 := hT.2.1
    have ei : (w.1 147 5).toInt.toNat = i := by rw [e5]; omega
    have b5 : 0 ≤ (w.1 147 5).toInt ∧ (w.1 147 5).toInt < 4021 := by rw [e5]; omega
    have wb := wat_b (f := f) hT.1 i
    have ws := wat_s (f := f) hT.1 i
    rw [ei]
    have s := ti_add2 q.1 ha (by omega) (by omega)
    refine ⟨b5, Eq.mpr (q_Mr_at_28.eq_1 _ _ _) ⟨fun z => ?_, fun _ => ⟨b5, ?_⟩⟩⟩
    · rw [e4, e5] at z
      omega
    · rw [ei, q.2.1, s]
      refine ⟨fun d => hQ 0 ?_, fun d => ⟨⟨by omega, by omega⟩, hQ _ ?_⟩⟩
      · unfold atv
        rw [if_neg (by omega)]
        exact i_0
      · have m := h.1 (wat f n i + A).toNat (by omega)
        rw [show (((wat f n i + A).toNat : Nat) : Int) = wat f n i + A by omega] at m
        unfold atv
        rw [if_pos (by omega)]
        exact m
theorem mwd {w : MW} {f : Int → Int} {n : Int} {W i : Nat} {Q : Int32 → MW → Prop} (hT : TXW f n W) (h : MS w f n W i) (hQ : ∀ r : Int32, r.toInt = wnd f n i - wat f n i → Q r w) : p_Mr_wide w Q := by
  have e5 := h.2.2.1
  have e4 := h.2.1.1
  refine Eq.mpr (p_Mr_wide.eq_1 _ _) ⟨fun c => hQ 0 ?_, fun c => ?_⟩
  · rw [e4, e5] at c
    have e := wat_e hT.1 hT.2.2 (i - W)
    rw [show W + (i - W) = i by omega] at e
    rw [i_0]
    omega
  · rw [e4, e5] at c
    have q := h.2.1.2.2 i (by omega)
    have W4 := h.2.1.2.1
    have n4 := hT.2.1
    have ei : (w.1 147 5).toInt.toNat = i := by rw [e5]; omega
    have b5 : 0 ≤ (w.1 147 5).toInt ∧ (w.1 147 5).toInt < 4021 := by rw [e5]; omega
    have wb := wat_b (f := f) hT.1 i
    have ws := wat_s (f := f) hT.1 i
    rw [ei]
    exact ⟨b5, b5, hQ _ (ti_sub2 q.2.1 q.1 (by omega) (by omega))⟩
/-! a word, letter by letter -/
def lsA (f : Int → Int) (n : Int) (i : Nat) : List Int → Int → Prop
  | [], _ => True
  | c :: l, a => atv f n i a = c ∧ lsA f n i l (a + 1)
theorem tk_c {f : Int → Int} {c : Int} {l : List Int} {p : Int} : (tks f (c :: l) p).1 = true ↔ f p = c ∧ (tks f l (p + 1)).1 = true := by
  have u : tks f (c :: l) p = if f p = c then tks f l (p + 1) else (false, p) := rfl
  rw [u]
  by_cases q : f p = c
  · rw [if_pos q]
    exact ⟨fun h => ⟨q, h⟩, fun h => h.2⟩
  · rw [if_neg q]
    exact ⟨fun h => absurd (show false = true from h) (by decide), fun h => absurd h.1 q⟩
theorem ls_t {f : Int → Int} {n : Int} {i : Nat} : ∀ (l : List Int) (a : Int), wat f n i + a + (l.length : Int) ≤ wnd f n i → ((tks f l (wat f n i + a)).1 = true ↔ lsA f n i l a) := by
  intro l
  induction l with
  | nil => exact fun a _ => ⟨fun _ => trivial, fun _ => rfl⟩
  | cons c l ih =>
    intro a ha
    have hl : ((c :: l).length : Int) = (l.length : Int) + 1 := by rw [List.length_cons]; omega
    rw [hl] at ha
    have e : atv f n i a = f (wat f n i + a) := by unfold atv; rw [if_pos (by omega)]
    have I := ih (a + 1) (by omega)
    rw [tk_c]
    show _ ↔ atv f n i a = c ∧ lsA f n i l (a + 1)
    rw [e, ← I, Int.add_assoc]
theorem wq_at {f : Int → Int} {n : Int} {i : Nat} {l : List Int} : wq f n i l = true ↔ wnd f n i - wat f n i = (l.length : Int) ∧ lsA f n i l 0 := by
  unfold wq
  rw [Bool.and_eq_true, decide_eq_true_iff]
  constructor
  · intro h
    have := (ls_t (f := f) (n := n) (i := i) l 0 (by omega))
    rw [Int.add_zero] at this
    exact ⟨h.1, this.mp h.2⟩
  · intro h
    have := (ls_t (f := f) (n := n) (i := i) l 0 (by omega))
    rw [Int.add_zero] at this
    exact ⟨h.1, this.mpr h.2⟩
theorem nwq {f : Int → Int} {n : Int} {i : Nat} {l : List Int} (h : ¬ (wq f n i l = true)) : wq f n i l = false := by
  cases e : wq f n i l with
  | true => exact absurd e h
  | false => rfl
theorem wq_1 {f : Int → Int} {n : Int} {i : Nat} {a : Int} : wq f n i [a] = true ↔ (wnd f n i - wat f n i = 1 ∧ atv f n i 0 = a) := by
  rw [wq_at]
  exact ⟨fun h => ⟨h.1, h.2.1⟩, fun h => ⟨h.1, h.2, trivial⟩⟩
theorem wq_2 {f : Int → Int} {n : Int} {i : Nat} {a b : Int} : wq f n i [a, b] = true ↔ (wnd f n i - wat f n i = 2 ∧ atv f n i 0 = a ∧ atv f n i 1 = b) := by
  rw [wq_at]
  exact ⟨fun h => ⟨h.1, h.2.1, h.2.2.1⟩, fun h => ⟨h.1, h.2.1, h.2.2, trivial⟩⟩
theorem wq_3 {f : Int → Int} {n : Int} {i : Nat} {a b c : Int} : wq f n i [a, b, c] = true ↔ (wnd f n i - wat f n i = 3 ∧ atv f n i 0 = a ∧ atv f n i 1 = b ∧ atv f n i 2 = c) := by
  rw [wq_at]
  exact ⟨fun h => ⟨h.1, h.2.1, h.2.2.1, h.2.2.2.1⟩, fun h => ⟨h.1, h.2.1, h.2.2.1, h.2.2.2, trivial⟩⟩
theorem wq_4 {f : Int → Int} {n : Int} {i : Nat} {a b c d : Int} : wq f n i [a, b, c, d] = true ↔ (wnd f n i - wat f n i = 4 ∧ atv f n i 0 = a ∧ atv f n i 1 = b ∧ atv f n i 2 = c ∧ atv f n i 3 = d) := by
  rw [wq_at]
  exact ⟨fun h => ⟨h.1, h.2.1, h.2.2.1, h.2.2.2.1, h.2.2.2.2.1⟩, fun h => ⟨h.1, h.2.1, h.2.2.1, h.2.2.2.1, h.2.2.2.2, trivial⟩⟩
theorem wq_7 {f : Int → Int} {n : Int} {i : Nat} {a b c d e g k : Int} : wq f n i [a, b, c, d, e, g, k] = true ↔ (wnd f n i - wat f n i = 7 ∧ atv f n i 0 = a ∧ atv f n i 1 = b ∧ atv f n i 2 = c ∧ atv f n i 3 = d ∧ atv f n i 4 = e ∧ atv f n i 5 = g ∧ atv f n i 6 = k) := by
  rw [wq_at]
  exact ⟨fun h => ⟨h.1, h.2.1, h.2.2.1, h.2.2.2.1, h.2.2.2.2.1, h.2.2.2.2.2.1, h.2.2.2.2.2.2.1, h.2.2.2.2.2.2.2.1⟩, fun h => ⟨h.1, h.2.1, h.2.2.1, h.2.2.2.1, h.2.2.2.2.1, h.2.2.2.2.2.1, h.2.2.2.2.2.2.1, h.2.2.2.2.2.2.2, trivial⟩⟩
theorem ltw_6 : ltr 6 3 = [98, 97, 114] := by decide +kernel
theorem ltw_7 : ltr 7 4 = [119, 104, 101, 110] := by decide +kernel
theorem ltw_8 : ltr 8 3 = [110, 111, 116] := by decide +kernel
theorem ltw_9 : ltr 9 1 = [40] := by decide +kernel
theorem ltw_10 : ltr 10 1 = [41] := by decide +kernel
theorem ltw_11 : ltr 11 3 = [97, 110, 100] := by decide +kernel
theorem ltw_12 : ltr 12 2 = [111, 114] := by decide +kernel
theorem ltw_13 : ltr 13 3 = [102, 111, 114] := by decide +kernel
theorem ltw_14 : ltr 14 7 = [108, 97, 116, 99, 104, 101, 100] := by decide +kernel
theorem ltw_15 : ltr 15 1 = [59] := by decide +kernel
theorem b_2 : ((2 : Int32)).toInt = 2 := by decide
theorem b_3 : ((3 : Int32)).toInt = 3 := by decide
theorem b_4 : ((4 : Int32)).toInt = 4 := by decide
theorem b_5 : ((5 : Int32)).toInt = 5 := by decide
theorem b_6 : ((6 : Int32)).toInt = 6 := by decide
theorem b_7 : ((7 : Int32)).toInt = 7 := by decide
theorem mone {w : MW} {f : Int → Int} {n : Int} {W i : Nat} {a : Int32} {A : Int} {Q : Int32 → MW → Prop} (hT : TXW f n W) (h : MS w f n W i) (ha : a.toInt = A) (h1 : wq f n i [A] = true → Q 1 w) (h0 : wq f n i [A] = false → Q 0 w) : p_Mr_isOne w a Q := by
  subst ha
  refine Eq.mpr (p_Mr_isOne.eq_1 _ _ _) (mwd hT h (fun r er => ⟨fun q => h0 (nwq (fun t => ?_)), fun q => mat hT h i_0 (by decide) (by decide) (fun r0 e0 => ⟨fun q0 => h0 (nwq (fun t => ?_)), fun q0 => h1 (wq_1.mpr ?_)⟩)⟩))
  · have T := wq_1.mp t
    omega
  · have T := wq_1.mp t
    omega
  · omega
theorem mis2 {w : MW} {f : Int → Int} {n : Int} {W i : Nat} {a b c d e g k : Int32} {A B : Int} {Q : Int32 → MW → Prop} (hT : TXW f n W) (h : MS w f n W i) (ha : a.toInt = A) (hb : b.toInt = B) (h1 : wq f n i [A, B] = true → Q 1 w) (h0 : wq f n i [A, B] = false → Q 0 w) : p_Mr_is w a b c d e g k 2 Q := by
  subst ha hb
  refine Eq.mpr (p_Mr_is.eq_1 _ _ _ _ _ _ _ _ _ _) (mwd hT h (fun r er => ⟨fun q => h0 (nwq (fun t => ?_)), fun q => mat hT h i_0 (by decide) (by decide) (fun r0 e0 => ⟨fun q0 => h0 (nwq (fun t => ?_)), fun q0 => mat hT h i_1 (by decide) (by decide) (fun r1 e1 => ⟨fun q1 => h0 (nwq (fun t => ?_)), fun q1 => ⟨fun _ => ⟨fun _ => Eq.mpr (q_Mr_is_58.eq_1 _ _ _ _ _ _) ⟨fun _ => ⟨fun _ => Eq.mpr (q_Mr_is_91.eq_1 _ _ _ _) ⟨fun _ => h1 (wq_2.mpr ?_), fun z => absurd (by decide) z⟩, fun z => absurd (by decide) z⟩, fun z => absurd (by decide) z⟩, fun z => absurd (by decide) z⟩, fun z => absurd (by decide) z⟩⟩)⟩)⟩))
  · have T := wq_2.mp t
    rw [b_2] at q
    omega
  · have T := wq_2.mp t
    omega
  · have T := wq_2.mp t
    omega
  · rw [b_2] at q
    omega
theorem mis3 {w : MW} {f : Int → Int} {n : Int} {W i : Nat} {a b c d e g k : Int32} {A B C : Int} {Q : Int32 → MW → Prop} (hT : TXW f n W) (h : MS w f n W i) (ha : a.toInt = A) (hb : b.toInt = B) (hc : c.toInt = C) (h1 : wq f n i [A, B, C] = true → Q 1 w) (h0 : wq f n i [A, B, C] = false → Q 0 w) : p_Mr_is w a b c d e g k 3 Q := by
  subst ha hb hc
  refine Eq.mpr (p_Mr_is.eq_1 _ _ _ _ _ _ _ _ _ _) (mwd hT h (fun r er => ⟨fun q => h0 (nwq (fun t => ?_)), fun q => mat hT h i_0 (by decide) (by decide) (fun r0 e0 => ⟨fun q0 => h0 (nwq (fun t => ?_)), fun q0 => mat hT h i_1 (by decide) (by decide) (fun r1 e1 => ⟨fun q1 => h0 (nwq (fun t => ?_)), fun q1 => ⟨fun z => absurd z (by decide), fun _ => mat hT h b_2 (by decide) (by decide) (fun r2 e2 => ⟨fun q2 => h0 (nwq (fun t => ?_)), fun q2 => ⟨fun _ => Eq.mpr (q_Mr_is_58.eq_1 _ _ _ _ _ _) ⟨fun _ => ⟨fun _ => Eq.mpr (q_Mr_is_91.eq_1 _ _ _ _) ⟨fun _ => h1 (wq_3.mpr ?_), fun z => absurd (by decide) z⟩, fun z => absurd (by decide) z⟩, fun z => absurd (by decide) z⟩, fun z => absurd (by decide) z⟩⟩)⟩⟩)⟩)⟩))
  · have T := wq_3.mp t
    rw [b_3] at q
    omega
  · have T := wq_3.mp t
    omega
  · have T := wq_3.mp t
    omega
  · have T := wq_3.mp t
    omega
  · rw [b_3] at q
    omega
theorem mis4 {w : MW} {f : Int → Int} {n : Int} {W i : Nat} {a b c d e g k : Int32} {A B C D : Int} {Q : Int32 → MW → Prop} (hT : TXW f n W) (h : MS w f n W i) (ha : a.toInt = A) (hb : b.toInt = B) (hc : c.toInt = C) (hd : d.toInt = D) (h1 : wq f n i [A, B, C, D] = true → Q 1 w) (h0 : wq f n i [A, B, C, D] = false → Q 0 w) : p_Mr_is w a b c d e g k 4 Q := by
  subst ha hb hc hd
  refine Eq.mpr (p_Mr_is.eq_1 _ _ _ _ _ _ _ _ _ _) (mwd hT h (fun r er => ⟨fun q => h0 (nwq (fun t => ?_)), fun q => mat hT h i_0 (by decide) (by decide) (fun r0 e0 => ⟨fun q0 => h0 (nwq (fun t => ?_)), fun q0 => mat hT h i_1 (by decide) (by decide) (fun r1 e1 => ⟨fun q1 => h0 (nwq (fun t => ?_)), fun q1 => ⟨fun z => absurd z (by decide), fun _ => mat hT h b_2 (by decide) (by decide) (fun r2 e2 => ⟨fun q2 => h0 (nwq (fun t => ?_)), fun q2 => ⟨fun z => absurd z (by decide), fun _ => mat hT h b_3 (by decide) (by decide) (fun r3 e3 => ⟨fun q3 => h0 (nwq (fun t => ?_)), fun q3 => Eq.mpr (q_Mr_is_58.eq_1 _ _ _ _ _ _) ⟨fun _ => ⟨fun _ => Eq.mpr (q_Mr_is_91.eq_1 _ _ _ _) ⟨fun _ => h1 (wq_4.mpr ?_), fun z => absurd (by decide) z⟩, fun z => absurd (by decide) z⟩, fun z => absurd (by decide) z⟩⟩)⟩⟩)⟩⟩)⟩)⟩))
  · have T := wq_4.mp t
    rw [b_4] at q
    omega
  · have T := wq_4.mp t
    omega
  · have T := wq_4.mp t
    omega
  · have T := wq_4.mp t
    omega
  · have T := wq_4.mp t
    omega
  · rw [b_4] at q
    omega
theorem mis7 {w : MW} {f : Int → Int} {n : Int} {W i : Nat} {a b c d e g k : Int32} {A B C D X Y Z : Int} {Q : Int32 → MW → Prop} (hT : TXW f n W) (h : MS w f n W i) (ha : a.toInt = A) (hb : b.toInt = B) (hc : c.toInt = C) (hd : d.toInt = D) (hx : e.toInt = X) (hy : g.toInt = Y) (hz : k.toInt = Z) (h1 : wq f n i [A, B, C, D, X, Y, Z] = true → Q 1 w) (h0 : wq f n i [A, B, C, D, X, Y, Z] = false → Q 0 w) : p_Mr_is w a b c d e g k 7 Q := by
  subst ha hb hc hd hx hy hz
  refine Eq.mpr (p_Mr_is.eq_1 _ _ _ _ _ _ _ _ _ _) (mwd hT h (fun r er => ⟨fun q => h0 (nwq (fun t => ?_)), fun q => mat hT h i_0 (by decide) (by decide) (fun r0 e0 => ⟨fun q0 => h0 (nwq (fun t => ?_)), fun q0 => mat hT h i_1 (by decide) (by decide) (fun r1 e1 => ⟨fun q1 => h0 (nwq (fun t => ?_)), fun q1 => ⟨fun z => absurd z (by decide), fun _ => mat hT h b_2 (by decide) (by decide) (fun r2 e2 => ⟨fun q2 => h0 (nwq (fun t => ?_)), fun q2 => ⟨fun z => absurd z (by decide), fun _ => mat hT h b_3 (by decide) (by decide) (fun r3 e3 => ⟨fun q3 => h0 (nwq (fun t => ?_)), fun q3 => Eq.mpr (q_Mr_is_58.eq_1 _ _ _ _ _ _) ⟨fun z => absurd z (by decide), fun _ => mat hT h b_4 (by decide) (by decide) (fun r4 e4 => ⟨fun q4 => h0 (nwq (fun t => ?_)), fun q4 => ⟨fun z => absurd z (by decide), fun _ => mat hT h b_5 (by decide) (by decide) (fun r5 e5 => ⟨fun q5 => h0 (nwq (fun t => ?_)), fun q5 => Eq.mpr (q_Mr_is_91.eq_1 _ _ _ _) ⟨fun z => absurd z (by decide), fun _ => mat hT h b_6 (by decide) (by decide) (fun r6 e6 => ⟨fun q6 => h0 (nwq (fun t => ?_)), fun q6 => h1 (wq_7.mpr ?_)⟩)⟩⟩)⟩⟩)⟩⟩)⟩⟩)⟩⟩)⟩)⟩))
  · have T := wq_7.mp t
    rw [b_7] at q
    omega
  · have T := wq_7.mp t
    omega
  · have T := wq_7.mp t
    omega
  · have T := wq_7.mp t
    omega
  · have T := wq_7.mp t
    omega
  · have T := wq_7.mp t
    omega
  · have T := wq_7.mp t
    omega
  · have T := wq_7.mp t
    omega
  · rw [b_7] at q
    omega
