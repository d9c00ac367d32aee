/-! the reference's open, all of it -/
def lF5 : Pl := [(188, none), (189, none), (191, none), (192, none), (127, some 39)]
theorem okM_h {k j : Nat} (q : hit lF5 k j = false) : okM k j = true := by
  cases h : okM k j with
  | true => rfl
  | false =>
    have n1 : ¬ k = 188 := fun e => by rw [e] at q; cases q
    have n2 : ¬ k = 189 := fun e => by rw [e] at q; cases q
    have n3 : ¬ k = 191 := fun e => by rw [e] at q; cases q
    have n4 : ¬ k = 192 := fun e => by rw [e] at q; cases q
    have n5 : ¬ (k = 127 ∧ j = 39) := fun e => by rw [e.1, e.2] at q; cases q
    unfold okM at h
    simp only [Bool.not_eq_false', Bool.or_eq_true, Bool.and_eq_true, beq_iff_eq] at h
    exfalso
    rcases h with (((h | h) | h) | h) | h
    · exact n1 h
    · exact n2 h
    · exact n3 h
    · exact n4 h
    · exact n5 h
/-- finding changes no more than it says -/
theorem ag5 {w z w5 : MW} (bz : BsZ w z) (om : oM z w5) (m : Pl) (hm : off lF5 m = true) : Ag m w w5 := fun k j hk => by
  rw [om.2 k j (okM_h (off_hit hm hk)), bz.1.1]
/-- all spaces may be come into -/
def MyA (v : MW) (T : Nat) (b l : Int32) (es : List Nat) : Prop := McO v b.toInt.toNat l ∧ ∀ i, i < es.length → McO v (T + enL es i / 2) l
/-- behind the look -/
def MO7 (v w5 : MW) (a b c l : Int32) (es : List Nat) (r : Int32) (w' : MW) : Prop := ∃ wl w21 w35 w36 : MW, ∃ r36 : Int32, LkP v w5 (fun k x => (k : Int) < (w5.1 127 26).toInt ∧ wnt w5 k x) wl ∧ oI 194 (sI wl 194 b.toInt.toNat l) w21 ∧ (∀ x, ((∃ i, i < es.length ∧ x = (tM w5).toNat + enL es i / 2) → w21.1 194 x = l) ∧ ((∀ i, i < es.length → ¬ x = (tM w5).toNat + enL es i / 2) → w21.1 194 x = (sI wl 194 b.toInt.toNat l).1 194 x)) ∧ PoI w21 (tM w5) w35 ∧ SfM w35 r36 w36 ∧ ((r36 = 1 ∧ r = 0 ∧ w36.1 = w35.1 ∧ (w35.1 127 26).toInt < 24 ∧ RowM w35 (w35.1 127 26).toInt.toNat es.length a b c l w') ∨ (r36 = 0 ∧ r = 7 ∧ (∀ c j, ¬ c = 167 → w'.1 c j = w36.1 c j) ∧ ∀ t : Nat, (t : Int) < tM w5 → w'.1 167 t = w36.1 190 t))
def MO5 (v w : MW) (a b c : Int32) (r : Int32) (w' : MW) : Prop := ∃ z w5 : MW, ∃ r5 : Int32, BsZ w z ∧ oM z w5 ∧ FnM z (NNd w) a.toInt b.toInt r5 w5 ∧ ((r5 = 0 ∧ r = 5 ∧ w' = w5) ∨ (r5 = 1 ∧ ∃ es, PaM z (NNd w) a.toInt b.toInt es w5 ∧ ((r = 6 ∧ w' = w5 ∧ ¬ MyA v (tM w).toNat b (w.1 166 a.toInt.toNat) es) ∨ (MyA v (tM w).toNat b (w.1 166 a.toInt.toNat) es ∧ MO7 v w5 a b c (w.1 166 a.toInt.toNat) es r w'))))
/-- what the reference answers, and what it leaves -/
def MOp (v w : MW) (a b c : Int32) (r : Int32) (w' : MW) : Prop := (r = 3 ∧ w' = w ∧ ∃ r1, IxS (w.1 181) (w.1 182) (w.1 127 26).toInt a b r1 ∧ ¬ r1.toInt = -1) ∨ (IxS (w.1 181) (w.1 182) (w.1 127 26).toInt a b (-1) ∧ ((r = 4 ∧ w' = w ∧ (w.1 165 a.toInt.toNat).toInt = 0) ∨ (¬ (w.1 165 a.toInt.toNat).toInt = 0 ∧ MO5 v w a b c r w')))
/-- the row that is written -/
theorem row_m {y w46 w52 : MW} {W n : Nat} {a b c l : Int32} (o6 : oI 186 (sI (sI (sI (sI (sI y 181 W a) 182 W b) 183 W l) 184 W c) 185 W (y.1 127 39)) w46) (e6 : ∀ j, w46.1 186 j = if 24 * W ≤ j ∧ j < 24 * W + n then (sI (sI (sI (sI (sI y 181 W a) 182 W b) 183 W l) 184 W c) 185 W (y.1 127 39)).1 191 (j - 24 * W) else (sI (sI (sI (sI (sI y 181 W a) 182 W b) 183 W l) 184 W c) 185 W (y.1 127 39)).1 186 j) (o7 : oI 187 w46 w52) (e7 : ∀ j, w52.1 187 j = if 20 * W ≤ j ∧ j < 20 * W + 20 then hlN w46 (j - 20 * W) else w46.1 187 j) : RowM y W n a b c l (sI w52 127 26 ((w52.1 127 26) + (1 : Int32))) := by
  generalize hz : sI (sI (sI (sI (sI y 181 W a) 182 W b) 183 W l) 184 W c) 185 W (y.1 127 39) = z at o6 e6
  have oth : ∀ k j, ¬ k = 181 → ¬ k = 182 → ¬ k = 183 → ¬ k = 184 → ¬ k = 185 → z.1 k j = y.1 k j := fun k j h1 h2 h3 h4 h5 => by
    rw [← hz, sI_oth _ _ _ _ _ _ h5, sI_oth _ _ _ _ _ _ h4, sI_oth _ _ _ _ _ _ h3, sI_oth _ _ _ _ _ _ h2, sI_oth _ _ _ _ _ _ h1]
  have rd : ∀ k j, ¬ k = 186 → ¬ k = 187 → ¬ (k = 127 ∧ j = 26) → (sI w52 127 26 ((w52.1 127 26) + (1 : Int32))).1 k j = z.1 k j := fun k j h6 h7 h8 => by
    rw [sI_at, if_neg h8, o7.2 k j h7, o6.2 k j h6]
  refine ⟨fun m hm k j hk => ?_, ?_, fun j => ?_, fun j => ?_, fun j => ?_, fun j => ?_, fun j => ?_, fun j => ?_, fun j => ?_⟩
  · have q := off_hit hm hk
    rw [rd k j (fun e => by rw [e] at q; cases q) (fun e => by rw [e] at q; cases q) (fun e => by rw [e.1, e.2] at q; cases q)]
    exact oth k j (fun e => by rw [e] at q; cases q) (fun e => by rw [e] at q; cases q) (fun e => by rw [e] at q; cases q) (fun e => by rw [e] at q; cases q) (fun e => by rw [e] at q; cases q)
  · rw [sI_same, o7.2 127 26 (by decide), o6.2 127 26 (by decide), oth 127 26 (by decide) (by decide) (by decide) (by decide) (by decide)]
  · rw [rd 181 j (by decide) (by decide) (fun e => absurd e.1 (by decide)), ← hz, sI_oth _ _ _ _ _ _ (by decide), sI_oth _ _ _ _ _ _ (by decide), sI_oth _ _ _ _ _ _ (by decide), sI_oth _ _ _ _ _ _ (by decide), sI_if]
  · rw [rd 182 j (by decide) (by decide) (fun e => absurd e.1 (by decide)), ← hz, sI_oth _ _ _ _ _ _ (by decide), sI_oth _ _ _ _ _ _ (by decide), sI_oth _ _ _ _ _ _ (by decide), sI_if, sI_oth _ _ _ _ _ _ (by decide)]
  · rw [rd 183 j (by decide) (by decide) (fun e => absurd e.1 (by decide)), ← hz, sI_oth _ _ _ _ _ _ (by decide), sI_oth _ _ _ _ _ _ (by decide), sI_if, sI_oth _ _ _ _ _ _ (by decide), sI_oth _ _ _ _ _ _ (by decide)]
  · rw [rd 184 j (by decide) (by decide) (fun e => absurd e.1 (by decide)), ← hz, sI_oth _ _ _ _ _ _ (by decide), sI_if, sI_oth _ _ _ _ _ _ (by decide), sI_oth _ _ _ _ _ _ (by decide), sI_oth _ _ _ _ _ _ (by decide)]
  · rw [rd 185 j (by decide) (by decide) (fun e => absurd e.1 (by decide)), ← hz, sI_if, sI_oth _ _ _ _ _ _ (by decide), sI_oth _ _ _ _ _ _ (by decide), sI_oth _ _ _ _ _ _ (by decide), sI_oth _ _ _ _ _ _ (by decide)]
  · rw [sI_oth _ _ _ _ _ _ (by decide), o7.2 186 j (by decide), e6 j, oth 191 _ (by decide) (by decide) (by decide) (by decide) (by decide), oth 186 _ (by decide) (by decide) (by decide) (by decide) (by decide)]
  · have eh : hlN w46 (j - 20 * W) = hlN y (j - 20 * W) := by
      unfold hlN tM
      rw [o6.2 127 4 (by decide), o6.2 192 _ (by decide), oth 127 4 (by decide) (by decide) (by decide) (by decide) (by decide), oth 192 _ (by decide) (by decide) (by decide) (by decide) (by decide)]
    rw [sI_oth _ _ _ _ _ _ (by decide), e7 j, eh, o6.2 187 j (by decide), oth 187 _ (by decide) (by decide) (by decide) (by decide) (by decide)]
theorem RowM_1 {y y' w : MW} {W n : Nat} {a b c l : Int32} (e : y'.1 = y.1) (h : RowM y W n a b c l w) : RowM y' W n a b c l w := by
  unfold RowM hlN tM at *
  rw [e]
  refine ⟨fun m hm k j hk => ?_, h.2⟩
  rw [e]
  exact h.1 m hm k j hk
/-- the liquid of the tank from which it goes -/
theorem lq_a {v w : MW} {a : Int32} (hr : HRq (mx v w)) (ta : 0 ≤ a.toInt ∧ a.toInt < tM w ∧ tkM w a.toInt) : ((v.1 17 a.toInt.toNat).toInt = 0 ↔ (w.1 165 a.toInt.toNat).toInt = 0) ∧ (¬ (w.1 165 a.toInt.toNat).toInt = 0 → v.1 17 a.toInt.toNat = w.1 166 a.toInt.toNat ∧ 1 ≤ (w.1 166 a.toInt.toNat).toInt ∧ (w.1 166 a.toInt.toNat).toInt ≤ 14) := by
  have na : ((a.toInt.toNat : Nat) : Int) = a.toInt := by have := ta.1; omega
  have ht : ((a.toInt.toNat : Nat) : Int) < tM (mx v w) := by
    have q : tM (mx v w) = tM w := rfl
    rw [q, na]
    exact ta.2.1
  have tk : tkM (mx v w) ((a.toInt.toNat : Nat) : Int) := by
    rw [na]
    exact ta.2.2
  have s := (hr.2.2.1.1.1 a.toInt.toNat ht).1 tk
  have s' : v.1 17 a.toInt.toNat = (if 0 < (w.1 165 a.toInt.toNat).toInt then w.1 166 a.toInt.toNat else 0) := s
  have t := hr.2.2.1.2.2.1 a.toInt.toNat ht tk
  have t3 : 0 ≤ (w.1 165 a.toInt.toNat).toInt := t.2.2.1
  have t5 : 0 < (w.1 165 a.toInt.toNat).toInt → 1 ≤ (w.1 166 a.toInt.toNat).toInt ∧ (w.1 166 a.toInt.toNat).toInt ≤ 14 := t.2.2.2.2
  by_cases c : 0 < (w.1 165 a.toInt.toNat).toInt
  · rw [if_pos c] at s'
    have b := t5 c
    rw [s']
    exact ⟨⟨fun e => by omega, fun e => by omega⟩, fun _ => ⟨rfl, b⟩⟩
  · rw [if_neg c] at s'
    rw [s']
    exact ⟨⟨fun _ => by omega, fun _ => i_0⟩, fun e => by omega⟩
theorem mop_x {v w : MW} {a b c : Int32} {R R' : Int32 → MW → Prop} (h : p_Mo_open w a b c R) (hv : BND v) (hw : BND w) (hr : HRq (mx v w)) (ta : 0 ≤ a.toInt ∧ a.toInt < tM w ∧ tkM w a.toInt) (tb : 0 ≤ b.toInt ∧ b.toInt < tM w ∧ tkM w b.toInt) (k : ∀ r w', MOp v w a b c r w' → R r w' → R' r w') : p_Mo_open w a b c R' := by
  have T := hb_T hw
  have P := hb_P hw
  have n24 := (bd_127_26 hw).2
  rw [p_Mo_open.eq_1] at h ⊢
  refine owy_x h n24 (fun r1 ix g => ⟨fun c1 => ?_, fun c1 => k 3 w (Or.inl ⟨rfl, rfl, r1, ix, c1⟩) (g.2 c1)⟩)
  have G := g.1 c1
  have e1 : r1 = -1 := ti_inj (by rw [c1, m1_i])
  rw [e1] at ix
  refine ⟨G.1, fun d => ?_, fun d => k 4 w (Or.inr ⟨ix, Or.inl ⟨rfl, rfl, Classical.not_not.mp d⟩⟩) (G.2.2 d)⟩
  have la := (lq_a hr ta).2 d
  refine mfd_x (G.2.1 d) (mz_b hw hr) tb.2.2 (m_186 hw) (fun k' => (bd_185 hw k').2) (fun r5 z w5 ob bs om fm g5 => ?_)
  have bz : BsZ w z := ⟨ob, bs⟩
  have a5 := fun m hm => ag5 bz om m hm
  have l5 : w5.1 166 a.toInt.toNat = w.1 166 a.toInt.toNat := a5 [(166, none)] rfl 166 _ rfl
  have t5 : tM w5 = tM w := by
    unfold tM
    rw [a5 [(127, some 4)] rfl 127 4 rfl]
  have q5 : pM w5 = pM w := by
    unfold pM
    rw [a5 [(127, some 11)] rfl 127 11 rfl]
  have fm' := fm
  obtain ⟨LL, LP, lx, hl, res⟩ := fm
  rw [l5] at g5
  rw [l5]
  rcases res with ⟨er, _⟩ | ⟨er, e0, m, es, ps, pr, lp, l24, l1, p1, p2, wn⟩
  · refine ⟨fun e => ?_, fun e => k 5 w5 (Or.inr ⟨ix, Or.inr ⟨d, z, w5, r5, bz, om, fm', Or.inl ⟨er, rfl, rfl⟩⟩⟩) (g5.2 e)⟩
    rw [er] at e
    exact absurd i_0 e
  have paM : PaM z (NNd w) a.toInt b.toInt es w5 := ⟨LL, LP, lx, hl, e0, m, ps, pr, lp, l24, l1, p1, p2, wn⟩
  refine ⟨fun e => ?_, fun e => by rw [er] at e; exact absurd (by decide) e⟩
  have G5 := g5.1 e
  have pth := pth_i m e0 es ps.1 pr
  have fd : Fdw w5 es.length (enL es) := ⟨p1, l1, l24, fun i hi => by
    have q := pth.2.1 i _ (enL_s hi)
    unfold NNd at q
    rw [q5]
    exact ⟨p2 i _ (enL_s hi), by omega, by omega⟩⟩
  have rf : SKl (mx v w) w5 ∧ SKv (mx v w) w5 ∧ TBv (mx v w) w5 := rf_k (ag_t (mx_am v w rfl) (a5 lRf rfl)) hr.2.2.1 hr.2.1.2.2.2
  have s200 : ∀ p : Nat, (p : Int) < pM w5 → (w5.1 169 p).toInt ≤ 200 := fun p hp => by
    rw [q5] at hp
    rw [a5 [(169, none)] rfl 169 p rfl]
    have s : (w.1 169 p).toInt ≤ 200 := (hr.2.2.1.2.2.2.1 p hp).2.1.2
    exact s
  have mc : ∀ (x : Int32) (R R' : Int32 → MW → Prop), p_Mo_mayCome w5 (w.1 166 a.toInt.toNat) x R → 0 ≤ x.toInt → x.toInt < tM w5 + pM w5 → (∀ r : Int32, (r = 1 ∧ McO v x.toInt.toNat (w.1 166 a.toInt.toNat)) ∨ (r = 0 ∧ ¬ McO v x.toInt.toNat (w.1 166 a.toInt.toNat)) → R r w5 → R' r w5) → p_Mo_mayCome w5 (w.1 166 a.toInt.toNat) x R' := fun x R R' hx x0 x1 kk => mr_x (v := v) hx rf.1 rf.2.1 rf.2.2 x0 x1 (by rw [t5]; exact T) (by rw [q5]; exact P) s200 (fun y => (bd_17 hv y).1) la.2.1 la.2.2 (bd_19 hv _) kk
  have out : ∀ r w', ((r = 6 ∧ w' = w5 ∧ ¬ MyA v (tM w).toNat b (w.1 166 a.toInt.toNat) es) ∨ (MyA v (tM w).toNat b (w.1 166 a.toInt.toNat) es ∧ MO7 v w5 a b c (w.1 166 a.toInt.toNat) es r w')) → R r w' → R' r w' := fun r w' q => k r w' (Or.inr ⟨ix, Or.inr ⟨d, z, w5, r5, bz, om, fm', Or.inr ⟨er, es, paM, q⟩⟩⟩)
  obtain ⟨l, hL⟩ : ∃ l, w.1 166 a.toInt.toNat = l := ⟨_, rfl⟩
  rw [hL] at G5 mc out la ⊢
  refine ⟨G5.1, mc b _ _ G5.2 tb.1 (by rw [t5, q5]; have := tb.2.1; omega) (fun r8 hr8 g8 => mo_54 (M0 := McO v b.toInt.toNat l) fd (by rw [t5]; exact T) mc (fun r54 i54 g54 => ⟨fun e54 => ?_, fun e54 => out 6 w5 (Or.inl ⟨rfl, rfl, fun my => ?_⟩) (g54.2 e54)⟩) _ _ _ g8 (by decide) (by rw [i_0]; omega) ?_)⟩
  case refine_1 =>
    rcases hr8 with ⟨e8, m8⟩ | ⟨e8, m8⟩
    · rw [e8]
      exact ⟨fun _ => ⟨m8, fun j hj => by rw [i_0] at hj; omega⟩, fun _ => by decide⟩
    · rw [e8]
      exact ⟨fun q => absurd i_0 q, fun q => absurd q.1 m8⟩
  case refine_3 =>
    rw [t5] at i54
    exact e54 (i54.mpr ⟨my.1, my.2⟩)
  case refine_2 =>
    rw [t5] at i54
    have my : MyA v (tM w).toNat b l es := i54.mp e54
    obtain ⟨hz, hz2⟩ := lkz_x (v := v) (z := w5) hw hr (a5 lLz rfl) (fun j => a5 [(186, none)] rfl 186 j rfl)
    refine lo_x (v := v) (g54.1 e54) hz hz2 (fun wl lk g16 => ⟨g16.1, ?_⟩)
    have w4l : ∀ k j, ¬ k = 194 → (sI wl 194 b.toInt.toNat l).1 k j = w5.1 k j := fun k j hk => by
      rw [sI_oth _ _ _ _ _ _ hk]
      exact lk.1.2 k j hk
    have t20 : tM (sI wl 194 b.toInt.toNat l) = tM w5 := by
      unfold tM
      rw [w4l 127 4 (by decide)]
    have T5 : 0 ≤ tM w5 ∧ tM w5 ≤ 20 := by rw [t5]; exact T
    have P5 : 0 ≤ pM w5 ∧ pM w5 ≤ 24 := by rw [q5]; exact P
    have fd2 : Fdw (sI wl 194 b.toInt.toNat l) es.length (enL es) := Fdw_g (fun k j hk => w4l k j (fun e => by rw [e] at hk; cases hk)) fd
    refine mo_127 (z := sI wl 194 b.toInt.toNat l) fd2 (by rw [t20]; exact T5) (fun w21 o21 f21 g21 => ?_) _ _ _ g16.2 (by decide) (by rw [i_0]; omega) ⟨rfl, fun _ _ _ => rfl⟩ (fun x => ⟨fun q => ?_, fun _ => rfl⟩)
    case refine_2 =>
      obtain ⟨j, hj, _⟩ := q
      rw [i_0] at hj
      omega
    case refine_1 =>
      rw [t20] at f21
      have r21 : ∀ k j, ¬ k = 194 → w21.1 k j = w5.1 k j := fun k j hk => (o21.2 k j hk).trans (w4l k j hk)
      have t21 : tM w21 = tM w5 := by
        unfold tM
        rw [r21 127 4 (by decide)]
      refine mo_166 (z := w21) (by rw [t21]; exact T5) (fun w35 po g35 => ?_) _ _ _ g21 (by decide) (by rw [i_0, t21]; exact T5.1) ⟨rfl, fun _ _ _ _ => rfl, fun t ht => by rw [i_0] at ht; omega, fun _ _ => rfl⟩
      rw [t21] at po
      have r35 : ∀ k j, ¬ k = 194 → ¬ k = 190 → ¬ k = 167 → w35.1 k j = w5.1 k j := fun k j h1 h2 h3 => (po.2.1 k j h2 h3).trans (r21 k j h1)
      have t35 : tM w35 = tM w5 := by
        unfold tM
        rw [r35 127 4 (by decide) (by decide) (by decide)]
      have q35 : pM w35 = pM w5 := by
        unfold pM
        rw [r35 127 11 (by decide) (by decide) (by decide)]
      have w39 : (w35.1 127 39).toInt = es.length := by
        rw [r35 127 39 (by decide) (by decide) (by decide)]
        exact p1
      refine sf_x g35 (by rw [t35]; exact T5.1) (by rw [t35]; exact T5.2) (by rw [q35]; exact P5.1) (by rw [q35]; exact P5.2) (fun r36 w36 sm g36 => ⟨fun e36 => ?_, fun e36 => ?_⟩)
      · have sm1 : r36 = 1 ∧ w36.1 = w35.1 := by
          rcases sm.2 with q | q
          · exact ⟨q.1, q.2.1⟩
          · rw [q.1] at e36
            exact absurd i_0 e36
        have G36 := g36.1 e36
        have n0 := G36.1
        have W26 : (w36.1 127 26).toInt = ((w36.1 127 26).toInt.toNat : Nat) := by omega
        refine ⟨G36.1, G36.2.1, G36.2.2.1, G36.2.2.2.1, G36.2.2.2.2.1, ?_⟩
        refine mo_340 (n := es.length) (W := (w36.1 127 26).toInt.toNat) ?_ l24 ?_ (by omega) (fun w46 o46 f46 g46 => ?_) _ _ _ G36.2.2.2.2.2 (by decide) (by rw [i_0]; omega) ⟨rfl, fun _ _ _ => rfl⟩ (fun j => ?_)
        case refine_1 =>
          rw [sI_oth _ _ _ _ _ _ (by decide), sI_oth _ _ _ _ _ _ (by decide), sI_oth _ _ _ _ _ _ (by decide), sI_oth _ _ _ _ _ _ (by decide), sI_oth _ _ _ _ _ _ (by decide), sm1.2]
          exact w39
        case refine_2 =>
          rw [sI_oth _ _ _ _ _ _ (by decide), sI_oth _ _ _ _ _ _ (by decide), sI_oth _ _ _ _ _ _ (by decide), sI_oth _ _ _ _ _ _ (by decide), sI_oth _ _ _ _ _ _ (by decide)]
          exact W26
        case refine_4 =>
          have c0 : ¬ (24 * (w36.1 127 26).toInt.toNat ≤ j ∧ j < 24 * (w36.1 127 26).toInt.toNat + (0 : Int32).toInt.toNat) := fun q => by
            have := q.2
            rw [i_0] at this
            have h0 : (0 : Int).toNat = 0 := rfl
            omega
          rw [if_neg c0]
        case refine_3 =>
          have e46 : (w46.1 127 26).toInt = ((w36.1 127 26).toInt.toNat : Nat) := by
            rw [o46.2 127 26 (by decide), sI_oth _ _ _ _ _ _ (by decide), sI_oth _ _ _ _ _ _ (by decide), sI_oth _ _ _ _ _ _ (by decide), sI_oth _ _ _ _ _ _ (by decide), sI_oth _ _ _ _ _ _ (by decide)]
            exact W26
          refine mo_380 (W := (w36.1 127 26).toInt.toNat) e46 (by omega) (fun w52 o52 f52 g52 => out 0 _ (Or.inr ⟨my, wl, w21, w35, w36, r36, lk, o21, f21, po, sm, Or.inl ⟨sm1.1, rfl, sm1.2, ?_, ?_⟩⟩) g52) _ _ _ g46 (by decide) (by decide) ⟨rfl, fun _ _ _ => rfl⟩ (fun j => ?_)
          case refine_3 =>
            have c0 : ¬ (20 * (w36.1 127 26).toInt.toNat ≤ j ∧ j < 20 * (w36.1 127 26).toInt.toNat + (0 : Int32).toInt.toNat) := fun q => by
              have := q.2
              rw [i_0] at this
              have h0 : (0 : Int).toNat = 0 := rfl
              omega
            rw [if_neg c0]
          case refine_1 =>
            rw [← sm1.2]
            exact n0.2
          case refine_2 =>
            have q := row_m o46 f46 o52 f52
            have q2 := RowM_1 (y' := w35) sm1.2.symm q
            rw [sm1.2] at q2
            exact q2
      · have sm0 : r36 = 0 := by
          rcases sm.2 with q | q
          · rw [q.1] at e36
            exact absurd (by decide) e36
          · exact q.1
        have t36 : tM w36 = tM w5 := by
          rcases sm.2 with q | ⟨_, f, x, y, z', q, _⟩
          · unfold tM at *
            rw [q.2.1]
            exact t35
          · unfold tM at *
            rw [q, dg_rd rfl]
            exact t35
        refine mo_251 (z := w36) (by rw [t36]; exact T5) (fun w56 o1 o2 o3 o4 g56 => out 7 w56 (Or.inr ⟨my, wl, w21, w35, w36, r36, lk, o21, f21, po, sm, Or.inr ⟨sm0, rfl, o2, fun t ht => o3 t (by rw [t36]; exact ht)⟩⟩) g56) _ _ _ (g36.2 e36) (by decide) (by rw [i_0, t36]; exact T5.1) rfl (fun _ _ _ => rfl) (fun t ht => by rw [i_0] at ht; omega) (fun _ _ => rfl)
