/-! fill: both sides -/
theorem lc_lt (x y : Int64) : (lg_cmp x y).toInt < 0 ↔ x.toInt < y.toInt := by
  have h := nb_cmp x y
  omega
theorem lc_le (x y : Int64) : (lg_cmp x y).toInt ≤ 0 ↔ x.toInt ≤ y.toInt := by
  have h := nb_cmp x y
  omega
theorem lc_gt (x y : Int64) : 0 < (lg_cmp x y).toInt ↔ y.toInt < x.toInt := by
  have h := nb_cmp x y
  omega
theorem l64_add {x y : Int64} (h1 : -1000000000 ≤ x.toInt) (h2 : x.toInt ≤ 1000000000) (h3 : -1000000000 ≤ y.toInt) (h4 : y.toInt ≤ 1000000000) : (x + y).toInt = x.toInt + y.toInt := by
  rw [Int64.toInt_add]
  exact Int.bmod_eq_of_le (by omega) (by omega)
theorem l64_32 {x : Int64} (h1 : -1000000000 ≤ x.toInt) (h2 : x.toInt ≤ 1000000000) : (Int64.toInt32 x).toInt = x.toInt := nb_l2i (by omega) (by omega)
theorem l64_1 : (1 : Int64).toInt = 1 := by decide
theorem l64_m : (100000 : Int64).toInt = 100000 := by decide
/-- c litres of liquid b may be filled into tank a -/
def PreF (u : MW) (a b : Int32) (c : Int64) : Prop := (0 ≤ a.toInt ∧ a.toInt < tM u ∧ tkM u a.toInt) ∧ (1 ≤ b.toInt ∧ b.toInt ≤ 14) ∧ (1 ≤ c.toInt ∧ c.toInt ≤ 100000) ∧ c.toInt ≤ (u.1 164 a.toInt.toNat).toInt - (u.1 165 a.toInt.toNat).toInt ∧ McO u a.toInt.toNat b
theorem hb_T {w : MW} (h : BND w) : 0 ≤ tM w ∧ tM w ≤ 20 := bd_127_4 h
theorem hb_P {w : MW} (h : BND w) : 0 ≤ pM w ∧ pM w ≤ 24 := bd_127_11 h
theorem sC_44 {w : MW} (hB : BND w) (hp : HPl w) (hw : HWy w) {l y : Nat} (h : SrC w l y) : y < 44 := by
  have n := w_n hw.1
  have P := hb_P hB
  have T := hb_T hB
  have e1 := hp.1.1
  have e2 := hp.1.2.1
  rcases h with s | s
  · obtain ⟨k, hk, _, want⟩ := (wys_e hw.1 hw.2.1 P.2 e1 l y).mp s
    rcases (wnt_e hw.1 hw.2.1 hk).mp want with q | ⟨i, hi, q⟩
    · have A := (hw.1.2.2.2 k hk).2.2.2.2.2.1
      omega
    · have E := (w_e hw.2.1 hk hi).2
      omega
  · have := s.1
    omega
/-- the cells that tell what open ways want, of the class -/
def yS2 (c : Nat) : Bool := c == 8 || c == 26 || c == 28 || c == 30 || c == 31 || c == 32 || c == 35
theorem wyS_s {w w' : MW} (h : ∀ c j, yS2 c = true → w'.1 c j = w.1 c j) (l y : Nat) : WyS w' l y ↔ WyS w l y := by
  have e1 : tC w' = tC w := by
    unfold tC
    rw [h 8 0 rfl]
  have e3 : ∀ k i, wpi w' k i = wpi w k i := fun k i => by
    unfold wpi
    rw [chn_c (fun j => h 35 j rfl), h 32 k rfl]
  have e4 : ∀ k i, wok w' k i ↔ wok w k i := fun k i => by
    unfold wok
    rw [h 31 k rfl]
    constructor
    · intro q
      exact ⟨q.1, fun j hj => by rw [← e3]; exact q.2 j hj⟩
    · intro q
      exact ⟨q.1, fun j hj => by rw [e3]; exact q.2 j hj⟩
  unfold WyS
  rw [e1, h 26 1 rfl]
  constructor
  · intro q
    obtain ⟨k, q1, q2, q3⟩ := q
    rw [h 30 k rfl] at q2
    rw [h 28 k rfl] at q3
    refine ⟨k, q1, q2, ?_⟩
    rcases q3 with q3 | ⟨i, q4, q5⟩
    · exact Or.inl q3
    · exact Or.inr ⟨i, (e4 k i).mp q4, by rw [← e3]; exact q5⟩
  · intro q
    obtain ⟨k, q1, q2, q3⟩ := q
    refine ⟨k, q1, by rw [h 30 k rfl]; exact q2, ?_⟩
    rw [h 28 k rfl]
    rcases q3 with q3 | ⟨i, q4, q5⟩
    · exact Or.inl q3
    · exact Or.inr ⟨i, (e4 k i).mpr q4, by rw [e3]; exact q5⟩
theorem cfl_x {u : MW} {a b : Int32} {c : Int64} {Q Q' : Int32 → MW → Prop} (h : p_Bh_fill u a b c Q) (hB : BND u) (hr : HRq u) (k0 : ¬ PreF u a b c → Q 0 u → Q' 0 u) (k1 : PreF u a b c → ∀ (r : Int32) (w15 : MW), SfC (sI u 17 a.toInt.toNat b) r w15 → oSf (sI u 17 a.toInt.toNat b) w15 → (r = 0 → Q 0 (sI w15 17 a.toInt.toNat (u.1 17 a.toInt.toNat)) → Q' 0 (sI w15 17 a.toInt.toNat (u.1 17 a.toInt.toNat))) ∧ (r = 1 → ∀ w', ArS (sI w15 17 a.toInt.toNat (u.1 17 a.toInt.toNat)) w' a.toInt.toNat b (Int64.toInt32 c) → Q 1 w' → Q' 1 w')) : p_Bh_fill u a b c Q' := by
  have hp := hr.1
  have eT := hp.1.1
  have T := hb_T hB
  have tkc : ∀ t : Int, 0 ≤ t → t < tM u → (tkC u t ↔ tkM u t) := fun t h0 h1 => tk_e hp.1 h0 h1
  rw [p_Bh_fill.eq_1] at h ⊢
  refine ctk_x h (fun r1 t1 g1 => ⟨fun c1 => ?_, fun c1 => ?_⟩)
  · rcases t1 with ⟨e, _⟩ | ⟨e, n⟩
    · rw [e] at c1
      exact absurd c1 (by decide)
    · refine k0 (fun p => n ⟨p.1.1, by rw [eT]; exact p.1.2.1, (tkc _ p.1.1 p.1.2.1).mpr p.1.2.2⟩) (g1.1 c1)
  rcases t1 with ⟨_, a0, a1, atk⟩ | ⟨e, _⟩
  case inr =>
    rw [e] at c1
    exact absurd i_0 c1
  case inl =>
    rw [eT] at a1
    have tm := (tkc _ a0 a1).mp atk
    have S := hr.2.2.1.2.2.1 a.toInt.toNat (by omega) (by rw [show ((a.toInt.toNat : Nat) : Int) = a.toInt by omega]; exact tm)
    have b10 := bd_10 hB a.toInt.toNat
    have g := g1.2 c1
    rw [p_Bh_isLiquid.eq_1] at g ⊢
    refine ⟨fun d => ⟨fun _ => k0 (fun p => by have := p.2.1; omega) ((g.1 d).1 i_0), fun z => absurd i_0 z⟩, fun d => ⟨fun d2 => ⟨fun _ => k0 (fun p => by have := p.2.1; omega) (((g.2 d).1 d2).1 i_0), fun z => absurd i_0 z⟩, fun d2 => ⟨fun z => absurd z (by decide), fun z => ?_⟩⟩⟩
    have G := ((g.2 d).2 d2).2 z
    rw [lc_lt, lc_le, l64_1, l64_m] at G ⊢
    refine ⟨fun e => k0 (fun p => by have := p.2.2.1; omega) (G.1 e), fun e => ⟨fun e2 => ?_, fun e2 => k0 (fun p => by have := p.2.2.1; omega) ((G.2 e).2 e2)⟩⟩
    have G2 := (G.2 e).1 e2
    have er : (Int32.toInt64 ((u.1 10 a.toInt.toNat) - (u.1 18 a.toInt.toNat))).toInt = (u.1 164 a.toInt.toNat).toInt - (u.1 165 a.toInt.toNat).toInt := by
      rw [nb_i2l, ti_sub2 rfl rfl (by rw [S.1, S.2.1]; rw [S.2.1] at b10; omega) (by rw [S.1, S.2.1]; rw [S.2.1] at b10; omega), S.1, S.2.1]
    rw [lc_gt, er] at G2 ⊢
    refine ⟨G2.1, G2.2.1, G2.2.2.1, fun f => k0 (fun p => by have := p.2.2.2.1; omega) (G2.2.2.2.1 f), fun f => ?_⟩
    have G3 := G2.2.2.2.2 f
    refine mc_x G3 (by omega) (by omega) (bd_19 hB _) (fun r m g4 => ⟨fun c4 => ?_, fun c4 => ?_⟩)
    · rcases m with ⟨_, m⟩ | ⟨e4, _⟩
      case inr =>
        rw [e4] at c4
        exact absurd i_0 c4
      case inl =>
        have G5 := g4.1 c4
        have pre : PreF u a b c := ⟨⟨a0, a1, tm⟩, ⟨by omega, by omega⟩, ⟨by omega, e2⟩, by omega, m⟩
        have K := k1 pre
        refine ⟨G5.1, G5.2.1, sc_y G5.2.2 hr.2.1.2.1 hp.2.1 hp.2.2.1 (PB_b hB : PB u) (fun k hk => by have := bd_28 hB k; exact (show 0 ≤ (u.1 28 k).toInt ∧ (u.1 28 k).toInt < 20 from ⟨this.1, by omega⟩)) (fun l y _ s => ?_) (fun r5 w15 sf o15 g5 => ⟨g5.1, fun z5 => ?_, fun z5 => ?_⟩)⟩
        · by_cases q : SrC u l y
          · exact sC_44 hB hp hr.2.2.2 q
          · rcases s with s | s
            · exact absurd (show SrC u l y from Or.inl ((wyS_s (fun c' j hc => sI_oth _ _ _ _ _ _ (fun e => by rw [e] at hc; cases hc)) l y).mp s)) q
            · have := s.1
              have e2' := hp.1.2.1
              have P := hb_P hB
              have s1 : (y : Int) < tC u + pC u := this
              omega
        · have kk := K r5 w15 sf o15
          rcases sf with ⟨e5, _⟩ | ⟨e5, _⟩
          · rw [e5] at z5
            exact absurd z5 (by decide)
          · have g6 := g5.2.1 z5
            rw [e5] at g6 ⊢
            exact kk.1 e5 g6
        · have kk := K r5 w15 sf o15
          rcases sf with ⟨e5, _⟩ | ⟨e5, _⟩
          · have g6 := g5.2.2 z5
            rw [e5] at g6 ⊢
            exact ar_x g6 (fun w' ar g7 => kk.2 e5 w' ar g7)
          · rw [e5] at z5
            exact absurd i_0 z5
    · rcases m with ⟨e4, _⟩ | ⟨_, m⟩
      · rw [e4] at c4
        exact absurd c4 (by decide)
      · exact k0 (fun p => m p.2.2.2.2) (g4.2 c4)
/-- the reference's; v holds the class's cells as they were before -/
theorem mfl_x {v w : MW} {a b : Int32} {c : Int64} {Q Q' : Int32 → MW → Prop} (h : p_Mo_fill w a b c Q) (hB : BND w) (hBv : BND v) (sk : SKl v w) (sv : SKv v w) (tb : TBv v w) (st : ∀ t : Nat, (t : Int) < tM w → tkM w t → 0 ≤ (w.1 165 t).toInt ∧ (w.1 165 t).toInt ≤ (w.1 164 t).toInt) (s200 : ∀ p : Nat, (p : Int) < pM w → (w.1 169 p).toInt ≤ 200) (ha : ∀ k : Nat, (k : Int) < (w.1 127 26).toInt → (¬ (w.1 183 k).toInt = 0 ∧ (w.1 185 k).toInt ≤ 24) ∧ 0 ≤ (w.1 182 k).toInt) (h186 : ∀ j, 0 ≤ (w.1 186 j).toInt ∧ (w.1 186 j).toInt < 48) (e164 : w.1 164 a.toInt.toNat = v.1 164 a.toInt.toNat) (e165 : w.1 165 a.toInt.toNat = v.1 165 a.toInt.toNat) (eT : tM v = tM w) (eK : tkM v = tkM w) (k0 : ¬ PreF v a b c → Q 0 w → Q' 0 w) (k1 : PreF v a b c → ∀ (wl : MW), LkP v w (fun k x => (k : Int) < (w.1 127 26).toInt ∧ wnt w k x) wl → ∀ (r : Int32) (w14 : MW), SfM (sI wl 194 a.toInt.toNat b) r w14 → (r = 0 → Q 0 w14 → Q' 0 w14) ∧ (r = 1 → ∀ w', w14.1 = (sI wl 194 a.toInt.toNat b).1 → (∀ j, w'.1 173 j = if j = a.toInt.toNat then b else w.1 173 j) → (∀ j, w'.1 174 j = if 6 * a.toInt.toNat ≤ j ∧ j < 6 * a.toInt.toNat + 6 then -1 else w.1 174 j) → (∀ j, w'.1 166 j = if j = a.toInt.toNat then b else w.1 166 j) → (∀ j, w'.1 165 j = if j = a.toInt.toNat then w.1 165 a.toInt.toNat + Int64.toInt32 c else w.1 165 j) → (∀ c j, ¬ c = 173 → ¬ c = 174 → ¬ c = 166 → ¬ c = 165 → ¬ c = 194 → w'.1 c j = w.1 c j) → Q 1 w' → Q' 1 w')) : p_Mo_fill w a b c Q' := by
  have T := hb_T hB
  have P := hb_P hB
  rw [p_Mo_fill.eq_1] at h ⊢
  refine mtk_x h (fun r1 t1 g1 => ⟨fun c1 => ?_, fun c1 => ?_⟩)
  · rcases t1 with ⟨e, _⟩ | ⟨e, n⟩
    · rw [e] at c1
      exact absurd c1 (by decide)
    · refine k0 (fun p => n ?_) (g1.1 c1)
      rw [← eT, ← eK]
      exact p.1
  rcases t1 with ⟨_, a0, a1, tm⟩ | ⟨e, _⟩
  case inr =>
    rw [e] at c1
    exact absurd i_0 c1
  case inl =>
    have S := st a.toInt.toNat (by omega) (by rw [show ((a.toInt.toNat : Nat) : Int) = a.toInt by omega]; exact tm)
    have b164 := bd_164 hB a.toInt.toNat
    have G := g1.2 c1
    rw [lc_lt, lc_gt, l64_1, l64_m] at G ⊢
    refine ⟨fun d => k0 (fun p => by have := p.2.1; omega) (G.1 d), fun d => ⟨fun d2 => k0 (fun p => by have := p.2.1; omega) ((G.2 d).1 d2), fun d2 => ⟨fun e => k0 (fun p => by have := p.2.2.1; omega) (((G.2 d).2 d2).1 e), fun e => ⟨fun e2 => k0 (fun p => by have := p.2.2.1; omega) ((((G.2 d).2 d2).2 e).1 e2), fun e2 => ?_⟩⟩⟩⟩
    have G2 := (((G.2 d).2 d2).2 e).2 e2
    have i5 : (Int32.toInt64 (w.1 165 a.toInt.toNat)).toInt = (w.1 165 a.toInt.toNat).toInt := nb_i2l _
    have es : ((Int32.toInt64 (w.1 165 a.toInt.toNat)) + c).toInt = (w.1 165 a.toInt.toNat).toInt + c.toInt := by
      rw [l64_add (by omega) (by omega) (by omega) (by omega), i5]
    rw [lc_gt, es, nb_i2l] at G2 ⊢
    refine ⟨G2.1, G2.2.1, fun f => k0 (fun p => by have := p.2.2.2.1; rw [← e164, ← e165] at this; omega) (G2.2.2.1 f), fun f => ?_⟩
    have G3 := G2.2.2.2 f
    refine mr_x G3 sk sv tb a0 (by omega) T P s200 (fun x => (bd_17 hBv x).1) (by omega) (by omega) (bd_19 hBv _) (fun r m g4 => ⟨fun c4 => ?_, fun c4 => ?_⟩)
    · rcases m with ⟨_, m⟩ | ⟨e4, _⟩
      case inr =>
        rw [e4] at c4
        exact absurd i_0 c4
      case inl =>
        have pre : PreF v a b c := ⟨⟨a0, by rw [eT]; exact a1, by rw [eK]; exact tm⟩, ⟨by omega, by omega⟩, ⟨by omega, by omega⟩, by rw [← e164, ← e165]; omega, m⟩
        have K := k1 pre
        refine lo_x (v := v) (g4.1 c4) ⟨T, P, (bd_127_26 hB).2, s200, fun k hk => (ha k hk).1, h186, sk⟩ (fun k hk => (ha k hk).2) (fun wl lk g5 => ⟨g5.1, sf_x g5.2 ?_ ?_ ?_ ?_ (fun r6 w14 sf g6 => ?_)⟩)
        case refine_5 =>
          have o1 := lk.1
          have kk := K wl lk r6 w14 sf
          have sf2 := sf.2
          refine ⟨fun z6 => ?_, fun z6 => ?_⟩
          · rcases sf2 with ⟨e6, e7, _⟩ | ⟨e6, _⟩
            · have g7 := g6.1 z6
              have rd : ∀ cc j, ¬ cc = 194 → w14.1 cc j = w.1 cc j := fun cc j hc => by
                rw [e7, sI_oth _ _ _ _ _ _ hc]
                exact o1.2 cc j hc
              have e32 := l64_32 (x := c) (by omega) (by omega)
              have n165 := ti_add2 (Eq.refl (w.1 165 a.toInt.toNat).toInt) e32 (by omega) (by omega)
              refine ⟨g7.1, g7.2.1, g7.2.2.1, no_t g7.2.2.2 a0 ?_ ?_ ?_ ?_ ?_ (fun w' w173 w174 wo w2 g8 => kk.2 e6 w' e7 (fun j => ?_) (fun j => ?_) (fun j => ?_) (fun j => ?_) (fun cc j h1 h2 h3 h4 h5 => ?_) g8)⟩
              · show a.toInt < ((sI (sI w14 166 a.toInt.toNat b) 165 a.toInt.toNat ((w14.1 165 a.toInt.toNat) + (Int64.toInt32 c))).1 127 4).toInt
                rw [sI_oth _ _ _ _ _ _ (by decide), sI_oth _ _ _ _ _ _ (by decide), rd 127 4 (by decide)]
                exact a1
              · show ((sI (sI w14 166 a.toInt.toNat b) 165 a.toInt.toNat ((w14.1 165 a.toInt.toNat) + (Int64.toInt32 c))).1 127 4).toInt ≤ 20
                rw [sI_oth _ _ _ _ _ _ (by decide), sI_oth _ _ _ _ _ _ (by decide), rd 127 4 (by decide)]
                exact T.2
              · show ((sI (sI w14 166 a.toInt.toNat b) 165 a.toInt.toNat ((w14.1 165 a.toInt.toNat) + (Int64.toInt32 c))).1 163 a.toInt.toNat).toInt = 0
                rw [sI_oth _ _ _ _ _ _ (by decide), sI_oth _ _ _ _ _ _ (by decide), rd 163 _ (by decide)]
                exact tm
              · rw [sI_same, rd 165 _ (by decide)]
                omega
              · rw [sI_oth _ _ _ _ _ _ (by decide), sI_same]
                omega
              · rw [w173 j, sI_oth _ _ _ _ _ _ (by decide), sI_same, sI_oth _ _ _ _ _ _ (by decide), sI_oth _ _ _ _ _ _ (by decide), rd 173 j (by decide)]
              · rw [w174 j, sI_oth _ _ _ _ _ _ (by decide), sI_oth _ _ _ _ _ _ (by decide), rd 174 j (by decide)]
              · rw [wo 166 j (by decide) (by decide), sI_oth _ _ _ _ _ _ (by decide), sI_if, rd 166 j (by decide)]
              · rw [wo 165 j (by decide) (by decide), sI_if, rd 165 _ (by decide)]
                by_cases q : j = a.toInt.toNat
                · rw [if_pos q, if_pos q]
                · rw [if_neg q, if_neg q, sI_oth _ _ _ _ _ _ (by decide), rd 165 j (by decide)]
              · rw [wo cc j h1 h2, sI_oth _ _ _ _ _ _ h4, sI_oth _ _ _ _ _ _ h3, rd cc j h5]
            · rw [e6] at z6
              exact absurd i_0 z6
          · rcases sf2 with ⟨e6, _⟩ | ⟨e6, _⟩
            · rw [e6] at z6
              exact absurd (by decide) z6
            · exact kk.1 e6 (g6.2 z6)
        all_goals
          first
            | (show 0 ≤ ((sI wl 194 a.toInt.toNat b).1 127 4).toInt; rw [sI_oth _ _ _ _ _ _ (by decide), lk.1.2 127 4 (by decide)]; exact T.1)
            | (show ((sI wl 194 a.toInt.toNat b).1 127 4).toInt ≤ 20; rw [sI_oth _ _ _ _ _ _ (by decide), lk.1.2 127 4 (by decide)]; exact T.2)
            | (show 0 ≤ ((sI wl 194 a.toInt.toNat b).1 127 11).toInt; rw [sI_oth _ _ _ _ _ _ (by decide), lk.1.2 127 11 (by decide)]; exact P.1)
            | (show ((sI wl 194 a.toInt.toNat b).1 127 11).toInt ≤ 24; rw [sI_oth _ _ _ _ _ _ (by decide), lk.1.2 127 11 (by decide)]; exact P.2)
    · rcases m with ⟨e4, _⟩ | ⟨_, m⟩
      · rw [e4] at c4
        exact absurd c4 (by decide)
      · exact k0 (fun p => m p.2.2.2.2) (g4.2 c4)
