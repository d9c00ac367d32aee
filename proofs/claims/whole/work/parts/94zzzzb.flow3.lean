/-! how many litres go: the reference's loop, all of it -/
/-- what is noted of the tank into which a litre came -/
theorem note_x {v z w : MW} {fr to m c : Nat} {ca x : Int32} {Q Q' : MW → Prop} (h : p_Mo_note w x Q) (ex : x.toInt = to) (x44 : to < 44) (li : ∀ (R R' : Int32 → MW → Prop), p_Mo_liquidIn w x R → (R ca w → R' ca w) → p_Mo_liquidIn w x R') (ca1 : 1 ≤ ca.toInt) (k : ∀ w', (∀ k j, ¬ k = 173 → ¬ k = 174 → w'.1 k j = w.1 k j) → (∀ j, ¬ j = to → w'.1 173 j = w.1 173 j) → w'.1 173 to = ca → (∀ j, w'.1 174 j = if 6 * to ≤ j ∧ j < 6 * to + 6 then -1 else w.1 174 j) → Q w' → Q' w') : p_Mo_note w x Q' := by
  have xn : x.toInt.toNat = to := by omega
  rw [p_Mo_note.eq_1] at h ⊢
  refine li _ _ h (fun g => ⟨fun d => by omega, fun d => ⟨(g.2 d).1, fgm_x (g.2 d).2 (by omega) (by omega) (fun w' f g2 => k w' (fun c j a1 a2 => ?_) (fun j hj => ?_) ?_ (fun j => ?_) g2)⟩⟩)
  · rw [f.1.2 c j a2, sI_oth _ _ _ _ _ _ a1]
  · rw [f.1.2 173 j (by decide), sI_if, xn, if_neg hj]
  · rw [f.1.2 173 _ (by decide), xn, sI_same]
  · rw [f.2 j, xn, sI_oth _ _ _ _ _ _ (by decide)]
theorem flw_235 {v z w : MW} {k fr to m L : Nat} {ca : Int32} {B : Nat → Bool} {x1 x2 x3 x4 y5 y7 : Int32} {A A' : Int32 → Int32 → MW → Prop} {E E' : Int32 → MW → Prop} {Q Q' : MW → Prop} (H : FlH v z k fr to ca) (e2 : x2.toInt = fr) (e3 : x3.toInt = to) (m100 : m ≤ 1000) (ey7 : y7 = bv ca (Bm B (m + 1) L)) (tm : TMf z w fr to m (cOut B L m) ca) (dz : decM v z L fr to ca B m) (h : q_Mo_flow_235 x1 x2 x3 x4 y5 y7 1 w A E Q) (k1 : ∀ w', TMf z w' fr to (m + 1) (cOut B L (m + 1)) ca → A (y5 + (1 : Int32)) 1 w' → A' (y5 + (1 : Int32)) 1 w') : q_Mo_flow_235 x1 x2 x3 x4 y5 y7 1 w A' E' Q' := by
  obtain ⟨⟨sk, sv, tb⟩, ⟨T, P⟩, ⟨f1, t1, ft, kf, kt⟩, ⟨c183, ca1, ca14⟩, z165, s200, b17, b19, k24⟩ := H
  have ca0 : ¬ ca.toInt = 0 := by omega
  have n2 : x2.toInt.toNat = fr := by omega
  have zf := z165 fr (Or.inl rfl)
  have zt := z165 to (Or.inr rfl)
  have cm := ctb_n (fun j => Bm B (j + 1) L) m
  have cm' : cOut B L m ≤ m := cm
  have h5 := tm.2.2.2.2.1.1
  have h6 := tm.2.2.2.2.1.2
  have w0 : 0 < (w.1 165 fr).toInt := by have := dz.1.2; omega
  have tm2 := tm_fr ft w0 (by omega) tm
  have n1 : ¬ (1 : Int32).toInt = 0 := by decide
  rw [q_Mo_flow_235.eq_1, n2] at h ⊢
  have G := h.2 n1
  refine ⟨fun d => absurd d n1, fun _ => ⟨G.1, G.2.1, fun d => k1 _ ?_ (G.2.2.1 d), fun d => ?_⟩⟩
  · have bf : Bm B (m + 1) L = false := by
      rw [ey7] at d
      cases q : Bm B (m + 1) L with
      | false => rfl
      | true =>
        rw [q] at d
        unfold bv at d
        rw [if_pos rfl] at d
        omega
    rw [cOut_s, bf]
    exact tm2
  · have bt : Bm B (m + 1) L = true := by
      rw [ey7] at d
      cases q : Bm B (m + 1) L with
      | true => rfl
      | false =>
        rw [q] at d
        unfold bv at d
        rw [if_neg (by decide), i_0] at d
        omega
    have e7 : y7 = ca := by
      rw [ey7, bt]
      exact if_pos rfl
    have G2 := G.2.2.2 d
    rw [e7] at G2 ⊢
    have d2 : (z.1 165 to).toInt + cOut B L m < (z.1 164 to).toInt ∧ (0 < cOut B L m ∨ McO v to ca) := by
      rcases dz.2 with q | q
      · rw [bt] at q
        cases q
      · exact q
    have t2 := tm2.2.2.2.2.1.2
    refine come_x (fr := fr) (to := to) (m := m + 1) (c := cOut B L m) G2 e3 ft (by omega) (fun q => ?_) tm2 (fun w27 r1 r2 r3 r4 g27 => ?_)
    · rw [tm2.2.2.2.2.2.1]
      by_cases c0 : 0 < cOut B L m
      · rw [if_pos c0]
      · rw [if_neg c0]
        have mo := d2.2.resolve_left c0
        have z0 : 0 < (z.1 165 to).toInt := by omega
        have s := (sk.1 to t1).1 kt
        rw [if_pos z0] at s
        rcases mo with mo | mo
        · rw [← s]
          exact mo.2
        · have q17 : (v.1 17 to).toInt = 0 := mo.1
          rw [s] at q17
          exact absurd q17 (zt.2.2 z0)
    · have tl : TMl z w27 fr to (m + 1) (cOut B L m + 1) ca := by
        refine ⟨fun k' j a1 a2 a3 a4 => (r1 k' j a1 a2).trans (tm2.1 k' j a1 a2 a3 a4), fun j j1 j2 => (r2 j j2).1.trans (tm2.2.1 j j1 j2), fun j hj => (r2 j hj).2.trans (tm2.2.2.1 j hj).1, ⟨?_, ?_⟩, ?_⟩
        · rw [(r2 fr ft).1]
          exact tm2.2.2.2.2.1.1
        · omega
        · rw [r4, if_pos (by omega)]
      have sl := yt_l sk T.1 f1 t1 ft kf kt zt.1 tl
      obtain ⟨c1, c2, c3⟩ := tmf_c tl.1
      have w169 : ∀ p, w27.1 169 p = z.1 169 p := fun p => tl.1 169 p (by decide) (by decide) (by decide) (by decide)
      refine note_x (fr := fr) (to := to) (m := m) (c := cOut B L m) (v := v) (z := z) g27 e3 (by omega) (fun R R' hR kR => li_x hR sl (by omega) (by rw [c1, c2]; omega) (by rw [c1]; exact T) (by rw [c2]; exact P) (fun p hp => by rw [w169]; rw [c2] at hp; exact s200 p hp) (fun g => ?_)) ca1 (fun w28 q1 q2 q3 q4 g28 => k1 w28 ?_ g28)
      · have n3 : x3.toInt.toNat = to := by omega
        have y17 : (yTk v fr to (cOut B L m + 1) ca (w27.1 165 fr).toInt).1 17 x3.toInt.toNat = ca := by
          rw [n3, yt_17, if_pos ⟨rfl, by omega⟩]
        rw [y17] at g ⊢
        exact kR g
      · rw [cOut_s, bt]
        show TMf z w28 fr to (m + 1) (cOut B L m + 1) ca
        refine ⟨fun k' j a1 a2 a3 a4 => (q1 k' j a3 a4).trans (tl.1 k' j a1 a2 a3 a4), fun j j1 j2 => (q1 165 j (by decide) (by decide)).trans (tl.2.1 j j1 j2), fun j hj => ⟨(q1 166 j (by decide) (by decide)).trans (tl.2.2.1 j hj), ?_⟩, fun j hj => ?_, ⟨?_, ?_⟩, ?_, ?_, fun i hi => ?_⟩
        · rw [q2 j hj, r1 173 j (by decide) (by decide)]
          exact (tm2.2.2.1 j hj).2
        · rw [q4 j, if_neg hj, r1 174 j (by decide) (by decide)]
          exact tm2.2.2.2.1 j hj
        · rw [q1 165 fr (by decide) (by decide)]
          exact tl.2.2.2.1.1
        · rw [q1 165 to (by decide) (by decide)]
          exact tl.2.2.2.1.2
        · rw [q1 166 to (by decide) (by decide)]
          exact tl.2.2.2.2
        · rw [q3, if_pos (by omega)]
        · rw [q4, if_pos ⟨by omega, by omega⟩, if_pos (by omega)]
theorem flw_174 {v z w : MW} {k fr to m L : Nat} {ca : Int32} {B : Nat → Bool} {x1 x2 x3 x4 y5 ys : Int32} {A A' : Int32 → Int32 → MW → Prop} {E E' : Int32 → MW → Prop} {Q Q' : MW → Prop} (H : FlH v z k fr to ca) (e1 : x1.toInt = k) (e2 : x2.toInt = fr) (e3 : x3.toInt = to) (m100 : m ≤ 1000) (ey : ys = bv ca (Bm B (m + 1) L)) (tm : TMf z w fr to m (cOut B L m) ca) (h : q_Mo_flow_174 x1 x2 x3 x4 y5 ys w A E Q) (k0 : ¬ decM v z L fr to ca B m → A y5 0 w → A' y5 0 w) (k1 : decM v z L fr to ca B m → ∀ w', TMf z w' fr to (m + 1) (cOut B L (m + 1)) ca → A (y5 + (1 : Int32)) 1 w' → A' (y5 + (1 : Int32)) 1 w') : q_Mo_flow_174 x1 x2 x3 x4 y5 ys w A' E' Q' := by
  have H0 := H
  obtain ⟨⟨sk, sv, tb⟩, ⟨T, P⟩, ⟨f1, t1, ft, kf, kt⟩, ⟨c183, ca1, ca14⟩, z165, s200, b17, b19, k24⟩ := H
  have ca0 : ¬ ca.toInt = 0 := by omega
  have n1 : x1.toInt.toNat = k := by omega
  have n2 : x2.toInt.toNat = fr := by omega
  have n3 : x3.toInt.toNat = to := by omega
  have h5 := tm.2.2.2.2.1.1
  have h6 := tm.2.2.2.2.1.2
  have w183 : w.1 183 k = ca := by rw [tm.1 183 k (by decide) (by decide) (by decide) (by decide)]; exact c183
  have w166 : w.1 166 fr = z.1 166 fr := (tm.2.2.1 fr ft).1
  have w164 : w.1 164 to = z.1 164 to := tm.1 164 to (by decide) (by decide) (by decide) (by decide)
  have no : ¬ decM v z L fr to ca B m → q_Mo_flow_235 x1 x2 x3 x4 y5 ys 0 w A E Q → q_Mo_flow_235 x1 x2 x3 x4 y5 ys 0 w A' E' Q' := fun nd g => by
    rw [q_Mo_flow_235.eq_1] at g ⊢
    exact ⟨fun d => k0 nd (g.1 d), fun d => absurd i_0 d⟩
  have go : decM v z L fr to ca B m → q_Mo_flow_235 x1 x2 x3 x4 y5 ys 1 w A E Q → q_Mo_flow_235 x1 x2 x3 x4 y5 ys 1 w A' E' Q' := fun dz g => flw_235 H0 e2 e3 m100 ey tm dz g (k1 dz)
  rw [q_Mo_flow_174.eq_1, n1, n2, n3, w183, w166, w164] at h ⊢
  refine ⟨h.1, fun d => no (fun dz => by have := dz.1.2; omega) (h.2.1 d), fun d => ?_⟩
  have G := h.2.2 d
  refine ⟨G.1, G.2.1, fun d2 => no (fun dz => d2 (by rw [dz.1.1])) (G.2.2.1 d2), fun d2 => ?_⟩
  have G2 := G.2.2.2 d2
  have e166 : z.1 166 fr = ca := ti_inj (Classical.not_not.mp d2)
  have z1 : z.1 166 fr = ca ∧ (m : Int) < (z.1 165 fr).toInt := ⟨e166, by omega⟩
  have yb := bv_0 ca0 (Bm B (m + 1) L)
  rw [← ey] at yb
  refine ⟨fun d3 => go ⟨z1, Or.inl (yb.mp d3)⟩ (G2.1 d3), fun d3 => ?_⟩
  have G3 := G2.2 d3
  have bt : Bm B (m + 1) L = true := by
    cases q : Bm B (m + 1) L with
    | true => rfl
    | false => exact absurd (yb.mpr q) d3
  have eca : ys = ca := by
    rw [ey, bt]
    exact if_pos rfl
  have nod : ∀ X : Prop, (¬ X) → (decM v z L fr to ca B m → X) → ¬ decM v z L fr to ca B m := fun X nx f dz => nx (f dz)
  have dec2 : decM v z L fr to ca B m → (z.1 165 to).toInt + cOut B L m < (z.1 164 to).toInt ∧ (0 < cOut B L m ∨ McO v to ca) := fun dz => by
    rcases dz.2 with q | q
    · rw [bt] at q
      cases q
    · exact q
  refine ⟨G3.1, G3.2.1, fun d4 => no (fun dz => by have := (dec2 dz).1; omega) (G3.2.2.1 d4), fun d4 => ?_⟩
  have G4 := G3.2.2.2 d4
  have sl := yt_l sk T.1 f1 t1 ft kf kt (z165 to (Or.inr rfl)).1 (tml_f tm)
  have sy := yt_v sv ca0 (by omega) tm
  obtain ⟨c1, c2, c3⟩ := tmf_c tm.1
  have w169 : ∀ p, w.1 169 p = z.1 169 p := fun p => tm.1 169 p (by decide) (by decide) (by decide) (by decide)
  have ty : TBv (yTk v fr to (cOut B L m) ca (w.1 165 fr).toInt) w := by
    refine ⟨fun i j a1 a2 a3 a4 => ?_, fun l a1 a2 => ?_⟩
    · rw [yt_o v _ ca _ (by decide) (by decide), tm.1 176 _ (by decide) (by decide) (by decide) (by decide)]
      exact tb.1 i j a1 a2 a3 a4
    · rw [yt_o v _ ca _ (by decide) (by decide), tm.1 177 _ (by decide) (by decide) (by decide) (by decide)]
      exact tb.2 l a1 a2
  rw [eca] at G4 ⊢
  have my := McO_y (v := v) (c := cOut B L m) (a0 := (w.1 165 fr).toInt) ft ca0
  refine mr_x G4 sl sy ty (by omega) (by rw [c1, c2]; omega) (by rw [c1]; exact T) (by rw [c2]; exact P) (fun p hp => by rw [w169]; rw [c2] at hp; exact s200 p hp) (fun y => ?_) ca1 ca14 ?_ (fun r hr g => ?_)
  · rw [yt_17]
    split
    · omega
    · split
      · decide
      · exact b17 y
  · rw [yt_o v _ ca _ (by decide) (by decide)]
    exact b19 _
  · rw [n3, my] at hr
    rw [eca] at no go
    refine ⟨fun q => no (fun dz => ?_) (g.1 q), fun q => go ⟨z1, Or.inr ⟨by omega, ?_⟩⟩ (g.2 q)⟩
    · rcases hr with hr | hr
      · rw [hr.1] at q
        exact absurd q (by decide)
      · exact hr.2 (dec2 dz).2
    · rcases hr with hr | hr
      · exact hr.2
      · rw [hr.1] at q
        exact absurd i_0 q
def MvM (v z : MW) (L fr to : Nat) (ca : Int32) (B : Nat → Bool) (ra : Int) (M : Nat) : Prop := (∀ m, m < M → decM v z L fr to ca B m) ∧ (M : Int) ≤ ra ∧ ((M : Int) = ra ∨ ¬ decM v z L fr to ca B M)
theorem flw_130 {v z : MW} {k fr to L : Nat} {ca : Int32} {B : Nat → Bool} {x1 x2 x3 x4 : Int32} {E E' : Int32 → MW → Prop} {Q Q' : MW → Prop} (H : FlH v z k fr to ca) (e1 : x1.toInt = k) (e2 : x2.toInt = fr) (e3 : x3.toInt = to) (e4 : x4.toInt = L) (L48 : L ≤ 4800) (l193 : ∀ x, x < L → z.1 193 x = bv ca (B x)) (ra : 0 ≤ (z.1 184 k).toInt ∧ (z.1 184 k).toInt ≤ 100) (kE : ∀ (mo : Int32) (M : Nat) (w : MW), mo.toInt = M → MvM v z L fr to ca B (z.1 184 k).toInt M → TMf z w fr to M (cOut B L M) ca → E mo w → E' mo w) : ∀ (u : Nat) (x5 x6 : Int32) (m : Nat) (w : MW), q_Mo_flow_130 x1 x2 x3 x4 E Q u x5 x6 w → x5.toInt = m → (m : Int) ≤ (z.1 184 k).toInt → (∀ m', m' < m → decM v z L fr to ca B m') → (x6.toInt = 0 → ¬ decM v z L fr to ca B m) → TMf z w fr to m (cOut B L m) ca → q_Mo_flow_130 x1 x2 x3 x4 E' Q' u x5 x6 w := by
  have n1 : x1.toInt.toNat = k := by omega
  have ca1 := H.2.2.2.1
  intro u
  induction u with
  | zero => exact fun _ _ _ _ h _ _ _ _ _ => False.elim h
  | succ u ih =>
    intro x5 x6 m w h em mr dz d6 tm
    have w184 : (w.1 184 x1.toInt.toNat).toInt = (z.1 184 k).toInt := by rw [n1, tm.1 184 k (by decide) (by decide) (by decide) (by decide)]
    have w183 : w.1 183 x1.toInt.toNat = ca := by rw [n1, tm.1 183 k (by decide) (by decide) (by decide) (by decide)]; exact ca1.1
    rw [q_Mo_flow_130.eq_2, w184, w183] at h ⊢
    refine ⟨fun d => kE x5 m w em ⟨dz, mr, Or.inr (d6 d)⟩ tm (h.1 d), fun d => ⟨(h.2 d).1, fun d2 => kE x5 m w em ⟨dz, mr, Or.inl (by omega)⟩ tm ((h.2 d).2.1 d2), fun d2 => ?_⟩⟩
    have G := (h.2 d).2.2 d2
    have m1 : (x5 + (1 : Int32)).toInt = ((m + 1 : Nat) : Int) := by
      have q := ti_add2 em i_1 (by omega) (by omega)
      omega
    have step : ∀ ys : Int32, ys = bv ca (Bm B (m + 1) L) → q_Mo_flow_174 x1 x2 x3 x4 x5 ys w (fun (x130_5 : Int32) (x130_6 : Int32) (w : MW) => q_Mo_flow_130 x1 x2 x3 x4 E Q u x130_5 x130_6 w) E Q → q_Mo_flow_174 x1 x2 x3 x4 x5 ys w (fun (x130_5 : Int32) (x130_6 : Int32) (w : MW) => q_Mo_flow_130 x1 x2 x3 x4 E' Q' u x130_5 x130_6 w) E' Q' := fun ys ey g => flw_174 H e1 e2 e3 (by omega) ey tm g (fun nd g2 => ih _ _ m _ g2 em mr dz (fun _ => nd) tm) (fun yd w' tm' g2 => ih _ _ (m + 1) _ g2 m1 (by omega) (fun m' hm' => by
      by_cases c : m' = m
      · rw [c]
        exact yd
      · exact dz m' (by omega)) (fun q => absurd q (by decide)) tm')
    refine ⟨fun d3 => ⟨(G.1 d3).1, step _ ?_ (G.1 d3).2⟩, fun d3 => ⟨(G.2 d3).1, step _ ?_ (G.2 d3).2⟩⟩
    · have q : Bm B (m + 1) L = true := by
        unfold Bm
        rw [if_pos (by omega)]
      rw [q]
      exact (if_pos rfl).symm
    · have s1 := ti_sub2 e4 i_1 (by omega) (by omega)
      have s2 := ti_sub2 s1 em (by omega) (by omega)
      have s3 : ((x4 - (1 : Int32)) - x5).toInt.toNat = L - (m + 1) := by omega
      rw [s3, tm.1 193 _ (by decide) (by decide) (by decide) (by decide), l193 _ (by omega)]
      unfold Bm
      rw [if_neg (by omega)]
