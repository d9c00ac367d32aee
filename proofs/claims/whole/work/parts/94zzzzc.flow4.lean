/-! the line is written back: the reference -/
theorem flw_318 {w : MW} {ca : Int32} {B : Nat → Bool} {M o L : Nat} {x1 x5 x7 x8 x9 x10 : Int32} {E E' : Int32 → MW → Prop} {Q Q' : MW → Prop} (ca0 : 1 ≤ ca.toInt) (e5 : x5.toInt = M) (M100 : M ≤ 1000) (e7 : x7.toInt = o) (oL : o < L) (L48 : L ≤ 4800) (l193 : ∀ x, x < L → w.1 193 x = bv ca (B x)) (kE : ∀ f : Int32, (¬ f.toInt = 0 ↔ wet B M o) → E f w → E' f w) : ∀ (u : Nat) (f x12 : Int32) (j : Nat), q_Mo_flow_318 x1 x5 x7 x8 x9 x10 E Q u f x12 w → x12.toInt = j → 1 ≤ j → j ≤ M + 1 → (f.toInt = 0 → ∀ j', 1 ≤ j' → j' < j → Bm B j' o = false) → (¬ f.toInt = 0 → wet B M o) → q_Mo_flow_318 x1 x5 x7 x8 x9 x10 E' Q' u f x12 w := by
  intro u
  induction u with
  | zero => exact fun _ _ _ h _ _ _ _ _ => False.elim h
  | succ u ih =>
    intro f x12 j h ej j1 jM i0 i1
    rw [q_Mo_flow_318.eq_2] at h ⊢
    refine ⟨fun d => kE f ⟨i1, fun q y => ?_⟩ (h.1 d), fun d => ⟨fun d2 => kE f ⟨i1, fun _ => d2⟩ ((h.2 d).1 d2), fun d2 => ?_⟩⟩
    · obtain ⟨j', a1, a2, a3⟩ := q
      rw [i0 y j' a1 (by omega)] at a3
      cases a3
    have G := (h.2 d).2 d2
    have f0 := Classical.not_not.mp d2
    have b1 : (x12 + (1 : Int32)).toInt = ((j + 1 : Nat) : Int) := by
      have q := ti_add2 ej i_1 (by omega) (by omega)
      omega
    have yes : Bm B j o = true → ∀ g : q_Mo_flow_318 x1 x5 x7 x8 x9 x10 E Q u 1 (x12 + (1 : Int32)) w, q_Mo_flow_318 x1 x5 x7 x8 x9 x10 E' Q' u 1 (x12 + (1 : Int32)) w := fun q g => ih _ _ (j + 1) g b1 (by omega) (by omega) (fun y => absurd y (by decide)) (fun _ => ⟨j, j1, by omega, q⟩)
    refine ⟨fun d3 => yes (by unfold Bm; rw [if_pos (by omega)]) (G.1 d3), fun d3 => ?_⟩
    have G2 := G.2 d3
    have s := ti_sub2 e7 ej (by omega) (by omega)
    have sn : (x7 - x12).toInt.toNat = o - j := by omega
    have bj : Bm B j o = B (o - j) := by
      unfold Bm
      rw [if_neg (by omega)]
    rw [sn, l193 _ (by omega)] at G2 ⊢
    refine ⟨G2.1, fun d4 => ih _ _ (j + 1) (G2.2.1 d4) b1 (by omega) (by omega) (fun _ j' a1 a2 => ?_) (fun y => absurd i_0 y), fun d4 => yes ?_ (G2.2.2 d4)⟩
    · by_cases q : j' = j
      · rw [q, bj]
        cases y : B (o - j) with
        | false => rfl
        | true =>
          rw [y] at d4
          unfold bv at d4
          rw [if_pos rfl] at d4
          omega
      · exact i0 f0 j' a1 (by omega)
    · rw [bj]
      cases y : B (o - j) with
      | true => rfl
      | false =>
        rw [y] at d4
        unfold bv at d4
        rw [if_neg (by decide), i_0] at d4
        omega
theorem pos_lt {e s j : Nat} (h : j < s) : pos e s j < s := by
  unfold pos
  split <;> omega
theorem pos_i {e s j j' : Nat} (h : j < s) (h' : j' < s) (q : pos e s j = pos e s j') : j = j' := by
  unfold pos at q
  split at q <;> omega
/-- one pipe is written -/
def WrP (z w : MW) (e s o M : Nat) (ca : Int32) (B : Nat → Bool) (j : Nat) : Prop := oI 172 z w ∧ (∀ j', j' < j → w.1 172 (200 * (e / 2) + pos e s j') = bv ca (Bm B M (o + j'))) ∧ ∀ x, (∀ j', j' < j → ¬ x = 200 * (e / 2) + pos e s j') → w.1 172 x = z.1 172 x
theorem wrp_s {z w : MW} {e s o M : Nat} {ca : Int32} {B : Nat → Bool} {j : Nat} {y : Int32} (hj : j < s) (h : WrP z w e s o M ca B j) (ey : y = bv ca (Bm B M (o + j))) : WrP z (sI w 172 (200 * (e / 2) + pos e s j) y) e s o M ca B (j + 1) := by
  refine ⟨⟨h.1.1, fun k i hk => ?_⟩, fun j' hj' => ?_, fun x hx => ?_⟩
  · rw [sI_oth _ _ _ _ _ _ hk]
    exact h.1.2 k i hk
  · rw [sI_if]
    by_cases q : j' = j
    · rw [q, if_pos rfl]
      exact ey
    · rw [if_neg (fun t => q (pos_i (e := e) (s := s) (by omega) hj (by omega)))]
      exact h.2.1 j' (by omega)
  · rw [sI_if, if_neg (hx j (by omega))]
    exact h.2.2 x (fun j' hj' => hx j' (by omega))
theorem flw_400 {z : MW} {k M o L : Nat} {e : Nat} {ca : Int32} {B : Nat → Bool} {x1 x5 x8 x9 x10 : Int32} {E E' : Int32 → MW → Prop} {Q Q' : MW → Prop} (c01 : 0 ≤ ca.toInt ∧ ca.toInt ≤ 14) (e1 : x1.toInt = k) (e5 : x5.toInt = M) (M100 : M ≤ 1000) (e9 : x9 = nI e) (he : e < 48) (e10 : x10.toInt = ((e / 2 : Nat) : Int)) (s1 : 1 ≤ sM z e ∧ sM z e ≤ 200) (eS : (z.1 169 (e / 2)).toInt = (sM z e : Int)) (oL : o + sM z e ≤ L) (L48 : L ≤ 4800) (l193 : ∀ x, x < L → z.1 193 x = bv ca (B x)) (c183 : z.1 183 k = ca) (kE : ∀ (y : Int32) (w : MW), y.toInt = ((o + sM z e : Nat) : Int) → WrP z w e (sM z e) o M ca B (sM z e) → E y w → E' y w) : ∀ (u : Nat) (x7 x12 : Int32) (j : Nat) (w : MW), q_Mo_flow_400 x1 x5 x8 x9 x10 E Q u x7 x12 w → x12.toInt = j → j ≤ sM z e → x7.toInt = ((o + j : Nat) : Int) → WrP z w e (sM z e) o M ca B j → q_Mo_flow_400 x1 x5 x8 x9 x10 E' Q' u x7 x12 w := by
  have n1 : x1.toInt.toNat = k := by omega
  have n10 : x10.toInt.toNat = e / 2 := by omega
  intro u
  induction u with
  | zero => exact fun _ _ _ _ h _ _ _ _ => False.elim h
  | succ u ih =>
    intro x7 x12 j w h ej jS e7 wr
    have w169 : w.1 169 x10.toInt.toNat = z.1 169 (e / 2) := by rw [n10]; exact wr.1.2 169 _ (by decide)
    have w183 : w.1 183 x1.toInt.toNat = ca := by rw [n1, wr.1.2 183 _ (by decide)]; exact c183
    rw [q_Mo_flow_400.eq_2, w169, w183] at h ⊢
    refine ⟨h.1, fun d => ?_, fun d => ?_⟩
    · have q : j = sM z e := by omega
      rw [q] at e7 wr
      exact kE x7 w e7 wr (h.2.1 d)
    have G := h.2.2 d
    have hj : j < sM z e := by omega
    have b7 : (x7 + (1 : Int32)).toInt = ((o + (j + 1) : Nat) : Int) := by
      have q := ti_add2 e7 i_1 (by omega) (by omega)
      omega
    have b12 : (x12 + (1 : Int32)).toInt = ((j + 1 : Nat) : Int) := by
      have q := ti_add2 ej i_1 (by omega) (by omega)
      omega
    have step : ∀ y : Int32, y = bv ca (Bm B M (o + j)) → q_Mo_flow_438 x1 x5 x7 x8 x9 x10 x12 y w (fun (x400_7 : Int32) (x400_12 : Int32) (w : MW) => q_Mo_flow_400 x1 x5 x8 x9 x10 E Q u x400_7 x400_12 w) E Q → q_Mo_flow_438 x1 x5 x7 x8 x9 x10 x12 y w (fun (x400_7 : Int32) (x400_12 : Int32) (w : MW) => q_Mo_flow_400 x1 x5 x8 x9 x10 E' Q' u x400_7 x400_12 w) E' Q' := fun y ey g => by
      have ix := ix172 (p := x10) (x8 := x12) (s := z.1 169 (e / 2)) he e10 eS s1.1 s1.2 ej hj
      have e9' := par2 he
      rw [← e9] at e9'
      rw [q_Mo_flow_438.eq_1, w169, e9', ix.1, ix.2, ey, bv_nb c01.1 c01.2] at g ⊢
      refine ⟨fun d2 => ⟨(g.1 d2).1, (g.1 d2).2.1, ih _ _ (j + 1) _ (g.1 d2).2.2 b12 hj b7 ?_⟩, fun d2 => ⟨(g.2 d2).1, ih _ _ (j + 1) _ (g.2 d2).2 b12 hj b7 ?_⟩⟩
      · have p : pos e (sM z e) j = sM z e - 1 - j := by
          unfold pos
          rw [if_neg (by omega)]
        rw [← p]
        exact wrp_s hj wr rfl
      · have p : pos e (sM z e) j = j := by
          unfold pos
          rw [if_pos (by omega)]
        have q := wrp_s hj wr (y := bv ca (Bm B M (o + j))) rfl
        rw [p] at q
        exact q
    refine ⟨fun d2 => ⟨(G.1 d2).1, step _ ?_ (G.1 d2).2⟩, fun d2 => ⟨(G.2 d2).1, step _ ?_ (G.2 d2).2⟩⟩
    · have s := ti_sub2 e7 e5 (by omega) (by omega)
      have sn : (x7 - x5).toInt.toNat = o + j - M := by omega
      rw [sn, wr.1.2 193 _ (by decide), l193 _ (by omega)]
      unfold Bm
      rw [if_neg (by omega)]
    · have q : Bm B M (o + j) = true := by
        unfold Bm
        rw [if_pos (by omega)]
      rw [q]
      exact (if_pos rfl).symm
/-- the pipes before i are written -/
def FlW (z w : MW) (n : Nat) (en : Nat → Nat) (ca : Int32) (B : Nat → Bool) (M i : Nat) : Prop := (∀ k j, ¬ k = 172 → ¬ k = 173 → ¬ k = 174 → w.1 k j = z.1 k j) ∧ (∀ i', i' < n → i' < i → ∀ j, j < sM z (en i') → w.1 172 (200 * (en i' / 2) + pos (en i') (sM z (en i')) j) = bv ca (Bm B M (ofM z en i' + j))) ∧ (∀ p, (∀ i', i' < n → i' < i → ¬ en i' / 2 = p) → ∀ q, q < 200 → w.1 172 (200 * p + q) = z.1 172 (200 * p + q)) ∧ (∀ i', i' < n → i' < i → (wet B M (ofM z en i') → w.1 173 ((tM z).toNat + en i' / 2) = ca ∧ ∀ l, l < 6 → w.1 174 (6 * ((tM z).toNat + en i' / 2) + l) = -1) ∧ (¬ wet B M (ofM z en i') → w.1 173 ((tM z).toNat + en i' / 2) = z.1 173 ((tM z).toNat + en i' / 2) ∧ ∀ l, l < 6 → w.1 174 (6 * ((tM z).toNat + en i' / 2) + l) = z.1 174 (6 * ((tM z).toNat + en i' / 2) + l))) ∧ ∀ x, (∀ i', i' < n → i' < i → ¬ x = (tM z).toNat + en i' / 2) → w.1 173 x = z.1 173 x ∧ ∀ l, l < 6 → w.1 174 (6 * x + l) = z.1 174 (6 * x + l)
theorem flx_s {z w y w' : MW} {n : Nat} {en : Nat → Nat} {ca : Int32} {B : Nat → Bool} {M i : Nat} (hi : i < n) (ij : ∀ i j, i < n → j < n → en i / 2 = en j / 2 → i = j) (s200 : ∀ i, i < n → sM z (en i) ≤ 200) (h : FlW z w n en ca B M i) (oy : ∀ k j, ¬ k = 173 → ¬ k = 174 → y.1 k j = w.1 k j) (y1 : wet B M (ofM z en i) → y.1 173 ((tM z).toNat + en i / 2) = ca ∧ ∀ l, l < 6 → y.1 174 (6 * ((tM z).toNat + en i / 2) + l) = -1) (y2 : ¬ wet B M (ofM z en i) → ∀ k j, y.1 k j = w.1 k j) (y3 : ∀ x, ¬ x = (tM z).toNat + en i / 2 → y.1 173 x = w.1 173 x ∧ ∀ l, l < 6 → y.1 174 (6 * x + l) = w.1 174 (6 * x + l)) (wr : WrP y w' (en i) (sM z (en i)) (ofM z en i) M ca B (sM z (en i))) : FlW z w' n en ca B M (i + 1) := by
  obtain ⟨h1, h2, h3, h4, h5⟩ := h
  have np : ∀ i', i' < n → i' < i → ¬ en i' / 2 = en i / 2 := fun i' a b e => by
    have := ij i' i a hi e
    omega
  have s2 := s200 i hi
  refine ⟨fun k j a1 a2 a3 => ?_, fun i' a b j hj => ?_, fun p hp q hq => ?_, fun i' a b => ?_, fun x hx => ?_⟩
  · rw [wr.1.2 k j a1, oy k j a2 a3]
    exact h1 k j a1 a2 a3
  · by_cases c : i' = i
    · rw [c] at hj ⊢
      exact wr.2.1 j hj
    · have s3 := s200 i' a
      have pl := pos_lt (e := en i') hj
      have n2 := np i' a (by omega)
      rw [wr.2.2 _ (fun j' hj' e => by have := pos_lt (e := en i) hj'; omega), oy 172 _ (by decide) (by decide)]
      exact h2 i' a (by omega) j hj
  · have n2 : ¬ en i / 2 = p := hp i hi (by omega)
    rw [wr.2.2 _ (fun j' hj' e => by have := pos_lt (e := en i) hj'; omega), oy 172 _ (by decide) (by decide)]
    exact h3 p (fun i' a b => hp i' a (by omega)) q hq
  · rw [wr.1.2 173 _ (by decide)]
    have e174 : ∀ j, w'.1 174 j = y.1 174 j := fun j => wr.1.2 174 j (by decide)
    by_cases c : i' = i
    · rw [c]
      refine ⟨fun q => ⟨(y1 q).1, fun l hl => by rw [e174]; exact (y1 q).2 l hl⟩, fun q => ⟨?_, fun l hl => ?_⟩⟩
      · rw [y2 q]
        exact (h5 _ (fun i'' a' b' e => np i'' a' b' (by omega))).1
      · rw [e174, y2 q]
        exact (h5 _ (fun i'' a' b' e => np i'' a' b' (by omega))).2 l hl
    · have n2 := np i' a (by omega)
      have y4 := y3 ((tM z).toNat + en i' / 2) (by omega)
      have h4' := h4 i' a (by omega)
      refine ⟨fun q => ⟨y4.1.trans (h4'.1 q).1, fun l hl => ?_⟩, fun q => ⟨y4.1.trans (h4'.2 q).1, fun l hl => ?_⟩⟩
      · rw [e174, y4.2 l hl]
        exact (h4'.1 q).2 l hl
      · rw [e174, y4.2 l hl]
        exact (h4'.2 q).2 l hl
  · have nx : ¬ x = (tM z).toNat + en i / 2 := hx i hi (by omega)
    have y4 := y3 x nx
    have h5' := h5 x (fun i' a b => hx i' a (by omega))
    rw [wr.1.2 173 _ (by decide)]
    refine ⟨y4.1.trans h5'.1, fun l hl => ?_⟩
    rw [wr.1.2 174 _ (by decide), y4.2 l hl]
    exact h5'.2 l hl
theorem flw_281 {z : MW} {k n : Nat} {en : Nat → Nat} {fr to : Nat} {ca : Int32} {B : Nat → Bool} {M : Nat} {x1 x5 : Int32} {E E' Q Q' : MW → Prop} (ka : x1.toInt = k) (W : WmS z k n en fr to ca) (p24 : ∀ i, i < n → en i / 2 < 24) (e5 : x5.toInt = M) (M100 : M ≤ 1000) (l193 : ∀ x, x < ofM z en n → z.1 193 x = bv ca (B x)) (kE : ∀ w, FlW z w n en ca B M n → E w → E' w) : ∀ (u : Nat) (x7 x8 : Int32) (i : Nat) (w : MW), q_Mo_flow_281 x1 x5 E Q u x7 x8 w → x8.toInt = i → i ≤ n → x7.toInt = (ofM z en i : Int) → FlW z w n en ca B M i → q_Mo_flow_281 x1 x5 E' Q' u x7 x8 w := by
  have n24 := W.1.2.1
  have k24 := W.1.2.2
  have ca1 := W.2.2.2.2.1
  have T := W.2.2.2.2.2.1
  have sb : ∀ i, i < n → (1 ≤ sM z (en i) ∧ sM z (en i) ≤ 200) ∧ (z.1 169 (en i / 2)).toInt = (sM z (en i) : Int) := fun i hi => by
    have q := (W.2.1 i hi).2.2
    unfold sM
    omega
  have ol := ofM_le (fun i hi => (sb i hi).1.2)
  have om : ∀ i j, i ≤ j → ofM z en i ≤ ofM z en j := fun i j hij => by
    induction j with
    | zero => rw [show i = 0 by omega]; exact Nat.le_refl _
    | succ j ih =>
      by_cases c : i = j + 1
      · rw [c]
        exact Nat.le_refl _
      · have q := ih (by omega)
        have e : ofM z en (j + 1) = ofM z en j + sM z (en j) := rfl
        omega
  intro u
  induction u with
  | zero => exact fun _ _ _ _ h _ _ _ _ => False.elim h
  | succ u ih =>
    intro x7 x8 i w h ex iN e7 fl
    have kn : x1.toInt.toNat = k := by omega
    have w185 : (w.1 185 x1.toInt.toNat).toInt = n := by rw [kn, fl.1 185 _ (by decide) (by decide) (by decide)]; exact W.1.1
    rw [q_Mo_flow_281.eq_2, w185] at h ⊢
    refine ⟨h.1, fun d => ?_, fun d => ?_⟩
    · have e : i = n := by omega
      rw [e] at fl
      exact kE w fl (h.2.1 d)
    have hi : i < n := by omega
    have H := h.2.2 d
    have Wi := W.2.1 i hi
    have m1 := ti_mul2 (by decide : ((24 : Int32)).toInt = 24) ka (by omega) (by omega)
    have m2 := ti_add2 m1 ex (by omega) (by omega)
    have m3 : (((24 : Int32) * x1) + x8).toInt.toNat = 24 * k + i := by omega
    have w186 : w.1 186 (24 * k + i) = nI (en i) := by rw [fl.1 186 _ (by decide) (by decide) (by decide)]; exact Wi.1
    rw [m3, w186] at H ⊢
    have x8' : (x8 + (1 : Int32)).toInt = ((i + 1 : Nat) : Int) := by
      have q := ti_add2 ex i_1 (by omega) (by omega)
      omega
    have os : ofM z en (i + 1) = ofM z en i + sM z (en i) := rfl
    have oL := om (i + 1) n (by omega)
    have oN := ol n (Nat.le_refl _)
    have si := sb i hi
    have pi := p24 i hi
    have w193 : ∀ x, x < ofM z en n → w.1 193 x = bv ca (B x) := fun x hx => by
      rw [fl.1 193 x (by decide) (by decide) (by decide)]
      exact l193 x hx
    have rest : ∀ y : MW, (∀ k j, ¬ k = 173 → ¬ k = 174 → y.1 k j = w.1 k j) → (wet B M (ofM z en i) → y.1 173 ((tM z).toNat + en i / 2) = ca ∧ ∀ l, l < 6 → y.1 174 (6 * ((tM z).toNat + en i / 2) + l) = -1) → (¬ wet B M (ofM z en i) → ∀ k j, y.1 k j = w.1 k j) → (∀ x, ¬ x = (tM z).toNat + en i / 2 → y.1 173 x = w.1 173 x ∧ ∀ l, l < 6 → y.1 174 (6 * x + l) = w.1 174 (6 * x + l)) → q_Mo_flow_400 x1 x5 x8 (nI (en i)) (nI (en i) / (2 : Int32)) (fun (e400_7 : Int32) (w59 : MW) => (q_Mo_flow_281 x1 x5 E Q u e400_7 (x8 + (1 : Int32)) w59)) Q FU x7 0 y → q_Mo_flow_400 x1 x5 x8 (nI (en i)) (nI (en i) / (2 : Int32)) (fun (e400_7 : Int32) (w59 : MW) => (q_Mo_flow_281 x1 x5 E' Q' u e400_7 (x8 + (1 : Int32)) w59)) Q' FU x7 0 y := fun y oy y1 y2 y3 g => by
      have yz : ∀ k j, ¬ k = 172 → ¬ k = 173 → ¬ k = 174 → y.1 k j = z.1 k j := fun k j a1 a2 a3 => (oy k j a2 a3).trans (fl.1 k j a1 a2 a3)
      have sy : sM y (en i) = sM z (en i) := by
        unfold sM
        rw [yz 169 _ (by decide) (by decide) (by decide)]
      refine flw_400 (z := y) (k := k) (M := M) (o := ofM z en i) (L := ofM z en n) (e := en i) (B := B) ⟨by omega, ca1.2⟩ ka e5 M100 rfl Wi.2.1 (div2 Wi.2.1) (by rw [sy]; exact si.1) (by rw [sy, yz 169 _ (by decide) (by decide) (by decide)]; exact si.2) (by rw [sy]; omega) (by omega) (fun x hx => by rw [oy 193 x (by decide) (by decide)]; exact w193 x hx) (by rw [yz 183 k (by decide) (by decide) (by decide)]; exact W.2.2.2.1) (fun y7 w' e7' wr g2 => ?_) _ _ _ 0 _ g i_0 (Nat.zero_le _) e7 ⟨⟨rfl, fun _ _ _ => rfl⟩, fun j' hj' => absurd hj' (Nat.not_lt_zero j'), fun _ _ => rfl⟩
      rw [sy] at e7' wr
      exact ih _ _ (i + 1) _ g2 x8' hi e7' (flx_s hi W.2.2.2.2.2.2 (fun i' hi' => (sb i' hi').1.2) fl oy y1 y2 y3 wr)
    refine ⟨H.1, flw_318 (ca := ca) (B := B) (M := M) (o := ofM z en i) (L := ofM z en n) ca1.1 e5 M100 e7 (by omega) (by omega) w193 (fun f hf g => ⟨fun d2 => ?_, fun d2 => ?_⟩) _ _ _ 1 H.2 i_1 (Nat.le_refl _) (by omega) (fun _ j' a b => by omega) (fun y => absurd i_0 y)⟩
    · have nw : ¬ wet B M (ofM z en i) := fun q => (hf.mpr q) d2
      exact rest w (fun _ _ _ _ => rfl) (fun q => absurd q nw) (fun _ _ _ => rfl) (fun _ _ => ⟨rfl, fun _ _ => rfl⟩) (g.1 d2)
    · have yw := hf.mp d2
      have G := g.2 d2
      have w4 : w.1 127 4 = z.1 127 4 := fl.1 127 4 (by decide) (by decide) (by decide)
      have tz : (z.1 127 4).toInt = tM z := rfl
      have px := pl_i (T := z.1 127 4) (e := en i) T.1 T.2 Wi.2.1
      have w183 : w.1 183 x1.toInt.toNat = ca := by rw [kn, fl.1 183 _ (by decide) (by decide) (by decide)]; exact W.2.2.2.1
      have pn : ((z.1 127 4) + (nI (en i) / (2 : Int32))).toInt.toNat = (tM z).toNat + en i / 2 := by omega
      rw [w4, w183] at G ⊢
      refine ⟨G.1, G.2.1, fgm_x G.2.2 (by omega) (by omega) (fun y fg g2 => ?_)⟩
      rw [pn] at fg
      refine rest y (fun k' j a1 a2 => ?_) (fun _ => ⟨?_, fun l hl => ?_⟩) (fun q => absurd yw q) (fun x hx => ⟨?_, fun l hl => ?_⟩) g2
      · rw [fg.1.2 k' j a2, sI_oth _ _ _ _ _ _ a1]
      · rw [fg.1.2 173 _ (by decide), sI_same]
      · rw [fg.2, if_pos ⟨by omega, by omega⟩]
      · rw [fg.1.2 173 _ (by decide), sI_if, if_neg hx]
      · rw [fg.2, if_neg (fun q => by omega), sI_oth _ _ _ _ _ _ (by decide)]
