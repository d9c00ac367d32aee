/-! a way flows on both sides: what they leave goes together -/
theorem pos_p {e s k : Nat} (h : k < s) : pos e s (pos e s k) = k := by
  unfold pos
  split
  · rfl
  · omega
theorem ctb_pos (f : Nat → Bool) (e s : Nat) : ctb (fun j => f (pos e s j)) s = ctb f s := by
  by_cases c : e % 2 = 0
  · refine ctb_same _ (fun j _ => ?_)
    unfold pos
    rw [if_pos c]
  · have g : ∀ (s : Nat) (f : Nat → Bool), ctb (fun j => f (s - 1 - j)) s = ctb f s := by
      intro s
      induction s with
      | zero => exact fun _ => rfl
      | succ s ih =>
        intro f
        have p := ctb_push (f := fun j => f (s - 1 - j)) (g := fun j => f (s + 1 - 1 - j)) (b := f s) s (by show f (s + 1 - 1 - 0) = f s; rw [show s + 1 - 1 - 0 = s by omega]) (fun j _ => by show f (s + 1 - 1 - (j + 1)) = f (s - 1 - j); rw [show s + 1 - 1 - (j + 1) = s - 1 - j by omega])
        have e1 : ctb (fun j => f (s - 1 - j)) (s + 1) = ctb (fun j => f (s - 1 - j)) s + bn (f (s - 1 - s)) := by
          rw [ctb_s]
          rfl
        have e2 : ctb f (s + 1) = ctb f s + bn (f s) := by
          rw [ctb_s]
          rfl
        have i := ih f
        have p2 : ctb (fun j => f (s + 1 - 1 - j)) (s + 1) + bn (f (s - 1 - s)) = ctb (fun j => f (s - 1 - j)) (s + 1) + bn (f s) := p
        omega
    have q : (fun j => f (pos e s j)) = fun j => f (s - 1 - j) := by
      funext j
      unfold pos
      rw [if_neg c]
    rw [q]
    exact g s f
/-- the ways, with what lies in the pipes told apart -/
theorem HWy_h {w w' : MW} (hp : Ag lPL w w') (h : Ag lWy w w') (hf : WRf w') (s : HWy w) : HWy w' := by
  have y : HWy (fun k j => if k = 17 then w.1 17 j else w'.1 k j, w'.2) := by
    refine HWy_ag (w := w) (fun k j hk => ?_) (fun k j hk => ?_) (fun p => ?_) s
    · have n : ¬ k = 17 := fun e => by rw [e] at hk; cases hk
      show (if k = 17 then w.1 17 j else w'.1 k j) = w.1 k j
      rw [if_neg n]
      exact hp k j hk
    · have n : ¬ k = 17 := fun e => by rw [e] at hk; cases hk
      show (if k = 17 then w.1 17 j else w'.1 k j) = w.1 k j
      rw [if_neg n]
      exact h k j hk
    · rfl
  exact ⟨y.1, y.2.1, y.2.2.1, y.2.2.2.1, y.2.2.2.2.1, hf⟩
/-- what the reference leaves of way k behind M litres, c of them out -/
def FmR (w w' : MW) (n : Nat) (en : Nat → Nat) (fr to : Nat) (ca : Int32) (B : Nat → Bool) (M c : Nat) : Prop := (∀ k j, ¬ k = 165 → ¬ k = 166 → ¬ k = 172 → ¬ k = 173 → ¬ k = 174 → ¬ k = 193 → w'.1 k j = w.1 k j) ∧ ((∀ j, ¬ j = fr → ¬ j = to → w'.1 165 j = w.1 165 j) ∧ (∀ j, ¬ j = to → w'.1 166 j = w.1 166 j) ∧ (w'.1 165 fr).toInt + M = (w.1 165 fr).toInt ∧ (w'.1 165 to).toInt = (w.1 165 to).toInt + c ∧ w'.1 166 to = (if 0 < c then ca else w.1 166 to)) ∧ ((∀ i, i < n → ∀ j, j < sM w (en i) → w'.1 172 (200 * (en i / 2) + pos (en i) (sM w (en i)) j) = bv ca (Bm B M (ofM w en i + j))) ∧ ∀ p, (∀ i, i < n → ¬ en i / 2 = p) → ∀ q, q < 200 → w'.1 172 (200 * p + q) = w.1 172 (200 * p + q)) ∧ (∀ i, i < n → (wet B M (ofM w en i) → w'.1 173 ((tM w).toNat + en i / 2) = ca ∧ ∀ l, l < 6 → w'.1 174 (6 * ((tM w).toNat + en i / 2) + l) = -1) ∧ (¬ wet B M (ofM w en i) → w'.1 173 ((tM w).toNat + en i / 2) = w.1 173 ((tM w).toNat + en i / 2) ∧ ∀ l, l < 6 → w'.1 174 (6 * ((tM w).toNat + en i / 2) + l) = w.1 174 (6 * ((tM w).toNat + en i / 2) + l))) ∧ (w'.1 173 to = (if 0 < c then ca else w.1 173 to) ∧ ∀ l, l < 6 → w'.1 174 (6 * to + l) = (if 0 < c then -1 else w.1 174 (6 * to + l))) ∧ ∀ x, ¬ x = to → (∀ i, i < n → ¬ x = (tM w).toNat + en i / 2) → w'.1 173 x = w.1 173 x ∧ ∀ l, l < 6 → w'.1 174 (6 * x + l) = w.1 174 (6 * x + l)
theorem WmS_o {z w : MW} {k n : Nat} {en : Nat → Nat} {fr to : Nat} {ca : Int32} (e : ∀ k j, ¬ k = 165 → ¬ k = 166 → ¬ k = 172 → ¬ k = 173 → ¬ k = 174 → ¬ k = 193 → w.1 k j = z.1 k j) (h : WmS z k n en fr to ca) : WmS w k n en fr to ca ∧ tM w = tM z ∧ (∀ e', sM w e' = sM z e') ∧ ∀ i, ofM w en i = ofM z en i := by
  have et : tM w = tM z := by
    unfold tM
    rw [e 127 4 (by decide) (by decide) (by decide) (by decide) (by decide) (by decide)]
  have es : ∀ e', sM w e' = sM z e' := fun e' => by
    unfold sM
    rw [e 169 _ (by decide) (by decide) (by decide) (by decide) (by decide) (by decide)]
  have eo : ∀ i, ofM w en i = ofM z en i := fun i => by
    unfold ofM
    have q : (fun j => sM w (en j)) = fun j => sM z (en j) := funext (fun j => es (en j))
    rw [q]
  refine ⟨?_, et, es, eo⟩
  unfold WmS
  rw [et, e 185 k (by decide) (by decide) (by decide) (by decide) (by decide) (by decide), e 181 k (by decide) (by decide) (by decide) (by decide) (by decide) (by decide), e 182 k (by decide) (by decide) (by decide) (by decide) (by decide) (by decide), e 183 k (by decide) (by decide) (by decide) (by decide) (by decide) (by decide)]
  refine ⟨h.1, fun i hi => ?_, h.2.2⟩
  rw [e 186 _ (by decide) (by decide) (by decide) (by decide) (by decide) (by decide), e 169 _ (by decide) (by decide) (by decide) (by decide) (by decide) (by decide)]
  exact h.2.1 i hi
theorem FlH_o {v z w : MW} {k fr to : Nat} {ca : Int32} (o : oI 193 z w) (H : FlH v z k fr to ca) : FlH v w k fr to ca := by
  obtain ⟨⟨sk, sv, tb⟩, ⟨T, P⟩, ⟨f1, t1, ft, kf, kt⟩, ⟨c183, ca1, ca14⟩, z165, s200, b17, b19, k24⟩ := H
  have e : ∀ k j, ¬ k = 193 → w.1 k j = z.1 k j := o.2
  have et : tM w = tM z := by
    unfold tM
    rw [e 127 4 (by decide)]
  have ep : pM w = pM z := by
    unfold pM
    rw [e 127 11 (by decide)]
  have ek : ∀ t, tkM w t ↔ tkM z t := fun t => by
    unfold tkM
    rw [e 163 _ (by decide)]
  refine ⟨⟨SKl_g (fun _ => rfl) (fun k j hk => e k j (fun q => by rw [q] at hk; cases hk)) sk, ?_, ?_⟩, ⟨by rw [et]; exact T, by rw [ep]; exact P⟩, ⟨by rw [et]; exact f1, by rw [et]; exact t1, ft, (ek _).mpr kf, (ek _).mpr kt⟩, ⟨by rw [e 183 k (by decide)]; exact c183, ca1, ca14⟩, fun t ht => ?_, fun p hp => ?_, b17, b19, k24⟩
  · unfold SKv
    rw [et, ep, e 127 78 (by decide)]
    exact ⟨fun x hx => by rw [e 173 x (by decide)]; exact sv.1 x hx, fun x l hx l1 l2 => by rw [e 174 _ (by decide)]; exact sv.2.1 x l hx l1 l2, sv.2.2⟩
  · exact ⟨fun i j a1 a2 a3 a4 => by rw [e 176 _ (by decide)]; exact tb.1 i j a1 a2 a3 a4, fun l a1 a2 => by rw [e 177 _ (by decide)]; exact tb.2 l a1 a2⟩
  · rw [e 165 t (by decide), e 166 t (by decide)]
    exact z165 t ht
  · rw [ep] at hp
    rw [e 169 p (by decide)]
    exact s200 p hp
theorem flw_x {v w : MW} {a : Int32} {k n : Nat} {en : Nat → Nat} {fr to : Nat} {ca : Int32} {B : Nat → Bool} {Q Q' : MW → Prop} (h : p_Mo_flow w a Q) (ea : a.toInt = k) (W : WmS w k n en fr to ca) (ln : LnM w n en ca B) (H : FlH v w k fr to ca) (ra : 0 ≤ (w.1 184 k).toInt ∧ (w.1 184 k).toInt ≤ 100) (kQ : ∀ M w', MvM v w (ofM w en n) fr to ca B (w.1 184 k).toInt M → FmR w w' n en fr to ca B M (cOut B (ofM w en n) M) → Q w' → Q' w') : p_Mo_flow w a Q' := by
  have an : a.toInt.toNat = k := by omega
  have n24 := W.1.2.1
  have ft := W.2.2.1
  have sb : ∀ i, i < n → sM w (en i) ≤ 200 := fun i hi => by
    have q := (W.2.1 i hi).2.2
    unfold sM
    omega
  have oN := ofM_le sb n (Nat.le_refl _)
  rw [p_Mo_flow.eq_1, an] at h ⊢
  refine ⟨h.1, h.2.1, flw_20 ea W ln (fun al w1 eal o1 l1 g1 => ?_) _ _ _ 0 _ h.2.2 i_0 (Nat.zero_le _) i_0 ⟨rfl, fun _ _ _ => rfl⟩ (fun x hx => absurd hx (Nat.not_lt_zero x))⟩
  have H1 := FlH_o o1 H
  have e1 : ∀ k j, ¬ k = 165 → ¬ k = 166 → ¬ k = 172 → ¬ k = 173 → ¬ k = 174 → ¬ k = 193 → w1.1 k j = w.1 k j := fun k j _ _ _ _ _ h6 => o1.2 k j h6
  have r184 : w1.1 184 k = w.1 184 k := o1.2 184 k (by decide)
  refine flw_130 (L := ofM w en n) (B := B) H1 ea ft.1 ft.2.1 eal (by omega) l1 (by rw [r184]; exact ra) (fun mo M w2 em mv tm g2 => ?_) _ _ _ 0 _ g1 i_0 (by rw [r184]; have := ra.1; omega) (fun m' hm' => absurd hm' (Nat.not_lt_zero m')) (fun q => absurd q (by decide)) ?_
  case refine_2 =>
    refine ⟨fun _ _ _ _ _ _ => rfl, fun _ _ _ => rfl, fun _ _ => ⟨rfl, rfl⟩, fun _ _ => rfl, ⟨?_, ?_⟩, (if_neg (Nat.lt_irrefl 0)).symm, (if_neg (Nat.lt_irrefl 0)).symm, fun _ _ => (if_neg (Nat.lt_irrefl 0)).symm⟩
    · omega
    · show (w1.1 165 to).toInt = (w1.1 165 to).toInt + ((cOut B (ofM w en n) 0 : Nat) : Int)
      have q : cOut B (ofM w en n) 0 = 0 := rfl
      omega
  case refine_1 =>
    have e2 : ∀ k j, ¬ k = 165 → ¬ k = 166 → ¬ k = 172 → ¬ k = 173 → ¬ k = 174 → ¬ k = 193 → w2.1 k j = w.1 k j := fun k j a1 a2 a3 a4 a5 a6 => (tm.1 k j a1 a2 a4 a5).trans (e1 k j a1 a2 a3 a4 a5 a6)
    obtain ⟨W2, t2, s2, o2⟩ := WmS_o e2 W
    have M100 : M ≤ 1000 := by
      have := mv.2.1
      rw [r184] at this
      omega
    refine flw_281 (z := w2) (B := B) (M := M) ea W2 (fun i hi => by have := (W.2.1 i hi).2.1; omega) em M100 (fun x hx => ?_) (fun w3 fl g3 => kQ M w3 ?_ ?_ g3) _ _ _ 0 _ g2 i_0 (Nat.zero_le _) i_0 ⟨fun _ _ _ _ _ => rfl, fun _ _ b => absurd b (Nat.not_lt_zero _), fun _ _ _ _ => rfl, fun _ _ b => absurd b (Nat.not_lt_zero _), fun _ _ => ⟨rfl, fun _ _ => rfl⟩⟩
    · rw [o2] at hx
      rw [tm.1 193 x (by decide) (by decide) (by decide) (by decide)]
      exact l1 x hx
    · have d : ∀ m, decM v w1 (ofM w en n) fr to ca B m ↔ decM v w (ofM w en n) fr to ca B m := fun m => by
        unfold decM
        rw [o1.2 166 fr (by decide), o1.2 165 fr (by decide), o1.2 165 to (by decide), o1.2 164 to (by decide)]
      unfold MvM at mv ⊢
      rw [r184] at mv
      exact ⟨fun m hm => (d m).mp (mv.1 m hm), mv.2.1, mv.2.2.elim Or.inl (fun q => Or.inr (fun y => q ((d M).mpr y)))⟩
    · obtain ⟨f1, f2, f3, f4, f5⟩ := fl
      obtain ⟨h1, h2, h3, h4, ⟨h5, h6⟩, h7, h8, h9⟩ := tm
      have q : ∀ k j, ¬ k = 193 → w1.1 k j = w.1 k j := o1.2
      have nto : ∀ i, i < n → ¬ to = (tM w).toNat + en i / 2 := fun i _ => by omega
      have nto6 : ∀ i, i < n → ∀ l, l < 6 → ¬ (6 * to ≤ 6 * ((tM w).toNat + en i / 2) + l ∧ 6 * ((tM w).toNat + en i / 2) + l < 6 * to + 6) := fun i hi l hl y => by
        have := nto i hi
        omega
      rw [t2] at f4 f5
      refine ⟨fun k' j a1 a2 a3 a4 a5 a6 => (f1 k' j a3 a4 a5).trans (e2 k' j a1 a2 a3 a4 a5 a6), ⟨fun j j1 j2 => ?_, fun j hj => ?_, ?_, ?_, ?_⟩, ⟨fun i hi j hj => ?_, fun p hp x hx => ?_⟩, fun i hi => ?_, ⟨?_, fun l hl => ?_⟩, fun x hx hn => ?_⟩
      · rw [f1 165 j (by decide) (by decide) (by decide), h2 j j1 j2, q 165 j (by decide)]
      · rw [f1 166 j (by decide) (by decide) (by decide), (h3 j hj).1, q 166 j (by decide)]
      · rw [f1 165 fr (by decide) (by decide) (by decide), ← q 165 fr (by decide)]
        exact h5
      · rw [f1 165 to (by decide) (by decide) (by decide), ← q 165 to (by decide)]
        exact h6
      · rw [f1 166 to (by decide) (by decide) (by decide), h7, q 166 to (by decide)]
      · rw [← s2] at hj
        have y := f2 i hi hi j hj
        rw [s2, o2] at y
        exact y
      · rw [f3 p (fun i' a b => hp i' a) x hx, h1 172 _ (by decide) (by decide) (by decide) (by decide), q 172 _ (by decide)]
      · have y := f4 i hi hi
        rw [o2] at y
        refine ⟨y.1, fun nw => ⟨?_, fun l hl => ?_⟩⟩
        · rw [(y.2 nw).1, (h3 _ (fun e => nto i hi e.symm)).2, q 173 _ (by decide)]
        · rw [(y.2 nw).2 l hl, h4 _ (nto6 i hi l hl), q 174 _ (by decide)]
      · rw [(f5 to (fun i' a b => nto i' a)).1, h8, q 173 to (by decide)]
      · rw [(f5 to (fun i' a b => nto i' a)).2 l hl, h9 l hl, q 174 _ (by decide)]
      · have y := f5 x (fun i' a b => hn i' a)
        refine ⟨by rw [y.1, (h3 x hx).2, q 173 x (by decide)], fun l hl => ?_⟩
        rw [y.2 l hl, h4 _ (by omega), q 174 _ (by decide)]
