/-! how many litres go: the reference's loop -/
theorem tmf_c {z w : MW} (h1 : ∀ k j, ¬ k = 165 → ¬ k = 166 → ¬ k = 173 → ¬ k = 174 → w.1 k j = z.1 k j) : tM w = tM z ∧ pM w = pM z ∧ (∀ t, tkM w t ↔ tkM z t) := by
  refine ⟨?_, ?_, fun t => ?_⟩
  · unfold tM
    rw [h1 127 4 (by decide) (by decide) (by decide) (by decide)]
  · unfold pM
    rw [h1 127 11 (by decide) (by decide) (by decide) (by decide)]
  · unfold tkM
    rw [h1 163 _ (by decide) (by decide) (by decide) (by decide)]
/-- litres and liquids of the tanks alone -/
def TMl (z w : MW) (fr to m c : Nat) (ca : Int32) : Prop := (∀ k j, ¬ k = 165 → ¬ k = 166 → ¬ k = 173 → ¬ k = 174 → w.1 k j = z.1 k j) ∧ (∀ j, ¬ j = fr → ¬ j = to → w.1 165 j = z.1 165 j) ∧ (∀ j, ¬ j = to → w.1 166 j = z.1 166 j) ∧ ((w.1 165 fr).toInt + m = (z.1 165 fr).toInt ∧ (w.1 165 to).toInt = (z.1 165 to).toInt + c) ∧ w.1 166 to = (if 0 < c then ca else z.1 166 to)
theorem tml_f {z w : MW} {fr to m c : Nat} {ca : Int32} (h : TMf z w fr to m c ca) : TMl z w fr to m c ca := ⟨h.1, h.2.1, fun j hj => (h.2.2.1 j hj).1, h.2.2.2.2.1, h.2.2.2.2.2.1⟩
theorem yt_l {v z w : MW} {fr to m c : Nat} {ca : Int32} (sk : SKl v z) (T : 0 ≤ tM z) (f1 : (fr : Int) < tM z) (t1 : (to : Int) < tM z) (ft : ¬ fr = to) (kf : tkM z fr) (kt : tkM z to) (z0 : 0 ≤ (z.1 165 to).toInt) (h : TMl z w fr to m c ca) : SKl (yTk v fr to c ca (w.1 165 fr).toInt) w := by
  obtain ⟨e1, e2, e3⟩ := tmf_c h.1
  obtain ⟨h1, h2, h3, ⟨h5, h6⟩, h7⟩ := h
  unfold SKl
  rw [e1, e2]
  refine ⟨fun t ht => ⟨fun k => ?_, fun k => ?_⟩, fun p hp => ?_⟩
  · rw [e3] at k
    have s := (sk.1 t ht).1 k
    rw [yt_17]
    by_cases c1 : t = to
    · by_cases c2 : 0 < c
      · rw [if_pos ⟨c1, c2⟩, c1, h7, if_pos c2, if_pos (by omega)]
      · rw [if_neg (fun q => c2 q.2), if_neg (fun q => ft (by rw [← q.1, c1])), s, c1, h7, if_neg c2]
        have e : (w.1 165 to).toInt = (z.1 165 to).toInt := by omega
        rw [e]
    · rw [if_neg (fun q => c1 q.1), h3 t c1]
      by_cases c2 : t = fr
      · rw [c2] at s ⊢
        by_cases c3 : (w.1 165 fr).toInt ≤ 0
        · rw [if_pos ⟨rfl, c3⟩, if_neg (by omega)]
        · rw [if_neg (fun q => c3 q.2), if_pos (by omega), s, if_pos (by omega)]
      · rw [if_neg (fun q => c2 q.1), h2 t c2 c1]
        exact s
  · rw [e3] at k
    rw [yt_17, if_neg (fun q => k (by rw [q.1]; exact kt)), if_neg (fun q => k (by rw [q.1]; exact kf))]
    exact (sk.1 t ht).2 k
  · have y : (yTk v fr to c ca (w.1 165 fr).toInt).1 17 ((tM z).toNat + p) = v.1 17 ((tM z).toNat + p) := by
      rw [yt_17, if_neg (fun q => by have := q.1; omega), if_neg (fun q => by have := q.1; omega)]
    rw [y, h1 169 p (by decide) (by decide) (by decide) (by decide)]
    have e : ∀ j, w.1 172 j = z.1 172 j := fun j => h1 172 j (by decide) (by decide) (by decide) (by decide)
    rcases sk.2 p hp with ⟨a, b⟩ | ⟨a, b, k, hk, d⟩
    · exact Or.inl ⟨a, fun k hk => by rw [e]; exact b k hk⟩
    · exact Or.inr ⟨a, fun k hk => by rw [e]; exact b k hk, k, hk, by rw [e]; exact d⟩
theorem yt_v {v z w : MW} {fr to m c : Nat} {ca : Int32} (sv : SKv v z) (ca0 : ¬ ca.toInt = 0) (pos0 : 0 < (w.1 165 fr).toInt) (h : TMf z w fr to m c ca) : SKv (yTk v fr to c ca (w.1 165 fr).toInt) w := by
  obtain ⟨e1, e2, e3⟩ := tmf_c h.1
  obtain ⟨h1, h2, h3, h4, ⟨h5, h6⟩, h7, h8, h9⟩ := h
  unfold SKv
  rw [e1, e2, yt_o v c ca _ (by decide) (by decide), h1 127 78 (by decide) (by decide) (by decide) (by decide)]
  refine ⟨fun x hx => ?_, fun x l hx l1 l2 => ?_, sv.2.2⟩
  · rw [yt_17, yt_o v c ca _ (by decide) (by decide)]
    have s := sv.1 x hx
    by_cases c1 : x = to ∧ 0 < c
    · rw [if_pos c1, c1.1, h8, if_pos c1.2]
      exact ⟨fun q => absurd q ca0, fun _ => rfl⟩
    · rw [if_neg c1, if_neg (fun q => by have := q.2; omega)]
      have e : w.1 173 x = z.1 173 x := by
        by_cases c2 : x = to
        · rw [c2, h8, if_neg (fun q => c1 ⟨c2, q⟩)]
        · exact (h3 x c2).2
      rw [e]
      exact s
  · rw [yt_23]
    have s := sv.2.1 x l hx l1 l2
    by_cases c1 : 6 * to ≤ 6 * x + l ∧ 6 * x + l < 6 * to + 6 ∧ 0 < c
    · have e : x = to := by omega
      rw [if_pos c1, e, h9 l (by omega), if_pos c1.2.2]
    · rw [if_neg c1, s]
      by_cases c2 : x = to
      · rw [c2, h9 l (by omega), if_neg (fun q => c1 ⟨by omega, by omega, q⟩)]
      · exact (h4 _ (by omega)).symm
/-- whether litre m + 1 goes, in the reference's words -/
def decM (v z : MW) (L fr to : Nat) (ca : Int32) (B : Nat → Bool) (m : Nat) : Prop := (z.1 166 fr = ca ∧ (m : Int) < (z.1 165 fr).toInt) ∧ (Bm B (m + 1) L = false ∨ ((z.1 165 to).toInt + cOut B L m < (z.1 164 to).toInt ∧ (0 < cOut B L m ∨ McO v to ca)))
/-- what the loop wants -/
def FlH (v z : MW) (k fr to : Nat) (ca : Int32) : Prop := (SKl v z ∧ SKv v z ∧ TBv v z) ∧ ((0 ≤ tM z ∧ tM z ≤ 20) ∧ (0 ≤ pM z ∧ pM z ≤ 24)) ∧ ((fr : Int) < tM z ∧ (to : Int) < tM z ∧ ¬ fr = to ∧ tkM z fr ∧ tkM z to) ∧ (z.1 183 k = ca ∧ 1 ≤ ca.toInt ∧ ca.toInt ≤ 14) ∧ (∀ t : Nat, t = fr ∨ t = to → 0 ≤ (z.1 165 t).toInt ∧ (z.1 165 t).toInt ≤ 1000000 ∧ (0 < (z.1 165 t).toInt → ¬ (z.1 166 t).toInt = 0)) ∧ (∀ p : Nat, (p : Int) < pM z → (z.1 169 p).toInt ≤ 200) ∧ (∀ x : Nat, 0 ≤ (v.1 17 x).toInt) ∧ (∀ x : Nat, 0 ≤ (v.1 19 x).toInt ∧ (v.1 19 x).toInt ≤ 14) ∧ k < 24
theorem McO_y {v : MW} {fr to c : Nat} {ca : Int32} {a0 : Int} (ft : ¬ fr = to) (ca0 : ¬ ca.toInt = 0) : McO (yTk v fr to c ca a0) to ca ↔ 0 < c ∨ McO v to ca := by
  by_cases d : 0 < c
  · refine ⟨fun _ => Or.inl d, fun _ => Or.inl ?_⟩
    rw [yt_17, if_pos ⟨rfl, d⟩]
    exact ⟨ca0, rfl⟩
  · have e17 : (yTk v fr to c ca a0).1 17 to = v.1 17 to := by rw [yt_17, if_neg (fun q => d q.2), if_neg (fun q => ft q.1.symm)]
    have eh : hlC (yTk v fr to c ca a0) to = hlC v to := by
      unfold hlC
      rw [yt_o v c ca a0 (by decide) (by decide)]
      exact hlF_c rfl 5 (-1) (fun j _ _ => ⟨by rw [yt_23, if_neg (fun q => d q.2.2)], yt_o v c ca a0 (by decide) (by decide) j⟩)
    have em : McO (yTk v fr to c ca a0) to ca ↔ McO v to ca := by
      unfold McO
      rw [eh, e17, yt_o v c ca a0 (by decide) (by decide), yt_o v c ca a0 (by decide) (by decide)]
    rw [em]
    exact ⟨fun q => Or.inr q, fun q => q.elim (fun y => absurd y d) id⟩
/-- a litre leaves the one tank -/
theorem tm_fr {z w : MW} {fr to m c : Nat} {ca : Int32} (ft : ¬ fr = to) (b : 0 < (w.1 165 fr).toInt) (ub : (w.1 165 fr).toInt ≤ 2000000) (h : TMf z w fr to m c ca) : TMf z (sI w 165 fr ((w.1 165 fr) - (1 : Int32))) fr to (m + 1) c ca := by
  obtain ⟨h1, h2, h3, h4, ⟨h5, h6⟩, h7, h8, h9⟩ := h
  have q := ti_sub2 (Eq.refl (w.1 165 fr).toInt) i_1 (by omega) (by omega)
  refine ⟨fun k j a1 a2 a3 a4 => ?_, fun j j1 j2 => ?_, fun j hj => ?_, fun j hj => ?_, ⟨?_, ?_⟩, ?_, ?_, fun i hi => ?_⟩
  · rw [sI_oth _ _ _ _ _ _ a1]
    exact h1 k j a1 a2 a3 a4
  · rw [sI_if, if_neg j1]
    exact h2 j j1 j2
  · rw [sI_oth _ _ _ _ _ _ (by decide), sI_oth _ _ _ _ _ _ (by decide)]
    exact h3 j hj
  · rw [sI_oth _ _ _ _ _ _ (by decide)]
    exact h4 j hj
  · rw [sI_same]
    omega
  · rw [sI_if, if_neg (fun e => ft e.symm)]
    exact h6
  · rw [sI_oth _ _ _ _ _ _ (by decide)]
    exact h7
  · rw [sI_oth _ _ _ _ _ _ (by decide)]
    exact h8
  · rw [sI_oth _ _ _ _ _ _ (by decide)]
    exact h9 i hi
/-- and comes into the other -/
theorem come_x {z w : MW} {fr to m c : Nat} {ca x : Int32} {Q Q' : MW → Prop} (h : p_Mo_come w x ca Q) (ex : x.toInt = to) (ft : ¬ fr = to) (b : 0 ≤ (w.1 165 to).toInt ∧ (w.1 165 to).toInt ≤ 10000000) (li : ¬ (w.1 165 to).toInt = 0 → w.1 166 to = ca) (h0 : TMf z w fr to m c ca) (k : ∀ w', (∀ k j, ¬ k = 165 → ¬ k = 166 → w'.1 k j = w.1 k j) → (∀ j, ¬ j = to → w'.1 165 j = w.1 165 j ∧ w'.1 166 j = w.1 166 j) → (w'.1 165 to).toInt = (w.1 165 to).toInt + 1 → w'.1 166 to = ca → Q w' → Q' w') : p_Mo_come w x ca Q' := by
  have xn : x.toInt.toNat = to := by omega
  have q := ti_add2 (Eq.refl (w.1 165 to).toInt) i_1 (by omega) (by omega)
  rw [p_Mo_come.eq_1, xn] at h ⊢
  have fin : Q (sI (sI w 166 to ca) 165 to ((w.1 165 to) + (1 : Int32))) → Q' (sI (sI w 166 to ca) 165 to ((w.1 165 to) + (1 : Int32))) := fun g => by
    refine k _ (fun c j a1 a2 => ?_) (fun j hj => ?_) ?_ ?_ g
    · rw [sI_oth _ _ _ _ _ _ a1, sI_oth _ _ _ _ _ _ a2]
    · rw [sI_if, if_neg hj, sI_oth _ _ _ _ _ _ (by decide), sI_oth _ _ _ _ _ _ (by decide), sI_if, if_neg hj]
      exact ⟨rfl, rfl⟩
    · rw [sI_same, q]
    · rw [sI_oth _ _ _ _ _ _ (by decide), sI_same]
  refine ⟨h.1, fun d => ?_, fun d => ?_⟩
  · have G := h.2.1 d
    exact ⟨G.1, G.2.1, G.2.2.1, fin G.2.2.2⟩
  · have G := h.2.2 d
    refine ⟨G.1, fun e => absurd (by rw [li d]) e, fun e => ?_⟩
    have G2 := G.2.2 e
    exact ⟨G2.1, G2.2.1, G2.2.2.1, fin G2.2.2.2⟩
