/-! the words of a text of interlocks -/
def blk (c : Int) : Bool := c == 32 || c == 10
def mrk (c : Int) : Bool := c == 40 || (c == 41 || c == 59)
theorem blk_t {c : Int} (h : c = 32 ∨ c = 10) : blk c = true := by
  rcases h with h | h
  · rw [h]
    decide
  · rw [h]
    decide
theorem blk_f {c : Int} (h1 : ¬ c = 32) (h2 : ¬ c = 10) : blk c = false := by
  unfold blk
  rw [beq_false_of_ne h1, beq_false_of_ne h2]
  rfl
theorem mrk_t {c : Int} (h : c = 40 ∨ c = 41 ∨ c = 59) : mrk c = true := by
  rcases h with h | h | h
  · rw [h]
    decide
  · rw [h]
    decide
  · rw [h]
    decide
theorem mrk_f {c : Int} (h1 : ¬ c = 40) (h2 : ¬ c = 41) (h3 : ¬ c = 59) : mrk c = false := by
  unfold mrk
  rw [beq_false_of_ne h1, beq_false_of_ne h2, beq_false_of_ne h3]
  rfl
def skp (f : Int → Int) (n : Int) : Nat → Int → Int
  | 0, p => p
  | k + 1, p => if p < n ∧ blk (f p) = true then skp f n k (p + 1) else p
def rnw (f : Int → Int) (n : Int) : Nat → Int → Int
  | 0, p => p
  | k + 1, p => if p < n ∧ (blk (f p) = false ∧ mrk (f p) = false) then rnw f n k (p + 1) else p
theorem skp_u (f : Int → Int) (n : Int) (k : Nat) (p : Int) : skp f n (k + 1) p = if p < n ∧ blk (f p) = true then skp f n k (p + 1) else p := rfl
theorem rnw_u (f : Int → Int) (n : Int) (k : Nat) (p : Int) : rnw f n (k + 1) p = if p < n ∧ (blk (f p) = false ∧ mrk (f p) = false) then rnw f n k (p + 1) else p := rfl
theorem skp_n {f : Int → Int} {n : Int} {p : Int} (k : Nat) (h : ¬ (p < n ∧ blk (f p) = true)) : skp f n k p = p := by
  cases k with
  | zero => rfl
  | succ k => rw [skp_u, if_neg h]
theorem rnw_n {f : Int → Int} {n : Int} {p : Int} (k : Nat) (h : ¬ (p < n ∧ (blk (f p) = false ∧ mrk (f p) = false))) : rnw f n k p = p := by
  cases k with
  | zero => rfl
  | succ k => rw [rnw_u, if_neg h]
theorem skp_k (f : Int → Int) (n : Int) : ∀ (k m : Nat) (p : Int), (n - p).toNat ≤ k → (n - p).toNat ≤ m → skp f n k p = skp f n m p := by
  intro k
  induction k with
  | zero =>
    intro m p h1 h2
    rw [skp_n m (fun z => by have := z.1; omega)]
    rfl
  | succ k ih =>
    intro m p h1 h2
    cases m with
    | zero => rw [skp_n (k + 1) (fun z => by have := z.1; omega)]; rfl
    | succ m =>
      rw [skp_u, skp_u]
      by_cases c : p < n ∧ blk (f p) = true
      · rw [if_pos c, if_pos c]
        exact ih m (p + 1) (by omega) (by omega)
      · rw [if_neg c, if_neg c]
theorem rnw_k (f : Int → Int) (n : Int) : ∀ (k m : Nat) (p : Int), (n - p).toNat ≤ k → (n - p).toNat ≤ m → rnw f n k p = rnw f n m p := by
  intro k
  induction k with
  | zero =>
    intro m p h1 h2
    rw [rnw_n m (fun z => by have := z.1; omega)]
    rfl
  | succ k ih =>
    intro m p h1 h2
    cases m with
    | zero => rw [rnw_n (k + 1) (fun z => by have := z.1; omega)]; rfl
    | succ m =>
      rw [rnw_u, rnw_u]
      by_cases c : p < n ∧ (blk (f p) = false ∧ mrk (f p) = false)
      · rw [if_pos c, if_pos c]
        exact ih m (p + 1) (by omega) (by omega)
      · rw [if_neg c, if_neg c]
theorem skp_1 {f : Int → Int} {n p : Int} (hn : n - p ≤ 4000) (h : p < n ∧ blk (f p) = true) : skp f n 4001 p = skp f n 4001 (p + 1) := by
  rw [skp_u f n 4000 p, if_pos h]
  exact skp_k f n 4000 4001 (p + 1) (by omega) (by omega)
theorem rnw_1 {f : Int → Int} {n p : Int} (hn : n - p ≤ 4000) (h : p < n ∧ (blk (f p) = false ∧ mrk (f p) = false)) : rnw f n 4001 p = rnw f n 4001 (p + 1) := by
  rw [rnw_u f n 4000 p, if_pos h]
  exact rnw_k f n 4000 4001 (p + 1) (by omega) (by omega)
theorem skp_b (f : Int → Int) (n : Int) : ∀ (k : Nat) (p : Int), p ≤ skp f n k p ∧ (p ≤ n → skp f n k p ≤ n) := by
  intro k
  induction k with
  | zero => intro p; exact ⟨Int.le_refl _, fun h => h⟩
  | succ k ih =>
    intro p
    rw [skp_u]
    by_cases c : p < n ∧ blk (f p) = true
    · rw [if_pos c]
      have := ih (p + 1)
      have c1 := c.1
      exact ⟨by omega, fun _ => this.2 (by omega)⟩
    · rw [if_neg c]
      exact ⟨Int.le_refl _, fun h => h⟩
theorem rnw_b (f : Int → Int) (n : Int) : ∀ (k : Nat) (p : Int), p ≤ rnw f n k p ∧ (p ≤ n → rnw f n k p ≤ n) := by
  intro k
  induction k with
  | zero => intro p; exact ⟨Int.le_refl _, fun h => h⟩
  | succ k ih =>
    intro p
    rw [rnw_u]
    by_cases c : p < n ∧ (blk (f p) = false ∧ mrk (f p) = false)
    · rw [if_pos c]
      have := ih (p + 1)
      have c1 := c.1
      exact ⟨by omega, fun _ => this.2 (by omega)⟩
    · rw [if_neg c]
      exact ⟨Int.le_refl _, fun h => h⟩
/-- where a word that begins at p ends -/
def wen (f : Int → Int) (n : Int) (p : Int) : Int := if rnw f n 4001 p = p ∧ p < n then p + 1 else rnw f n 4001 p
/-- where word i begins, and ends -/
def wat (f : Int → Int) (n : Int) : Nat → Int
  | 0 => skp f n 4001 0
  | i + 1 => skp f n 4001 (wen f n (wat f n i))
def wnd (f : Int → Int) (n : Int) (i : Nat) : Int := wen f n (wat f n i)
theorem wen_b {f : Int → Int} {n p : Int} (h : p ≤ n) : p ≤ wen f n p ∧ wen f n p ≤ n ∧ (p < n → p < wen f n p) := by
  have b := rnw_b f n 4001 p
  have b2 := b.2 h
  unfold wen
  by_cases c : rnw f n 4001 p = p ∧ p < n
  · rw [if_pos c]
    omega
  · rw [if_neg c]
    refine ⟨b.1, b2, fun q => ?_⟩
    by_cases e : rnw f n 4001 p = p
    · exact absurd ⟨e, q⟩ c
    · omega
theorem wat_b {f : Int → Int} {n : Int} (h0 : 0 ≤ n) : ∀ i, 0 ≤ wat f n i ∧ wat f n i ≤ n := by
  intro i
  induction i with
  | zero =>
    have := skp_b f n 4001 0
    exact ⟨this.1, this.2 h0⟩
  | succ i ih =>
    have a := wen_b (f := f) ih.2
    have b := skp_b f n 4001 (wen f n (wat f n i))
    have e : wat f n (i + 1) = skp f n 4001 (wen f n (wat f n i)) := rfl
    rw [e]
    exact ⟨by omega, b.2 a.2.1⟩
theorem wat_s {f : Int → Int} {n : Int} (h0 : 0 ≤ n) (i : Nat) : wat f n i ≤ wnd f n i ∧ wnd f n i ≤ wat f n (i + 1) ∧ wnd f n i ≤ n ∧ (wat f n i < n → wat f n i < wnd f n i) := by
  have w := wat_b (f := f) h0 i
  have a := wen_b (f := f) w.2
  have b := skp_b f n 4001 (wen f n (wat f n i))
  exact ⟨a.1, b.1, a.2.1, a.2.2⟩
theorem wat_i {f : Int → Int} {n : Int} (h0 : 0 ≤ n) : ∀ i : Nat, wat f n i < n → (i : Int) ≤ wat f n i := by
  intro i
  induction i with
  | zero => intro _; exact (wat_b (f := f) h0 0).1
  | succ i ih =>
    intro h
    have s := wat_s (f := f) h0 i
    have := ih (by omega)
    have := s.2.2.2 (by omega)
    omega
/-! the class's next word -/
theorem ib_x {w : MW} {c : Int32} {Q : Int32 → MW → Prop} (h1 : blk c.toInt = true → Q 1 w) (h0 : blk c.toInt = false → Q 0 w) : p_Tp_isBlank w c Q :=
  Eq.mpr (p_Tp_isBlank.eq_1 _ _ _) ⟨fun d => h1 (blk_t (Or.inl d)), fun d => ⟨fun d2 => h0 (blk_f d d2), fun d2 => h1 (blk_t (Or.inr (Classical.not_not.mp d2)))⟩⟩
theorem im_x {w : MW} {c : Int32} {Q : Int32 → MW → Prop} (h1 : mrk c.toInt = true → Q 1 w) (h0 : mrk c.toInt = false → Q 0 w) : p_Ro_isMark w c Q :=
  Eq.mpr (p_Ro_isMark.eq_1 _ _ _) ⟨fun d => h1 (mrk_t (Or.inl d)), fun d => ⟨fun d2 => h1 (mrk_t (Or.inr (Or.inl d2))), fun d2 => ⟨fun d3 => h0 (mrk_f d d2 d3), fun d3 => h1 (mrk_t (Or.inr (Or.inr (Classical.not_not.mp d3))))⟩⟩⟩
theorem nw_8 {w0 : MW} {T : Int} {E Q : MW → Prop} (hr : w0.2.2 99 11 = some 1) (hE : ∀ w', BND w' → FR [(99, some 12)] w0 w' → (w'.1 99 12).toInt = T → E w') (m : Nat) : ∀ w : MW, BND w → FR [(99, some 12)] w0 w → skp (cf w0) (w0.1 1 2).toInt 4001 (w.1 99 12).toInt = T → (4001 - (w.1 99 12).toInt).toNat < m → q_Ro_nextWords99_8 E Q m w := by
  induction m with
  | zero => intros; omega
  | succ m ih =>
    intro w hB hF hT hm
    have b12 := bd_99_12 hB
    have en : w.1 1 2 = w0.1 1 2 := (hF 1 2 rfl).1
    have ec : cf w = cf w0 := cf_fr hF rfl
    have b2 := bd_1_2 hB
    have rr : w.2.2 99 11 = some 1 := ((hF 99 11 rfl).2.2).trans hr
    rw [q_Ro_nextWords99_8.eq_2]
    rw [en] at b2 ⊢
    refine ⟨rr, fun c => hE w hB hF ?_, fun c => ⟨rr, at_x hB ?_⟩⟩
    · rw [skp_n 4001 (fun z => by have := z.1; omega)] at hT
      exact hT
    · have v := cv_cf w (w.1 99 12)
      rw [ec] at v
      refine ib_x (fun d => ⟨fun z => absurd z (by decide), fun _ => ?_⟩) (fun d => ⟨fun _ => hE w hB hF ?_, fun z => absurd i_0 z⟩)
      · rw [v] at d
        have s := ti_add2 (Eq.refl (w.1 99 12).toInt) i_1 (by omega) (by omega)
        refine ih _ (wbd_99_12 hB (by omega) (by omega)) (FR.I hF rfl) ?_ ?_
        · rw [sI_same, s, ← skp_1 (by omega) ⟨by omega, d⟩]
          exact hT
        · rw [sI_same, s]
          omega
      · rw [v] at d
        rw [skp_n 4001 (fun z => by rw [d] at z; exact absurd z.2 (by decide))] at hT
        exact hT
theorem nw_60 {w0 : MW} {T : Int} {E Q : MW → Prop} (hr : w0.2.2 99 11 = some 1) (hE : ∀ w', BND w' → FR [(99, some 13)] w0 w' → (w'.1 99 13).toInt = T → E w') (m : Nat) : ∀ w : MW, BND w → FR [(99, some 13)] w0 w → rnw (cf w0) (w0.1 1 2).toInt 4001 (w.1 99 13).toInt = T → (4001 - (w.1 99 13).toInt).toNat < m → q_Ro_nextWords99_60 E Q m w := by
  induction m with
  | zero => intros; omega
  | succ m ih =>
    intro w hB hF hT hm
    have b13 := bd_99_13 hB
    have en : w.1 1 2 = w0.1 1 2 := (hF 1 2 rfl).1
    have ec : cf w = cf w0 := cf_fr hF rfl
    have b2 := bd_1_2 hB
    have rr : w.2.2 99 11 = some 1 := ((hF 99 11 rfl).2.2).trans hr
    rw [q_Ro_nextWords99_60.eq_2]
    rw [en] at b2 ⊢
    refine ⟨rr, fun c => hE w hB hF ?_, fun c => ⟨rr, at_x hB ?_⟩⟩
    · rw [rnw_n 4001 (fun z => by have := z.1; omega)] at hT
      exact hT
    · have v := cv_cf w (w.1 99 13)
      rw [ec] at v
      refine ib_x (fun d => ⟨fun _ => hE w hB hF ?_, fun z => absurd (show ¬ (1 : Int32).toInt = 0 by decide) z⟩) (fun d => ⟨fun z => absurd i_0 z, fun _ => ⟨rr, at_x hB (im_x (fun d2 => ⟨fun _ => hE w hB hF ?_, fun z => absurd (show ¬ (1 : Int32).toInt = 0 by decide) z⟩) (fun d2 => ⟨fun z => absurd i_0 z, fun _ => ?_⟩))⟩⟩)
      · rw [v] at d
        rw [rnw_n 4001 (fun z => by rw [d] at z; exact absurd z.2.1 (by decide))] at hT
        exact hT
      · rw [v] at d2
        rw [rnw_n 4001 (fun z => by rw [d2] at z; exact absurd z.2.2 (by decide))] at hT
        exact hT
      · rw [v] at d d2
        have s := ti_add2 (Eq.refl (w.1 99 13).toInt) i_1 (by omega) (by omega)
        refine ih _ (wbd_99_13 hB (by omega) (by omega)) (FR.I hF rfl) ?_ ?_
        · rw [sI_same, s, ← rnw_1 (by omega) ⟨by omega, d, d2⟩]
          exact hT
        · rw [sI_same, s]
          omega
def lnw : Pl := [(99, some 12), (99, some 13), (99, some 14)]
theorem nw_x {w : MW} {e : Int} {Q : MW → Prop} (hI : BND w) (hr : w.2.2 99 11 = some 1) (he : (w.1 99 13).toInt = e) (e0 : e ≤ (w.1 1 2).toInt) (hQ : ∀ w', BND w' → FR lnw w w' → (w'.1 99 12).toInt = skp (cf w) (w.1 1 2).toInt 4001 e → (w'.1 99 13).toInt = wen (cf w) (w.1 1 2).toInt (skp (cf w) (w.1 1 2).toInt 4001 e) → w'.1 99 14 = w.1 99 14 + (1 : Int32) → Q w') : p_Ro_nextWords99 w Q := by
  have b13 := bd_99_13 hI
  have b2 := bd_1_2 hI
  have B1 : BND (sI w 99 12 (w.1 99 13)) := wbd_99_12 hI b13.1 b13.2
  have F1 : FR [(99, some 12)] w (sI w 99 12 (w.1 99 13)) := FR.I (FR.refl _ w) rfl
  have v1 : (sI w 99 12 (w.1 99 13)).1 99 12 = w.1 99 13 := sI_same _ _ _ _
  refine Eq.mpr (p_Ro_nextWords99.eq_1 _ _) ?_
  refine nw_8 (w0 := w) hr (fun w7 B7 F7 e7 => ?_) FU _ B1 F1 rfl (fu_lt (by rw [v1]; omega))
  rw [v1, he] at e7
  have kb := skp_b (cf w) (w.1 1 2).toInt 4001 e
  have k2 := kb.2 e0
  have B8 : BND (sI w7 99 13 (w7.1 99 12)) := wbd_99_13 B7 (bd_99_12 B7).1 (bd_99_12 B7).2
  have F8 : FR [(99, some 12), (99, some 13)] w (sI w7 99 13 (w7.1 99 12)) := FR.I (FR.tr (FR.refl _ w) F7 rfl) rfl
  have v8 : (sI w7 99 13 (w7.1 99 12)).1 99 13 = w7.1 99 12 := sI_same _ _ _ _
  have u8 : (sI w7 99 13 (w7.1 99 12)).1 99 12 = w7.1 99 12 := sI_ne _ _ _ _ _ (by decide)
  generalize (sI w7 99 13 (w7.1 99 12)) = w8 at *
  have r8 : w8.2.2 99 11 = some 1 := ((F8 99 11 rfl).2.2).trans hr
  have en : w8.1 1 2 = w.1 1 2 := (F8 1 2 rfl).1
  have ec : cf w8 = cf w := cf_fr F8 rfl
  refine nw_60 (w0 := w8) r8 (fun w9 B9 F9 e9 => ?_) FU w8 B8 (FR.refl _ w8) rfl (fu_lt (by rw [v8]; have := bd_99_12 B7; omega))
  rw [v8, e7, en, ec] at e9
  have a9 : (w9.1 99 12).toInt = skp (cf w) (w.1 1 2).toInt 4001 e := by rw [(F9 99 12 rfl).1, u8]; exact e7
  have F10 : FR lnw w w9 := FR.tr (FR.tr (FR.refl _ w) F8 rfl) F9 rfl
  have n9 : w9.1 1 2 = w.1 1 2 := ((F9 1 2 rfl).1).trans en
  have c14 : w9.1 99 14 = w.1 99 14 := ((F9 99 14 rfl).1).trans (F8 99 14 rfl).1
  have r9 : w9.2.2 99 11 = some 1 := ((F9 99 11 rfl).2.2).trans r8
  have b9 := bd_99_13 B9
  have rb := rnw_b (cf w) (w.1 1 2).toInt 4001 (skp (cf w) (w.1 1 2).toInt 4001 e)
  have wv : wen (cf w) (w.1 1 2).toInt (skp (cf w) (w.1 1 2).toInt 4001 e) = if rnw (cf w) (w.1 1 2).toInt 4001 (skp (cf w) (w.1 1 2).toInt 4001 e) = skp (cf w) (w.1 1 2).toInt 4001 e ∧ skp (cf w) (w.1 1 2).toInt 4001 e < (w.1 1 2).toInt then skp (cf w) (w.1 1 2).toInt 4001 e + 1 else rnw (cf w) (w.1 1 2).toInt 4001 (skp (cf w) (w.1 1 2).toInt 4001 e) := rfl
  have end1 : ¬ (rnw (cf w) (w.1 1 2).toInt 4001 (skp (cf w) (w.1 1 2).toInt 4001 e) = skp (cf w) (w.1 1 2).toInt 4001 e ∧ skp (cf w) (w.1 1 2).toInt 4001 e < (w.1 1 2).toInt) → Q (sI w9 99 14 ((w9.1 99 14) + (1 : Int32))) := fun q => by
    refine hQ _ (wbd_99_14 B9) (FR.I F10 rfl) ?_ ?_ ?_
    · rw [sI_ne _ _ _ _ _ (by decide)]
      exact a9
    · rw [sI_ne _ _ _ _ _ (by decide), wv, if_neg q]
      exact e9
    · rw [sI_same, c14]
  refine ⟨fun q => end1 (fun z => q ?_), fun q => ⟨r9, fun q2 => end1 (fun z => ?_), fun q2 => ?_⟩⟩
  · rw [e9, a9]
    exact z.1
  · have := z.2
    rw [n9] at q2
    omega
  · have q := Classical.not_not.mp q
    rw [n9] at q2
    have s := ti_add2 (Eq.refl (w9.1 99 13).toInt) i_1 (by omega) (by omega)
    refine hQ _ (wbd_99_14 (wbd_99_13 B9 (by omega) (by omega))) (FR.I (FR.I F10 rfl) rfl) ?_ ?_ ?_
    · rw [sI_ne _ _ _ _ _ (by decide), sI_ne _ _ _ _ _ (by decide)]
      exact a9
    · rw [sI_ne _ _ _ _ _ (by decide), sI_same, s, wv, if_pos ⟨by omega, by omega⟩]
      omega
    · rw [sI_same, c14]
