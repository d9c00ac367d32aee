/-! the grammar of a row's condition: a relation that both readers tell -/
def rsF (i : Nat) : Bool × List Int × Nat × Nat := (false, [], 0, i)
/-- the condition that word i is, or -1 -/
def cnw (f : Int → Int) (n : Int) (i : Nat) : Int := if f (wat f n i) = 99 then nbv f n i 1 15 else -1
/-- md 0: a part, 1: parts joined by and, 2: these joined by or, 3: behind a part, 4: behind parts joined by and -/
def SP (f : Int → Int) (n : Int) : Nat → Nat → Nat → List Int → Nat → Nat → (Bool × List Int × Nat × Nat) → Prop
  | 0, _, _, _, _, _, _ => False
  | k + 1, 0, o, c, t, i, r => if wq f n i (ltr 8 3) = true then (if o = 20 then r = rsF i else ∃ r1, SP f n k 0 (o + 1) c t (i + 1) r1 ∧ r = if r1.1 = true then (true, r1.2.1 ++ [16], r1.2.2.1, r1.2.2.2) else r1) else if wq f n i (ltr 9 1) = true then (if o = 20 then r = rsF i else ∃ r1, SP f n k 2 (o + 1) c t (i + 1) r1 ∧ r = if r1.1 = true then (if wq f n r1.2.2.2 (ltr 10 1) = true then (true, r1.2.1, r1.2.2.1, r1.2.2.2 + 1) else rsF r1.2.2.2) else r1) else r = if cnw f n i < 0 ∨ t = 32 then rsF i else (true, c ++ [cnw f n i], t + 1, i + 1)
  | k + 1, 1, o, c, t, i, r => ∃ r1, SP f n k 0 o c t i r1 ∧ if r1.1 = true then SP f n k 3 o r1.2.1 r1.2.2.1 r1.2.2.2 r else r = r1
  | k + 1, 2, o, c, t, i, r => ∃ r1, SP f n k 1 o c t i r1 ∧ if r1.1 = true then SP f n k 4 o r1.2.1 r1.2.2.1 r1.2.2.2 r else r = r1
  | k + 1, 3, o, c, t, i, r => if wq f n i (ltr 11 3) = true then ∃ r1, SP f n k 0 o c t (i + 1) r1 ∧ (if r1.1 = true then SP f n k 3 o (r1.2.1 ++ [17]) r1.2.2.1 r1.2.2.2 r else r = r1) else r = (true, c, t, i)
  | k + 1, _, o, c, t, i, r => if wq f n i (ltr 12 2) = true then ∃ r1, SP f n k 1 o c t (i + 1) r1 ∧ (if r1.1 = true then SP f n k 4 o (r1.2.1 ++ [18]) r1.2.2.1 r1.2.2.2 r else r = r1) else r = (true, c, t, i)
theorem SP0 (f : Int → Int) (n : Int) (k o : Nat) (c : List Int) (t i : Nat) (r : Bool × List Int × Nat × Nat) : SP f n (k + 1) 0 o c t i r = (if wq f n i (ltr 8 3) = true then (if o = 20 then r = rsF i else ∃ r1, SP f n k 0 (o + 1) c t (i + 1) r1 ∧ r = if r1.1 = true then (true, r1.2.1 ++ [16], r1.2.2.1, r1.2.2.2) else r1) else if wq f n i (ltr 9 1) = true then (if o = 20 then r = rsF i else ∃ r1, SP f n k 2 (o + 1) c t (i + 1) r1 ∧ r = if r1.1 = true then (if wq f n r1.2.2.2 (ltr 10 1) = true then (true, r1.2.1, r1.2.2.1, r1.2.2.2 + 1) else rsF r1.2.2.2) else r1) else r = if cnw f n i < 0 ∨ t = 32 then rsF i else (true, c ++ [cnw f n i], t + 1, i + 1)) := rfl
theorem SP1 (f : Int → Int) (n : Int) (k o : Nat) (c : List Int) (t i : Nat) (r : Bool × List Int × Nat × Nat) : SP f n (k + 1) 1 o c t i r = (∃ r1, SP f n k 0 o c t i r1 ∧ if r1.1 = true then SP f n k 3 o r1.2.1 r1.2.2.1 r1.2.2.2 r else r = r1) := rfl
theorem SP2 (f : Int → Int) (n : Int) (k o : Nat) (c : List Int) (t i : Nat) (r : Bool × List Int × Nat × Nat) : SP f n (k + 1) 2 o c t i r = (∃ r1, SP f n k 1 o c t i r1 ∧ if r1.1 = true then SP f n k 4 o r1.2.1 r1.2.2.1 r1.2.2.2 r else r = r1) := rfl
theorem SP3 (f : Int → Int) (n : Int) (k o : Nat) (c : List Int) (t i : Nat) (r : Bool × List Int × Nat × Nat) : SP f n (k + 1) 3 o c t i r = (if wq f n i (ltr 11 3) = true then ∃ r1, SP f n k 0 o c t (i + 1) r1 ∧ (if r1.1 = true then SP f n k 3 o (r1.2.1 ++ [17]) r1.2.2.1 r1.2.2.2 r else r = r1) else r = (true, c, t, i)) := rfl
theorem SP4 (f : Int → Int) (n : Int) (k m o : Nat) (c : List Int) (t i : Nat) (r : Bool × List Int × Nat × Nat) : SP f n (k + 1) (m + 4) o c t i r = (if wq f n i (ltr 12 2) = true then ∃ r1, SP f n k 1 o c t (i + 1) r1 ∧ (if r1.1 = true then SP f n k 4 o (r1.2.1 ++ [18]) r1.2.2.1 r1.2.2.2 r else r = r1) else r = (true, c, t, i)) := rfl
theorem sp_det {f : Int → Int} {n : Int} : ∀ (k k' md o : Nat) (c : List Int) (t i : Nat) (r r' : Bool × List Int × Nat × Nat), SP f n k md o c t i r → SP f n k' md o c t i r' → r = r' := by
  intro k
  induction k with
  | zero => intro k' md o c t i r r' h; exact absurd h (by cases md <;> exact fun z => z)
  | succ k ih =>
    intro k' md o c t i r r' h h'
    cases k' with
    | zero => exact absurd h' (by cases md <;> exact fun z => z)
    | succ k' =>
      match md with
      | 0 =>
        rw [SP0] at h h'
        by_cases c1 : wq f n i (ltr 8 3) = true
        · rw [if_pos c1] at h h'
          by_cases c2 : o = 20
          · rw [if_pos c2] at h h'
            rw [h, h']
          · rw [if_neg c2] at h h'
            obtain ⟨r1, h1, e⟩ := h
            obtain ⟨r2, h2, e'⟩ := h'
            rw [e, e', ih k' 0 _ _ _ _ _ _ h1 h2]
        · rw [if_neg c1] at h h'
          by_cases c3 : wq f n i (ltr 9 1) = true
          · rw [if_pos c3] at h h'
            by_cases c2 : o = 20
            · rw [if_pos c2] at h h'
              rw [h, h']
            · rw [if_neg c2] at h h'
              obtain ⟨r1, h1, e⟩ := h
              obtain ⟨r2, h2, e'⟩ := h'
              rw [e, e', ih k' 2 _ _ _ _ _ _ h1 h2]
          · rw [if_neg c3] at h h'
            rw [h, h']
      | 1 =>
        rw [SP1] at h h'
        obtain ⟨r1, h1, e⟩ := h
        obtain ⟨r2, h2, e'⟩ := h'
        have q := ih k' 0 _ _ _ _ _ _ h1 h2
        rw [← q] at e'
        by_cases c1 : r1.1 = true
        · rw [if_pos c1] at e e'
          exact ih k' 3 _ _ _ _ _ _ e e'
        · rw [if_neg c1] at e e'
          rw [e, e']
      | 2 =>
        rw [SP2] at h h'
        obtain ⟨r1, h1, e⟩ := h
        obtain ⟨r2, h2, e'⟩ := h'
        have q := ih k' 1 _ _ _ _ _ _ h1 h2
        rw [← q] at e'
        by_cases c1 : r1.1 = true
        · rw [if_pos c1] at e e'
          exact ih k' 4 _ _ _ _ _ _ e e'
        · rw [if_neg c1] at e e'
          rw [e, e']
      | 3 =>
        rw [SP3] at h h'
        by_cases c0 : wq f n i (ltr 11 3) = true
        · rw [if_pos c0] at h h'
          obtain ⟨r1, h1, e⟩ := h
          obtain ⟨r2, h2, e'⟩ := h'
          have q := ih k' 0 _ _ _ _ _ _ h1 h2
          rw [← q] at e'
          by_cases c1 : r1.1 = true
          · rw [if_pos c1] at e e'
            exact ih k' 3 _ _ _ _ _ _ e e'
          · rw [if_neg c1] at e e'
            rw [e, e']
        · rw [if_neg c0] at h h'
          rw [h, h']
      | m + 4 =>
        rw [SP4] at h h'
        by_cases c0 : wq f n i (ltr 12 2) = true
        · rw [if_pos c0] at h h'
          obtain ⟨r1, h1, e⟩ := h
          obtain ⟨r2, h2, e'⟩ := h'
          have q := ih k' 1 _ _ _ _ _ _ h1 h2
          rw [← q] at e'
          by_cases c1 : r1.1 = true
          · rw [if_pos c1] at e e'
            exact ih k' 4 _ _ _ _ _ _ e e'
          · rw [if_neg c1] at e e'
            rw [e, e']
        · rw [if_neg c0] at h h'
          rw [h, h']
theorem sp_s {f : Int → Int} {n : Int} : ∀ (k md o : Nat) (c : List Int) (t i : Nat) (r : Bool × List Int × Nat × Nat), SP f n k md o c t i r → SP f n (k + 1) md o c t i r := by
  intro k
  induction k with
  | zero => intro md o c t i r h; exact absurd h (by cases md <;> exact fun z => z)
  | succ k ih =>
    intro md o c t i r h
    match md with
    | 0 =>
      rw [SP0] at h ⊢
      by_cases c1 : wq f n i (ltr 8 3) = true
      · rw [if_pos c1] at h ⊢
        by_cases c2 : o = 20
        · rw [if_pos c2] at h ⊢
          exact h
        · rw [if_neg c2] at h ⊢
          obtain ⟨r1, h1, e⟩ := h
          exact ⟨r1, ih _ _ _ _ _ _ h1, e⟩
      · rw [if_neg c1] at h ⊢
        by_cases c3 : wq f n i (ltr 9 1) = true
        · rw [if_pos c3] at h ⊢
          by_cases c2 : o = 20
          · rw [if_pos c2] at h ⊢
            exact h
          · rw [if_neg c2] at h ⊢
            obtain ⟨r1, h1, e⟩ := h
            exact ⟨r1, ih _ _ _ _ _ _ h1, e⟩
        · rw [if_neg c3] at h ⊢
          exact h
    | 1 =>
      rw [SP1] at h ⊢
      obtain ⟨r1, h1, e⟩ := h
      refine ⟨r1, ih _ _ _ _ _ _ h1, ?_⟩
      by_cases c1 : r1.1 = true
      · rw [if_pos c1] at e ⊢
        exact ih _ _ _ _ _ _ e
      · rw [if_neg c1] at e ⊢
        exact e
    | 2 =>
      rw [SP2] at h ⊢
      obtain ⟨r1, h1, e⟩ := h
      refine ⟨r1, ih _ _ _ _ _ _ h1, ?_⟩
      by_cases c1 : r1.1 = true
      · rw [if_pos c1] at e ⊢
        exact ih _ _ _ _ _ _ e
      · rw [if_neg c1] at e ⊢
        exact e
    | 3 =>
      rw [SP3] at h ⊢
      by_cases c0 : wq f n i (ltr 11 3) = true
      · rw [if_pos c0] at h ⊢
        obtain ⟨r1, h1, e⟩ := h
        refine ⟨r1, ih _ _ _ _ _ _ h1, ?_⟩
        by_cases c1 : r1.1 = true
        · rw [if_pos c1] at e ⊢
          exact ih _ _ _ _ _ _ e
        · rw [if_neg c1] at e ⊢
          exact e
      · rw [if_neg c0] at h ⊢
        exact h
    | m + 4 =>
      rw [SP4] at h ⊢
      by_cases c0 : wq f n i (ltr 12 2) = true
      · rw [if_pos c0] at h ⊢
        obtain ⟨r1, h1, e⟩ := h
        refine ⟨r1, ih _ _ _ _ _ _ h1, ?_⟩
        by_cases c1 : r1.1 = true
        · rw [if_pos c1] at e ⊢
          exact ih _ _ _ _ _ _ e
        · rw [if_neg c1] at e ⊢
          exact e
      · rw [if_neg c0] at h ⊢
        exact h
theorem sp_le {f : Int → Int} {n : Int} {k k' md o : Nat} {c : List Int} {t i : Nat} {r : Bool × List Int × Nat × Nat} (h : SP f n k md o c t i r) (hk : k ≤ k') : SP f n k' md o c t i r := by
  induction hk with
  | refl => exact h
  | step _ ih => exact sp_s _ _ _ _ _ _ _ ih
/-! how many words of two letters and more there are -/
def lwn (f : Int → Int) (n : Int) : Nat → Nat
  | 0 => 0
  | i + 1 => lwn f n i + (if 2 ≤ wnd f n i - wat f n i then 1 else 0)
theorem skp_e (f : Int → Int) (n : Int) : ∀ (k : Nat) (p : Int), (n - p).toNat ≤ k → ¬ (skp f n k p < n ∧ blk (f (skp f n k p)) = true) := by
  intro k
  induction k with
  | zero =>
    intro p h z
    have : skp f n 0 p = p := rfl
    rw [this] at z
    have := z.1
    omega
  | succ k ih =>
    intro p h
    rw [skp_u]
    by_cases c : p < n ∧ blk (f p) = true
    · rw [if_pos c]
      exact ih (p + 1) (by omega)
    · rw [if_neg c]
      exact c
theorem rnw_e (f : Int → Int) (n : Int) : ∀ (k : Nat) (p : Int), (n - p).toNat ≤ k → ¬ (rnw f n k p < n ∧ (blk (f (rnw f n k p)) = false ∧ mrk (f (rnw f n k p)) = false)) := by
  intro k
  induction k with
  | zero =>
    intro p h z
    have : rnw f n 0 p = p := rfl
    rw [this] at z
    have := z.1
    omega
  | succ k ih =>
    intro p h
    rw [rnw_u]
    by_cases c : p < n ∧ (blk (f p) = false ∧ mrk (f p) = false)
    · rw [if_pos c]
      exact ih (p + 1) (by omega)
    · rw [if_neg c]
      exact c
/-- two long words do not touch -/
theorem lw_gap {f : Int → Int} {n : Int} (h0 : 0 ≤ n) (hn : n ≤ 4000) (i : Nat) (h1 : 2 ≤ wnd f n i - wat f n i) (h2 : 2 ≤ wnd f n (i + 1) - wat f n (i + 1)) : wnd f n i + 1 ≤ wat f n (i + 1) := by
  have w := wat_b (f := f) h0 i
  have s := wat_s (f := f) h0 i
  have w' := wat_b (f := f) h0 (i + 1)
  have s' := wat_s (f := f) h0 (i + 1)
  by_cases c : wat f n (i + 1) = wnd f n i
  · have ew : wnd f n i = rnw f n 4001 (wat f n i) := by
      have e : wnd f n i = if rnw f n 4001 (wat f n i) = wat f n i ∧ wat f n i < n then wat f n i + 1 else rnw f n 4001 (wat f n i) := rfl
      by_cases q : rnw f n 4001 (wat f n i) = wat f n i ∧ wat f n i < n
      · rw [if_pos q] at e
        omega
      · rw [if_neg q] at e
        exact e
    have ne := rnw_e f n 4001 (wat f n i) (by omega)
    have es : wat f n (i + 1) = skp f n 4001 (wnd f n i) := rfl
    have nb := skp_e f n 4001 (wnd f n i) (by omega)
    rw [← es, c] at nb
    rw [← ew] at ne
    have lt : wnd f n i < n := by omega
    have e2 : wnd f n (i + 1) = if rnw f n 4001 (wat f n (i + 1)) = wat f n (i + 1) ∧ wat f n (i + 1) < n then wat f n (i + 1) + 1 else rnw f n 4001 (wat f n (i + 1)) := rfl
    have nr : rnw f n 4001 (wat f n (i + 1)) = wat f n (i + 1) := by
      rw [c]
      exact rnw_n 4001 ne
    rw [if_pos ⟨nr, by omega⟩] at e2
    omega
  · omega
theorem lw_b {f : Int → Int} {n : Int} (h0 : 0 ≤ n) (hn : n ≤ 4000) : ∀ i : Nat, 3 * (lwn f n (i + 1) : Int) ≤ wnd f n i + (if 2 ≤ wnd f n i - wat f n i ∨ n ≤ wat f n i then 1 else 0) := by
  intro i
  induction i with
  | zero =>
    have w := wat_b (f := f) h0 0
    have s := wat_s (f := f) h0 0
    have e : lwn f n (0 + 1) = 0 + (if 2 ≤ wnd f n 0 - wat f n 0 then 1 else 0) := rfl
    by_cases c : 2 ≤ wnd f n 0 - wat f n 0
    · rw [if_pos c] at e
      rw [if_pos (Or.inl c), e]
      omega
    · rw [if_neg c] at e
      rw [e]
      have := if01 (2 ≤ wnd f n 0 - wat f n 0 ∨ n ≤ wat f n 0)
      omega
  | succ i ih =>
    have w := wat_b (f := f) h0 i
    have s := wat_s (f := f) h0 i
    have w' := wat_b (f := f) h0 (i + 1)
    have s' := wat_s (f := f) h0 (i + 1)
    have e : lwn f n (i + 1 + 1) = lwn f n (i + 1) + (if 2 ≤ wnd f n (i + 1) - wat f n (i + 1) then 1 else 0) := rfl
    by_cases c : 2 ≤ wnd f n (i + 1) - wat f n (i + 1)
    · rw [if_pos c] at e
      rw [if_pos (Or.inl c), e]
      have lt : ¬ n ≤ wat f n i := by omega
      by_cases d : 2 ≤ wnd f n i - wat f n i
      · have g := lw_gap h0 hn i d c
        rw [if_pos (Or.inl d)] at ih
        omega
      · rw [if_neg (fun z => z.elim d lt)] at ih
        omega
    · rw [if_neg c] at e
      rw [e]
      have b := if01 (2 ≤ wnd f n i - wat f n i ∨ n ≤ wat f n i)
      by_cases d : n ≤ wat f n (i + 1)
      · rw [if_pos (Or.inr d)]
        omega
      · have := s'.2.2.2 (by omega)
        have := if01 (2 ≤ wnd f n (i + 1) - wat f n (i + 1) ∨ n ≤ wat f n (i + 1))
        omega
theorem lw_max {f : Int → Int} {n : Int} (h0 : 0 ≤ n) (hn : n ≤ 4000) (i : Nat) : lwn f n i ≤ 1333 := by
  cases i with
  | zero => exact Nat.zero_le _
  | succ i =>
    have a := lw_b (f := f) h0 hn i
    have s := wat_s (f := f) h0 i
    have b := if01 (2 ≤ wnd f n i - wat f n i ∨ n ≤ wat f n i)
    omega
theorem lw_l {f : Int → Int} {n : Int} {i : Nat} (h : 2 ≤ wnd f n i - wat f n i) : lwn f n (i + 1) = lwn f n i + 1 := by
  have e : lwn f n (i + 1) = lwn f n i + (if 2 ≤ wnd f n i - wat f n i then 1 else 0) := rfl
  rw [if_pos h] at e
  exact e
theorem lw_m {f : Int → Int} {n : Int} (i : Nat) : lwn f n i ≤ lwn f n (i + 1) := Nat.le_add_right _ _
theorem wq_len {f : Int → Int} {n : Int} {i : Nat} {l : List Int} (h : wq f n i l = true) : wnd f n i - wat f n i = (l.length : Int) := by
  unfold wq at h
  exact of_decide_eq_true (Bool.and_eq_true _ _ ▸ h).1
/-- a word that is there is not behind the text -/
theorem wq_in {f : Int → Int} {n : Int} {i : Nat} (h0 : 0 ≤ n) (h : 0 < wnd f n i - wat f n i) : wat f n i < n := by
  have w := wat_b (f := f) h0 i
  have s := wat_s (f := f) h0 i
  omega
