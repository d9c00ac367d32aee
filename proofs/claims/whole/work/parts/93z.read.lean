/-! the class reads a plant: all of it -/
/-- the lines of a text from p on: r the place where it is wrong, or -1; ls' all its lines -/
def PlR (f : Int → Int) (n : Int) : Nat → Int → List Ln → Int → List Ln → Prop
  | 0, _, _, _, _ => False
  | m + 1, p, ls, r, ls' => (¬ p < n ∧ r = -1 ∧ ls' = ls) ∨ (p < n ∧ ((lnS f p).1 = -1 ∨ ¬ okL ls (lnX (lnS f p))) ∧ r = (lnS f p).2.2.2.2 ∧ ls' = ls) ∨ (p < n ∧ ¬ (lnS f p).1 = -1 ∧ okL ls (lnX (lnS f p)) ∧ PlR f n m ((lnS f p).2.2.2.2 + 1) (ls ++ [lnX (lnS f p)]) r ls')
theorem plr_det {f : Int → Int} {n : Int} : ∀ (m k : Nat) (p : Int) (ls : List Ln) (r1 r2 : Int) (l1 l2 : List Ln), PlR f n m p ls r1 l1 → PlR f n k p ls r2 l2 → r1 = r2 ∧ l1 = l2 := by
  intro m
  induction m with
  | zero => intro k p ls r1 r2 l1 l2 h; exact absurd h (fun y => y)
  | succ m ih =>
    intro k p ls r1 r2 l1 l2 h h2
    cases k with
    | zero => exact absurd h2 (fun y => y)
    | succ k =>
      rcases h with ⟨c, e1, e2⟩ | ⟨c, d, e1, e2⟩ | ⟨c, d, o, g⟩
      · rcases h2 with ⟨c', f1, f2⟩ | ⟨c', _⟩ | ⟨c', _⟩
        · exact ⟨e1.trans f1.symm, e2.trans f2.symm⟩
        · exact absurd c' c
        · exact absurd c' c
      · rcases h2 with ⟨c', _⟩ | ⟨c', d', f1, f2⟩ | ⟨c', d', o', _⟩
        · exact absurd c c'
        · exact ⟨e1.trans f1.symm, e2.trans f2.symm⟩
        · rcases d with d | d
          · exact absurd d d'
          · exact absurd o' d
      · rcases h2 with ⟨c', _⟩ | ⟨c', d', f1, f2⟩ | ⟨c', d', o', g'⟩
        · exact absurd c c'
        · rcases d' with d' | d'
          · exact absurd d' d
          · exact absurd o d'
        · exact ih k _ _ _ _ _ _ g g'
theorem dgs_le (f : Int → Int) : ∀ (n d : Nat) (v p : Int), p ≤ (dgs f n d v p).2.2 := by
  intro n
  induction n with
  | zero => intro d v p; exact Int.le_refl _
  | succ n ih =>
    intro d v p
    have e : dgs f (n + 1) d v p = if (48 ≤ f p ∧ f p ≤ 57) ∧ (d = 0 ∨ 0 < v) then dgs f n (d + 1) (v * 10 + f p - 48) (p + 1) else (d, v, p) := rfl
    rw [e]
    by_cases q : (48 ≤ f p ∧ f p ≤ 57) ∧ (d = 0 ∨ 0 < v)
    · rw [if_pos q]
      have := ih (d + 1) (v * 10 + f p - 48) (p + 1)
      omega
    · rw [if_neg q]
      exact Int.le_refl _
theorem pes_le (f : Int → Int) (p : Int) : p ≤ (pes f p).2.2 := by
  unfold pes
  by_cases c : f p = 45
  · rw [if_pos c]
    show p ≤ p + 1
    omega
  · rw [if_neg c]
    exact dgs_le f 7 0 0 p
theorem le_if {P : Prop} [Decidable P] {p : Int} {x y : Int × Int × Int × Int × Int} (hx : p ≤ x.2.2.2.2) (hy : p ≤ y.2.2.2.2) : p ≤ (if P then x else y).2.2.2.2 := by
  by_cases c : P
  · rw [if_pos c]
    exact hx
  · rw [if_neg c]
    exact hy
theorem lnN_le (f : Int → Int) (k : Int) (l : List Int) (p : Int) : p ≤ (lnN f k l p).2.2.2.2 := by
  have t := (tks_le f l p).1
  have d := dgs_le f 7 0 0 (tks f l p).2
  unfold lnN
  exact le_if (le_if (Int.le_trans t d) (le_if (Int.le_trans t d) (Int.le_trans t d))) t
theorem lnU_le (f : Int → Int) (p : Int) : p ≤ (lnU f p).2.2.2.2 := by
  have t := (tks_le f (ltr 3 4) p).1
  unfold lnU
  exact le_if (le_if t t) t
theorem lnP_le (f : Int → Int) (p : Int) : p ≤ (lnP f p).2.2.2.2 := by
  have a5 : ∀ a b q, q ≤ (lnP5 f a b q).2.2.2.2 := fun a b q => by
    have d := dgs_le f 7 0 0 q
    unfold lnP5
    exact le_if d (le_if d d)
  have a4 : ∀ a b q, q ≤ (lnP4 f a b q).2.2.2.2 := fun a b q => by
    have t := (tks_le f (ltr 5 1) q).1
    unfold lnP4
    exact le_if (Int.le_trans t (a5 _ _ _)) t
  have a3 : ∀ a q, q ≤ (lnP3 f a q).2.2.2.2 := fun a q => by
    have t := pes_le f q
    unfold lnP3
    exact le_if (Int.le_trans t (a4 _ _ _)) t
  have a2 : ∀ a q, q ≤ (lnP2 f a q).2.2.2.2 := fun a q => by
    have t := (tks_le f (ltr 5 1) q).1
    unfold lnP2
    exact le_if (Int.le_trans t (a3 _ _)) t
  have a1 : ∀ q, q ≤ (lnP1 f q).2.2.2.2 := fun q => by
    have t := pes_le f q
    unfold lnP1
    exact le_if (Int.le_trans t (a2 _ _)) t
  have t := (tks_le f (ltr 4 5) p).1
  unfold lnP
  exact le_if (Int.le_trans t (a1 _)) t
theorem lnS_le (f : Int → Int) (p : Int) : p ≤ (lnS f p).2.2.2.2 := by
  unfold lnS
  exact le_if (lnN_le f 0 _ p) (le_if (lnN_le f 2 _ p) (le_if (lnU_le f p) (lnP_le f p)))
def T10 (f : Int → Int) (x : Int × Int × Int × Int × Int) : Prop := x.1 = -1 ∨ f x.2.2.2.2 = 10
theorem t_if {f : Int → Int} {P : Prop} [Decidable P] {x y : Int × Int × Int × Int × Int} (hx : P → T10 f x) (hy : ¬ P → T10 f y) : T10 f (if P then x else y) := by
  by_cases c : P
  · rw [if_pos c]
    exact hx c
  · rw [if_neg c]
    exact hy c
theorem lnS_10 (f : Int → Int) (p : Int) : T10 f (lnS f p) := by
  have a5 : ∀ a b q, T10 f (lnP5 f a b q) := fun a b q => t_if (fun _ => Or.inl rfl) (fun _ => t_if (fun c => Or.inr c) (fun _ => Or.inl rfl))
  have a4 : ∀ a b q, T10 f (lnP4 f a b q) := fun a b q => t_if (fun _ => a5 _ _ _) (fun _ => Or.inl rfl)
  have a3 : ∀ a q, T10 f (lnP3 f a q) := fun a q => t_if (fun _ => a4 _ _ _) (fun _ => Or.inl rfl)
  have a2 : ∀ a q, T10 f (lnP2 f a q) := fun a q => t_if (fun _ => a3 _ _) (fun _ => Or.inl rfl)
  have a1 : ∀ q, T10 f (lnP1 f q) := fun q => t_if (fun _ => a2 _ _) (fun _ => Or.inl rfl)
  have a0 : T10 f (lnP f p) := t_if (fun _ => a1 _) (fun _ => Or.inl rfl)
  have u : T10 f (lnU f p) := t_if (fun _ => t_if (fun c => Or.inr c) (fun _ => Or.inl rfl)) (fun _ => Or.inl rfl)
  have n : ∀ k l, T10 f (lnN f k l p) := fun k l => t_if (fun _ => t_if (fun _ => Or.inl rfl) (fun _ => t_if (fun c => Or.inr c) (fun _ => Or.inl rfl))) (fun _ => Or.inl rfl)
  exact t_if (fun _ => n _ _) (fun _ => t_if (fun _ => n _ _) (fun _ => t_if (fun _ => u) (fun _ => a0)))
theorem rc_22 {w0 : MW} {E : MW → Prop} {Q : Int32 → MW → Prop} (hI0 : BND w0) (hE : ∀ w' ls', BND w' → FR lrd9 w0 w' → PWc w' ls' → (∃ k, PlR (cf w0) (w0.1 1 2).toInt k 0 [] (-1) ls') → E w') (hQ : ∀ (r : Int32) (w' : MW) ls', BND w' → FR lrd9 w0 w' → 0 ≤ r.toInt → r.toInt ≤ 4000 → (∃ k, PlR (cf w0) (w0.1 1 2).toInt k 0 [] r.toInt ls') → Q r w') (m : Nat) : ∀ (i : Nat) (w : MW) (ls : List Ln), BND w → FR lrd9 w0 w → w.2.2 91 9 = some 1 → PWc w ls → (i : Int) ≤ (w.1 91 10).toInt → (∀ r ls', (∃ k, PlR (cf w0) (w0.1 1 2).toInt k (w.1 91 10).toInt ls r ls') → ∃ k, PlR (cf w0) (w0.1 1 2).toInt k 0 [] r ls') → 4001 - i < m → q_Pl_reads91_1_22 E Q m (nI i) w := by
  induction m with
  | zero => intros; omega
  | succ m ih =>
    intro i w ls hB hF hr hP hi hc hm
    have b10 := bd_91_10 hB
    have ti : (nI i).toInt = (i : Int) := nI_toInt (by omega)
    have ec : cf w = cf w0 := cf_fr hF rfl
    have en : w.1 1 2 = w0.1 1 2 := (hF 1 2 rfl).1
    have be := bd_1_2 hI0
    rw [q_Pl_reads91_1_22.eq_2]
    refine ⟨fun c => by omega, fun _ => ⟨fun c => ?_, fun c => ?_⟩⟩
    · rw [en] at c
      exact hE w ls hB hF hP (hc _ _ ⟨1, Or.inl ⟨by omega, rfl, rfl⟩⟩)
    rw [en] at c
    refine rd_line hB hr (fun r w3 hR => ?_)
    rw [ec] at hR
    have S := st_line hP hR
    have F3 : FR lrd9 w0 w3 := hF.tr S.2.1 rfl
    have le := lnS_le (cf w0) (w.1 91 10).toInt
    rcases S.2.2.2.2 with ⟨er, q⟩ | ⟨er, n1, ok, P3⟩
    · rw [er]
      refine ⟨fun y => absurd i_0 y, fun _ => ?_⟩
      have e10 := S.2.2.2.1
      refine hQ _ w3 ls S.1 F3 (by omega) (bd_91_10 S.1).2 ?_
      rw [e10]
      exact hc _ _ ⟨1, Or.inr (Or.inl ⟨by omega, q, rfl, rfl⟩)⟩
    · rw [er]
      refine ⟨fun _ => ?_, fun y => absurd (by decide) y⟩
      have t10 := (lnS_10 (cf w0) (w.1 91 10).toInt).resolve_left n1
      have cp := cf_pos (w := w0) (p := (lnS (cf w0) (w.1 91 10).toInt).2.2.2.2) (by omega)
      have e10 := S.2.2.2.1
      have s := ti_add2 (Eq.refl (w3.1 91 10).toInt) i_1 (by omega) (by omega)
      have F4 : FR [(91, some 10)] w3 (sI w3 91 10 ((w3.1 91 10) + (1 : Int32))) := FR.I (FR.refl _ w3) rfl
      rw [nI_1]
      refine ih (i + 1) _ (ls ++ [lnX (lnS (cf w0) (w.1 91 10).toInt)]) (wbd_91_10 S.1 (by omega) (by omega)) (F3.tr F4 rfl) S.2.2.1 (pwc_fr P3 F4 rfl) (by rw [sI_same]; omega) (fun r ls' hk => ?_) (by omega)
      rw [sI_same, s, e10] at hk
      obtain ⟨k, hk⟩ := hk
      exact hc r ls' ⟨k + 1, Or.inr (Or.inr ⟨by omega, n1, ok, hk⟩)⟩
