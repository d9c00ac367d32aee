/-! a litre goes over a way: the class -/
/-- the line of a way behind m litres -/
def Bm (B : Nat → Bool) (m i : Nat) : Bool := if i < m then true else B (i - m)
theorem Bm_s (B : Nat → Bool) (m i : Nat) : Bm B (m + 1) (i + 1) = Bm B m i := by
  unfold Bm
  by_cases c : i < m
  · rw [if_pos c, if_pos (by omega)]
  · rw [if_neg c, if_neg (by omega), show i + 1 - (m + 1) = i - m by omega]
theorem Bm_0 (B : Nat → Bool) (m : Nat) : Bm B (m + 1) 0 = true := if_pos (by omega)
theorem ctb_push {f g : Nat → Bool} {b : Bool} : ∀ n, g 0 = b → (∀ j, j + 1 < n + 1 → g (j + 1) = f j) → ctb g (n + 1) + bn (f n) = ctb f (n + 1) + bn b := by
  intro n
  induction n with
  | zero =>
    intro h0 _
    rw [ctb_s, ctb_s, h0]
    unfold ctb bn
    omega
  | succ n ih =>
    intro h0 h
    have i := ih h0 (fun j hj => h j (by omega))
    have e := h n (by omega)
    rw [ctb_s g, ctb_s f, e]
    rw [ctb_s f] at i
    rw [ctb_s f]
    unfold bn at i ⊢
    omega
/-- wet: some litre came into it -/
def wet (B : Nat → Bool) (m o : Nat) : Prop := ∃ j, 1 ≤ j ∧ j ≤ m ∧ Bm B j o = true
theorem wet_s (B : Nat → Bool) (m o : Nat) : wet B (m + 1) o ↔ wet B m o ∨ Bm B (m + 1) o = true := by
  constructor
  · intro q
    obtain ⟨j, h1, h2, h3⟩ := q
    by_cases c : j = m + 1
    · rw [c] at h3
      exact Or.inr h3
    · exact Or.inl ⟨j, h1, by omega, h3⟩
  · intro q
    rcases q with ⟨j, h1, h2, h3⟩ | q
    · exact ⟨j, h1, by omega, h3⟩
    · exact ⟨m + 1, by omega, by omega, q⟩
/-- pipe p (space x) behind m litres: it begins at place o of the line -/
def CPi (z v : MW) (x p o : Nat) (d : Bool) (ca X : Int32) (B : Nat → Bool) (m : Nat) : Prop := RgP v p ∧ v.1 12 p = z.1 12 p ∧ (∀ j, j < rmC z p → lp v p d j = Bm B m (o + j)) ∧ (v.1 18 x).toInt = ctb (fun j => Bm B m (o + j)) (rmC z p) ∧ v.1 17 x = (if 0 < ctb (fun j => Bm B m (o + j)) (rmC z p) then ca else 0) ∧ NoC v x ∧ ((v.1 17 x).toInt = 0 → (wet B m o → v.1 19 x = ca) ∧ (¬ wet B m o → v.1 19 x = X)) ∧ (¬ (v.1 17 x).toInt = 0 → ¬ wet B m o → X = ca) ∧ ∀ i, 1 ≤ i → i ≤ 5 → (wet B m o → v.1 23 (6 * x + i) = -1) ∧ (¬ wet B m o → v.1 23 (6 * x + i) = z.1 23 (6 * x + i))
theorem cp_s {z v w : MW} {x p o n : Nat} {d f l : Bool} {ca X : Int32} {B : Nat → Bool} {m : Nat} (c0 : ¬ ca.toInt = 0) (h : CPi z v x p o d ca X B m) (en : n = ctb (fun j => Bm B m (o + j)) (rmC z p)) (ef : f = Bm B (m + 1) o) (s : PuS v w x p n d f l ca) : CPi z w x p o d ca X B (m + 1) ∧ l = Bm B (m + 1) (o + rmC z p) := by
  obtain ⟨h1, h2, h3, h4, h5, h6, h7, h8, h9⟩ := h
  obtain ⟨so, ⟨s18, s17, s19, s23⟩, srg, slp0, slp, sl⟩ := s
  have er : rmC v p = rmC z p := by
    unfold rmC
    rw [h2]
  have r1 : 1 ≤ rmC z p := by
    have := h1.1.1
    rw [← er]
    unfold rmC
    omega
  rw [er] at slp sl
  have elast : l = Bm B m (o + (rmC z p - 1)) := by
    rw [sl]
    exact h3 _ (by omega)
  have lbm : l = Bm B (m + 1) (o + rmC z p) := by
    rw [elast, ← Bm_s, show o + (rmC z p - 1) + 1 = o + rmC z p by omega]
  have e12 : w.1 12 p = z.1 12 p := by
    rw [so.2.1 12 p (by decide) (by decide) (by decide) (by decide) (by decide)]
    exact h2
  have cp := ctb_push (f := fun j => Bm B m (o + j)) (g := fun j => Bm B (m + 1) (o + j)) (b := f) (rmC z p - 1) (by rw [ef]; rfl) (fun j _ => Bm_s B m (o + j))
  rw [show rmC z p - 1 + 1 = rmC z p by omega] at cp
  rw [← elast, ← en] at cp
  have l1 : l = true → 1 ≤ n := fun q => by
    have t := ctb_lt (f := fun _ => false) (g := fun j => Bm B m (o + j)) (k := rmC z p - 1) rfl (by rw [← q, elast]) (rmC z p) (by omega) (fun y _ t => by cases t)
    omega
  have w18 : (w.1 18 x).toInt = ctb (fun j => Bm B (m + 1) (o + j)) (rmC z p) := by omega
  have fw : f = true ↔ Bm B (m + 1) o = true := by rw [ef]
  have ws : wet B (m + 1) o ↔ wet B m o ∨ f = true := by
    rw [wet_s, ← fw]
  rw [← en] at h5
  have w17 : w.1 17 x = (if 0 < ctb (fun j => Bm B (m + 1) (o + j)) (rmC z p) then ca else 0) := by
    rw [s17]
    cases hf : f with
    | true =>
      rw [if_pos rfl, if_pos]
      rw [hf] at cp
      have b1 : bn true = 1 := rfl
      rw [b1] at cp
      cases hl : l with
      | true =>
        have := l1 hl
        rw [hl, b1] at cp
        omega
      | false =>
        rw [hl] at cp
        have b0 : bn false = 0 := rfl
        rw [b0] at cp
        omega
    | false =>
      have b0 : bn false = 0 := rfl
      have b1 : bn true = 1 := rfl
      rw [if_neg (by decide)]
      rw [hf, b0] at cp
      cases hl : l with
      | true =>
        have n1 := l1 hl
        rw [hl, b1] at cp
        by_cases q : n = 1
        · rw [if_pos ⟨rfl, q⟩, if_neg (by omega)]
        · rw [if_neg (fun y => q y.2), if_pos (by omega), h5, if_pos (by omega)]
      | false =>
        rw [hl, b0] at cp
        rw [if_neg (fun y => absurd y.1 (by decide)), h5]
        by_cases q : 0 < n
        · rw [if_pos q, if_pos (by omega)]
        · rw [if_neg q, if_neg (by omega)]
  have v17 : ¬ (v.1 17 x).toInt = 0 ↔ 0 < n := by
    rw [h5]
    by_cases q : 0 < n
    · rw [if_pos q]
      exact ⟨fun _ => q, fun _ => c0⟩
    · rw [if_neg q]
      exact ⟨fun y => absurd i_0 y, fun y => absurd y q⟩
  refine ⟨⟨srg, e12, fun j hj => ?_, w18, w17, ?_, fun z17 => ⟨fun y => ?_, fun y => ?_⟩, fun z17 y => ?_, fun i i1 i2 => ⟨fun y => ?_, fun y => ?_⟩⟩, lbm⟩
  · cases j with
    | zero =>
      rw [slp0]
      exact ef
    | succ j =>
      rw [slp j hj, h3 j (by omega), show o + (j + 1) = o + j + 1 by omega, Bm_s]
  · intro n17 i i1 i2
    rw [s23 i i1 i2]
    cases hf : f with
    | true => rw [if_pos rfl]
    | false =>
      rw [if_neg (by decide)]
      refine h6 (fun q => n17 ?_) i i1 i2
      have e : w.1 17 x = v.1 17 x ∨ w.1 17 x = 0 := by
        rw [s17, hf, if_neg (by decide)]
        by_cases t : l = true ∧ n = 1
        · rw [if_pos t]
          exact Or.inr rfl
        · rw [if_neg t]
          exact Or.inl rfl
      rcases e with e | e
      · rw [e]
        exact q
      · rw [e]
        exact i_0
  · have nf : f = false := by
      cases hf : f with
      | false => rfl
      | true =>
        rw [s17, hf, if_pos rfl] at z17
        exact absurd z17 c0
    have y' : wet B m o := by
      rcases ws.mp y with q | q
      · exact q
      · rw [nf] at q
        cases q
    rw [s19, nf]
    by_cases t : l = true ∧ n = 1
    · rw [if_pos ⟨rfl, t.1, t.2⟩, h5, if_pos (by omega)]
    · rw [if_neg (fun q => t ⟨q.2.1, q.2.2⟩)]
      rw [s17, nf, if_neg (by decide), if_neg t] at z17
      exact (h7 z17).1 y'
  · have nf : f = false := by
      cases hf : f with
      | false => rfl
      | true => exact absurd (ws.mpr (Or.inr hf)) y
    have y' : ¬ wet B m o := fun q => y (ws.mpr (Or.inl q))
    rw [s19, nf]
    by_cases t : l = true ∧ n = 1
    · rw [if_pos ⟨rfl, t.1, t.2⟩, h5, if_pos (by omega)]
      exact (h8 (v17.mpr (by omega)) y').symm
    · rw [if_neg (fun q => t ⟨q.2.1, q.2.2⟩)]
      rw [s17, nf, if_neg (by decide), if_neg t] at z17
      exact (h7 z17).2 y'
  · have nf : f = false := by
      cases hf : f with
      | false => rfl
      | true => exact absurd (ws.mpr (Or.inr hf)) y
    have y' : ¬ wet B m o := fun q => y (ws.mpr (Or.inl q))
    refine h8 (fun q => z17 ?_) y'
    rw [s17, nf, if_neg (by decide)]
    by_cases t : l = true ∧ n = 1
    · rw [if_pos t]
      exact i_0
    · rw [if_neg t]
      exact q
  · rw [s23 i i1 i2]
    cases hf : f with
    | true => rw [if_pos rfl]
    | false =>
      rw [if_neg (by decide)]
      rcases ws.mp y with q | q
      · exact (h9 i i1 i2).1 q
      · rw [hf] at q
        cases q
  · have nf : f = false := by
      cases hf : f with
      | false => rfl
      | true => exact absurd (ws.mpr (Or.inr hf)) y
    rw [s23 i i1 i2, nf, if_neg (by decide)]
    exact (h9 i i1 i2).2 (fun q => y (ws.mpr (Or.inl q)))
/-- spaces S and pipes Pp may have changed -/
def MvO (S Pp : Nat → Prop) (z w : MW) : Prop := w.2.2 = z.2.2 ∧ (∀ c j, ¬ c = 17 → ¬ c = 18 → ¬ c = 19 → ¬ c = 21 → ¬ c = 23 → w.1 c j = z.1 c j) ∧ (∀ c j, c = 17 ∨ c = 18 ∨ c = 19 → ¬ S j → w.1 c j = z.1 c j) ∧ (∀ j, ¬ Pp j → w.1 21 j = z.1 21 j) ∧ (∀ x i, ¬ S x → 1 ≤ i → i ≤ 5 → w.1 23 (6 * x + i) = z.1 23 (6 * x + i)) ∧ (∀ c j, ¬ c = 20 → w.2.1 c j = z.2.1 c j) ∧ ∀ p c, c < 256 → ¬ Pp p → cel w p c = cel z p c
theorem mv_r (S Pp : Nat → Prop) (z : MW) : MvO S Pp z z := ⟨rfl, fun _ _ _ _ _ _ _ => rfl, fun _ _ _ _ => rfl, fun _ _ => rfl, fun _ _ _ _ _ => rfl, fun _ _ _ => rfl, fun _ _ _ _ => rfl⟩
theorem mv_t {S Pp : Nat → Prop} {a b c : MW} (h : MvO S Pp a b) (g : MvO S Pp b c) : MvO S Pp a c := ⟨g.1.trans h.1, fun k j h1 h2 h3 h4 h5 => (g.2.1 k j h1 h2 h3 h4 h5).trans (h.2.1 k j h1 h2 h3 h4 h5), fun k j hk hj => (g.2.2.1 k j hk hj).trans (h.2.2.1 k j hk hj), fun j hj => (g.2.2.2.1 j hj).trans (h.2.2.2.1 j hj), fun x i hx i1 i2 => (g.2.2.2.2.1 x i hx i1 i2).trans (h.2.2.2.2.1 x i hx i1 i2), fun k j hk => (g.2.2.2.2.2.1 k j hk).trans (h.2.2.2.2.2.1 k j hk), fun p k hk hp => (g.2.2.2.2.2.2 p k hk hp).trans (h.2.2.2.2.2.2 p k hk hp)⟩
theorem mv_pu {S Pp : Nat → Prop} {z w : MW} {x p : Nat} (hS : S x) (hP : Pp p) (o : PuO z w x p) : MvO S Pp z w := ⟨o.1, o.2.1, fun c j hc hj => o.2.2.1 c j hc (fun e => hj (by rw [e]; exact hS)), fun j hj => o.2.2.2.1 j (fun e => hj (by rw [e]; exact hP)), fun y i hy i1 i2 => o.2.2.2.2.1 _ (fun q => by
  have e : y = x := by omega
  rw [e] at hy
  exact hy hS), o.2.2.2.2.2.1, fun q c hc hq => o.2.2.2.2.2.2 q c hc (fun e => hq (by rw [e]; exact hP))⟩
theorem mv_sp {S Pp : Nat → Prop} {z w : MW} {x : Nat} (hS : S x) (o : oSp z w x) : MvO S Pp z w := ⟨by rw [o.1], fun c j h1 h2 h3 h4 h5 => o.2.1 c j h1 h2 h3 h5, fun c j hc hj => o.2.2.1 c j hc (fun e => hj (by rw [e]; exact hS)), fun j _ => o.2.1 21 j (by decide) (by decide) (by decide) (by decide), fun y i hy i1 i2 => o.2.2.2 _ (fun q => by
  have e : y = x := by omega
  rw [e] at hy
  exact hy hS), fun c j _ => by rw [o.1], fun p c _ _ => by unfold cel; rw [o.1]⟩
/-- a pipe's state where nothing of it has changed -/
theorem cp_f {z v w : MW} {x p o : Nat} {d : Bool} {ca X : Int32} {B : Nat → Bool} {m : Nat} {S Pp : Nat → Prop} (nS : ¬ S x) (nP : ¬ Pp p) (mo : MvO S Pp v w) (h : CPi z v x p o d ca X B m) : CPi z w x p o d ca X B m := by
  obtain ⟨h1, h2, h3, h4, h5, h6, h7, h8, h9⟩ := h
  have e12 : w.1 12 p = v.1 12 p := mo.2.1 12 p (by decide) (by decide) (by decide) (by decide) (by decide)
  have e21 : w.1 21 p = v.1 21 p := mo.2.2.2.1 p nP
  have e17 : w.1 17 x = v.1 17 x := mo.2.2.1 17 x (by omega) nS
  have e18 : w.1 18 x = v.1 18 x := mo.2.2.1 18 x (by omega) nS
  have e19 : w.1 19 x = v.1 19 x := mo.2.2.1 19 x (by omega) nS
  have e23 : ∀ i, 1 ≤ i → i ≤ 5 → w.1 23 (6 * x + i) = v.1 23 (6 * x + i) := fun i i1 i2 => mo.2.2.2.2.1 x i nS i1 i2
  have hr := h1.1
  have elp : ∀ j, lp w p d j = lp v p d j := fun j => by
    have q : ∀ c, c < 256 → cel w p c = cel v p c := fun c hc => mo.2.2.2.2.2.2 p c hc nP
    unfold lp stC rmC
    rw [e12, e21]
    refine q _ ?_
    have := Nat.mod_lt ((v.1 21 p).toInt.toNat + (if d = true then j else (v.1 12 p).toInt.toNat - 1 - j)) (show (v.1 12 p).toInt.toNat > 0 by omega)
    omega
  refine ⟨?_, e12.trans h2, fun j hj => (elp j).trans (h3 j hj), by rw [e18]; exact h4, by rw [e17]; exact h5, ?_, ?_, ?_, fun i i1 i2 => ?_⟩
  · unfold RgP
    rw [e12, e21]
    exact h1
  · intro q i i1 i2
    rw [e17] at q
    rw [e23 i i1 i2]
    exact h6 q i i1 i2
  · rw [e17, e19]
    exact h7
  · rw [e17]
    exact h8
  · rw [e23 i i1 i2]
    exact h9 i i1 i2
