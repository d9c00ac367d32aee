/-! the reference finds -/
/-- pipe p is on an open way -/
def onW (w : MW) (p : Nat) : Prop := ∃ k i : Nat, (k : Int) < (w.1 127 26).toInt ∧ (i : Int) < (w.1 185 k).toInt ∧ (w.1 186 (24 * k + i)).toInt / 2 = (p : Int)
/-- only the long of busy differs -/
def oB (z w : MW) : Prop := w.1 = z.1 ∧ w.2.2 = z.2.2 ∧ ∀ k j, ¬ (k = 127 ∧ j = 40) → w.2.1 k j = z.2.1 k j
theorem oB_s {z w : MW} (h : oB z w) (v : Int64) : oB z (sJ w 127 40 v) := ⟨h.1, h.2.1, fun k j hk => by
  rw [sJ_at, if_neg hk]
  exact h.2.2 k j hk⟩
theorem bf_18 {z : MW} {x1 x2 k : Int32} {E E' : MW → Prop} {Q Q' : Int32 → MW → Prop} (k0 : 0 ≤ k.toInt) (k1 : k.toInt < 24) (h186 : ∀ j, 0 ≤ (z.1 186 j).toInt ∧ (z.1 186 j).toInt < 48) (h185 : (z.1 185 k.toInt.toNat).toInt ≤ 24) {B : Nat → Prop} (kE : ∀ w, oB z w → (∀ p, lb (w.2.1 127 40) p = true ↔ B p ∨ ∃ i : Nat, (i : Int) < (z.1 185 k.toInt.toNat).toInt ∧ (z.1 186 (24 * k.toInt.toNat + i)).toInt / 2 = (p : Int)) → E w → E' w) : ∀ (m : Nat) (i : Int32) (w : MW), q_Mo_find_18 x1 x2 k E Q m i w → 0 ≤ i.toInt → oB z w → (∀ p, lb (w.2.1 127 40) p = true ↔ B p ∨ ∃ i' : Nat, (i' : Int) < i.toInt ∧ (i' : Int) < (z.1 185 k.toInt.toNat).toInt ∧ (z.1 186 (24 * k.toInt.toNat + i')).toInt / 2 = (p : Int)) → q_Mo_find_18 x1 x2 k E' Q' m i w := by
  intro m
  induction m with
  | zero => exact fun _ _ h _ _ _ => False.elim h
  | succ m ih =>
    intro i w h i0 o inv
    rw [q_Mo_find_18.eq_2, o.1] at h ⊢
    refine ⟨h.1, fun c => kE w o (fun p => ?_) (h.2.1 c), fun c => ?_⟩
    · rw [inv p]
      constructor
      · intro q
        rcases q with q | ⟨i', _, q⟩
        · exact Or.inl q
        · exact Or.inr ⟨i', q⟩
      · intro q
        rcases q with q | ⟨i', q1, q2⟩
        · exact Or.inl q
        · exact Or.inr ⟨i', by omega, q1, q2⟩
    · have H := h.2.2 c
      have ei := ti_add2 (Eq.refl i.toInt) i_1 (by omega) (by omega)
      have m1 := ti_mul2 (by decide : ((24 : Int32)).toInt = 24) (Eq.refl k.toInt) (by omega) (by omega)
      have m2 := ti_add2 m1 (Eq.refl i.toInt) (by omega) (by omega)
      have m3 : (((24 : Int32) * k) + i).toInt.toNat = 24 * k.toInt.toNat + i.toInt.toNat := by omega
      rw [m3] at H ⊢
      have b := h186 (24 * k.toInt.toNat + i.toInt.toNat)
      have d2 : ((z.1 186 (24 * k.toInt.toNat + i.toInt.toNat)) / (2 : Int32)).toInt = (z.1 186 (24 * k.toInt.toNat + i.toInt.toNat)).toInt / 2 := nb_div b.1 (by decide) (by decide)
      refine ⟨H.1, ih _ _ H.2 (by omega) (oB_s o _) (fun p => ?_)⟩
      rw [sJ_same, lb_or, Bool.or_eq_true, inv p, lb_set (by omega) (by omega), decide_eq_true_iff]
      constructor
      · intro q
        rcases q with (q | ⟨i', q1, q2⟩) | q
        · exact Or.inl q
        · exact Or.inr ⟨i', by omega, q2⟩
        · exact Or.inr ⟨i.toInt.toNat, by omega, by omega, by omega⟩
      · intro q
        rcases q with q | ⟨i', q1, q2, q3⟩
        · exact Or.inl (Or.inl q)
        · by_cases z2 : (i' : Int) = i.toInt
          · rw [show i' = i.toInt.toNat by omega] at q3
            exact Or.inr (by omega)
          · exact Or.inl (Or.inr ⟨i', by omega, q2, q3⟩)
theorem bf_7 {z : MW} {x1 x2 : Int32} {E E' : MW → Prop} {Q Q' : Int32 → MW → Prop} (h26 : (z.1 127 26).toInt ≤ 24) (h186 : ∀ j, 0 ≤ (z.1 186 j).toInt ∧ (z.1 186 j).toInt < 48) (h185 : ∀ k, (z.1 185 k).toInt ≤ 24) (kE : ∀ w, oB z w → (∀ p, lb (w.2.1 127 40) p = true ↔ onW z p) → E w → E' w) : ∀ (m : Nat) (k : Int32) (w : MW), q_Mo_find_7 x1 x2 E Q m k w → 0 ≤ k.toInt → oB z w → (∀ p, lb (w.2.1 127 40) p = true ↔ ∃ k' i : Nat, (k' : Int) < k.toInt ∧ (k' : Int) < (z.1 127 26).toInt ∧ (i : Int) < (z.1 185 k').toInt ∧ (z.1 186 (24 * k' + i)).toInt / 2 = (p : Int)) → q_Mo_find_7 x1 x2 E' Q' m k w := by
  intro m
  induction m with
  | zero => exact fun _ _ h _ _ _ => False.elim h
  | succ m ih =>
    intro k w h k0 o inv
    rw [q_Mo_find_7.eq_2, o.1] at h ⊢
    refine ⟨fun c => kE w o (fun p => ?_) (h.1 c), fun c => ?_⟩
    · rw [inv p]
      constructor
      · intro q
        obtain ⟨k', i, _, q⟩ := q
        exact ⟨k', i, q⟩
      · intro q
        obtain ⟨k', i, q1, q2⟩ := q
        exact ⟨k', i, by omega, q1, q2⟩
    · have ek := ti_add2 (Eq.refl k.toInt) i_1 (by omega) (by omega)
      refine bf_18 (z := z) k0 (by omega) h186 (h185 _) (B := fun p => ∃ k' i : Nat, (k' : Int) < k.toInt ∧ (k' : Int) < (z.1 127 26).toInt ∧ (i : Int) < (z.1 185 k').toInt ∧ (z.1 186 (24 * k' + i)).toInt / 2 = (p : Int)) (fun w' o' b' g' => ih _ _ g' (by omega) o' (fun p => ?_)) _ _ _ (h.2 c) (by decide) o (fun p => ?_)
      · rw [b' p]
        constructor
        · intro q
          rcases q with ⟨k', i, q1, q⟩ | ⟨i, q1, q2⟩
          · exact ⟨k', i, by omega, q⟩
          · exact ⟨k.toInt.toNat, i, by omega, by omega, q1, q2⟩
        · intro q
          obtain ⟨k', i, q1, q2, q3, q4⟩ := q
          by_cases z2 : (k' : Int) = k.toInt
          · rw [show k' = k.toInt.toNat by omega] at q3 q4
            exact Or.inr ⟨i, q3, q4⟩
          · exact Or.inl ⟨k', i, by omega, q2, q3, q4⟩
      · rw [inv p]
        constructor
        · exact fun q => Or.inl q
        · intro q
          rcases q with q | ⟨i, q, _⟩
          · exact q
          · rw [i_0] at q
            omega
/-- the end where the way begins -/
theorem bs_140 {w : MW} {x e g f : Int32} {A A' : Int32 → Int32 → MW → Prop} {E E' : Int32 → MW → Prop} {Q Q' : Int32 → MW → Prop} (h : q_Mo_find_140 x e g f w A E Q) (k : ∀ e' : Int32, ((e' = e ∧ (f.toInt = 0 ∨ (¬ e.toInt = -1 ∧ (LLw w e.toInt.toNat < LLw w g.toInt.toNat ∨ (LLw w e.toInt.toNat = LLw w g.toInt.toNat ∧ LPw w e.toInt.toNat ≤ LPw w g.toInt.toNat))))) ∨ (e' = g ∧ ¬ f.toInt = 0 ∧ (e.toInt = -1 ∨ LLw w g.toInt.toNat < LLw w e.toInt.toNat ∨ (LLw w g.toInt.toNat = LLw w e.toInt.toNat ∧ LPw w g.toInt.toNat < LPw w e.toInt.toNat)))) → A e' (g + (1 : Int32)) w → A' e' (g + (1 : Int32)) w) : q_Mo_find_140 x e g f w A' E' Q' := by
  rw [q_Mo_find_140.eq_1] at h ⊢
  have l1 : ∀ j, LLw w j = (w.1 188 j).toInt := fun _ => rfl
  have l2 : ∀ j, LPw w j = (w.1 189 j).toInt := fun _ => rfl
  refine ⟨fun c => k e (Or.inl ⟨rfl, Or.inl c⟩) (h.1 c), fun c => ⟨fun d => k g (Or.inr ⟨rfl, c, Or.inl d⟩) ((h.2 c).1 d), fun d => ?_⟩⟩
  have H := (h.2 c).2 d
  refine ⟨H.1, H.2.1, fun d1 => k g (Or.inr ⟨rfl, c, Or.inr (Or.inl d1)⟩) (H.2.2.1 d1), fun d1 => ?_⟩
  have H2 := H.2.2.2 d1
  refine ⟨H2.1, H2.2.1, fun d2 => k e (Or.inl ⟨rfl, Or.inr ⟨d, Or.inl ?_⟩⟩) (H2.2.2.1 d2), fun d2 => ?_⟩
  · rw [l1, l1]
    omega
  have H3 := H2.2.2.2 d2
  refine ⟨H3.1, H3.2.1, fun d3 => k e (Or.inl ⟨rfl, Or.inr ⟨d, Or.inr ⟨?_, d3⟩⟩⟩) (H3.2.2.1 d3), fun d3 => k g (Or.inr ⟨rfl, c, Or.inr (Or.inr ⟨?_, ?_⟩)⟩) (H3.2.2.2 d3)⟩
  · rw [l1, l1]
    omega
  · rw [l1, l1]
    omega
  · rw [l2, l2]
    omega
theorem bs_102 {w : MW} {N : Nat} {x : Int32} {E E' : Int32 → MW → Prop} {Q Q' : Int32 → MW → Prop} (n2 : ((2 : Int32) * (w.1 127 11)).toInt = N) (n48 : N ≤ 48) (k : ∀ r : Int32, ((r = -1 ∧ ∀ e, e < N → atM w e = x.toInt → LLw w e = -1) ∨ (0 ≤ r.toInt ∧ Pst N (atM w) (LLw w) (LPw w) x.toInt r.toInt.toNat)) → E r w → E' r w) : ∀ (m : Nat) (b g : Int32), q_Mo_find_102 x E Q m b g w → 0 ≤ g.toInt → g.toInt ≤ N → ((b = -1 ∧ ∀ e : Nat, (e : Int) < g.toInt → atM w e = x.toInt → LLw w e = -1) ∨ (0 ≤ b.toInt ∧ b.toInt < g.toInt ∧ atM w b.toInt.toNat = x.toInt ∧ ¬ LLw w b.toInt.toNat = -1 ∧ ∀ e : Nat, (e : Int) < g.toInt → atM w e = x.toInt → ¬ LLw w e = -1 → LLw w b.toInt.toNat < LLw w e ∨ (LLw w b.toInt.toNat = LLw w e ∧ (LPw w b.toInt.toNat < LPw w e ∨ (LPw w b.toInt.toNat = LPw w e ∧ b.toInt.toNat ≤ e))))) → q_Mo_find_102 x E' Q' m b g w := by
  intro m
  induction m with
  | zero => exact fun _ _ h _ _ _ => False.elim h
  | succ m ih =>
    intro b g h g0 gN st
    rw [q_Mo_find_102.eq_2] at h ⊢
    refine ⟨fun c => k b ?_ (h.1 c), fun c => ?_⟩
    · rcases st with ⟨s1, s2⟩ | ⟨s1, s2, s3, s4, s5⟩
      · exact Or.inl ⟨s1, fun e he => s2 e (by omega)⟩
      · exact Or.inr ⟨s1, by omega, s3, s4, fun e he => s5 e (by omega)⟩
    · have H := h.2 c
      have eg := ti_add2 (Eq.refl g.toInt) i_1 (by omega) (by omega)
      have step : ∀ f : Int32, (¬ f.toInt = 0 ↔ atM w g.toInt.toNat = x.toInt ∧ ¬ LLw w g.toInt.toNat = -1) → q_Mo_find_140 x b g f w (fun (x102_3 : Int32) (x102_4 : Int32) (w : MW) => q_Mo_find_102 x E Q m x102_3 x102_4 w) E Q → q_Mo_find_140 x b g f w (fun (x102_3 : Int32) (x102_4 : Int32) (w : MW) => q_Mo_find_102 x E' Q' m x102_3 x102_4 w) E' Q' := fun f hf r => by
        refine bs_140 r (fun e' he' g' => ih _ _ g' (by omega) (by omega) ?_)
        rcases he' with ⟨e1, e2⟩ | ⟨e1, e2, e3⟩
        · rw [e1]
          have skip : ∀ e : Nat, (e : Int) < (g + (1 : Int32)).toInt → (e : Int) < g.toInt ∨ e = g.toInt.toNat := fun e he => by omega
          rcases st with ⟨s1, s2⟩ | ⟨s1, s2, s3, s4, s5⟩
          · refine Or.inl ⟨s1, fun e he ea => ?_⟩
            rcases skip e he with q | q
            · exact s2 e q ea
            · rw [q] at ea ⊢
              rcases e2 with e2 | e2
              · by_cases z2 : LLw w g.toInt.toNat = -1
                · exact z2
                · exact absurd e2 (hf.mpr ⟨ea, z2⟩)
              · exact absurd (show b.toInt = -1 by rw [s1]; exact m1_i) e2.1
          · refine Or.inr ⟨s1, by omega, s3, s4, fun e he ea en => ?_⟩
            rcases skip e he with q | q
            · exact s5 e q ea en
            · rw [q] at ea en ⊢
              rcases e2 with e2 | e2
              · exact absurd e2 (hf.mpr ⟨ea, en⟩)
              · have := e2.2
                omega
        · have ff := hf.mp e2
          rw [e1]
          refine Or.inr ⟨g0, by omega, ff.1, ff.2, fun e he ea en => ?_⟩
          by_cases q : (e : Int) = g.toInt
          · rw [show e = g.toInt.toNat by omega]
            exact Or.inr ⟨rfl, Or.inr ⟨rfl, Nat.le_refl _⟩⟩
          · rcases st with ⟨s1, s2⟩ | ⟨s1, s2, s3, s4, s5⟩
            · exact absurd (s2 e (by omega) ea) en
            · have s6 := s5 e (by omega) ea en
              rcases e3 with e3 | e3
              · omega
              · omega
      refine ⟨H.1, fun d => step 0 ⟨fun z => absurd i_0 z, fun z => absurd z.1 d⟩ (H.2.1 d), fun d => ⟨(H.2.2 d).1, fun d2 => step 0 ⟨fun z => absurd i_0 z, fun z => absurd d2 z.2⟩ ((H.2.2 d).2.1 d2), fun d2 => step 1 ⟨fun _ => ⟨Classical.not_not.mp d, d2⟩, fun _ => by decide⟩ ((H.2.2 d).2.2 d2)⟩⟩
