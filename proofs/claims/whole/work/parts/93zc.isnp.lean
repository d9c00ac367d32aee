/-! the reference lets a pipe's line in -/
theorem inc_v {w : MW} {i : Int32} (t : Nat) (h0 : 0 ≤ (w.1 180 t).toInt) (h1 : (w.1 180 t).toInt ≤ 1000) : ((inc w i).1 180 t).toInt = (w.1 180 t).toInt + (if i.toInt = (t : Int) then 1 else 0) := by
  unfold inc
  by_cases c : i.toInt < 0
  · rw [if_pos c, if_neg (show ¬ i.toInt = (t : Int) by omega)]
    omega
  · rw [if_neg c]
    by_cases e : i.toInt = (t : Int)
    · have et : i.toInt.toNat = t := by omega
      rw [if_pos e, et, sI_same, ti_add2 (Eq.refl (w.1 180 t).toInt) i_1 (by omega) (by omega)]
    · rw [if_neg e, sI_ne _ _ _ _ _ (by omega)]
      omega
theorem inc_bnd {w : MW} {i : Int32} (h : BND w) : BND (inc w i) := by
  unfold inc
  by_cases c : i.toInt < 0
  · rw [if_pos c]
    exact h
  · rw [if_neg c]
    exact wbd_180 h _
theorem inc_fr {w0 w : MW} {i : Int32} (h : FR lin_ w0 w) : FR lin_ w0 (inc w i) := by
  unfold inc
  by_cases c : i.toInt < 0
  · rw [if_pos c]
    exact h
  · rw [if_neg c]
    exact FR.I h rfl
theorem okN {w : MW} {ls : List Ln} (h : PN w ls) {b : Int32} {v d : Int} (eb : b.toInt = v) (b0 : -1 ≤ v) (lt : v < ((thg ls).length : Int)) (np : (pip ls).length < 24) (d0 : 0 ≤ d) (d1 : d ≤ 1) : (v = -1 ∨ (0 ≤ v ∧ v < (thg ls).length ∧ ∀ y, (thg ls)[v.toNat]? = some y → prt ls v + d < pcn (ckd y))) ↔ (v < 0 ∨ (w.1 180 b.toInt.toNat).toInt + d < (rm (w.1 179 b.toInt.toNat)).toInt) := by
  rw [eb]
  by_cases c : v = -1
  · exact ⟨fun _ => Or.inl (by omega), fun _ => Or.inl c⟩
  · have v0 : 0 ≤ v := by omega
    have ev : ((v.toNat : Nat) : Int) = v := by omega
    have l : v.toNat < (thg ls).length := by omega
    have g := h.2.2.1 v.toNat _ (List.getElem?_eq_getElem l)
    rw [ev] at g
    have pb := prt_b ls v
    rcases rm_pcn g.1 g.2.2 with ⟨k0, k⟩ | ⟨k0, k⟩
    · have kc : ckd (thg ls)[v.toNat] = 9 := by
        unfold ckd
        rw [if_pos k0]
      rw [g.2.1, k]
      constructor
      · intro _
        exact Or.inr (by omega)
      · intro _
        refine Or.inr ⟨v0, lt, fun y ey => ?_⟩
        rw [List.getElem?_eq_getElem l] at ey
        have e := Option.some.inj ey
        rw [← e, kc, pcn_9]
        omega
    · rw [g.2.1, k]
      constructor
      · intro q
        have q := q.resolve_left c
        exact Or.inr (q.2.2 _ (List.getElem?_eq_getElem l))
      · intro q
        have q := q.resolve_left (by omega)
        refine Or.inr ⟨v0, lt, fun y ey => ?_⟩
        rw [List.getElem?_eq_getElem l] at ey
        have e := Option.some.inj ey
        rw [← e]
        exact q
theorem in_255 {w : MW} {b : Int32} {Q : Int32 → MW → Prop} (b1 : b.toInt < 20) (hQ : Q 1 (sI (inc w b) 127 86 ((w.1 127 86) + (1 : Int32)))) : q_Mo_isNew_255 b w Q := by
  unfold inc at hQ
  refine Eq.mpr (q_Mo_isNew_255.eq_1 _ _ _) ⟨fun c => ?_, fun c => ⟨⟨by omega, b1⟩, ⟨by omega, b1⟩, ?_⟩⟩
  · rw [if_pos c] at hQ
    exact hQ
  · rw [if_neg c] at hQ
    exact hQ
theorem in_214 {w : MW} {a b f : Int32} {Q : Int32 → MW → Prop} (a1 : a.toInt < 20) (b1 : b.toInt < 20) (h0 : (¬ b.toInt < 0 ∧ ¬ ((w.1 180 b.toInt.toNat) + f).toInt < (rm (w.1 179 b.toInt.toNat)).toInt) → Q 0 w) (h1 : (b.toInt < 0 ∨ ((w.1 180 b.toInt.toNat) + f).toInt < (rm (w.1 179 b.toInt.toNat)).toInt) → Q 1 (sI (inc (inc w a) b) 127 86 (((inc w a).1 127 86) + (1 : Int32)))) : q_Mo_isNew_214 a b f w Q := by
  have go : (b.toInt < 0 ∨ ((w.1 180 b.toInt.toNat) + f).toInt < (rm (w.1 179 b.toInt.toNat)).toInt) → (a.toInt < 0 → q_Mo_isNew_255 b w Q) ∧ (¬ (a.toInt < 0) → ((0 ≤ a.toInt ∧ a.toInt < 20) ∧ ((0 ≤ a.toInt ∧ a.toInt < 20) ∧ (q_Mo_isNew_255 b (sI w 180 a.toInt.toNat ((w.1 180 a.toInt.toNat) + (1 : Int32))) Q)))) := fun c => by
    have h1 := h1 c
    refine ⟨fun ca => in_255 b1 ?_, fun ca => ⟨⟨by omega, a1⟩, ⟨by omega, a1⟩, in_255 b1 ?_⟩⟩
    · have e : inc w a = w := by
        unfold inc
        exact if_pos ca
      rw [e] at h1
      exact h1
    · have e : inc w a = sI w 180 a.toInt.toNat ((w.1 180 a.toInt.toNat) + (1 : Int32)) := by
        unfold inc
        exact if_neg ca
      rw [e] at h1
      exact h1
  exact Eq.mpr (q_Mo_isNew_214.eq_1 _ _ _ _ _) ⟨fun cb => go (Or.inl cb), fun cb => ⟨⟨by omega, b1⟩, ⟨by omega, b1⟩, room_x ⟨fun c => go (Or.inr c), fun c => h0 ⟨cb, c⟩⟩⟩⟩
theorem in_187 {w : MW} {a b f : Int32} {Q : Int32 → MW → Prop} (a1 : a.toInt < 20) (b1 : b.toInt < 20) (h0 : ¬ ((a.toInt < 0 ∨ ((w.1 180 a.toInt.toNat) + f).toInt < (rm (w.1 179 a.toInt.toNat)).toInt) ∧ (b.toInt < 0 ∨ ((w.1 180 b.toInt.toNat) + f).toInt < (rm (w.1 179 b.toInt.toNat)).toInt)) → Q 0 w) (h1 : ((a.toInt < 0 ∨ ((w.1 180 a.toInt.toNat) + f).toInt < (rm (w.1 179 a.toInt.toNat)).toInt) ∧ (b.toInt < 0 ∨ ((w.1 180 b.toInt.toNat) + f).toInt < (rm (w.1 179 b.toInt.toNat)).toInt)) → Q 1 (sI (inc (inc w a) b) 127 86 (((inc w a).1 127 86) + (1 : Int32)))) : q_Mo_isNew_187 a b f w Q := by
  refine Eq.mpr (q_Mo_isNew_187.eq_1 _ _ _ _ _) ⟨fun ca => in_214 a1 b1 (fun q => h0 (fun z => z.2.elim (fun y => q.1 y) (fun y => q.2 y))) (fun q => h1 ⟨Or.inl ca, q⟩), fun ca => ⟨⟨by omega, a1⟩, ⟨by omega, a1⟩, room_x ⟨fun c => h0 (fun z => z.1.elim (fun y => ca y) (fun y => ?_)), fun c => in_214 a1 b1 (fun q => h0 (fun z => z.2.elim (fun y => q.1 y) (fun y => q.2 y))) (fun q => h1 ⟨Or.inr ?_, q⟩)⟩⟩⟩
  · omega
  · omega
theorem in_p {w : MW} {ls : List Ln} {r : Int32} {x : Ln} {Q : Int32 → MW → Prop} (hI : BND w) (h : PN w ls) (r3 : r.toInt = 3) (x3 : x.1 = 3) (ea : (w.1 178 0).toInt = x.2.1) (eb : (w.1 178 1).toInt = x.2.2.1) (el : (w.1 178 2).toInt = x.2.2.2) (a0 : -1 ≤ x.2.1) (b0 : -1 ≤ x.2.2.1) (h1 : ∀ w', BND w' → FR lin_ w w' → okL ls x → PN w' (ls ++ [x]) → Q 1 w') (h0 : ¬ okL ls x → Q 0 w) : p_Mo_isNew w r Q := by
  have n1 := h.2.1
  have n0 := h.1
  have t20 := bd_127_85 hI
  have t24 := bd_127_86 hI
  have i3 : okL ls x ↔ ((pip ls).length < 24 ∧ 1 ≤ x.2.2.2 ∧ x.2.2.2 ≤ 200 ∧ (x.2.1 = -1 ∨ (0 ≤ x.2.1 ∧ x.2.1 < (thg ls).length ∧ ∀ y, (thg ls)[x.2.1.toNat]? = some y → prt ls x.2.1 < pcn (ckd y))) ∧ (x.2.2.1 = -1 ∨ (0 ≤ x.2.2.1 ∧ x.2.2.1 < (thg ls).length ∧ ∀ y, (thg ls)[x.2.2.1.toNat]? = some y → prt ls x.2.2.1 + (if x.2.1 = x.2.2.1 then 1 else 0) < pcn (ckd y)))) := by
    constructor
    · intro q
      rcases q with q | q | q | q
      · have := q.1
        omega
      · have := q.1
        omega
      · have := q.1
        omega
      · exact q.2
    · intro q
      exact Or.inr (Or.inr (Or.inr ⟨x3, q⟩))
  refine Eq.mpr (p_Mo_isNew.eq_1 _ _ _) ⟨fun _ => ⟨fun c => h0 (fun q => ?_), fun cp => ⟨fun c => h0 (fun q => ?_), fun c1 => ⟨fun c => h0 (fun q => ?_), fun c2 => ⟨fun c => h0 (fun q => ?_), fun ca => ⟨fun cb => ?_, fun c => h0 (fun q => ?_)⟩⟩⟩⟩⟩, fun c => absurd r3 c⟩
  · have := (i3.mp q).1
    omega
  · have := (i3.mp q).2.1
    omega
  · have := (i3.mp q).2.2.1
    omega
  · rcases (i3.mp q).2.2.2.1 with k | k
    · omega
    · have := k.2.1
      omega
  · have np : (pip ls).length < 24 := by omega
    have go : ∀ f : Int32, f.toInt = (if x.2.1 = x.2.2.1 then 1 else 0) → q_Mo_isNew_187 (w.1 178 0) (w.1 178 1) f w Q := fun f ef => by
      have fd : 0 ≤ f.toInt ∧ f.toInt ≤ 1 := by
        rw [ef]
        by_cases e : x.2.1 = x.2.2.1
        · rw [if_pos e]
          omega
        · rw [if_neg e]
          omega
      have sm : ∀ b : Int32, ¬ b.toInt < 0 → b.toInt < (thg ls).length → ((w.1 180 b.toInt.toNat) + f).toInt = (w.1 180 b.toInt.toNat).toInt + f.toInt := fun b q0 q1 => by
        have l : b.toInt.toNat < (thg ls).length := by omega
        have g := (h.2.2.1 _ _ (List.getElem?_eq_getElem l)).2.1
        have pb := prt_b ls ((b.toInt.toNat : Nat) : Int)
        exact ti_add2 rfl rfl (by omega) (by omega)
      have A := okN h (b := w.1 178 0) (d := f.toInt) ea a0 (by omega) np fd.1 fd.2
      have B := okN h (b := w.1 178 1) (d := f.toInt) eb b0 (by omega) np fd.1 fd.2
      have A' : (x.2.1 < 0 ∨ (w.1 180 (w.1 178 0).toInt.toNat).toInt + f.toInt < (rm (w.1 179 (w.1 178 0).toInt.toNat)).toInt) ↔ ((w.1 178 0).toInt < 0 ∨ ((w.1 180 (w.1 178 0).toInt.toNat) + f).toInt < (rm (w.1 179 (w.1 178 0).toInt.toNat)).toInt) := by
        by_cases c0 : (w.1 178 0).toInt < 0
        · exact ⟨fun _ => Or.inl c0, fun _ => Or.inl (by omega)⟩
        · rw [sm _ c0 (by omega), ea]
      have B' : (x.2.2.1 < 0 ∨ (w.1 180 (w.1 178 1).toInt.toNat).toInt + f.toInt < (rm (w.1 179 (w.1 178 1).toInt.toNat)).toInt) ↔ ((w.1 178 1).toInt < 0 ∨ ((w.1 180 (w.1 178 1).toInt.toNat) + f).toInt < (rm (w.1 179 (w.1 178 1).toInt.toNat)).toInt) := by
        by_cases c0 : (w.1 178 1).toInt < 0
        · exact ⟨fun _ => Or.inl c0, fun _ => Or.inl (by omega)⟩
        · rw [sm _ c0 (by omega), eb]
      have k1 : okL ls x ↔ (((w.1 178 0).toInt < 0 ∨ ((w.1 180 (w.1 178 0).toInt.toNat) + f).toInt < (rm (w.1 179 (w.1 178 0).toInt.toNat)).toInt) ∧ ((w.1 178 1).toInt < 0 ∨ ((w.1 180 (w.1 178 1).toInt.toNat) + f).toInt < (rm (w.1 179 (w.1 178 1).toInt.toNat)).toInt)) := by
        rw [← A', ← B', ← A, ← B, i3, ← ef]
        constructor
        · intro q
          refine ⟨?_, q.2.2.2.2⟩
          by_cases e : x.2.1 = x.2.2.1
          · rw [e]
            exact q.2.2.2.2
          · have f0 : f.toInt = 0 := by rw [ef, if_neg e]
            rcases q.2.2.2.1 with k | k
            · exact Or.inl k
            · refine Or.inr ⟨k.1, k.2.1, fun y ey => ?_⟩
              have := k.2.2 y ey
              omega
        · intro q
          refine ⟨np, by omega, by omega, ?_, q.2⟩
          rcases q.1 with k | k
          · exact Or.inl k
          · refine Or.inr ⟨k.1, k.2.1, fun y ey => ?_⟩
            have := k.2.2 y ey
            omega
      refine in_187 (by omega) (by omega) (fun k => h0 (fun q => k (k1.mp q))) (fun k => ?_)
      have e86 : (inc w (w.1 178 0)).1 127 86 = w.1 127 86 := inc_oth (by decide) 86
      have s86 := ti_add2 (Eq.refl (w.1 127 86).toInt) i_1 (by omega) (by omega)
      rw [e86]
      refine h1 _ (wbd_127_86 (inc_bnd (inc_bnd hI)) (by omega) (by omega)) (FR.I (inc_fr (inc_fr (FR.refl _ w))) rfl) (k1.mpr k) ⟨?_, ?_, fun t y ey => ?_, fun t ht => ?_⟩
      · rw [sI_ne _ _ _ _ _ (by decide), inc_oth (by decide), inc_oth (by decide), thg_p ls x x3]
        exact h.1
      · rw [sI_same, s86, n1, pip_p ls x x3, List.length_append]
        rfl
      · rw [thg_p ls x x3] at ey
        have g := h.2.2.1 t y ey
        have pb := prt_b ls (t : Int)
        have f179 : (sI (inc (inc w (w.1 178 0)) (w.1 178 1)) 127 86 ((w.1 127 86) + (1 : Int32))).1 179 t = w.1 179 t := by rw [sI_oth _ _ _ _ _ _ (by decide), inc_oth (by decide), inc_oth (by decide)]
        have v1 := inc_v (w := w) (i := w.1 178 0) t (by omega) (by omega)
        have z1 : 0 ≤ (if (w.1 178 0).toInt = (t : Int) then (1 : Int) else 0) ∧ (if (w.1 178 0).toInt = (t : Int) then (1 : Int) else 0) ≤ 1 := by
          by_cases c : (w.1 178 0).toInt = (t : Int)
          · rw [if_pos c]
            omega
          · rw [if_neg c]
            omega
        have v2 := inc_v (w := inc w (w.1 178 0)) (i := w.1 178 1) t (by omega) (by omega)
        have f180 : (sI (inc (inc w (w.1 178 0)) (w.1 178 1)) 127 86 ((w.1 127 86) + (1 : Int32))).1 180 t = (inc (inc w (w.1 178 0)) (w.1 178 1)).1 180 t := sI_oth _ _ _ _ _ _ (by decide)
        rw [f179, f180, v2, v1, prt_p ls x x3, ← ea, ← eb, g.2.1]
        exact ⟨g.1, rfl, g.2.2⟩
      · rw [thg_p ls x x3] at ht
        rw [prt_p ls x x3, h.2.2.2 t ht, if_neg (by omega), if_neg (by omega)]
        rfl
    refine ⟨fun c => go 0 ?_, fun c => go 1 ?_⟩
    · rw [if_neg (by omega)]
      exact i_0
    · rw [if_pos (by omega)]
      exact i_1
  · rcases (i3.mp q).2.2.2.2 with k | k
    · omega
    · have := k.2.1
      omega
theorem in_x {w : MW} {ls : List Ln} {r : Int32} {x : Ln} {Q : Int32 → MW → Prop} (hI : BND w) (h : PN w ls) (hx : LnW w r x) (v2 : r.toInt = 2 → 0 ≤ (w.1 178 0).toInt) (v3 : r.toInt = 3 → -1 ≤ (w.1 178 0).toInt ∧ -1 ≤ (w.1 178 1).toInt) (h1 : ∀ w', BND w' → FR lin_ w w' → okL ls x → PN w' (ls ++ [x]) → Q 1 w') (h0 : ¬ okL ls x → Q 0 w) : p_Mo_isNew w r Q := by
  by_cases r3 : r.toInt = 3
  · have q : r.toInt = 3 ∧ x.1 = 3 ∧ x.2.1 = (w.1 178 0).toInt ∧ x.2.2.1 = (w.1 178 1).toInt ∧ x.2.2.2 = (w.1 178 2).toInt := by
      rcases hx with q | q | q | q
      · omega
      · omega
      · omega
      · exact q
    have v := v3 r3
    exact in_p hI h r3 q.2.1 q.2.2.1.symm q.2.2.2.1.symm q.2.2.2.2.symm (by omega) (by omega) h1 h0
  · exact in_t hI h hx r3 v2 h1 h0
