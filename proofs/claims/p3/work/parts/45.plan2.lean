/-! what isNew lets through -/
def rm (k : Int32) : Int32 := if k.toInt = 0 then 1000 else if k.toInt = 1 then 2 else if k.toInt = 3 then 3 else if k.toInt = 4 then 3 else if k.toInt = 6 then 4 else if k.toInt = 7 then 1 else 2
theorem room_at {w : MW} {k : Int32} {Q Q' : Int32 → MW → Prop} (h : p_Mo_room w k Q) (hQ : Q (rm k) w → Q' (rm k) w) : p_Mo_room w k Q' := by
  have h := Eq.mp (p_Mo_room.eq_1 _ _ _) h
  refine Eq.mpr (p_Mo_room.eq_1 _ _ _) ⟨fun c => ⟨fun c1 => ⟨fun c3 => ?_, fun c3 => ⟨fun c4 => ⟨fun c6 => ⟨fun c7 => ?_, fun c7 => ?_⟩, fun c6 => ?_⟩, fun c4 => ?_⟩⟩, fun c1 => ?_⟩, fun c => ?_⟩
  · have e : rm k = 3 := by unfold rm; rw [if_neg c, if_neg c1, if_pos c3]
    rw [e] at hQ
    exact hQ (((h.1 c).1 c1).1 c3)
  · have e : rm k = 2 := by unfold rm; rw [if_neg c, if_neg c1, if_neg c3, if_neg c4, if_neg c6, if_neg c7]
    rw [e] at hQ
    exact hQ ((((((h.1 c).1 c1).2 c3).1 c4).1 c6).1 c7)
  · have e : rm k = 1 := by unfold rm; rw [if_neg c, if_neg c1, if_neg c3, if_neg c4, if_neg c6, if_pos (Classical.not_not.mp c7)]
    rw [e] at hQ
    exact hQ ((((((h.1 c).1 c1).2 c3).1 c4).1 c6).2 c7)
  · have e : rm k = 4 := by unfold rm; rw [if_neg c, if_neg c1, if_neg c3, if_neg c4, if_pos (Classical.not_not.mp c6)]
    rw [e] at hQ
    exact hQ (((((h.1 c).1 c1).2 c3).1 c4).2 c6)
  · have e : rm k = 3 := by unfold rm; rw [if_neg c, if_neg c1, if_neg c3, if_pos (Classical.not_not.mp c4)]
    rw [e] at hQ
    exact hQ ((((h.1 c).1 c1).2 c3).2 c4)
  · have e : rm k = 2 := by unfold rm; rw [if_neg c, if_pos (Classical.not_not.mp c1)]
    rw [e] at hQ
    exact hQ ((h.1 c).2 c1)
  · have e : rm k = 1000 := by unfold rm; rw [if_pos (Classical.not_not.mp c)]
    rw [e] at hQ
    exact hQ (h.2 c)
def inc (w : MW) (i : Int32) : MW := if i.toInt < 0 then w else sI w 180 i.toInt.toNat ((w.1 180 i.toInt.toNat) + (1 : Int32))
def bth (a b : Int32) : Int32 := if a.toInt = b.toInt then 1 else 0
def NEWt (w : MW) (r : Int32) (w' : MW) : Prop := ¬ r.toInt = 3 ∧ ¬ 20 ≤ (w.1 127 85).toInt ∧ (r.toInt = 0 → ¬ (w.1 178 0).toInt < 1 ∧ ¬ 100000 < (w.1 178 0).toInt) ∧ (r.toInt = 2 → ¬ 7 < (w.1 178 0).toInt) ∧ w' = sI (sI (sI w 179 (w.1 127 85).toInt.toNat (if r.toInt = 2 then (2 : Int32) + (w.1 178 0) else r)) 180 (w.1 127 85).toInt.toNat 0) 127 85 ((w.1 127 85) + (1 : Int32))
def NEWp (w : MW) (r : Int32) (w' : MW) : Prop := r.toInt = 3 ∧ ¬ (w.1 127 86).toInt = 24 ∧ ¬ (w.1 178 2).toInt < 1 ∧ ¬ 200 < (w.1 178 2).toInt ∧ ¬ (w.1 127 85).toInt ≤ (w.1 178 0).toInt ∧ (w.1 178 1).toInt < (w.1 127 85).toInt ∧ (¬ (w.1 178 0).toInt < 0 → ¬ (rm (w.1 179 (w.1 178 0).toInt.toNat)).toInt ≤ ((w.1 180 (w.1 178 0).toInt.toNat) + bth (w.1 178 0) (w.1 178 1)).toInt) ∧ (¬ (w.1 178 1).toInt < 0 → ((w.1 180 (w.1 178 1).toInt.toNat) + bth (w.1 178 0) (w.1 178 1)).toInt < (rm (w.1 179 (w.1 178 1).toInt.toNat)).toInt) ∧ w' = sI (inc (inc w (w.1 178 0)) (w.1 178 1)) 127 86 (((inc w (w.1 178 0)).1 127 86) + (1 : Int32))
theorem pc_255 {w : MW} {b : Int32} {Q Q' : Int32 → MW → Prop} (h : q_Mo_isNew_255 b w Q) (hQ : Q 1 (sI (inc w b) 127 86 ((w.1 127 86) + (1 : Int32))) → Q' 1 (sI (inc w b) 127 86 ((w.1 127 86) + (1 : Int32)))) : q_Mo_isNew_255 b w Q' := by
  have h := Eq.mp (q_Mo_isNew_255.eq_1 _ _ _) h
  refine Eq.mpr (q_Mo_isNew_255.eq_1 _ _ _) ⟨fun c => ?_, fun c => ⟨(h.2 c).1, (h.2 c).2.1, ?_⟩⟩
  · have e : inc w b = w := by unfold inc; rw [if_pos c]
    rw [e] at hQ
    exact hQ (h.1 c)
  · have e : inc w b = sI w 180 b.toInt.toNat ((w.1 180 b.toInt.toNat) + (1 : Int32)) := by unfold inc; rw [if_neg c]
    rw [e] at hQ
    exact hQ (h.2 c).2.2
theorem pc_214 {w : MW} {a b f : Int32} {Q Q' : Int32 → MW → Prop} (h : q_Mo_isNew_214 a b f w Q) (h0 : ∀ w', Q 0 w' → Q' 0 w') (h1 : (¬ b.toInt < 0 → ((w.1 180 b.toInt.toNat) + f).toInt < (rm (w.1 179 b.toInt.toNat)).toInt) → Q 1 (sI (inc (inc w a) b) 127 86 (((inc w a).1 127 86) + (1 : Int32))) → Q' 1 (sI (inc (inc w a) b) 127 86 (((inc w a).1 127 86) + (1 : Int32)))) : q_Mo_isNew_214 a b f w Q' := by
  have h := Eq.mp (q_Mo_isNew_214.eq_1 _ _ _ _ _) h
  have g : (¬ b.toInt < 0 → ((w.1 180 b.toInt.toNat) + f).toInt < (rm (w.1 179 b.toInt.toNat)).toInt) → ((a.toInt < 0 → (q_Mo_isNew_255 b w Q)) ∧ (¬ (a.toInt < 0) → ((0 ≤ a.toInt ∧ a.toInt < 20) ∧ ((0 ≤ a.toInt ∧ a.toInt < 20) ∧ (q_Mo_isNew_255 b (sI w 180 a.toInt.toNat ((w.1 180 a.toInt.toNat) + (1 : Int32))) Q))))) → ((a.toInt < 0 → (q_Mo_isNew_255 b w Q')) ∧ (¬ (a.toInt < 0) → ((0 ≤ a.toInt ∧ a.toInt < 20) ∧ ((0 ≤ a.toInt ∧ a.toInt < 20) ∧ (q_Mo_isNew_255 b (sI w 180 a.toInt.toNat ((w.1 180 a.toInt.toNat) + (1 : Int32))) Q'))))) := by
    intro hb hh
    refine ⟨fun c => pc_255 (hh.1 c) ?_, fun c => ⟨(hh.2 c).1, (hh.2 c).2.1, pc_255 (hh.2 c).2.2 ?_⟩⟩
    · have e : inc w a = w := by unfold inc; rw [if_pos c]
      have := h1 hb
      rw [e] at this
      exact this
    · have e : inc w a = sI w 180 a.toInt.toNat ((w.1 180 a.toInt.toNat) + (1 : Int32)) := by unfold inc; rw [if_neg c]
      have := h1 hb
      rw [e] at this
      exact this
  exact Eq.mpr (q_Mo_isNew_214.eq_1 _ _ _ _ _) ⟨fun c => g (fun q => absurd c q) (h.1 c), fun c => ⟨(h.2 c).1, (h.2 c).2.1, room_at (h.2 c).2.2 (fun hh => ⟨fun d => g (fun _ => d) (hh.1 d), fun d => h0 _ (hh.2 d)⟩)⟩⟩
theorem pc_isNew {w : MW} {r : Int32} {Q Q' : Int32 → MW → Prop} (h : p_Mo_isNew w r Q) (h0 : ∀ w', Q 0 w' → Q' 0 w') (h1 : ∀ w', Q 1 w' → (NEWt w r w' ∨ NEWp w r w') → Q' 1 w') : p_Mo_isNew w r Q' := by
  have h := Eq.mp (p_Mo_isNew.eq_1 _ _ _) h
  refine Eq.mpr (p_Mo_isNew.eq_1 _ _ _) ⟨fun c => ?_, fun c => ?_⟩
  · have h := h.1 c
    refine ⟨fun d => h0 _ (h.1 d), fun d1 => ?_⟩
    have h := h.2 d1
    refine ⟨fun d => h0 _ (h.1 d), fun d2 => ?_⟩
    have h := h.2 d2
    refine ⟨fun d => h0 _ (h.1 d), fun d3 => ?_⟩
    have h := h.2 d3
    refine ⟨fun d => h0 _ (h.1 d), fun d4 => ?_⟩
    have h := h.2 d4
    refine ⟨fun d5 => ?_, fun d => h0 _ (h.2 d)⟩
    have h := h.1 d5
    have g : ∀ f : Int32, f = bth (w.1 178 0) (w.1 178 1) → q_Mo_isNew_187 (w.1 178 0) (w.1 178 1) f w Q → q_Mo_isNew_187 (w.1 178 0) (w.1 178 1) f w Q' := by
      intro f ef hh
      subst ef
      have hh := Eq.mp (q_Mo_isNew_187.eq_1 _ _ _ _ _) hh
      refine Eq.mpr (q_Mo_isNew_187.eq_1 _ _ _ _ _) ⟨fun e1 => pc_214 (hh.1 e1) h0 (fun hb q => h1 _ q (Or.inr ⟨c, d1, d2, d3, d4, d5, fun q => absurd e1 q, hb, rfl⟩)), fun e1 => ⟨(hh.2 e1).1, (hh.2 e1).2.1, room_at (hh.2 e1).2.2 (fun hr => ⟨fun e2 => h0 _ (hr.1 e2), fun e2 => pc_214 (hr.2 e2) h0 (fun hb q => h1 _ q (Or.inr ⟨c, d1, d2, d3, d4, d5, fun _ => e2, hb, rfl⟩))⟩)⟩⟩
    exact ⟨fun d6 => g 0 (by unfold bth; rw [if_neg d6]) (h.1 d6), fun d6 => g 1 (by unfold bth; rw [if_pos (Classical.not_not.mp d6)]) (h.2 d6)⟩
  · have h := h.2 c
    have z : q_Mo_isNew_61 r 0 w Q → q_Mo_isNew_61 r 0 w Q' := by
      intro hh
      have hh := Eq.mp (q_Mo_isNew_61.eq_1 _ _ _ _) hh
      exact Eq.mpr (q_Mo_isNew_61.eq_1 _ _ _ _) ⟨fun d => ⟨(hh.1 d).1, h0 _ (hh.1 d).2⟩, fun d => absurd (by decide) d⟩
    have o : ¬ 20 ≤ (w.1 127 85).toInt → (r.toInt = 0 → ¬ (w.1 178 0).toInt < 1 ∧ ¬ 100000 < (w.1 178 0).toInt) → (r.toInt = 2 → ¬ 7 < (w.1 178 0).toInt) → q_Mo_isNew_61 r 1 w Q → q_Mo_isNew_61 r 1 w Q' := by
      intro k1 k2 k3 hh
      have hh := Eq.mp (q_Mo_isNew_61.eq_1 _ _ _ _) hh
      refine Eq.mpr (q_Mo_isNew_61.eq_1 _ _ _ _) ⟨fun d => absurd d (by decide), fun d => ?_⟩
      have hh := hh.2 d
      have fin : ∀ v : Int32, v = (if r.toInt = 2 then (2 : Int32) + (w.1 178 0) else r) → q_Mo_isNew_91 1 v (w.1 127 85) w Q → q_Mo_isNew_91 1 v (w.1 127 85) w Q' := by
        intro v ev hv
        subst ev
        have hv := Eq.mp (q_Mo_isNew_91.eq_1 _ _ _ _ _) hv
        exact Eq.mpr (q_Mo_isNew_91.eq_1 _ _ _ _ _) ⟨hv.1, hv.2.1, hv.2.2.1, h1 _ hv.2.2.2 (Or.inl ⟨c, k1, k2, k3, rfl⟩)⟩
      exact ⟨fun d2 => fin r (by rw [if_neg d2]) (hh.1 d2), fun d2 => fin _ (by rw [if_pos (Classical.not_not.mp d2)]) (hh.2 d2)⟩
    refine ⟨fun d => z (h.1 d), fun d => ?_⟩
    have h := h.2 d
    have f40 : (r.toInt = 0 → ¬ (w.1 178 0).toInt < 1 ∧ ¬ 100000 < (w.1 178 0).toInt) → q_Mo_isNew_40 r w Q → q_Mo_isNew_40 r w Q' := by
      intro k2 hh
      have hh := Eq.mp (q_Mo_isNew_40.eq_1 _ _ _) hh
      exact Eq.mpr (q_Mo_isNew_40.eq_1 _ _ _) ⟨fun e => o d k2 (fun q => absurd q e) (hh.1 e), fun e => ⟨fun e2 => z ((hh.2 e).1 e2), fun e2 => o d k2 (fun _ => e2) ((hh.2 e).2 e2)⟩⟩
    exact ⟨fun e => f40 (fun q => absurd q e) (h.1 e), fun e => ⟨fun e1 => z ((h.2 e).1 e1), fun e1 => ⟨fun e2 => z (((h.2 e).2 e1).1 e2), fun e2 => f40 (fun _ => ⟨e1, e2⟩) (((h.2 e).2 e1).2 e2)⟩⟩⟩
