theorem mi_up {mt : Nat → MI} {cd : Nat → Nat → Op} : ∀ (f d μ pc : Nat) (L : Lo) (S : List Value) (w : MW) (r : Option Value × MW), mi mt cd f d μ pc L S w = some r → mi mt cd (f + 1) d μ pc L S w = some r := by
  intro f
  induction f with
  | zero => intro d μ pc L S w r h; cases h
  | succ f ih =>
    intro d μ pc L S w r h
    unfold mi at h ⊢
    split at h
    · cases h
    · next q hq => exact ih _ _ _ _ _ _ _ h
    · next q hq =>
      split at h
      · cases h
      · next d' =>
        split at h
        · next hl =>
          simp only [if_pos hl]
          split at h
          · cases h
          · next r1 hr => simp only [ih _ _ _ _ _ _ _ hr]; exact ih _ _ _ _ _ _ _ h
        · cases h
    · next v hq => exact h
theorem mi_le {mt : Nat → MI} {cd : Nat → Nat → Op} {f g d μ pc : Nat} {L : Lo} {S : List Value} {w : MW} {r : Option Value × MW} (h : mi mt cd f d μ pc L S w = some r) (hfg : f ≤ g) : mi mt cd g d μ pc L S w = some r := by
  induction hfg with
  | refl => exact h
  | step _ ih => exact mi_up _ _ _ _ _ _ _ _ ih
theorem mi_dp {mt : Nat → MI} {cd : Nat → Nat → Op} : ∀ (f d μ pc : Nat) (L : Lo) (S : List Value) (w : MW) (r : Option Value × MW), mi mt cd f d μ pc L S w = some r → mi mt cd f (d + 1) μ pc L S w = some r := by
  intro f
  induction f with
  | zero => intro d μ pc L S w r h; cases h
  | succ f ih =>
    intro d μ pc L S w r h
    unfold mi at h ⊢
    split at h
    · cases h
    · next q hq => exact ih _ _ _ _ _ _ _ h
    · next q hq =>
      split at h
      · cases h
      · next d' =>
        split at h
        · next hl =>
          simp only [if_pos hl]
          split at h
          · cases h
          · next r1 hr => simp only [ih _ _ _ _ _ _ _ hr]; exact ih _ _ _ _ _ _ _ h
        · cases h
    · next v hq => exact h
/-- from here the method comes to its end with r -/
def Ev (d μ pc : Nat) (L : Lo) (S : List Value) (w : MW) (r : Option Value × MW) : Prop := ∃ f, mi mt cd f d μ pc L S w = some r
theorem Ev.up {d μ pc : Nat} {L : Lo} {S : List Value} {w : MW} {r : Option Value × MW} (h : Ev d μ pc L S w r) : Ev (d + 1) μ pc L S w r := h.elim fun f hf => ⟨f, mi_dp _ _ _ _ _ _ _ _ hf⟩
theorem Ev.le {d e μ pc : Nat} {L : Lo} {S : List Value} {w : MW} {r : Option Value × MW} (h : Ev d μ pc L S w r) (hde : d ≤ e) : Ev e μ pc L S w r := by
  induction hde with
  | refl => exact h
  | step _ ih => exact ih.up
section EVS
variable {d μ pc : Nat} {L : Lo} {S : List Value} {w : MW} {r : Option Value × MW}
theorem ev_s {pc' : Nat} {L' : Lo} {S' : List Value} {w' : MW} (h : cd μ pc L S w = some (.inl (pc', L', S', w'))) (k : Ev d μ pc' L' S' w' r) : Ev d μ pc L S w r := by
  obtain ⟨f, hf⟩ := k
  exact ⟨f + 1, by unfold mi; rw [h]; exact hf⟩
theorem ev_r {v : Option Value} (h : cd μ pc L S w = some (.inr (.inr v))) : Ev d μ pc L S w (v, w) := ⟨1, by unfold mi; rw [h]⟩
theorem ev_c {ν : Nat} {as S' : List Value} {v : Option Value} {w1 : MW} (h : cd μ pc L S w = some (.inr (.inl (ν, as, S')))) (hlen : (lg_sl as).length ≤ (mt ν).2.2.1) (h1 : Ev d ν 0 (mkL (mt ν).2.2.1 as) [] w (v, w1)) (k : Ev (d + 1) μ (pc + 3) L (v.toList ++ S') w1 r) : Ev (d + 1) μ pc L S w r := by
  obtain ⟨f, hf⟩ := h1
  obtain ⟨g, hg⟩ := k
  refine ⟨max f g + 1, ?_⟩
  unfold mi
  rw [h]
  simp only [if_pos hlen, mi_le hf (Nat.le_max_left f g)]
  exact mi_le hg (Nat.le_max_right f g)
/-- a place with a question: both ways -/
theorem ev_i {q : Prop} [Decidable q] {p1 p2 : Nat} {L' : Lo} {S' : List Value} {w' : MW} (h : cd μ pc L S w = if q then some (.inl (p1, L', S', w')) else some (.inl (p2, L', S', w'))) (k1 : q → Ev d μ p1 L' S' w' r) (k2 : ¬ q → Ev d μ p2 L' S' w' r) : Ev d μ pc L S w r := by
  by_cases hq : q
  · exact ev_s (by rw [h, if_pos hq]) (k1 hq)
  · exact ev_s (by rw [h, if_neg hq]) (k2 hq)
/-- a place with a condition that must hold -/
theorem ev_k {q : Prop} [Decidable q] {pc' : Nat} {L' : Lo} {S' : List Value} {w' : MW} (h : cd μ pc L S w = if q then some (.inl (pc', L', S', w')) else none) (hq : q) (k : Ev d μ pc' L' S' w' r) : Ev d μ pc L S w r := ev_s (by rw [h, if_pos hq]) k
end EVS
def go (c : Nat → Op) : Nat → Nat → Lo → List Value → MW → Option (Nat × Lo × List Value × MW)
  | 0, pc, L, S, w => some (pc, L, S, w)
  | n + 1, pc, L, S, w => match c pc L S w with
    | some (.inl q) => go c n q.1 q.2.1 q.2.2.1 q.2.2.2
    | _ => none
theorem ev_go {d μ : Nat} {r : Option Value × MW} : ∀ (n : Nat) {pc pc' : Nat} {L L' : Lo} {S S' : List Value} {w w' : MW}, go (cd μ) n pc L S w = some (pc', L', S', w') → Ev d μ pc' L' S' w' r → Ev d μ pc L S w r := by
  intro n
  induction n with
  | zero => intro pc pc' L L' S S' w w' h k; cases h; exact k
  | succ n ih =>
    intro pc pc' L L' S S' w w' h k
    unfold go at h
    split at h
    · next q hq => exact ev_s hq (ih h k)
    · cases h
