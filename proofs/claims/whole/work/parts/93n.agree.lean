/-! the reference's letters and numbers as functions of the bytes -/
def hf (w : MW) (p : Int) : Int := if 0 ≤ p ∧ p < (w.1 127 22).toInt then (w.1 128 p.toNat).toInt else 0
theorem hv_hf (t : MW) {p : Int32} (h : 0 ≤ p.toInt) : (hv t p).toInt = hf t p.toInt := by
  unfold hv hf
  by_cases q : (t.1 127 22).toInt ≤ p.toInt
  · rw [if_pos q, if_neg (by omega)]
    exact i_0
  · rw [if_neg q, if_pos ⟨h, by omega⟩]
theorem hf_pos {w : MW} {p : Int} (h : ¬ hf w p = 0) : 0 ≤ p ∧ p < (w.1 127 22).toInt := by
  unfold hf at h
  by_cases q : 0 ≤ p ∧ p < (w.1 127 22).toInt
  · exact q
  · rw [if_neg q] at h
    exact absurd rfl h
def LTl : List Int → Int64 → Prop
  | [], l => (lg_cmp l (0 : Int64)).toInt = 0
  | c :: ls, l => ¬ (lg_cmp l (0 : Int64)).toInt = 0 ∧ (Int64.toInt32 (l &&& (255 : Int64))).toInt = c ∧ 1 ≤ c ∧ LTl ls (nx8 l)
theorem ov_tks {t : MW} (hl : (t.1 127 22).toInt ≤ 4000) : ∀ (ls : List Int) (l : Int64), LTl ls l → ∀ (p r q : Int32), 0 ≤ p.toInt → p.toInt ≤ 4000 → OV l t p r q → tks (hf t) ls p.toInt = (decide (¬ r.toInt = 0), q.toInt) ∧ 0 ≤ q.toInt ∧ q.toInt ≤ 4000 := by
  intro ls
  induction ls with
  | nil =>
    intro l hL p r q p0 p1 h
    obtain ⟨n, h⟩ := h
    cases n with
    | zero => exact absurd h (fun y => y)
    | succ n =>
      rcases h with ⟨_, e1, e2⟩ | ⟨c, _⟩ | ⟨c, _⟩
      · rw [e1, e2]
        refine ⟨?_, p0, p1⟩
        show (true, p.toInt) = _
        rfl
      · exact absurd hL c
      · exact absurd hL c
  | cons c ls ih =>
    intro l hL p r q p0 p1 h
    obtain ⟨n, h⟩ := h
    have e : tks (hf t) (c :: ls) p.toInt = if hf t p.toInt = c then tks (hf t) ls (p.toInt + 1) else (false, p.toInt) := rfl
    cases n with
    | zero => exact absurd h (fun y => y)
    | succ n =>
      rcases h with ⟨d, _⟩ | ⟨_, d, k⟩ | ⟨_, d, e1, e2⟩
      · exact absurd d hL.1
      · rw [hv_hf t p0, hL.2.1] at d
        have cp := hf_pos (w := t) (p := p.toInt) (by have := hL.2.2.1; omega)
        have s := ti_add2 (Eq.refl p.toInt) i_1 (by omega) (by omega)
        have g := ih (nx8 l) hL.2.2.2 (p + (1 : Int32)) r q (by omega) (by omega) ⟨n, k⟩
        rw [s] at g
        rw [e, if_pos d]
        exact g
      · rw [hv_hf t p0, hL.2.1] at d
        rw [e, if_neg d, e1, e2]
        refine ⟨?_, p0, p1⟩
        rfl
theorem lt_tank : LTl [116, 97, 110, 107] 1802396020 := by
  refine ⟨by decide, by decide, by decide, by decide, by decide, by decide, by decide, by decide, by decide, by decide, by decide, by decide, ?_⟩
  show (lg_cmp _ _).toInt = 0
  decide
theorem lt_valve : LTl [118, 97, 108, 118, 101] 435778511222 := by
  refine ⟨by decide, by decide, by decide, by decide, by decide, by decide, by decide, by decide, by decide, by decide, by decide, by decide, by decide, by decide, by decide, ?_⟩
  show (lg_cmp _ _).toInt = 0
  decide
theorem lt_p : LTl [112] 112 := by
  refine ⟨by decide, by decide, by decide, ?_⟩
  show (lg_cmp _ _).toInt = 0
  decide
theorem lt_ump : LTl [117, 109, 112] 7368053 := by
  refine ⟨by decide, by decide, by decide, by decide, by decide, by decide, by decide, by decide, by decide, ?_⟩
  show (lg_cmp _ _).toInt = 0
  decide
theorem lt_ipe : LTl [105, 112, 101] 6647913 := by
  refine ⟨by decide, by decide, by decide, by decide, by decide, by decide, by decide, by decide, by decide, ?_⟩
  show (lg_cmp _ _).toInt = 0
  decide
theorem lt_sp : LTl [32] 32 := by
  refine ⟨by decide, by decide, by decide, ?_⟩
  show (lg_cmp _ _).toInt = 0
  decide
theorem ltr_1 : ltr 1 5 = [116, 97, 110, 107] ++ [32] := by decide +kernel
theorem ltr_2 : ltr 2 6 = [118, 97, 108, 118, 101] ++ [32] := by decide +kernel
theorem ltr_3 : ltr 3 4 = [112] ++ [117, 109, 112] := by decide +kernel
theorem ltr_4 : ltr 4 5 = ([112] ++ [105, 112, 101]) ++ [32] := by decide +kernel
theorem ltr_5 : ltr 5 1 = [32] := by decide +kernel
/-- two byte functions that differ behind the end alone -/
def AgF (f g : Int → Int) : Prop := ∀ p, f p = g p ∨ (f p = -1 ∧ g p = 0)
theorem ag_c {f g : Int → Int} (h : AgF f g) {p c : Int} (hc : 1 ≤ c) : f p = c ↔ g p = c := by
  have := h p
  omega
theorem tks_ag {f g : Int → Int} (h : AgF f g) : ∀ (l : List Int), (∀ c ∈ l, 1 ≤ c) → ∀ p, tks f l p = tks g l p := by
  intro l
  induction l with
  | nil => intro _ p; rfl
  | cons c l ih =>
    intro hl p
    have e : ∀ f, tks f (c :: l) p = if f p = c then tks f l (p + 1) else (false, p) := fun _ => rfl
    have a := ag_c h (p := p) (hl c List.mem_cons_self)
    rw [e, e]
    by_cases q : f p = c
    · rw [if_pos q, if_pos (a.mp q), ih (fun d hd => hl d (List.mem_cons_of_mem _ hd))]
    · rw [if_neg q, if_neg (fun y => q (a.mpr y))]
theorem dgs_ag {f g : Int → Int} (h : AgF f g) : ∀ (n d : Nat) (v p : Int), dgs f n d v p = dgs g n d v p := by
  intro n
  induction n with
  | zero => intro d v p; rfl
  | succ n ih =>
    intro d v p
    have e : ∀ f, dgs f (n + 1) d v p = if (48 ≤ f p ∧ f p ≤ 57) ∧ (d = 0 ∨ 0 < v) then dgs f n (d + 1) (v * 10 + f p - 48) (p + 1) else (d, v, p) := fun _ => rfl
    rw [e, e]
    have a := h p
    by_cases q : (48 ≤ f p ∧ f p ≤ 57) ∧ (d = 0 ∨ 0 < v)
    · have ef : f p = g p := by omega
      rw [if_pos q, if_pos (by rw [← ef]; exact q), ih, ef]
    · rw [if_neg q, if_neg (fun y => q (by omega))]
