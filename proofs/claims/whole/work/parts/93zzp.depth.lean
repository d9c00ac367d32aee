/-! how high the stack of a condition's list grows -/
/-- run from height h, the list ends at height h', and is never above M -/
def hgo (M : Nat) : List Int → Nat → Nat → Prop
  | [], h, h' => h = h'
  | c :: l, h, h' => ∃ h1, (if c ≤ 15 then h1 = h + 1 else if c = 16 then 1 ≤ h ∧ h1 = h else 2 ≤ h ∧ h1 + 1 = h) ∧ h1 ≤ M ∧ hgo M l h1 h'
theorem hg_a {M : Nat} : ∀ (l1 l2 : List Int) (h h1 h2 : Nat), hgo M l1 h h1 → hgo M l2 h1 h2 → hgo M (l1 ++ l2) h h2 := by
  intro l1
  induction l1 with
  | nil =>
    intro l2 h h1 h2 a b
    have e : h = h1 := a
    rw [e]
    exact b
  | cons c l ih =>
    intro l2 h h1 h2 a b
    obtain ⟨u, x, y, z⟩ := a
    exact ⟨u, x, y, ih l2 u h1 h2 z b⟩
theorem hg_M {M M' : Nat} (hm : M ≤ M') : ∀ (l : List Int) (h h1 : Nat), hgo M l h h1 → hgo M' l h h1 := by
  intro l
  induction l with
  | nil => exact fun h h1 a => a
  | cons c l ih =>
    intro h h1 a
    obtain ⟨u, x, y, z⟩ := a
    exact ⟨u, x, Nat.le_trans y hm, ih u h1 z⟩
theorem hg_c {M h : Nat} {c : Int} (hc : c ≤ 15) (hm : h + 1 ≤ M) : hgo M [c] h (h + 1) := ⟨h + 1, by rw [if_pos hc], hm, rfl⟩
theorem hg_16 {M h : Nat} (h1 : 1 ≤ h) (hm : h ≤ M) : hgo M [16] h h := ⟨h, by rw [if_neg (by decide), if_pos rfl]; exact ⟨h1, rfl⟩, hm, rfl⟩
theorem hg_17 {M h : Nat} (h1 : 1 ≤ h) (hm : h ≤ M) : hgo M [17] (h + 1) h := ⟨h, by rw [if_neg (by decide), if_neg (by decide)]; omega, hm, rfl⟩
theorem hg_18 {M h : Nat} (h1 : 1 ≤ h) (hm : h ≤ M) : hgo M [18] (h + 1) h := ⟨h, by rw [if_neg (by decide), if_neg (by decide)]; omega, hm, rfl⟩
def HX (md o : Nat) (l : List Int) : Prop := (md = 0 → ∀ h, hgo (h + 1 + 2 * (20 - o)) l h (h + 1)) ∧ (md = 1 → ∀ h, hgo (h + 2 + 2 * (20 - o)) l h (h + 1)) ∧ (md = 2 → ∀ h, hgo (h + 3 + 2 * (20 - o)) l h (h + 1)) ∧ (md = 3 → ∀ h, 1 ≤ h → hgo (h + 1 + 2 * (20 - o)) l h h) ∧ (4 ≤ md → ∀ h, 1 ≤ h → hgo (h + 2 + 2 * (20 - o)) l h h)
theorem hx_0 {o : Nat} {l : List Int} (a : ∀ h, hgo (h + 1 + 2 * (20 - o)) l h (h + 1)) : HX 0 o l := ⟨fun _ => a, fun z => by omega, fun z => by omega, fun z => by omega, fun z => by omega⟩
theorem hx_1 {o : Nat} {l : List Int} (a : ∀ h, hgo (h + 2 + 2 * (20 - o)) l h (h + 1)) : HX 1 o l := ⟨fun z => by omega, fun _ => a, fun z => by omega, fun z => by omega, fun z => by omega⟩
theorem hx_2 {o : Nat} {l : List Int} (a : ∀ h, hgo (h + 3 + 2 * (20 - o)) l h (h + 1)) : HX 2 o l := ⟨fun z => by omega, fun z => by omega, fun _ => a, fun z => by omega, fun z => by omega⟩
theorem hx_3 {o : Nat} {l : List Int} (a : ∀ h, 1 ≤ h → hgo (h + 1 + 2 * (20 - o)) l h h) : HX 3 o l := ⟨fun z => by omega, fun z => by omega, fun z => by omega, fun _ => a, fun z => by omega⟩
theorem hx_4 {m o : Nat} {l : List Int} (a : ∀ h, 1 ≤ h → hgo (h + 2 + 2 * (20 - o)) l h h) : HX (m + 4) o l := ⟨fun z => by omega, fun z => by omega, fun z => by omega, fun z => by omega, fun _ => a⟩
theorem ff {i : Nat} {P : Prop} (h : (rsF i).1 = true) : P := absurd (show false = true from h) (by decide)
theorem sp_h {f : Int → Int} {n : Int} : ∀ (k md o : Nat) (c : List Int) (t i : Nat) (r : Bool × List Int × Nat × Nat), SP f n k md o c t i r → r.1 = true → o ≤ 20 → ∃ l, r.2.1 = c ++ l ∧ HX md o l := by
  intro k
  induction k with
  | zero => intro md o c t i r h; exact False.elim h
  | succ k ih =>
    intro md o c t i r h hr o2
    match md, h with
    | 0, h =>
      rw [SP0] at h
      by_cases q : wq f n i (ltr 8 3) = true
      · rw [if_pos q] at h
        by_cases q2 : o = 20
        · rw [if_pos q2] at h
          rw [h] at hr
          exact ff hr
        · rw [if_neg q2] at h
          obtain ⟨r1, h1, e⟩ := h
          cases b1 : r1.1 with
          | false =>
            rw [if_neg (nt b1)] at e
            rw [e] at hr
            exact absurd (b1.symm.trans hr) (by decide)
          | true =>
            rw [if_pos b1] at e
            obtain ⟨l, el, X⟩ := ih _ _ _ _ _ _ h1 b1 (by omega)
            refine ⟨l ++ [16], by rw [e]; show r1.2.1 ++ [16] = _; rw [el, List.append_assoc], hx_0 (fun h => hg_a _ _ _ _ _ (hg_M (by omega) _ _ _ (X.1 rfl h)) (hg_16 (by omega) (by omega)))⟩
      · rw [if_neg q] at h
        by_cases q2 : wq f n i (ltr 9 1) = true
        · rw [if_pos q2] at h
          by_cases q3 : o = 20
          · rw [if_pos q3] at h
            rw [h] at hr
            exact ff hr
          · rw [if_neg q3] at h
            obtain ⟨r1, h1, e⟩ := h
            cases b1 : r1.1 with
            | false =>
              rw [if_neg (nt b1)] at e
              rw [e] at hr
              exact absurd (b1.symm.trans hr) (by decide)
            | true =>
              rw [if_pos b1] at e
              obtain ⟨l, el, X⟩ := ih _ _ _ _ _ _ h1 b1 (by omega)
              by_cases q4 : wq f n r1.2.2.2 (ltr 10 1) = true
              · rw [if_pos q4] at e
                exact ⟨l, by rw [e]; exact el, hx_0 (fun h => hg_M (by omega) _ _ _ (X.2.2.1 rfl h))⟩
              · rw [if_neg q4] at e
                rw [e] at hr
                exact ff hr
        · rw [if_neg q2] at h
          by_cases q3 : cnw f n i < 0 ∨ t = 32
          · rw [if_pos q3] at h
            rw [h] at hr
            exact ff hr
          · rw [if_neg q3] at h
            exact ⟨[cnw f n i], by rw [h], hx_0 (fun h => hg_c (cnw_b).1 (by omega))⟩
    | 1, h =>
      rw [SP1] at h
      obtain ⟨r1, h1, e⟩ := h
      cases b1 : r1.1 with
      | false =>
        rw [if_neg (nt b1)] at e
        rw [e] at hr
        exact absurd (b1.symm.trans hr) (by decide)
      | true =>
        rw [if_pos b1] at e
        obtain ⟨l, el, X⟩ := ih _ _ _ _ _ _ h1 b1 o2
        obtain ⟨l2, el2, X2⟩ := ih _ _ _ _ _ _ e hr o2
        exact ⟨l ++ l2, by rw [el2, el, List.append_assoc], hx_1 (fun h => hg_a _ _ _ _ _ (hg_M (by omega) _ _ _ (X.1 rfl h)) (hg_M (by omega) _ _ _ (X2.2.2.2.1 rfl (h + 1) (by omega))))⟩
    | 2, h =>
      rw [SP2] at h
      obtain ⟨r1, h1, e⟩ := h
      cases b1 : r1.1 with
      | false =>
        rw [if_neg (nt b1)] at e
        rw [e] at hr
        exact absurd (b1.symm.trans hr) (by decide)
      | true =>
        rw [if_pos b1] at e
        obtain ⟨l, el, X⟩ := ih _ _ _ _ _ _ h1 b1 o2
        obtain ⟨l2, el2, X2⟩ := ih _ _ _ _ _ _ e hr o2
        exact ⟨l ++ l2, by rw [el2, el, List.append_assoc], hx_2 (fun h => hg_a _ _ _ _ _ (hg_M (by omega) _ _ _ (X.2.1 rfl h)) (hg_M (by omega) _ _ _ (X2.2.2.2.2 (by omega) (h + 1) (by omega))))⟩
    | 3, h =>
      rw [SP3] at h
      by_cases q : wq f n i (ltr 11 3) = true
      · rw [if_pos q] at h
        obtain ⟨r1, h1, e⟩ := h
        cases b1 : r1.1 with
        | false =>
          rw [if_neg (nt b1)] at e
          rw [e] at hr
          exact absurd (b1.symm.trans hr) (by decide)
        | true =>
          rw [if_pos b1] at e
          obtain ⟨l, el, X⟩ := ih _ _ _ _ _ _ h1 b1 o2
          obtain ⟨l2, el2, X2⟩ := ih _ _ _ _ _ _ e hr o2
          exact ⟨l ++ ([17] ++ l2), by rw [el2, el, List.append_assoc, List.append_assoc], hx_3 (fun h hh => hg_a _ _ _ _ _ (X.1 rfl h) (hg_a _ _ _ _ _ (hg_17 hh (by omega)) (X2.2.2.2.1 rfl h hh)))⟩
      · rw [if_neg q] at h
        exact ⟨[], by rw [h, List.append_nil], hx_3 (fun h _ => rfl)⟩
    | m + 4, h =>
      rw [SP4] at h
      by_cases q : wq f n i (ltr 12 2) = true
      · rw [if_pos q] at h
        obtain ⟨r1, h1, e⟩ := h
        cases b1 : r1.1 with
        | false =>
          rw [if_neg (nt b1)] at e
          rw [e] at hr
          exact absurd (b1.symm.trans hr) (by decide)
        | true =>
          rw [if_pos b1] at e
          obtain ⟨l, el, X⟩ := ih _ _ _ _ _ _ h1 b1 o2
          obtain ⟨l2, el2, X2⟩ := ih _ _ _ _ _ _ e hr o2
          exact ⟨l ++ ([18] ++ l2), by rw [el2, el, List.append_assoc, List.append_assoc], hx_4 (fun h hh => hg_a _ _ _ _ _ (X.2.1 rfl h) (hg_a _ _ _ _ _ (hg_18 hh (by omega)) (X2.2.2.2.2 (by omega) h hh)))⟩
      · rw [if_neg q] at h
        exact ⟨[], by rw [h, List.append_nil], hx_4 (fun h _ => rfl)⟩
/-- a row's list is run within 43 -/
theorem sp_43 {f : Int → Int} {n : Int} {k i : Nat} {r : Bool × List Int × Nat × Nat} (h : SP f n k 2 0 [] 0 i r) (hr : r.1 = true) : hgo 43 r.2.1 0 1 := by
  obtain ⟨l, el, X⟩ := sp_h k 2 0 [] 0 i r h hr (by omega)
  rw [el]
  exact X.2.2.1 rfl 0
