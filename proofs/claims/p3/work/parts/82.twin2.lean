/-! twin cells and facts of the world -/
def sv (σ : Nat → Nat) (w : MW) : MW := (fun k => w.1 (σ k), fun k => w.2.1 (σ k), w.2.2)
theorem fr_sv {σ : Nat → Nat} {l : Pl} (w : MW) (h : ∀ k j, hit l k j = false → σ k = k) : FR l w (sv σ w) := fun k j q => by
  have e := h k j q
  refine ⟨?_, ?_, rfl⟩
  · show w.1 (σ k) j = _
    rw [e]
  · show w.2.1 (σ k) j = _
    rw [e]
theorem fr_sw {σ : Nat → Nat} (hσ : ∀ k, σ (σ k) = k) {l : Pl} {w w' : MW} (hF : FR l w w') (hl : (l.all fun e => σ e.1 == e.1) = true) : FR l (sw σ w) (sw σ w') := fun k j q => by
  have g : hit l (σ k) j = false := by
    cases hh : hit l (σ k) j with
    | false => rfl
    | true =>
      obtain ⟨e, he, hv⟩ := List.any_eq_true.mp hh
      have e1 : e.1 = σ k := by
        have := (Bool.and_eq_true _ _ ▸ hv).1
        exact eq_of_beq this
      have e2 : σ e.1 = e.1 := eq_of_beq (List.all_eq_true.mp hl e he)
      rw [e1, hσ] at e2
      rw [e2] at q
      rw [q] at hh
      exact absurd hh (by decide)
  have r := hF (σ k) j g
  refine ⟨r.1, r.2.1, ?_⟩
  show Option.map σ (w'.2.2 (σ k) j) = Option.map σ (w.2.2 (σ k) j)
  rw [r.2.2]
theorem sw_iv2 {σ : Nat → Nat} (hσ : ∀ k, σ (σ k) = k) (w : MW) : sw σ (sw σ w) = w := by
  have e3 : (sw σ (sw σ w)).2.2 = w.2.2 := by
    funext k j
    show Option.map σ (Option.map σ (w.2.2 (σ (σ k)) j)) = _
    rw [hσ]
    cases w.2.2 k j with
    | none => rfl
    | some x => exact congrArg some (hσ x)
  have e1 : (sw σ (sw σ w)).1 = w.1 := by
    funext k
    show w.1 (σ (σ k)) = _
    rw [hσ]
  have e2 : (sw σ (sw σ w)).2.1 = w.2.1 := by
    funext k
    show w.2.1 (σ (σ k)) = _
    rw [hσ]
  exact Prod.ext e1 (Prod.ext e2 e3)
theorem sw_cm {σ τ : Nat → Nat} (h : ∀ k, σ (τ k) = τ (σ k)) (w : MW) : sw σ (sw τ w) = sw τ (sw σ w) := by
  have e3 : (sw σ (sw τ w)).2.2 = (sw τ (sw σ w)).2.2 := by
    funext k j
    show Option.map σ (Option.map τ (w.2.2 (τ (σ k)) j)) = Option.map τ (Option.map σ (w.2.2 (σ (τ k)) j))
    rw [h]
    cases w.2.2 (τ (σ k)) j with
    | none => rfl
    | some x => exact congrArg some (h x)
  have e1 : (sw σ (sw τ w)).1 = (sw τ (sw σ w)).1 := by
    funext k
    show w.1 (τ (σ k)) = w.1 (σ (τ k))
    rw [h]
  have e2 : (sw σ (sw τ w)).2.1 = (sw τ (sw σ w)).2.1 := by
    funext k
    show w.2.1 (τ (σ k)) = w.2.1 (σ (τ k))
    rw [h]
  exact Prod.ext e1 (Prod.ext e2 e3)
def lwP : Pl := [(8, none), (9, none), (10, none), (11, none), (12, none), (13, none), (14, none), (15, none), (91, none), (92, none), (93, none), (94, none), (95, none), (96, none), (97, none), (98, none)]
def lwQ : Pl := [(48, none), (49, none), (50, none), (51, none), (52, none), (53, none), (54, none), (55, none), (56, none), (99, none), (100, none), (101, none), (102, none), (103, none), (104, none), (105, none), (106, none), (107, none)]
def lwN : Pl := [(62, none), (63, none), (64, none), (65, none), (66, none), (67, none), (68, none), (69, none), (70, none), (71, none), (72, none), (73, none), (74, none), (75, none), (76, none), (108, none), (109, none), (110, none), (111, none), (112, none), (113, none), (114, none), (115, none), (116, none), (117, none), (118, none), (119, none), (120, none), (121, none), (122, none)]
theorem sP_big {k : Nat} (h : 99 ≤ k) : sP k = k := by
  unfold sP
  rw [if_neg (by omega), if_neg (by omega)]
theorem sQ_big {k : Nat} (h : 108 ≤ k) : sQ k = k := by
  unfold sQ
  rw [if_neg (by omega), if_neg (by omega)]
theorem sN_big {k : Nat} (h : 123 ≤ k) : sN k = k := by
  unfold sN
  rw [if_neg (by omega), if_neg (by omega)]
theorem lwP_of : ∀ k, k < 123 → (lwP.any fun c => c.1 == k) = false → sP k = k := by decide +kernel
theorem lwQ_of : ∀ k, k < 123 → (lwQ.any fun c => c.1 == k) = false → sQ k = k := by decide +kernel
theorem lwN_of : ∀ k, k < 123 → (lwN.any fun c => c.1 == k) = false → sN k = k := by decide +kernel
theorem hit_any {l : Pl} (hl : (l.all fun c => c.2 == none) = true) {k j : Nat} (h : hit l k j = false) : (l.any fun c => c.1 == k) = false := by
  cases hh : (l.any fun c => c.1 == k) with
  | false => rfl
  | true =>
    obtain ⟨e, he, hv⟩ := List.any_eq_true.mp hh
    have e2 : e.2 = none := eq_of_beq (List.all_eq_true.mp hl e he)
    have : hit l k j = true := List.any_eq_true.mpr ⟨e, he, by rw [e2, hv]; rfl⟩
    rw [this] at h
    exact absurd h (by decide)
theorem lwP_sv (w : MW) : FR lwP w (sv sP w) := fr_sv w (fun k j h => by
  by_cases hk : k < 123
  · exact lwP_of k hk (hit_any rfl h)
  · exact sP_big (by omega))
theorem lwQ_sv (w : MW) : FR lwQ w (sv sQ w) := fr_sv w (fun k j h => by
  by_cases hk : k < 123
  · exact lwQ_of k hk (hit_any rfl h)
  · exact sQ_big (by omega))
theorem lwN_sv (w : MW) : FR lwN w (sv sN w) := fr_sv w (fun k j h => by
  by_cases hk : k < 123
  · exact lwN_of k hk (hit_any rfl h)
  · exact sN_big (by omega))
theorem tw_cm : ∀ k, k < 123 → sP (sQ k) = sQ (sP k) ∧ sP (sN k) = sN (sP k) ∧ sQ (sN k) = sN (sQ k) := by decide +kernel
theorem tw_cm2 (k : Nat) : sP (sQ k) = sQ (sP k) ∧ sP (sN k) = sN (sP k) ∧ sQ (sN k) = sN (sQ k) := by
  by_cases hk : k < 123
  · exact tw_cm k hk
  · have a := sP_big (k := k) (by omega)
    have b := sQ_big (k := k) (by omega)
    have c := sN_big (k := k) (by omega)
    rw [a, b, c]
    exact ⟨by rw [a], by rw [a], by rw [b]⟩
/-! the bounds are the same for twins -/
theorem bt_P : ∀ k, k < 16 → 8 ≤ k → ∀ j, bt (k + 83) j = bt k j := fun k h1 h2 j => by
  have : k = 8 ∨ k = 9 ∨ k = 10 ∨ k = 11 ∨ k = 12 ∨ k = 13 ∨ k = 14 ∨ k = 15 := by omega
  rcases this with rfl | rfl | rfl | rfl | rfl | rfl | rfl | rfl <;> rfl
theorem bt_Q : ∀ k, k < 57 → 48 ≤ k → ∀ j, bt (k + 51) j = bt k j := fun k h1 h2 j => by
  have : k = 48 ∨ k = 49 ∨ k = 50 ∨ k = 51 ∨ k = 52 ∨ k = 53 ∨ k = 54 ∨ k = 55 ∨ k = 56 := by omega
  rcases this with rfl | rfl | rfl | rfl | rfl | rfl | rfl | rfl | rfl <;> rfl
theorem bt_N : ∀ k, k < 77 → 62 ≤ k → ∀ j, bt (k + 46) j = bt k j := fun k h1 h2 j => by
  have : k = 62 ∨ k = 63 ∨ k = 64 ∨ k = 65 ∨ k = 66 ∨ k = 67 ∨ k = 68 ∨ k = 69 ∨ k = 70 ∨ k = 71 ∨ k = 72 ∨ k = 73 ∨ k = 74 ∨ k = 75 ∨ k = 76 := by omega
  rcases this with rfl | rfl | rfl | rfl | rfl | rfl | rfl | rfl | rfl | rfl | rfl | rfl | rfl | rfl | rfl <;> rfl
theorem bt_sP (k j : Nat) : bt (sP k) j = bt k j := by
  by_cases h1 : 8 ≤ k ∧ k ≤ 15
  · have e : sP k = k + 83 := if_pos h1
    rw [e]
    exact bt_P k (by omega) h1.1 j
  · by_cases h2 : 91 ≤ k ∧ k ≤ 98
    · have e : sP k = k - 83 := by unfold sP; rw [if_neg h1, if_pos h2]
      rw [e]
      have := bt_P (k - 83) (by omega) (by omega) j
      rw [← this]
      congr 1
      omega
    · have e : sP k = k := by unfold sP; rw [if_neg h1, if_neg h2]
      rw [e]
theorem bt_sQ (k j : Nat) : bt (sQ k) j = bt k j := by
  by_cases h1 : 48 ≤ k ∧ k ≤ 56
  · have e : sQ k = k + 51 := if_pos h1
    rw [e]
    exact bt_Q k (by omega) h1.1 j
  · by_cases h2 : 99 ≤ k ∧ k ≤ 107
    · have e : sQ k = k - 51 := by unfold sQ; rw [if_neg h1, if_pos h2]
      rw [e]
      have := bt_Q (k - 51) (by omega) (by omega) j
      rw [← this]
      congr 1
      omega
    · have e : sQ k = k := by unfold sQ; rw [if_neg h1, if_neg h2]
      rw [e]
theorem bt_sN (k j : Nat) : bt (sN k) j = bt k j := by
  by_cases h1 : 62 ≤ k ∧ k ≤ 76
  · have e : sN k = k + 46 := if_pos h1
    rw [e]
    exact bt_N k (by omega) h1.1 j
  · by_cases h2 : 108 ≤ k ∧ k ≤ 122
    · have e : sN k = k - 46 := by unfold sN; rw [if_neg h1, if_pos h2]
      rw [e]
      have := bt_N (k - 46) (by omega) (by omega) j
      rw [← this]
      congr 1
      omega
    · have e : sN k = k := by unfold sN; rw [if_neg h1, if_neg h2]
      rw [e]
theorem bnd_sw {σ : Nat → Nat} (hs : ∀ k j, bt (σ k) j = bt k j) {w : MW} (h : BND w) : BND (sw σ w) := fun k j => by
  have := h (σ k) j
  rw [hs] at this
  exact this
