/-! the line's meaning does not see what lies behind the end -/
theorem pos_1 : ∀ c ∈ ltr 1 5, (1 : Int) ≤ c := by rw [ltr_1]; decide
theorem pos_2 : ∀ c ∈ ltr 2 6, (1 : Int) ≤ c := by rw [ltr_2]; decide
theorem pos_3 : ∀ c ∈ ltr 3 4, (1 : Int) ≤ c := by rw [ltr_3]; decide
theorem pos_4 : ∀ c ∈ ltr 4 5, (1 : Int) ≤ c := by rw [ltr_4]; decide
theorem pos_5 : ∀ c ∈ ltr 5 1, (1 : Int) ≤ c := by rw [ltr_5]; decide
theorem if_ag {α : Type} {P R : Prop} [Decidable P] [Decidable R] {x y x' y' : α} (h : P ↔ R) (hx : x = x') (hy : y = y') : (if P then x else y) = (if R then x' else y') := by
  rw [hx, hy]
  by_cases c : P
  · rw [if_pos c, if_pos (h.mp c)]
  · rw [if_neg c, if_neg (fun q => c (h.mpr q))]
theorem pes_ag {f g : Int → Int} (h : AgF f g) (p : Int) : pes f p = pes g p := by
  unfold pes
  rw [dgs_ag h]
  exact if_ag (ag_c h (by decide)) rfl rfl
theorem lnN_ag {f g : Int → Int} (h : AgF f g) (k : Int) {l : List Int} (hl : ∀ c ∈ l, (1 : Int) ≤ c) (p : Int) : lnN f k l p = lnN g k l p := by
  unfold lnN
  rw [tks_ag h l hl, dgs_ag h]
  exact if_ag Iff.rfl (if_ag Iff.rfl rfl (if_ag (ag_c h (by decide)) rfl rfl)) rfl
theorem lnU_ag {f g : Int → Int} (h : AgF f g) (p : Int) : lnU f p = lnU g p := by
  unfold lnU
  rw [tks_ag h _ pos_3]
  exact if_ag Iff.rfl (if_ag (ag_c h (by decide)) rfl rfl) rfl
theorem lnP_ag {f g : Int → Int} (h : AgF f g) (p : Int) : lnP f p = lnP g p := by
  have a5 : ∀ a b q, lnP5 f a b q = lnP5 g a b q := fun a b q => by
    unfold lnP5
    rw [dgs_ag h]
    exact if_ag Iff.rfl rfl (if_ag (ag_c h (by decide)) rfl rfl)
  have a4 : ∀ a b q, lnP4 f a b q = lnP4 g a b q := fun a b q => by
    unfold lnP4
    rw [tks_ag h _ pos_5, a5]
  have a3 : ∀ a q, lnP3 f a q = lnP3 g a q := fun a q => by
    unfold lnP3
    rw [pes_ag h, a4]
  have a2 : ∀ a q, lnP2 f a q = lnP2 g a q := fun a q => by
    unfold lnP2
    rw [tks_ag h _ pos_5, a3]
  have a1 : ∀ q, lnP1 f q = lnP1 g q := fun q => by
    unfold lnP1
    rw [pes_ag h, a2]
  unfold lnP
  rw [tks_ag h _ pos_4, a1]
theorem lnS_ag {f g : Int → Int} (h : AgF f g) (p : Int) : lnS f p = lnS g p := by
  unfold lnS
  refine if_ag (ag_c h (by decide)) (lnN_ag h 0 pos_1 p) (if_ag (ag_c h (by decide)) (lnN_ag h 2 pos_2 p) (if_ag ?_ (lnU_ag h p) (lnP_ag h p)))
  rw [ag_c h (by decide : (1 : Int) ≤ 112), ag_c h (by decide : (1 : Int) ≤ 117)]
/-- the texts are the same: the bytes agree -/
theorem cf_hf {w : MW} {n : Int} (he : (w.1 1 2).toInt = n) (hl : (w.1 127 22).toInt = n) (hb : ∀ i : Nat, (i : Int) < n → w.1 128 i = byt (w.1 2 (i / 4)) (i % 4)) (ht : ∀ i : Nat, (i : Int) < n → (cby (w.1 2 (i / 4)) (i % 4)).toInt ≤ 127) : AgF (cf w) (hf w) := by
  intro p
  unfold cf hf
  rw [he, hl]
  by_cases q : 0 ≤ p ∧ p < n
  · left
    rw [if_pos q, if_pos q]
    have e : ((p.toNat : Nat) : Int) = p := by omega
    rw [hb p.toNat (by omega), byt_c, if_pos (by have := ht p.toNat (by omega); omega)]
  · right
    rw [if_neg q, if_neg q]
    exact ⟨rfl, rfl⟩
