/-! the class's run: live parts -/
def yG (w : MW) (i : Int) : Int := (w.1 80 i.toNat).toInt
def yC (w : MW) (i : Int) : Int := (w.1 81 i.toNat).toInt
def kn (w : MW) (i : Int) : Int := (w.1 63 (pN w i).toNat).toInt
def nxI (w : MW) : Nat → Int → Int
  | 0, x => x
  | n + 1, x => nxI w n (if x < 0 then -1 else pNx w x)
/-- how the parts of the program that stands (62) lie -/
def PQx (w : MW) (j : Int) : Prop := (0 ≤ pN w j ∧ pN w j < (w.1 62 1).toInt) ∧ (pFi w j = -1 ∨ (j < pFi w j ∧ pFi w j < pts w)) ∧ (pNx w j = -1 ∨ (j < pNx w j ∧ pNx w j < pts w)) ∧ ((kn w j = 17 ∨ kn w j = 19 ∨ kn w j = 20) → 1 ≤ pFi w j) ∧ (0 ≤ pFi w j → (kn w (pFi w j) = 35 ↔ ¬ kn w j = 35)) ∧ (0 ≤ pNx w j → (kn w (pNx w j) = 35 ↔ kn w j = 35))
def RLz (w : MW) : Prop := (1 ≤ pts w ∧ pts w ≤ 501) ∧ (pFi w 0 = -1 ∨ (0 < pFi w 0 ∧ pFi w 0 < pts w)) ∧ (pNx w 0 = -1 ∧ (0 ≤ pFi w 0 → ¬ kn w (pFi w 0) = 35)) ∧ (∀ j, 1 ≤ j → j < pts w → PQx w j)
/-- blocks (and part 0) hold statements, statements hold blocks -/
def RoC (w : MW) (i c : Int) : Prop := ((i = 0 ∨ kn w i = 35) → ¬ kn w c = 35) ∧ (1 ≤ i → ¬ kn w i = 35 → kn w c = 35)
/-- a set of parts that the run has come to -/
def LvC (L : Int → Prop) (w : MW) : Prop := L 0 ∧ (∀ i, L i → 0 ≤ i ∧ i < pts w) ∧ (∀ i, L i → ¬ yG w i = 0 → yC w i = -1 ∨ (i < yC w i ∧ L (yC w i) ∧ RoC w i (yC w i))) ∧ (∀ i, L i → ¬ yG w i = 0 → 1 ≤ i → kn w i = 16 → ∀ n, nxI w n (pFi w i) = -1 ∨ L (nxI w n (pFi w i))) ∧ (∀ i, L i → ¬ yG w i = 0 → 1 ≤ i → kn w i = 19 → L (pFi w i))
/-- what is laid, and the kinds, are the same -/
def SLy (w w' : MW) : Prop := pts w' = pts w ∧ (∀ i, pN w' i = pN w i) ∧ (∀ i, pFi w' i = pFi w i) ∧ (∀ i, pNx w' i = pNx w i) ∧ (∀ i, kn w' i = kn w i) ∧ w'.1 62 1 = w.1 62 1
theorem SLy.fr {l : Pl} {w w' : MW} (hF : FR l w w') (ho : off l [(61, some 5), (62, some 1), (63, none), (77, none), (78, none), (79, none)] = true) : SLy w w' := by
  have hq : ∀ k j, hit [(61, some 5), (62, some 1), (63, none), (77, none), (78, none), (79, none)] k j = true → w'.1 k j = w.1 k j := fun k j hk => (hF k j (off_hit ho hk)).1
  have e77 : ∀ i, pN w' i = pN w i := fun i => by unfold pN; rw [hq 77 _ rfl]
  refine ⟨by unfold pts; rw [hq 61 5 rfl], e77, fun i => by unfold pFi; rw [hq 78 _ rfl], fun i => by unfold pNx; rw [hq 79 _ rfl], fun i => ?_, hq 62 1 rfl⟩
  unfold kn
  rw [e77, hq 63 _ rfl]
theorem nxI_eq {w w' : MW} (h : ∀ i, pNx w' i = pNx w i) (n : Nat) : ∀ x, nxI w' n x = nxI w n x := by
  induction n with
  | zero => intro x; rfl
  | succ n ih =>
    intro x
    show nxI w' n (if x < 0 then -1 else pNx w' x) = nxI w n (if x < 0 then -1 else pNx w x)
    rw [ih, h]
theorem RLz.sl {w w' : MW} (h : RLz w) (s : SLy w w') : RLz w' := by
  unfold RLz PQx at *
  simp only [s.1, s.2.1, s.2.2.1, s.2.2.2.1, s.2.2.2.2.1, s.2.2.2.2.2]
  exact h
/-- the set grows; only a may have begun anew -/
theorem lv_upd {L L' : Int → Prop} {w w' : MW} {a : Int} (h : LvC L w) (s : SLy w w') (hL : ∀ i, L i → L' i) (hB : ∀ i, L' i → 0 ≤ i ∧ i < pts w) (hO : ∀ i, L' i → ¬ yG w' i = 0 → i = a ∨ (L i ∧ ¬ yG w i = 0 ∧ yC w' i = yC w i)) (hA : ¬ yG w' a = 0 → yC w' a = -1 ∨ (a < yC w' a ∧ L' (yC w' a) ∧ RoC w a (yC w' a))) (hP : ¬ yG w' a = 0 → 1 ≤ a → kn w a = 16 → ∀ n, nxI w n (pFi w a) = -1 ∨ L' (nxI w n (pFi w a))) (hR : ¬ yG w' a = 0 → 1 ≤ a → kn w a = 19 → L' (pFi w a)) : LvC L' w' := by
  have ro : ∀ i c, RoC w i c → RoC w' i c := fun i c q => by
    unfold RoC
    rw [s.2.2.2.2.1, s.2.2.2.2.1]
    exact q
  refine ⟨hL 0 h.1, fun i q => by rw [s.1]; exact hB i q, fun i q g => ?_, fun i q g i1 k n => ?_, fun i q g i1 k => ?_⟩
  · cases hO i q g with
    | inl e =>
      rw [e] at g ⊢
      cases hA g with
      | inl z => exact Or.inl z
      | inr z => exact Or.inr ⟨z.1, z.2.1, ro _ _ z.2.2⟩
    | inr e =>
      rw [e.2.2]
      cases h.2.2.1 i e.1 e.2.1 with
      | inl z => exact Or.inl z
      | inr z => exact Or.inr ⟨z.1, hL _ z.2.1, ro _ _ z.2.2⟩
  · rw [s.2.2.2.2.1] at k
    rw [s.2.2.1, nxI_eq s.2.2.2.1]
    cases hO i q g with
    | inl e =>
      rw [e] at g i1 k ⊢
      exact hP g i1 k n
    | inr e =>
      cases h.2.2.2.1 i e.1 e.2.1 i1 k n with
      | inl z => exact Or.inl z
      | inr z => exact Or.inr (hL _ z)
  · rw [s.2.2.2.2.1] at k
    rw [s.2.2.1]
    cases hO i q g with
    | inl e =>
      rw [e] at g i1 k ⊢
      exact hR g i1 k
    | inr e => exact hL _ (h.2.2.2.2 i e.1 e.2.1 i1 k)
/-- nothing of the run's places changes -/
theorem lv_fr {l : Pl} {L : Int → Prop} {w w' : MW} (h : LvC L w) (hF : FR l w w') (ho : off l [(61, some 5), (62, some 1), (63, none), (77, none), (78, none), (79, none), (80, none), (81, none)] = true) : LvC L w' := by
  have s : SLy w w' := SLy.fr hF (off_mono ho (by decide))
  have e80 : ∀ i, yG w' i = yG w i := fun i => by unfold yG; rw [(hF 80 _ (off_hit ho rfl)).1]
  have e81 : ∀ i, yC w' i = yC w i := fun i => by unfold yC; rw [(hF 81 _ (off_hit ho rfl)).1]
  refine lv_upd (a := 0) h s (fun i q => q) h.2.1 (fun i q g => Or.inr ⟨q, by rw [← e80]; exact g, e81 i⟩) (fun g => ?_) (fun _ a => by omega) (fun _ a => by omega)
  rw [e81]
  exact h.2.2.1 0 h.1 (by rw [← e80]; exact g)
theorem yG_set {w : MW} {a j : Int} {v : Int32} (a0 : 0 ≤ a) (j0 : 0 ≤ j) : yG (sI w 80 a.toNat v) j = if j = a then v.toInt else yG w j := by
  unfold yG
  by_cases c : j = a
  · rw [if_pos c, c, sI_same]
  · rw [if_neg c, sI_ne _ _ _ _ _ (by omega)]
theorem yC_set {w : MW} {a j : Int} {v : Int32} (a0 : 0 ≤ a) (j0 : 0 ≤ j) : yC (sI w 81 a.toNat v) j = if j = a then v.toInt else yC w j := by
  unfold yC
  by_cases c : j = a
  · rw [if_pos c, c, sI_same]
  · rw [if_neg c, sI_ne _ _ _ _ _ (by omega)]
/-- choose: a goes on with c, or with nothing -/
theorem lv_choose {L : Int → Prop} {w : MW} {a c : Int32} {Q : MW → Prop} (hI : BND w) (h : LvC L w) (ha : L a.toInt) (hc : c.toInt = -1 ∨ (a.toInt < c.toInt ∧ c.toInt < pts w)) (hr : 0 ≤ c.toInt → RoC w a.toInt c.toInt) (p5 : pts w ≤ 501) (hQ : ∀ w' L', BND w' → FR [(80, none), (81, none)] w w' → (∀ i, L i → L' i) → LvC L' w' → (0 ≤ c.toInt → L' c.toInt) → (∀ i, 0 ≤ i → i ≤ a.toInt → yG w' i = yG w i) → yC w' a.toInt = c.toInt → Q w') : p_Ru_choose w a c Q := by
  have b := h.2.1 _ ha
  refine Eq.mpr (p_Ru_choose.eq_1 _ _ _ _) ⟨⟨b.1, by omega⟩, fun c0 => ?_, fun c0 => ⟨⟨by omega, by omega⟩, ?_⟩⟩
  · have e81 : ∀ j, 0 ≤ j → yC (sI w 81 a.toInt.toNat c) j = if j = a.toInt then c.toInt else yC w j := fun j j0 => yC_set b.1 j0
    have hF : FR [(80, none), (81, none)] w (sI w 81 a.toInt.toNat c) := FR.I (FR.refl _ w) rfl
    refine hQ _ L (wbd_81 hI _ (by omega) (by omega)) hF (fun i q => q) (lv_upd (a := a.toInt) h (SLy.fr hF rfl) (fun i q => q) h.2.1 (fun i q g => ?_) (fun _ => ?_) (fun g a1 k n => h.2.2.2.1 _ ha g a1 k n) (fun g a1 k => h.2.2.2.2 _ ha g a1 k)) (fun q => by omega) (fun i _ _ => rfl) ?_
    · by_cases e : i = a.toInt
      · exact Or.inl e
      · refine Or.inr ⟨q, g, ?_⟩
        rw [e81 i (h.2.1 i q).1, if_neg e]
    · left
      rw [e81 _ b.1, if_pos rfl]
      omega
    · rw [e81 _ b.1, if_pos rfl]
  · have hF : FR [(80, none), (81, none)] w (sI (sI w 81 a.toInt.toNat c) 80 c.toInt.toNat 0) := FR.I (FR.I (FR.refl _ w) rfl) rfl
    have cc : a.toInt < c.toInt ∧ c.toInt < pts w := by omega
    have e80 : ∀ j, 0 ≤ j → yG (sI (sI w 81 a.toInt.toNat c) 80 c.toInt.toNat 0) j = if j = c.toInt then (0 : Int32).toInt else yG w j := fun j j0 => yG_set (by omega) j0
    have e81 : ∀ j, 0 ≤ j → yC (sI (sI w 81 a.toInt.toNat c) 80 c.toInt.toNat 0) j = if j = a.toInt then c.toInt else yC w j := fun j j0 => yC_set b.1 j0
    refine hQ _ (fun i => L i ∨ i = c.toInt) (wbd_80 (wbd_81 hI _ (by omega) (by omega)) _ (by decide) (by decide)) hF (fun i q => Or.inl q) (lv_upd (a := a.toInt) h (SLy.fr hF rfl) (fun i q => Or.inl q) (fun i q => ?_) (fun i q g => ?_) (fun _ => ?_) (fun g a1 k n => ?_) (fun g a1 k => ?_)) (fun _ => Or.inr rfl) (fun i i0 i1 => ?_) ?_
    · cases q with
      | inl z => exact h.2.1 i z
      | inr z => exact ⟨by omega, by omega⟩
    · by_cases e : i = a.toInt
      · exact Or.inl e
      · have i0 : 0 ≤ i := by
          cases q with
          | inl z => exact (h.2.1 i z).1
          | inr z => omega
        rw [e80 i i0] at g
        by_cases e2 : i = c.toInt
        · rw [if_pos e2] at g
          exact absurd i_0 g
        · rw [if_neg e2] at g
          refine Or.inr ⟨q.resolve_right e2, g, ?_⟩
          rw [e81 i i0, if_neg e]
    · right
      rw [e81 _ b.1, if_pos rfl]
      exact ⟨cc.1, Or.inr rfl, hr (by omega)⟩
    · rw [e80 _ b.1, if_neg (by omega)] at g
      cases h.2.2.2.1 _ ha g a1 k n with
      | inl z => exact Or.inl z
      | inr z => exact Or.inr (Or.inl z)
    · rw [e80 _ b.1, if_neg (by omega)] at g
      exact Or.inl (h.2.2.2.2 _ ha g a1 k)
    · rw [e80 i i0, if_neg (by omega)]
    · rw [e81 _ b.1, if_pos rfl]
/-- the run's set, said of a step -/
def LvS (a : Int) (L : Int → Prop) (w w' : MW) (L' : Int → Prop) : Prop := BND w' ∧ (∀ i, L i → L' i) ∧ LvC L' w' ∧ (∀ i, 0 ≤ i → i < a → yG w' i = yG w i ∧ yC w' i = yC w i)
/-- goInside: a has begun, and goes on with c -/
theorem lv_inside {L : Int → Prop} {w : MW} {a c : Int32} {Q : Int32 → MW → Prop} (hI : BND w) (h : LvC L w) (ha : L a.toInt) (hc : c.toInt = -1 ∨ (a.toInt < c.toInt ∧ c.toInt < pts w)) (hr : 0 ≤ c.toInt → RoC w a.toInt c.toInt) (p5 : pts w ≤ 501) (hP : 1 ≤ a.toInt → kn w a.toInt = 16 → ∀ n, nxI w n (pFi w a.toInt) = -1 ∨ L (nxI w n (pFi w a.toInt))) (h19 : 1 ≤ a.toInt → kn w a.toInt = 19 → 0 ≤ c.toInt ∧ c.toInt = pFi w a.toInt) (hQ : ∀ (r : Int32) (w' : MW) (L' : Int → Prop), r.toInt = 2 → FR [(80, none), (81, none)] w w' → LvS a.toInt L w w' L' → yG w' a.toInt = 1 → Q r w') : p_Ru_goInside w a c Q := by
  have b := h.2.1 _ ha
  refine Eq.mpr (p_Ru_goInside.eq_1 _ _ _ _) ⟨⟨b.1, by omega⟩, Eq.mpr (p_Ru_choose.eq_1 _ _ _ _) ⟨⟨b.1, by omega⟩, fun c0 => ?_, fun c0 => ⟨⟨by omega, by omega⟩, ?_⟩⟩⟩
  · have hF : FR [(80, none), (81, none)] w (sI (sI w 80 a.toInt.toNat 1) 81 a.toInt.toNat c) := FR.I (FR.I (FR.refl _ w) rfl) rfl
    have e80 : ∀ j, 0 ≤ j → yG (sI (sI w 80 a.toInt.toNat 1) 81 a.toInt.toNat c) j = if j = a.toInt then (1 : Int32).toInt else yG w j := fun j j0 => yG_set (w := w) b.1 j0
    have e81 : ∀ j, 0 ≤ j → yC (sI (sI w 80 a.toInt.toNat 1) 81 a.toInt.toNat c) j = if j = a.toInt then c.toInt else yC w j := fun j j0 => yC_set b.1 j0
    refine hQ 2 _ L (by decide) hF ⟨wbd_81 (wbd_80 hI _ (by decide) (by decide)) _ (by omega) (by omega), fun i q => q, lv_upd (a := a.toInt) h (SLy.fr hF rfl) (fun i q => q) h.2.1 (fun i q g => ?_) (fun _ => ?_) (fun _ a1 k n => hP a1 k n) (fun _ a1 k => by have := h19 a1 k; omega), fun i i0 i1 => ⟨by rw [e80 i i0, if_neg (by omega)], by rw [e81 i i0, if_neg (by omega)]⟩⟩ (by rw [e80 _ b.1, if_pos rfl]; exact i_1)
    · by_cases e : i = a.toInt
      · exact Or.inl e
      · have i0 := (h.2.1 i q).1
        rw [e80 i i0, if_neg e] at g
        exact Or.inr ⟨q, g, by rw [e81 i i0, if_neg e]⟩
    · left
      rw [e81 _ b.1, if_pos rfl]
      omega
  · have cc : a.toInt < c.toInt ∧ c.toInt < pts w := by omega
    have hF : FR [(80, none), (81, none)] w (sI (sI (sI w 80 a.toInt.toNat 1) 81 a.toInt.toNat c) 80 c.toInt.toNat 0) := FR.I (FR.I (FR.I (FR.refl _ w) rfl) rfl) rfl
    have e80 : ∀ j, 0 ≤ j → yG (sI (sI (sI w 80 a.toInt.toNat 1) 81 a.toInt.toNat c) 80 c.toInt.toNat 0) j = if j = c.toInt then (0 : Int32).toInt else if j = a.toInt then (1 : Int32).toInt else yG w j := fun j j0 => by
      rw [yG_set (by omega) j0]
      by_cases z : j = c.toInt
      · rw [if_pos z, if_pos z]
      · rw [if_neg z, if_neg z]
        exact yG_set (w := w) b.1 j0
    have e81 : ∀ j, 0 ≤ j → yC (sI (sI (sI w 80 a.toInt.toNat 1) 81 a.toInt.toNat c) 80 c.toInt.toNat 0) j = if j = a.toInt then c.toInt else yC w j := fun j j0 => yC_set (w := sI w 80 a.toInt.toNat 1) b.1 j0
    refine hQ 2 _ (fun i => L i ∨ i = c.toInt) (by decide) hF ⟨wbd_80 (wbd_81 (wbd_80 hI _ (by decide) (by decide)) _ (by omega) (by omega)) _ (by decide) (by decide), fun i q => Or.inl q, lv_upd (a := a.toInt) h (SLy.fr hF rfl) (fun i q => Or.inl q) (fun i q => ?_) (fun i q g => ?_) (fun _ => ?_) (fun _ a1 k n => ?_) (fun _ a1 k => Or.inr (h19 a1 k).2.symm), fun i i0 i1 => ⟨by rw [e80 i i0, if_neg (by omega), if_neg (by omega)], by rw [e81 i i0, if_neg (by omega)]⟩⟩ (by rw [e80 _ b.1, if_neg (by omega), if_pos rfl]; exact i_1)
    · cases q with
      | inl z => exact h.2.1 i z
      | inr z => exact ⟨by omega, by omega⟩
    · by_cases e : i = a.toInt
      · exact Or.inl e
      · have i0 : 0 ≤ i := by
          cases q with
          | inl z => exact (h.2.1 i z).1
          | inr z => omega
        rw [e80 i i0] at g
        by_cases e2 : i = c.toInt
        · rw [if_pos e2] at g
          exact absurd i_0 g
        · rw [if_neg e2, if_neg e] at g
          refine Or.inr ⟨q.resolve_right e2, g, ?_⟩
          rw [e81 i i0, if_neg e]
    · right
      rw [e81 _ b.1, if_pos rfl]
      exact ⟨cc.1, Or.inr rfl, hr (by omega)⟩
    · cases hP a1 k n with
      | inl z => exact Or.inl z
      | inr z => exact Or.inr (Or.inl z)
/-- stand: a has begun, nothing lies in it -/
theorem lv_stand {L : Int → Prop} {w : MW} {a : Int32} {Q : Int32 → MW → Prop} (hI : BND w) (h : LvC L w) (ha : L a.toInt) (p5 : pts w ≤ 501) (hk : ¬ kn w a.toInt = 16) (hk9 : ¬ kn w a.toInt = 19) (hQ : ∀ (r : Int32) (w' : MW) (L' : Int → Prop), r.toInt = 0 → FR [(80, none), (81, none)] w w' → LvS a.toInt L w w' L' → Q r w') : p_Ru_stand w a Q := by
  have b := h.2.1 _ ha
  refine Eq.mpr (p_Ru_stand.eq_1 _ _ _) ⟨⟨b.1, by omega⟩, ⟨b.1, by omega⟩, ?_⟩
  have hF : FR [(80, none), (81, none)] w (sI (sI w 80 a.toInt.toNat 1) 81 a.toInt.toNat (-1)) := FR.I (FR.I (FR.refl _ w) rfl) rfl
  have e80 : ∀ j, 0 ≤ j → yG (sI (sI w 80 a.toInt.toNat 1) 81 a.toInt.toNat (-1)) j = if j = a.toInt then (1 : Int32).toInt else yG w j := fun j j0 => yG_set (w := w) b.1 j0
  have e81 : ∀ j, 0 ≤ j → yC (sI (sI w 80 a.toInt.toNat 1) 81 a.toInt.toNat (-1)) j = if j = a.toInt then (-1 : Int32).toInt else yC w j := fun j j0 => yC_set b.1 j0
  refine hQ 0 _ L (by decide) hF ⟨wbd_81 (wbd_80 hI _ (by decide) (by decide)) _ (by decide) (by decide), fun i q => q, lv_upd (a := a.toInt) h (SLy.fr hF rfl) (fun i q => q) h.2.1 (fun i q g => ?_) (fun _ => ?_) (fun _ a1 k n => absurd k hk) (fun _ a1 k => absurd k hk9), fun i i0 i1 => ⟨by rw [e80 i i0, if_neg (by omega)], by rw [e81 i i0, if_neg (by omega)]⟩⟩
  · by_cases e : i = a.toInt
    · exact Or.inl e
    · have i0 := (h.2.1 i q).1
      rw [e80 i i0, if_neg e] at g
      exact Or.inr ⟨q, g, by rw [e81 i i0, if_neg e]⟩
  · left
    rw [e81 _ b.1, if_pos rfl]
    exact i_m1
/-- enter: a block begins with its first statement -/
theorem lv_enter {L : Int → Prop} {w : MW} {a : Int32} {Q : MW → Prop} (hI : BND w) (hz : RLz w) (h : LvC L w) (ha : L a.toInt) (hk : a.toInt = 0 ∨ kn w a.toInt = 35) (hQ : ∀ (w' : MW) (L' : Int → Prop), FR [(80, none), (81, none)] w w' → LvS a.toInt L w w' L' → yG w' a.toInt = 1 → Q w') : p_Ru_enter w a Q := by
  have b := h.2.1 _ ha
  have p5 := hz.1.2
  have hc : (w.1 78 a.toInt.toNat).toInt = -1 ∨ (a.toInt < (w.1 78 a.toInt.toNat).toInt ∧ (w.1 78 a.toInt.toNat).toInt < pts w) := by
    by_cases z : a.toInt = 0
    · have q := hz.2.1
      have e : pFi w 0 = (w.1 78 a.toInt.toNat).toInt := by rw [z]; rfl
      omega
    · exact (hz.2.2.2 a.toInt (by omega) b.2).2.1
  have ro : 0 ≤ (w.1 78 a.toInt.toNat).toInt → RoC w a.toInt (w.1 78 a.toInt.toNat).toInt := fun c => by
    by_cases z : a.toInt = 0
    · refine ⟨fun _ => ?_, fun q => by omega⟩
      have e : pFi w 0 = (w.1 78 a.toInt.toNat).toInt := by rw [z]; rfl
      rw [← e]
      exact hz.2.2.1.2 (by omega)
    · have k35 : kn w a.toInt = 35 := by omega
      refine ⟨fun _ q => ?_, fun _ q => absurd k35 q⟩
      exact ((hz.2.2.2 a.toInt (by omega) b.2).2.2.2.2.1 c).1 q k35
  have P := lv_inside (Q := fun _ w' => Q w') hI h ha hc ro p5 (fun a1 k => by omega) (fun a1 k => by omega) (fun r w' L' _ f t g => hQ w' L' f t g)
  rw [p_Ru_goInside.eq_1, p_Ru_choose.eq_1] at P
  have gb : 0 ≤ a.toInt ∧ a.toInt < 501 := ⟨b.1, by omega⟩
  exact Eq.mpr (p_Ru_enter.eq_1 _ _ _) ⟨gb, gb, gb, gb, fun c => P.2.2.1 c, fun c => ⟨gb, (P.2.2.2 c).1, (P.2.2.2 c).2⟩⟩
/-- stages of x and all behind it are made 0 -/
theorem lv_par9 {w0 : MW} {L0 : Int → Prop} {a : Int32} {E : MW → Prop} {Q : Int32 → MW → Prop} (hz : RLz w0) (n : Nat) : ∀ (x i : Int32) (w : MW) (L : Int → Prop), BND w → FR [(80, none)] w0 w → LvC L w → (∀ j, L0 j → L j) → a.toInt < pts w0 → 1 ≤ a.toInt → (x.toInt = -1 ∨ (a.toInt < x.toInt ∧ x.toInt < pts w0)) → (∀ j, 0 ≤ j → j ≤ a.toInt → yG w j = yG w0 j) → 0 ≤ i.toInt → i.toInt ≤ 501 → 500 - x.toInt ≤ 500 - i.toInt ∨ x.toInt = -1 → (501 - i.toInt).toNat < n → (∀ (w' : MW) (L' : Int → Prop), BND w' → FR [(80, none)] w0 w' → LvC L' w' → (∀ j, L j → L' j) → (∀ m, nxI w0 m x.toInt = -1 ∨ L' (nxI w0 m x.toInt)) → (∀ j, 0 ≤ j → j ≤ a.toInt → yG w' j = yG w0 j) → E w') → q_Ru_beginPar_9 a E Q n x i w := by
  induction n with
  | zero => intros; omega
  | succ n ih =>
    intro x i w L hI hF h hL aP a1 hx hg i0 i1 hi hm hE
    have s : SLy w0 w := SLy.fr hF rfl
    have p5 := hz.1.2
    rw [q_Ru_beginPar_9.eq_2]
    have neg : ∀ m y, y < 0 → nxI w0 m y = y ∨ nxI w0 m y = -1 := fun m => by
      induction m with
      | zero => intro y _; left; rfl
      | succ m ihm =>
        intro y hy
        right
        show nxI w0 m (if y < 0 then -1 else pNx w0 y) = -1
        rw [if_pos hy]
        cases ihm (-1) (by omega) with
        | inl q => exact q
        | inr q => exact q
    have stop : x.toInt < 0 → E w := fun c => hE w L hI hF h (fun j q => q) (fun m => by
      have e : x.toInt = -1 := by omega
      rw [e]
      left
      cases neg m (-1) (by omega) with
      | inl q => exact q
      | inr q => exact q) hg
    refine ⟨fun c => ?_, fun ci => ⟨stop, fun cx => ?_⟩⟩
    · by_cases cx : x.toInt < 0
      · exact stop cx
      · omega
    · have xb : a.toInt < x.toInt ∧ x.toInt < pts w0 := by omega
      have g : 0 ≤ x.toInt ∧ x.toInt < 501 := ⟨by omega, by omega⟩
      have si := ti_add2 (Eq.refl i.toInt) i_1 (by omega) (by omega)
      have PX := hz.2.2.2 x.toInt (by omega) xb.2
      have nx := PX.2.2.1
      have e79 : (w.1 79 x.toInt.toNat).toInt = pNx w0 x.toInt := s.2.2.2.1 x.toInt
      have F1 : FR [(80, none)] w (sI w 80 x.toInt.toNat 0) := FR.I (FR.refl _ w) rfl
      have s1 : SLy w (sI w 80 x.toInt.toNat 0) := SLy.fr F1 rfl
      have e80 : ∀ j, 0 ≤ j → yG (sI w 80 x.toInt.toNat 0) j = if j = x.toInt then (0 : Int32).toInt else yG w j := fun j j0 => yG_set g.1 j0
      have e81 : ∀ j, yC (sI w 80 x.toInt.toNat 0) j = yC w j := fun j => rfl
      have h1 : LvC (fun j => L j ∨ j = x.toInt) (sI w 80 x.toInt.toNat 0) := lv_upd (a := x.toInt) h s1 (fun j q => Or.inl q) (fun j q => by
        cases q with
        | inl z => exact h.2.1 j z
        | inr z => rw [s.1]; omega) (fun j q gg => by
        have j0 : 0 ≤ j := by
          cases q with
          | inl z => exact (h.2.1 j z).1
          | inr z => omega
        rw [e80 j j0] at gg
        by_cases e : j = x.toInt
        · exact Or.inl e
        · rw [if_neg e] at gg
          exact Or.inr ⟨q.resolve_right e, gg, e81 j⟩) (fun gg => absurd (by rw [e80 _ g.1, if_pos rfl]; exact i_0) gg) (fun gg => absurd (by rw [e80 _ g.1, if_pos rfl]; exact i_0) gg) (fun gg => absurd (by rw [e80 _ g.1, if_pos rfl]; exact i_0) gg)
      refine ⟨g, g, ih _ _ _ _ (wbd_80 hI _ (by decide) (by decide)) (hF.tr F1 rfl) h1 (fun j q => Or.inl (hL j q)) aP a1 (by rw [e79]; omega) (fun j j0 j1 => by rw [e80 j j0, if_neg (by omega)]; exact hg j j0 j1) (by omega) (by omega) (by rw [e79]; omega) (by omega) (fun w' L' b1 b2 b3 b4 b5 b6 => hE w' L' b1 b2 b3 (fun j q => b4 j (Or.inl q)) (fun m => ?_) b6)⟩
      rw [e79] at b5
      cases m with
      | zero => exact Or.inr (b4 _ (Or.inr rfl))
      | succ m =>
        show nxI w0 m (if x.toInt < 0 then -1 else pNx w0 x.toInt) = -1 ∨ L' (nxI w0 m (if x.toInt < 0 then -1 else pNx w0 x.toInt))
        rw [if_neg cx]
        exact b5 m
