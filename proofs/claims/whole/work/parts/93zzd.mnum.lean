/-! the reference's numbers, conditions, acts -/
theorem atv_in {f : Int → Int} {n : Int} {i : Nat} {a : Int} (h : wat f n i + a < wnd f n i) : atv f n i a = f (wat f n i + a) := by
  unfold atv
  rw [if_pos h]
theorem b_10 : ((10 : Int32)).toInt = 10 := by decide
theorem b_48 : ((48 : Int32)).toInt = 48 := by decide
theorem mnb_42 {w : MW} {f : Int → Int} {n : Int} {W i : Nat} {m r1 : Int32} {T S : Int} {D : Nat} {E Q : Int32 → MW → Prop} (hT : TXW f n W) (h : MS w f n W i) (s0 : 0 ≤ S) (s1 : S ≤ 1) (d4 : D ≤ 4) (hr : r1.toInt = S + (D : Int)) (hL : wnd f n i - wat f n i = S + (D : Int)) (hE : ∀ v : Int32, v.toInt = T → E v w) (hQ : T = -1 → Q (-1) w) (k : Nat) : ∀ (j : Nat) (v x : Int32), j ≤ D → x.toInt = S + (j : Int) → 0 ≤ v.toInt → v.toInt < 10 ^ j → dgv f (D - j) (wat f n i + S + (j : Int)) v.toInt = T → D - j < k → q_Mr_number_42 m r1 E Q k v x w := by
  induction k with
  | zero => intros; omega
  | succ k ih =>
    intro j v x hj hx v0 v1 hd hm
    have pw : (10 : Int) ^ j ≤ 10000 := by
      have : j = 0 ∨ j = 1 ∨ j = 2 ∨ j = 3 ∨ j = 4 := by omega
      rcases this with rfl | rfl | rfl | rfl | rfl <;> decide
    rw [q_Mr_number_42.eq_2]
    refine ⟨fun c => ?_, fun c => mat hT h hx (by omega) (by omega) (fun r er => ?_)⟩
    · rw [hr, hx] at c
      have e : D - j = 0 := by omega
      rw [e] at hd
      exact hE v hd
    · rw [hr, hx] at c
      have ev : atv f n i (S + (j : Int)) = f (wat f n i + S + (j : Int)) := by
        rw [atv_in (by omega), Int.add_assoc]
      rw [ev] at er
      obtain ⟨q, eq⟩ : ∃ q, D - j = q + 1 := ⟨D - j - 1, by omega⟩
      rw [eq, dgv_u] at hd
      refine ⟨fun d => hQ ?_, fun d => ⟨fun d2 => ?_, fun d2 => hQ ?_⟩⟩
      · rw [if_neg (by omega)] at hd
        exact hd.symm
      · rw [if_pos (by omega)] at hd
        have t1 := ti_mul2 b_10 (Eq.refl v.toInt) (by omega) (by omega)
        have t2 := ti_add2 t1 er (by omega) (by omega)
        have t3 := ti_sub2 t2 b_48 (by omega) (by omega)
        have pj : (10 : Int) ^ (j + 1) = 10 ^ j * 10 := Int.pow_succ 10 j
        have tx := ti_add2 hx i_1 (by omega) (by omega)
        refine ih (j + 1) _ _ (by omega) (by rw [tx]; omega) (by omega) (by omega) ?_ (by omega)
        rw [show D - (j + 1) = q by omega, show wat f n i + S + ((j + 1 : Nat) : Int) = wat f n i + S + (j : Int) + 1 by omega, t3, show 10 * v.toInt + f (wat f n i + S + (j : Int)) - 48 = v.toInt * 10 + f (wat f n i + S + (j : Int)) - 48 by omega]
        exact hd
      · rw [if_neg (by omega)] at hd
        exact hd.symm
theorem mnb {w : MW} {f : Int → Int} {n : Int} {W i : Nat} {s m : Int32} {S M : Int} {Q : Int32 → MW → Prop} (hT : TXW f n W) (h : MS w f n W i) (hs : s.toInt = S) (s0 : 0 ≤ S) (s1 : S ≤ 1) (hm : m.toInt = M) (m0 : 0 ≤ M) (hQ : ∀ r : Int32, r.toInt = nbv f n i S M → Q r w) : p_Mr_number w s m Q := by
  have wb := wat_b (f := f) hT.1 i
  have ws := wat_s (f := f) hT.1 i
  have n4 := hT.2.1
  unfold nbv at hQ
  have x4 := ti_add2 hs b_4 (by omega) (by omega)
  have x1 := ti_add2 hs i_1 (by omega) (by omega)
  refine Eq.mpr (p_Mr_number.eq_1 _ _ _ _) (mwd hT h (fun r er => ?_))
  have bad : (wnd f n i - (wat f n i + S) < 1 ∨ 4 < wnd f n i - (wat f n i + S) ∨ (1 < wnd f n i - (wat f n i + S) ∧ f (wat f n i + S) = 48)) → Q (-1) w := fun c => hQ _ (by rw [if_pos c]; exact i_m1)
  have go : 1 ≤ wnd f n i - (wat f n i + S) → ¬ (1 < wnd f n i - (wat f n i + S) ∧ f (wat f n i + S) = 48) → q_Mr_number_27 s m r w Q := fun c1 c48 => by
    refine Eq.mpr (q_Mr_number_27.eq_1 _ _ _ _ _) ⟨fun c4 => ?_, fun c4 => bad (Or.inr (Or.inl (by rw [er, x4] at c4; omega)))⟩
    rw [er, x4] at c4
    have c : ¬ (wnd f n i - (wat f n i + S) < 1 ∨ 4 < wnd f n i - (wat f n i + S) ∨ (1 < wnd f n i - (wat f n i + S) ∧ f (wat f n i + S) = 48)) := fun z => by
      rcases z with z | z | z
      · omega
      · omega
      · exact c48 z
    rw [if_neg c] at hQ
    generalize eT : dgv f (wnd f n i - (wat f n i + S)).toNat (wat f n i + S) 0 = T at hQ
    have h1 : ∀ v : Int32, v.toInt = T → ((m.toInt < v.toInt → (Q (-1) w)) ∧ (¬ (m.toInt < v.toInt) → (Q v w))) := fun v hv => ⟨fun q => hQ _ (by rw [if_pos (by omega)]; exact i_m1), fun q => hQ _ (by rw [if_neg (by omega)]; exact hv)⟩
    have h2 : T = -1 → Q (-1) w := fun q => hQ _ (by rw [if_neg (by omega), q]; exact i_m1)
    refine mnb_42 (D := (wnd f n i - (wat f n i + S)).toNat) (T := T) hT h s0 s1 (by omega) (by omega) (by omega) h1 h2 FU 0 0 s (Nat.zero_le _) (by rw [hs]; omega) (by decide) (by decide) ?_ (Nat.lt_of_le_of_lt (show _ ≤ 4 by omega) (fu_lt (by decide)))
    rw [i_0, Nat.sub_zero, show wat f n i + S + ((0 : Nat) : Int) = wat f n i + S by omega]
    exact eT
  refine ⟨fun c => bad (Or.inl (by rw [er, hs] at c; omega)), fun c => mat hT h hs s0 (by omega) (fun r3 e3 => ?_)⟩
  rw [er, hs] at c
  rw [atv_in (by omega)] at e3
  refine ⟨fun d => go (by omega) (fun z => d (by rw [e3]; exact z.2)), fun d => ⟨fun d2 => bad (Or.inr (Or.inr ⟨by rw [x1, er] at d2; omega, by rw [← e3]; exact Classical.not_not.mp d⟩)), fun d2 => go (by omega) (fun z => d2 (by rw [x1, er]; have := z.1; omega))⟩⟩
theorem nbv_0 {f : Int → Int} {n : Int} {i : Nat} {s m : Int} (h : wnd f n i - (wat f n i + s) < 1) : nbv f n i s m = -1 := by
  unfold nbv
  rw [if_pos (Or.inl h)]
theorem ltq {f : Int → Int} {n : Int} {i : Nat} {c m : Int} (hc : ¬ 0 = c) : (atv f n i 0 = c → (if f (wat f n i) = c then nbv f n i 1 m else -1) = nbv f n i 1 m) ∧ (¬ atv f n i 0 = c → (if f (wat f n i) = c then nbv f n i 1 m else -1) = -1) := by
  have e : atv f n i 0 = if wat f n i < wnd f n i then f (wat f n i) else 0 := by
    unfold atv
    rw [Int.add_zero]
  rw [e]
  by_cases q : wat f n i < wnd f n i
  · rw [if_pos q]
    exact ⟨fun h => by rw [if_pos h], fun h => by rw [if_neg h]⟩
  · rw [if_neg q]
    refine ⟨fun h => absurd h hc, fun _ => ?_⟩
    rw [nbv_0 (by omega)]
    by_cases z : f (wat f n i) = c
    · rw [if_pos z]
    · rw [if_neg z]
theorem b_15 : ((15 : Int32)).toInt = 15 := by decide
theorem b_31 : ((31 : Int32)).toInt = 31 := by decide
theorem mcn {w : MW} {f : Int → Int} {n : Int} {W i : Nat} {Q : Int32 → MW → Prop} (hT : TXW f n W) (h : MS w f n W i) (hQ : ∀ r : Int32, r.toInt = cnw f n i → Q r w) : p_Mr_conditionWord w Q := by
  unfold cnw at hQ
  have L := ltq (f := f) (n := n) (i := i) (c := 99) (m := 15) (by decide)
  refine Eq.mpr (p_Mr_conditionWord.eq_1 _ _) (mat hT h i_0 (by decide) (by decide) (fun r er => ⟨fun q => hQ _ ?_, fun q => mnb hT h i_1 (by decide) (by decide) b_15 (by decide) (fun r3 e3 => hQ r3 ?_)⟩))
  · rw [er] at q
    rw [L.2 q]
    exact i_m1
  · rw [er] at q
    rw [L.1 (Classical.not_not.mp q)]
    exact e3
theorem mac {w : MW} {f : Int → Int} {n : Int} {W i : Nat} {Q : Int32 → MW → Prop} (hT : TXW f n W) (h : MS w f n W i) (hQ : ∀ r : Int32, r.toInt = actw f n i → Q r w) : p_Mr_act0 w Q := by
  unfold actw at hQ
  have L := ltq (f := f) (n := n) (i := i) (c := 97) (m := 31) (by decide)
  refine Eq.mpr (p_Mr_act0.eq_1 _ _) (mat hT h i_0 (by decide) (by decide) (fun r er => ⟨fun q => hQ _ ?_, fun q => mnb hT h i_1 (by decide) (by decide) b_31 (by decide) (fun r3 e3 => hQ r3 ?_)⟩))
  · rw [er] at q
    rw [L.2 q]
    exact i_m1
  · rw [er] at q
    rw [L.1 (Classical.not_not.mp q)]
    exact e3
/-! nodes, trees in postorder -/
theorem b_3000 : ((3000 : Int32)).toInt = 3000 := by decide
def lnd : Pl := [(147, some 11), (151, none), (152, none), (153, none)]
/-- w' is w with node N made at x -/
def ND (w w' : MW) (H : Int) (N : Nat) (x a b c : Int32) : Prop := x.toInt = 3000 * (1 - H) + (N : Int) ∧ (w'.1 147 11).toInt = ((N + 1 : Nat) : Int) ∧ FR lnd w w' ∧ (∀ (p j : Nat), (p = 151 ∨ p = 152 ∨ p = 153) → ¬ (j : Int) = 3000 * (1 - H) + (N : Int) → w'.1 p j = w.1 p j) ∧ w'.1 151 x.toInt.toNat = a ∧ w'.1 152 x.toInt.toNat = b ∧ w'.1 153 x.toInt.toNat = c
theorem mnd {w : MW} {H : Int} {N : Nat} {a b c : Int32} {Q : Int32 → MW → Prop} (hH : (w.1 147 12).toInt = H) (h01 : H = 0 ∨ H = 1) (hN : (w.1 147 11).toInt = (N : Int)) (N1 : N < 3000) (hQ : ∀ (x : Int32) (w' : MW), ND w w' H N x a b c → Q x w') : p_Mr_node w a b c Q := by
  have e1 := ti_sub2 i_1 hH (by omega) (by omega)
  have e2 := ti_mul2 b_3000 e1 (by omega) (by omega)
  have e3 := ti_add2 e2 hN (by omega) (by omega)
  have e4 := ti_add2 hN i_1 (by omega) (by omega)
  have bb : 0 ≤ (((3000 : Int32) * ((1 : Int32) - (w.1 147 12))) + (w.1 147 11)).toInt ∧ (((3000 : Int32) * ((1 : Int32) - (w.1 147 12))) + (w.1 147 11)).toInt < 6000 := by rw [e3]; omega
  refine Eq.mpr (p_Mr_node.eq_1 _ _ _ _ _) ⟨bb, bb, bb, hQ _ _ ⟨e3, ?_, FR.I (FR.I (FR.I (FR.I (FR.refl _ w) rfl) rfl) rfl) rfl, fun p j hp hj => ?_, ?_, ?_, ?_⟩⟩
  · rw [sI_same, e4]
    omega
  · have hq : j ≠ (((3000 : Int32) * ((1 : Int32) - (w.1 147 12))) + (w.1 147 11)).toInt.toNat := fun z => by
      rw [e3] at z
      omega
    rcases hp with rfl | rfl | rfl
    · rw [sI_oth _ _ _ _ _ _ (by decide), sI_oth _ _ _ _ _ _ (by decide), sI_oth _ _ _ _ _ _ (by decide), sI_ne _ _ _ _ _ hq]
    · rw [sI_oth _ _ _ _ _ _ (by decide), sI_oth _ _ _ _ _ _ (by decide), sI_ne _ _ _ _ _ hq, sI_oth _ _ _ _ _ _ (by decide)]
    · rw [sI_oth _ _ _ _ _ _ (by decide), sI_ne _ _ _ _ _ hq, sI_oth _ _ _ _ _ _ (by decide), sI_oth _ _ _ _ _ _ (by decide)]
  · rw [sI_oth _ _ _ _ _ _ (by decide), sI_oth _ _ _ _ _ _ (by decide), sI_oth _ _ _ _ _ _ (by decide), sI_same]
  · rw [sI_oth _ _ _ _ _ _ (by decide), sI_oth _ _ _ _ _ _ (by decide), sI_same]
  · rw [sI_oth _ _ _ _ _ _ (by decide), sI_same]
/-- the tree at node x, read in postorder; its nodes lie from lo to x -/
def TRe (w : MW) (lo : Int) : Nat → Int → List Int → Prop
  | 0, _, _ => False
  | k + 1, x, l => lo ≤ x ∧ ((0 ≤ (w.1 151 x.toNat).toInt ∧ (w.1 151 x.toNat).toInt ≤ 15 ∧ l = [(w.1 151 x.toNat).toInt]) ∨ ((w.1 151 x.toNat).toInt = 16 ∧ (w.1 152 x.toNat).toInt < x ∧ ∃ l1, TRe w lo k (w.1 152 x.toNat).toInt l1 ∧ l = l1 ++ [16]) ∨ (((w.1 151 x.toNat).toInt = 17 ∨ (w.1 151 x.toNat).toInt = 18) ∧ (w.1 152 x.toNat).toInt < x ∧ (w.1 153 x.toNat).toInt < x ∧ ∃ l1 l2, TRe w lo k (w.1 152 x.toNat).toInt l1 ∧ TRe w lo k (w.1 153 x.toNat).toInt l2 ∧ l = l1 ++ l2 ++ [(w.1 151 x.toNat).toInt]))
theorem TRe_u (w : MW) (lo : Int) (k : Nat) (x : Int) (l : List Int) : TRe w lo (k + 1) x l = (lo ≤ x ∧ ((0 ≤ (w.1 151 x.toNat).toInt ∧ (w.1 151 x.toNat).toInt ≤ 15 ∧ l = [(w.1 151 x.toNat).toInt]) ∨ ((w.1 151 x.toNat).toInt = 16 ∧ (w.1 152 x.toNat).toInt < x ∧ ∃ l1, TRe w lo k (w.1 152 x.toNat).toInt l1 ∧ l = l1 ++ [16]) ∨ (((w.1 151 x.toNat).toInt = 17 ∨ (w.1 151 x.toNat).toInt = 18) ∧ (w.1 152 x.toNat).toInt < x ∧ (w.1 153 x.toNat).toInt < x ∧ ∃ l1 l2, TRe w lo k (w.1 152 x.toNat).toInt l1 ∧ TRe w lo k (w.1 153 x.toNat).toInt l2 ∧ l = l1 ++ l2 ++ [(w.1 151 x.toNat).toInt]))) := rfl
theorem tr_lo {w : MW} {lo : Int} {k : Nat} {x : Int} {l : List Int} (h : TRe w lo k x l) : lo ≤ x := by
  cases k with
  | zero => exact False.elim h
  | succ k =>
    rw [TRe_u] at h
    exact h.1
theorem tr_fr {w w' : MW} {lo : Int} : ∀ (k : Nat) (x : Int) (l : List Int), TRe w lo k x l → (∀ (c j : Nat), (c = 151 ∨ c = 152 ∨ c = 153) → lo ≤ (j : Int) → (j : Int) ≤ x → w'.1 c j = w.1 c j) → 0 ≤ lo → TRe w' lo k x l := by
  intro k
  induction k with
  | zero => exact fun x l h _ _ => h
  | succ k ih =>
    intro x l h hf h0
    rw [TRe_u] at h ⊢
    have hx := h.1
    have e1 := hf 151 x.toNat (Or.inl rfl) (by omega) (by omega)
    have e2 := hf 152 x.toNat (Or.inr (Or.inl rfl)) (by omega) (by omega)
    have e3 := hf 153 x.toNat (Or.inr (Or.inr rfl)) (by omega) (by omega)
    rw [e1, e2, e3]
    refine ⟨hx, ?_⟩
    rcases h.2 with h | ⟨a, b, l1, h1, el⟩ | ⟨a, b, c, l1, l2, h1, h2, el⟩
    · exact Or.inl h
    · exact Or.inr (Or.inl ⟨a, b, l1, ih _ _ h1 (fun c j hc j0 j1 => hf c j hc j0 (by omega)) h0, el⟩)
    · exact Or.inr (Or.inr ⟨a, b, c, l1, l2, ih _ _ h1 (fun c j hc j0 j1 => hf c j hc j0 (by omega)) h0, ih _ _ h2 (fun c j hc j0 j1 => hf c j hc j0 (by omega)) h0, el⟩)
theorem tr_s {w : MW} {lo : Int} : ∀ (k : Nat) (x : Int) (l : List Int), TRe w lo k x l → TRe w lo (k + 1) x l := by
  intro k
  induction k with
  | zero => exact fun x l h => False.elim h
  | succ k ih =>
    intro x l h
    rw [TRe_u] at h ⊢
    refine ⟨h.1, ?_⟩
    rcases h.2 with h | ⟨a, b, l1, h1, el⟩ | ⟨a, b, c, l1, l2, h1, h2, el⟩
    · exact Or.inl h
    · exact Or.inr (Or.inl ⟨a, b, l1, ih _ _ h1, el⟩)
    · exact Or.inr (Or.inr ⟨a, b, c, l1, l2, ih _ _ h1, ih _ _ h2, el⟩)
theorem tr_le {w : MW} {lo : Int} {k k' : Nat} {x : Int} {l : List Int} (h : TRe w lo k x l) (hk : k ≤ k') : TRe w lo k' x l := by
  induction hk with
  | refl => exact h
  | step _ ih => exact tr_s _ _ _ ih
theorem tr_low {w : MW} {lo lo' : Int} (hl : lo' ≤ lo) : ∀ (k : Nat) (x : Int) (l : List Int), TRe w lo k x l → TRe w lo' k x l := by
  intro k
  induction k with
  | zero => exact fun x l h => h
  | succ k ih =>
    intro x l h
    rw [TRe_u] at h ⊢
    refine ⟨by have := h.1; omega, ?_⟩
    rcases h.2 with h | ⟨a, b, l1, h1, el⟩ | ⟨a, b, c, l1, l2, h1, h2, el⟩
    · exact Or.inl h
    · exact Or.inr (Or.inl ⟨a, b, l1, ih _ _ h1, el⟩)
    · exact Or.inr (Or.inr ⟨a, b, c, l1, l2, ih _ _ h1, ih _ _ h2, el⟩)
