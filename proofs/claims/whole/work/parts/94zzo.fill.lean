/-! fill answers alike -/
/-- isSafe leaves all but its own cells -/
def oSf (w w' : MW) : Prop := (∀ c j, ¬ c = 42 → ¬ c = 44 → w'.1 c j = w.1 c j) ∧ (∀ c j, ¬ c = 43 → ¬ c = 45 → ¬ c = 46 → w'.2.1 c j = w.2.1 c j) ∧ w'.2.2 = w.2.2
theorem sc_y {w : MW} {Q Q' : Int32 → MW → Prop} (h : p_Sf_isSafe w Q) (ms : MSy w) (hx : PX w) (hy : PY w) (hb : PB w) (h28 : ∀ k : Nat, k < 24 → 0 ≤ (w.1 28 k).toInt ∧ (w.1 28 k).toInt < 20) (s44 : ∀ l y, l < 15 → SrC w l y → y < 44) (k : ∀ r w', SfC w r w' → oSf w w' → Q r w' → Q' r w') : p_Sf_isSafe w Q' := by
  rw [p_Sf_isSafe.eq_1, p_Ar_fill1_43.eq_1] at h ⊢
  refine f43 (fun w1 o1 z1 g1 => ?_) _ _ _ h (by decide) (oJ_r _ _) (fun j hj => by rw [i_0] at hj; omega)
  have a1 : ∀ c j, ¬ c = 42 → w1.1 c j = w.1 c j := fun c j hc => by rw [o1.1, sI_oth _ _ _ _ _ _ hc]
  have a1' : ∀ c j, ¬ c = 42 → ¬ c = 44 → w1.1 c j = w.1 c j := fun c j hc _ => a1 c j hc
  have t1 : tC w1 = tC w := by
    unfold tC
    rw [a1 8 0 (by decide)]
  refine as_x g1 (by rw [t1]; exact hb.1.1) (by rw [t1]; exact hb.1.2) (fun k hk => by rw [a1 28 k (by decide)]; exact h28 k hk) (fun w2 o2 b2 g2 => ?_)
  have a2 : ∀ c j, ¬ c = 42 → w2.1 c j = w.1 c j := fun c j hc => by rw [o2.1]; exact a1 c j hc
  have a2' : ∀ c j, ¬ c = 42 → ¬ c = 44 → w2.1 c j = w.1 c j := fun c j hc _ => a2 c j hc
  have t2 : tC w2 = tC w := by
    unfold tC
    rw [a2 8 0 (by decide)]
  have p2 : pC w2 = pC w := by
    unfold pC
    rw [a2 8 1 (by decide)]
  refine fr_x g2 (by rw [t2]; exact hb.1.1) (by rw [t2]; exact hb.1.2) (by rw [p2]; exact hb.2.1.1) (by rw [p2]; exact hb.2.1.2) (fun r3 w2b w3 o2b b2b o3 rv3 z3 g3 => ?_)
  have r : RDY w w3 := by
    refine ⟨fun c j h1 h2 => ?_, fun l y hl => ?_, fun l a l0 l1 ha => ?_⟩
    · rw [o3.2 c j h2, o2b.1]
      exact a2 c j h1
    · unfold S43
      rw [show w3.2.1 43 l = w2b.2.1 43 l by rw [o3.1], b2b l y, b2 l y, z1 l hl, lb_0, (srC_c a1' l y).1, (srC_c a2' l y).2]
      unfold SrC
      constructor
      · intro q
        rcases q with (q | q) | q
        · cases q
        · exact Or.inl q
        · exact Or.inr q
      · intro q
        rcases q with q | q
        · exact Or.inl (Or.inr q)
        · exact Or.inr q
    · rw [rv3 l a l0 l1 ha]
      unfold RvS
      rw [o3.1, o3.2 22 l (by decide)]
  have f6 : (w3.1 42 6).toInt = 0 := by
    rw [o3.2 42 6 (by decide), o2b.1, o2.1, o1.1, sI_same]
    exact i_0
  have l3 : ∀ c j, ¬ c = 43 → w3.2.1 c j = w.2.1 c j := fun c j hc => by
    rw [o3.1, o2b.2.2 c j hc, o2.2.2 c j hc, o1.2.2 c j hc]
    rfl
  have r3 : w3.2.2 = w.2.2 := by
    rw [o3.1, o2b.2.1, o2.2.1, o1.2.1]
    rfl
  have fin3 : ∀ w', o57 w3 w' → oSf w w' := fun w' o => ⟨fun c j h1 h2 => by rw [o.1 c j h1]; exact r.1 c j h1 h2, fun c j h1 h2 h3 => by rw [o.2.1 c j h2 h3]; exact l3 c j h1, by rw [o.2.2.1]; exact r3⟩
  have fin4 : ∀ (w' : MW) (f : Int32), o57 w3 w' → oSf w (sI w' 42 6 f) := fun w' f o => ⟨fun c j h1 h2 => by rw [sI_oth _ _ _ _ _ _ h1]; exact (fin3 w' o).1 c j h1 h2, (fin3 w' o).2.1, (fin3 w' o).2.2⟩
  refine ⟨fun c => lm_x (g3.1 c) r (o57_r _) ms hx hb dgo_0 s44 (fun w6 o6 cl g6 => ⟨fun z => sc_57 r ms hx hy hb s44 cl (fun w' o' all g' => k 1 w' (Or.inl ⟨rfl, by rw [o'.2.2.2]; exact f6, cl, all⟩) (fin3 w' o') g') (fun w' f o' n7 n8 n9 fb g' => k 0 _ (Or.inr ⟨rfl, ?_⟩) (fin4 w' f o') g') _ _ _ _ (g6.1 z) (by decide) o6 (fun t p _ hl => by rw [i_0] at hl; omega) (Or.inl (by decide)), fun z => absurd i_0 z⟩) (fun w6 o6 n7 n8 n9 lbc g6 => ⟨fun z => absurd z (by decide), fun z => k 0 _ (Or.inr ⟨rfl, ?_⟩) (fin4 w6 1 o6) (g6.2 z)⟩), fun c => k 1 w3 (Or.inl ⟨rfl, f6, ?_, ?_⟩) (fin3 w3 (o57_r _)) (g3.2 c)⟩
  · rw [sI_ne _ _ _ _ _ (show (7 : Nat) ≠ 6 by decide), sI_ne _ _ _ _ _ (show (8 : Nat) ≠ 6 by decide), sI_ne _ _ _ _ _ (show (9 : Nat) ≠ 6 by decide), sI_same]
    exact ⟨n7, n8, n9, fb⟩
  · rw [sI_ne _ _ _ _ _ (show (7 : Nat) ≠ 6 by decide), sI_ne _ _ _ _ _ (show (8 : Nat) ≠ 6 by decide), sI_ne _ _ _ _ _ (show (9 : Nat) ≠ 6 by decide), sI_same]
    exact ⟨n7, n8, n9, Or.inl ⟨i_1, lbc⟩⟩
  · have none : ∀ v ps : Int32, clC w v ps := fun v ps x a b q => by
      have s := (rv_src r ms q.2.1 q.2.2.1 q.2.2.2.1).mpr ⟨rea_s q.2.2.2.2.1, rea_s q.2.2.2.2.2.1, q.2.2.2.2.2.2⟩
      exact mb_nz s (z3.mp (Classical.not_not.mp c) b (by have := q.2.1; have := q.2.2.1; omega) q.2.2.2.1)
    exact none _ _
  · intro t p _ x a b q
    have s := (rv_src r ms q.2.1 q.2.2.1 q.2.2.2.1).mpr ⟨rea_s q.2.2.2.2.1, rea_s q.2.2.2.2.2.1, q.2.2.2.2.2.2⟩
    exact mb_nz s (z3.mp (Classical.not_not.mp c) b (by have := q.2.1; have := q.2.2.1; omega) q.2.2.2.1)
theorem fc_2 {z : MW} {a : Int32} {E E' Q Q' : MW → Prop} (a0 : 0 ≤ a.toInt) (a1 : a.toInt < 44) (k : ∀ w', oI 23 z w' → (∀ j, w'.1 23 j = if 6 * a.toInt.toNat + 1 ≤ j ∧ j ≤ 6 * a.toInt.toNat + 5 then -1 else z.1 23 j) → E w' → E' w') : ∀ (m : Nat) (l : Int32) (w : MW), q_St_forgetCleanings_2 a E Q m l w → 1 ≤ l.toInt → l.toInt ≤ 6 → oI 23 z w → (∀ j : Nat, w.1 23 j = if 6 * a.toInt.toNat + 1 ≤ j ∧ (j : Int) < 6 * a.toInt.toNat + l.toInt then -1 else z.1 23 j) → q_St_forgetCleanings_2 a E' Q' m l w := by
  intro m
  induction m with
  | zero => exact fun _ _ h _ _ _ _ => False.elim h
  | succ m ih =>
    intro l w h l0 l6 o inv
    rw [q_St_forgetCleanings_2.eq_2] at h ⊢
    refine ⟨fun c => k w o (fun j => ?_) (h.1 c), fun c => ⟨(h.2 c).1, ?_⟩⟩
    · rw [inv j]
      by_cases q : 6 * a.toInt.toNat + 1 ≤ j ∧ j ≤ 6 * a.toInt.toNat + 5
      · rw [if_pos q, if_pos ⟨q.1, by omega⟩]
      · rw [if_neg q, if_neg (fun z2 => q ⟨z2.1, by omega⟩)]
    · have el := ti_add2 (Eq.refl l.toInt) i_1 (by omega) (by omega)
      have m1 := ti_mul2 (Eq.refl a.toInt) (by decide : ((6 : Int32)).toInt = 6) (by omega) (by omega)
      have m2 := ti_add2 m1 (Eq.refl l.toInt) (by omega) (by omega)
      have m3 : ((a * (6 : Int32)) + l).toInt.toNat = 6 * a.toInt.toNat + l.toInt.toNat := by omega
      have H := (h.2 c).2
      rw [m3] at H ⊢
      refine ih _ _ H (by omega) (by omega) ⟨o.1, fun c' j hc => by rw [sI_oth _ _ _ _ _ _ hc]; exact o.2 c' j hc⟩ (fun j => ?_)
      rw [sI_if]
      by_cases q : j = 6 * a.toInt.toNat + l.toInt.toNat
      · rw [if_pos q, if_pos ⟨by omega, by omega⟩]
      · rw [if_neg q, inv j]
        by_cases q2 : 6 * a.toInt.toNat + 1 ≤ j ∧ (j : Int) < 6 * a.toInt.toNat + l.toInt
        · rw [if_pos q2, if_pos ⟨q2.1, by omega⟩]
        · rw [if_neg q2, if_neg (fun z2 => q2 ⟨z2.1, by omega⟩)]
theorem fc_x {w : MW} {a : Int32} {Q Q' : MW → Prop} (h : p_St_forgetCleanings w a Q) (a0 : 0 ≤ a.toInt) (a1 : a.toInt < 44) (k : ∀ w', oI 23 w w' → (∀ j, w'.1 23 j = if 6 * a.toInt.toNat + 1 ≤ j ∧ j ≤ 6 * a.toInt.toNat + 5 then -1 else w.1 23 j) → Q w' → Q' w') : p_St_forgetCleanings w a Q' := by
  rw [p_St_forgetCleanings.eq_1] at h ⊢
  exact fc_2 a0 a1 k _ _ _ h (by decide) (by decide) ⟨rfl, fun _ _ _ => rfl⟩ (fun j => by rw [if_neg (fun z => by have := z.1; have := z.2; rw [i_1] at this; omega)])
/-- liquid b comes into space a, n litres -/
def ArS (w w' : MW) (a : Nat) (b n : Int32) : Prop := (∀ j, w'.1 17 j = if j = a then b else w.1 17 j) ∧ (∀ j, w'.1 18 j = if j = a then w.1 18 a + n else w.1 18 j) ∧ (∀ j, w'.1 23 j = if (w.1 17 a).toInt = 0 ∧ 6 * a + 1 ≤ j ∧ j ≤ 6 * a + 5 then -1 else w.1 23 j) ∧ (∀ c j, ¬ c = 17 → ¬ c = 18 → ¬ c = 23 → w'.1 c j = w.1 c j) ∧ w'.2 = w.2
theorem ar_x {w : MW} {a b n : Int32} {Q Q' : MW → Prop} (h : p_St_arrive w a b n Q) (k : ∀ w', ArS w w' a.toInt.toNat b n → Q w' → Q' w') : p_St_arrive w a b n Q' := by
  rw [p_St_arrive.eq_1] at h ⊢
  have hh := h.1
  refine ⟨h.1, fun c => ?_, fun c => fc_x (h.2.2 c) (by omega) (by omega) (fun w' o e g => ?_)⟩
  · have H := h.2.1 c
    rw [q_St_arrive_14.eq_1] at H ⊢
    refine ⟨H.1, H.2.1, H.2.2.1, k _ ⟨fun j => ?_, fun j => ?_, fun j => ?_, fun c' j h1 h2 h3 => ?_, rfl⟩ H.2.2.2⟩
    · rw [sI_oth _ _ _ _ _ _ (by decide), sI_if]
    · rw [sI_if]
      by_cases q : j = a.toInt.toNat
      · rw [if_pos q, if_pos q]
      · rw [if_neg q, if_neg q, sI_oth _ _ _ _ _ _ (by decide)]
    · rw [sI_oth _ _ _ _ _ _ (by decide), sI_oth _ _ _ _ _ _ (by decide), if_neg (fun z => c z.1)]
    · rw [sI_oth _ _ _ _ _ _ h2, sI_oth _ _ _ _ _ _ h1]
  · have c' := Classical.not_not.mp c
    rw [q_St_arrive_14.eq_1] at g ⊢
    refine ⟨g.1, g.2.1, g.2.2.1, k _ ⟨fun j => ?_, fun j => ?_, fun j => ?_, fun c2 j h1 h2 h3 => ?_, o.1⟩ g.2.2.2⟩
    · rw [sI_oth _ _ _ _ _ _ (by decide), sI_if, o.2 17 j (by decide)]
    · rw [sI_if, o.2 18 _ (by decide)]
      by_cases q : j = a.toInt.toNat
      · rw [if_pos q, if_pos q]
      · rw [if_neg q, if_neg q, sI_oth _ _ _ _ _ _ (by decide), o.2 18 j (by decide)]
    · rw [sI_oth _ _ _ _ _ _ (by decide), sI_oth _ _ _ _ _ _ (by decide), e j]
      by_cases q : 6 * a.toInt.toNat + 1 ≤ j ∧ j ≤ 6 * a.toInt.toNat + 5
      · rw [if_pos q, if_pos ⟨c', q⟩]
      · rw [if_neg q, if_neg (fun z => q z.2)]
    · rw [sI_oth _ _ _ _ _ _ h2, sI_oth _ _ _ _ _ _ h1]
      exact o.2 c2 j h3
theorem ctk_x {w : MW} {a : Int32} {Q Q' : Int32 → MW → Prop} (h : p_St_isTank w a Q) (k : ∀ r : Int32, (r = 1 ∧ 0 ≤ a.toInt ∧ a.toInt < tC w ∧ tkC w a.toInt) ∨ (r = 0 ∧ ¬ (0 ≤ a.toInt ∧ a.toInt < tC w ∧ tkC w a.toInt)) → Q r w → Q' r w) : p_St_isTank w a Q' := by
  rw [p_St_isTank.eq_1] at h ⊢
  refine ⟨fun c => k 0 (Or.inr ⟨rfl, fun z => by have := z.1; omega⟩) (h.1 c), fun c => ⟨(h.2 c).1, fun d => k 0 (Or.inr ⟨rfl, fun z => by have := z.2.1; unfold tC at this; omega⟩) ((h.2 c).2.1 d), fun d => ⟨((h.2 c).2.2 d).1, ((h.2 c).2.2 d).2.1, fun e => k 0 (Or.inr ⟨rfl, fun z => e z.2.2⟩) (((h.2 c).2.2 d).2.2.1 e), fun e => k 1 (Or.inl ⟨rfl, by omega, by unfold tC; omega, Classical.not_not.mp e⟩) (((h.2 c).2.2 d).2.2.2 e)⟩⟩⟩
theorem mtk_x {w : MW} {a : Int32} {Q Q' : Int32 → MW → Prop} (h : p_Mo_isTank w a Q) (k : ∀ r : Int32, (r = 1 ∧ 0 ≤ a.toInt ∧ a.toInt < tM w ∧ tkM w a.toInt) ∨ (r = 0 ∧ ¬ (0 ≤ a.toInt ∧ a.toInt < tM w ∧ tkM w a.toInt)) → Q r w → Q' r w) : p_Mo_isTank w a Q' := by
  rw [p_Mo_isTank.eq_1, p_Mo_isThing.eq_1] at h ⊢
  refine ⟨fun c => ⟨fun _ => k 0 (Or.inr ⟨rfl, fun z => by have := z.1; omega⟩) ((h.1 c).1 i_0), fun z => absurd i_0 z⟩, fun c => ⟨fun d => ⟨fun _ => k 0 (Or.inr ⟨rfl, fun z => by have := z.2.1; unfold tM at this; omega⟩) (((h.2 c).1 d).1 i_0), fun z => absurd i_0 z⟩, fun d => ⟨fun z => absurd z (by decide), fun z => ?_⟩⟩⟩
  have H := ((h.2 c).2 d).2 z
  exact ⟨H.1, fun e => k 0 (Or.inr ⟨rfl, fun z2 => e z2.2.2⟩) (H.2.1 e), fun e => k 1 (Or.inl ⟨rfl, by omega, by unfold tM; omega, Classical.not_not.mp e⟩) (H.2.2 e)⟩
theorem fm_2 {z : MW} {a : Int32} {E E' Q Q' : MW → Prop} (a0 : 0 ≤ a.toInt) (a1 : a.toInt < 44) (k : ∀ w', oI 174 z w' → (∀ j, w'.1 174 j = if 6 * a.toInt.toNat ≤ j ∧ j < 6 * a.toInt.toNat + 6 then -1 else z.1 174 j) → E w' → E' w') : ∀ (m : Nat) (l : Int32) (w : MW), q_Mo_forget_2 a E Q m l w → 0 ≤ l.toInt → l.toInt ≤ 6 → oI 174 z w → (∀ j : Nat, w.1 174 j = if 6 * a.toInt.toNat ≤ j ∧ (j : Int) < 6 * a.toInt.toNat + l.toInt then -1 else z.1 174 j) → q_Mo_forget_2 a E' Q' m l w := by
  intro m
  induction m with
  | zero => exact fun _ _ h _ _ _ _ => False.elim h
  | succ m ih =>
    intro l w h l0 l6 o inv
    rw [q_Mo_forget_2.eq_2] at h ⊢
    refine ⟨fun c => k w o (fun j => ?_) (h.1 c), fun c => ⟨(h.2 c).1, ?_⟩⟩
    · rw [inv j]
      by_cases q : 6 * a.toInt.toNat ≤ j ∧ j < 6 * a.toInt.toNat + 6
      · rw [if_pos q, if_pos ⟨q.1, by omega⟩]
      · rw [if_neg q, if_neg (fun z2 => q ⟨z2.1, by omega⟩)]
    · have el := ti_add2 (Eq.refl l.toInt) i_1 (by omega) (by omega)
      have m1 := ti_mul2 (by decide : ((6 : Int32)).toInt = 6) (Eq.refl a.toInt) (by omega) (by omega)
      have m2 := ti_add2 m1 (Eq.refl l.toInt) (by omega) (by omega)
      have m3 : (((6 : Int32) * a) + l).toInt.toNat = 6 * a.toInt.toNat + l.toInt.toNat := by omega
      have H := (h.2 c).2
      rw [m3] at H ⊢
      refine ih _ _ H (by omega) (by omega) ⟨o.1, fun c' j hc => by rw [sI_oth _ _ _ _ _ _ hc]; exact o.2 c' j hc⟩ (fun j => ?_)
      rw [sI_if]
      by_cases q : j = 6 * a.toInt.toNat + l.toInt.toNat
      · rw [if_pos q, if_pos ⟨by omega, by omega⟩]
      · rw [if_neg q, inv j]
        by_cases q2 : 6 * a.toInt.toNat ≤ j ∧ (j : Int) < 6 * a.toInt.toNat + l.toInt
        · rw [if_pos q2, if_pos ⟨q2.1, by omega⟩]
        · rw [if_neg q2, if_neg (fun z2 => q2 ⟨z2.1, by omega⟩)]
theorem fm_x {w : MW} {a : Int32} {Q Q' : MW → Prop} (h : p_Mo_forget w a Q) (a0 : 0 ≤ a.toInt) (a1 : a.toInt < 44) (k : ∀ w', oI 174 w w' → (∀ j, w'.1 174 j = if 6 * a.toInt.toNat ≤ j ∧ j < 6 * a.toInt.toNat + 6 then -1 else w.1 174 j) → Q w' → Q' w') : p_Mo_forget w a Q' := by
  rw [p_Mo_forget.eq_1] at h ⊢
  exact fm_2 a0 a1 k _ _ _ h (by decide) (by decide) ⟨rfl, fun _ _ _ => rfl⟩ (fun j => by rw [if_neg (fun z => by have := z.1; have := z.2; rw [i_0] at this; omega)])
/-- the reference notes what is in a tank -/
theorem no_t {w : MW} {a : Int32} {Q Q' : MW → Prop} (h : p_Mo_note w a Q) (a0 : 0 ≤ a.toInt) (a1 : a.toInt < tM w) (T1 : tM w ≤ 20) (tk : tkM w a.toInt) (lp : 0 < (w.1 165 a.toInt.toNat).toInt) (lq : 0 < (w.1 166 a.toInt.toNat).toInt) (k : ∀ w', (∀ j, w'.1 173 j = if j = a.toInt.toNat then w.1 166 a.toInt.toNat else w.1 173 j) → (∀ j, w'.1 174 j = if 6 * a.toInt.toNat ≤ j ∧ j < 6 * a.toInt.toNat + 6 then -1 else w.1 174 j) → (∀ c j, ¬ c = 173 → ¬ c = 174 → w'.1 c j = w.1 c j) → w'.2 = w.2 → Q w' → Q' w') : p_Mo_note w a Q' := by
  rw [p_Mo_note.eq_1, p_Mo_liquidIn.eq_1] at h ⊢
  have eT : (w.1 127 4).toInt = tM w := rfl
  refine ⟨fun c => by omega, fun c => ?_⟩
  have H := h.2 c
  refine ⟨H.1, fun d => absurd tk d, fun d => ⟨(H.2.2 d).1, fun d2 => by omega, fun d2 => ⟨((H.2.2 d).2.2 d2).1, fun e => by omega, fun e => ?_⟩⟩⟩
  have G := ((H.2.2 d).2.2 d2).2.2 e
  refine ⟨G.1, fm_x G.2 a0 (by omega) (fun w' o e2 g => k w' (fun j => ?_) (fun j => ?_) (fun c' j h1 h2 => ?_) (by rw [o.1]; rfl) g)⟩
  · rw [o.2 173 j (by decide), sI_if]
  · rw [e2 j, sI_oth _ _ _ _ _ _ (by decide)]
  · rw [o.2 c' j h2, sI_oth _ _ _ _ _ _ h1]
