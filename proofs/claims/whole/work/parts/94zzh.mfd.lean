/-! the reference's find, all of it -/
theorem pt_209n {E E' : MW → Prop} {Q Q' : Int32 → MW → Prop} (m : Nat) (w : MW) (h : q_Mo_find_209 E Q m (-1) w) (k : E w → E' w) : q_Mo_find_209 E' Q' m (-1) w := by
  cases m with
  | zero => exact False.elim h
  | succ m =>
    rw [q_Mo_find_209.eq_2] at h ⊢
    exact ⟨fun c => k (h.1 c), fun c => absurd m1_i c⟩
theorem bf_78 {z : MW} {x1 : Int32} {E E' : MW → Prop} {Q Q' : Int32 → MW → Prop} (k : ∀ w, oM z w → (∀ j, ¬ j = 192 → ∀ i, w.1 j i = z.1 j i) → (∀ t : Nat, t < 20 → (w.1 192 t).toInt = -1) → E w → E' w) : ∀ (m : Nat) (t : Int32) (w : MW), q_Mo_find_78 x1 E Q m t w → 0 ≤ t.toInt → t.toInt ≤ 20 → oM z w → (∀ j, ¬ j = 192 → ∀ i, w.1 j i = z.1 j i) → (∀ t' : Nat, (t' : Int) < t.toInt → (w.1 192 t').toInt = -1) → q_Mo_find_78 x1 E' Q' m t w := by
  intro m
  induction m with
  | zero => exact fun _ _ h _ _ _ _ _ => False.elim h
  | succ m ih =>
    intro t w h t0 t20 o sm inv
    rw [q_Mo_find_78.eq_2] at h ⊢
    refine ⟨fun c => k w o sm (fun t' ht' => inv t' (by omega)) (h.1 c), fun c => ⟨(h.2 c).1, ?_⟩⟩
    have et := ti_add2 (Eq.refl t.toInt) i_1 (by omega) (by omega)
    refine ih _ _ (h.2 c).2 (by omega) (by omega) (oM_I o rfl _) (fun j hj i => ?_) (fun t' ht' => ?_)
    · rw [sI_oth _ _ _ _ _ _ hj]
      exact sm j hj i
    · rw [sI_if]
      by_cases q : t' = t.toInt.toNat
      · rw [if_pos q]
        exact m1_i
      · rw [if_neg q]
        exact inv t' (by omega)
theorem MZb_c {z w : MW} (h : w.1 = z.1) (hz : MZb z) : MZb w := by
  have e1 : tM w = tM z := by
    unfold tM
    rw [h]
  have e2 : pM w = pM z := by
    unfold pM
    rw [h]
  have e3 : HP w := by
    intro k t hk ht n1 k2
    rw [e1] at ht
    rw [h] at hk n1 k2 ⊢
    exact hz.2.2.2.2.2.1 k t hk ht n1 k2
  unfold MZb
  rw [e1, e2, atM_c h, h]
  exact ⟨hz.1, hz.2.1, hz.2.2.1, hz.2.2.2.1, hz.2.2.2.2.1, e3, hz.2.2.2.2.2.2⟩
/-- what the reference has found; z the world with what is busy -/
def FnM (z : MW) (N : Nat) (x y : Int) (r : Int32) (w : MW) : Prop := ∃ LL LP, LxF N (szM z) (ADm z) (BsM z y) LL LP ∧ (∀ e, e < N → LL e ≤ 9600) ∧ ((r = 0 ∧ (w.1 127 39).toInt = 0 ∧ ∀ e, e < N → atM z e = x → LL e = -1) ∨ (r = 1 ∧ ∃ (e0 m : Nat) (es : List Nat), Pst N (atM z) LL LP x e0 ∧ Pth N (szM z) (ADm z) LL LP m e0 es ∧ LP e0 = es.length ∧ es.length ≤ 24 ∧ 1 ≤ es.length ∧ (w.1 127 39).toInt = es.length ∧ (∀ i v, es[i]? = some v → w.1 191 i = nI v) ∧ WnL z es w))
theorem pth_1 {N : Nat} {sz : Nat → Int} {AD : Nat → Nat → Prop} {LL LP : Nat → Int} {m e : Nat} {es : List Nat} (h : Pth N sz AD LL LP m e es) : 1 ≤ es.length := by
  cases m with
  | zero => exact False.elim h
  | succ m =>
    rcases h with ⟨_, h⟩ | ⟨_, g, rest, _, _, _, _, _, h, _⟩
    · rw [h]
      exact Nat.le_refl _
    · rw [h]
      exact Nat.le_add_left _ _
theorem mfd_x {z0 : MW} {x y : Int32} {Q Q' : Int32 → MW → Prop} (h : p_Mo_find z0 x y Q) (hz0 : MZb z0) (tk : tkM z0 y.toInt) (h186 : ∀ j, 0 ≤ (z0.1 186 j).toInt ∧ (z0.1 186 j).toInt < 48) (h185 : ∀ k, (z0.1 185 k).toInt ≤ 24) (k : ∀ r z w, oB z0 z → (∀ p, lb (z.2.1 127 40) p = true ↔ onW z0 p) → oM z w → FnM z (NNd z0) x.toInt y.toInt r w → Q r w → Q' r w) : p_Mo_find z0 x y Q' := by
  have N0 := m_2P hz0 (oM_r z0)
  rw [p_Mo_find.eq_1] at h ⊢
  have ob : oB z0 (sJ z0 127 40 0) := oB_s ⟨rfl, rfl, fun _ _ _ => rfl⟩ 0
  refine bf_7 hz0.2.2.1 h186 h185 (fun z o b g => ?_) _ _ _ h (by decide) ob (fun p => ?_)
  case refine_2 =>
    rw [sJ_same, lb_0]
    constructor
    · intro q
      cases q
    · intro q
      obtain ⟨k', i, q, _⟩ := q
      rw [i_0] at q
      omega
  case refine_1 =>
    have hz := MZb_c o.1 hz0
    have eN : NNd z = NNd z0 := by
      unfold NNd pM
      rw [o.1]
    refine mx_x g (by rw [tkM_c o.1]; exact tk) hz (fun w o1 lx hl g1 => ?_)
    rw [eN] at lx hl
    have nP : ((NNd z0 : Nat) : Int) = 2 * pM z := by
      rw [N0.2.1]
      unfold pM
      rw [o.1]
    refine bf_78 (z := sI w 127 39 0) (fun w2 o2 sm w192 g2 => ?_) _ _ _ g1 (by decide) (by decide) (oM_r _) (fun _ _ _ => rfl) (fun t' ht' => by rw [i_0] at ht'; omega)
    have o2z : oM z w2 := by
      refine ⟨o2.1.trans o1.1, fun a b hab => ?_⟩
      rw [o2.2 a b hab, sI_at, if_neg (fun e => by rw [e.1, e.2] at hab; cases hab)]
      exact o1.2 a b hab
    have eL : LLw w2 = LLw w := by
      funext j
      unfold LLw
      rw [sm 188 (by decide), sI_oth _ _ _ _ _ _ (by decide)]
    have eP : LPw w2 = LPw w := by
      funext j
      unfold LPw
      rw [sm 189 (by decide), sI_oth _ _ _ _ _ _ (by decide)]
    have e39 : (w2.1 127 39).toInt = 0 := by
      rw [sm 127 (by decide), sI_same]
      exact i_0
    have eA : atM w2 = atM z := by
      funext j
      unfold atM
      rw [o2z.2 170 j rfl]
    have n2 : ((2 : Int32) * (w2.1 127 11)).toInt = NNd z0 := by
      rw [o2z.2 127 11 rfl, nP]
      exact ti_mul2 (by decide) rfl (by omega) (by omega)
    refine bs_102 n2 N0.2.2 (fun r hr g3 => ?_) _ _ _ g2 (by decide) (by rw [i_0]; omega) (Or.inl ⟨rfl, fun e he => by rw [i_0] at he; omega⟩)
    rw [eA, eL, eP] at hr
    rcases hr with ⟨er, no⟩ | ⟨r0, ps⟩
    · rw [er] at g3 ⊢
      refine pt_209n _ _ g3 (fun g4 => ⟨fun c => k 0 z w2 o b o2z ⟨LLw w, LPw w, lx, hl, Or.inl ⟨rfl, e39, no⟩⟩ (g4.1 c), fun c => by omega⟩)
    · have n0 := N0.2.2
      refine pt_209 (x := x.toInt) (e0 := r.toInt.toNat) hz lx hl N0.2.2 nP (fun w3 pt g4 => ?_) _ _ _ g3 ⟨o2z, eL, eP, [], by rw [e39]; rfl, (fun i v hv => by cases hv), Or.inr ⟨r0, by have := ps.1; omega, fun t ht => Or.inl ⟨w192 t ht, fun i a c h1 h2 => ?_⟩, ps.2.2.1, by simp, fun rest m pr => ⟨m, pr⟩⟩⟩
      · obtain ⟨o3, _, _, pre, p1, p2, p3⟩ := pt
        rcases p3 with ⟨_, wn, l24, m, pr, lp⟩ | ⟨q0, _⟩
        · have l1 := pth_1 pr
          refine ⟨fun c => by omega, fun c => k 1 z w3 o b o3 ⟨LLw w, LPw w, lx, hl, Or.inr ⟨rfl, r.toInt.toNat, m, pre, ps, pr, lp, l24, l1, p1, p2, wn⟩⟩ (g4.2 c)⟩
        · exact absurd q0 (by decide)
      · rw [List.nil_append] at h2
        cases h2
