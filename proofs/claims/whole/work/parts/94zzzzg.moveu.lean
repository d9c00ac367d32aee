/-! all ways move, whatever the reference has -/
theorem ft_r {v w : MW} (hr : HRq (mx v w)) : FT w := by
  intro k k0 k1
  have hy := hr.2.2.2
  have nz := w_n hy.1
  have n26 : (w.1 127 26).toInt = nwy (mx v w) := nz.1.symm
  have q : (w.1 182 k.toInt.toNat).toInt < tM w := (hy.1.2.2.2 k.toInt.toNat (by omega)).2.2.2.2.2.1.2.1
  exact q
theorem q12_q {a : Int32} {E E' Q Q' : MW → Prop} (k : ∀ w, E w → E' w) : ∀ (m : Nat) (x : Int32) (w : MW), q_Wa_move_12 a E Q m x w → q_Wa_move_12 a E' Q' m x w := by
  intro m
  induction m with
  | zero => exact fun _ _ h => False.elim h
  | succ m ih =>
    intro x w h
    rw [q_Wa_move_12.eq_2] at h ⊢
    exact ⟨h.1, fun d => k _ (h.2.1 d), fun d => al_p_Wa_movesLitre (I := Unit) () (fun _ => h.2.2 d) (fun r w' q => ⟨fun e => k _ ((q ()).1 e), fun e => ih _ _ ((q ()).2 e)⟩)⟩
/-- what the class left of way a goes with whatever the reference has -/
def MvU (v : MW) (a : Int32) (v1 : MW) : Prop := ∀ w : MW, BND w → HRq (mx v w) → a.toInt < (w.1 127 26).toInt → ∀ R R' : MW → Prop, p_Mo_flow w a R → (∀ w', BND w' → HRq (mx v1 w') → w'.1 127 26 = w.1 127 26 → R w' → R' w') → p_Mo_flow w a R'
theorem mv_u {v : MW} {a : Int32} {E E' Q Q' : MW → Prop} (hv : BND v) (h7 : v.2.2 7 0 = some 8) (a0 : 0 ≤ a.toInt) (a1 : a.toInt ≤ 23) (h : q_Wa_move_12 a E Q FU 0 v) (k : ∀ v1, BND v1 → FR l_Wa_move_12 v v1 → MvU v a v1 → E v1 → E' v1) : q_Wa_move_12 a E' Q' FU 0 v := by
  have hs : q_Wa_move_12 a (fun v1 => BND v1 ∧ FR l_Wa_move_12 v v1) (fun _ => True) FU 0 v := hq_Wa_move_12 FU 0 v hv h7 a0 a1 (by decide) (by decide) (by rw [i_0]; exact fu_lt (by decide)) (fun w' b f => ⟨b, f⟩) (fun _ _ _ _ => trivial)
  have hT : q_Wa_move_12 a E (fun _ => True) FU 0 v := q12_q (fun _ q => q) _ _ _ h
  refine q12_q (E := fun v1 => (E v1 ∧ BND v1 ∧ FR l_Wa_move_12 v v1) ∧ MvU v a v1) (Q := fun _ => True) (fun v1 q => k v1 q.1.2.1 q.1.2.2 q.2 q.1.1) _ _ _ ?_
  have hB : q_Wa_move_12 a (fun v1 => E v1 ∧ BND v1 ∧ FR l_Wa_move_12 v v1) (fun _ => True) FU 0 v := al_q_Wa_move_12 (I := Bool) true (E1 := fun i v1 => if i = true then E v1 else BND v1 ∧ FR l_Wa_move_12 v v1) (Q1 := fun _ _ => True) (fun v1 q => ⟨by have z := q true; rw [if_pos rfl] at z; exact z, by have z := q false; rw [if_neg (by decide)] at z; exact z⟩) (fun _ _ => trivial) _ _ _ (fun i => by
    cases i with
    | true => exact q12_q (fun v1 q => by rw [if_pos rfl]; exact q) _ _ _ hT
    | false => exact q12_q (fun v1 q => by rw [if_neg (by decide)]; exact q) _ _ _ hs)
  refine al_q_Wa_move_12 (I := MW) v (E1 := fun w v1 => (E v1 ∧ BND v1 ∧ FR l_Wa_move_12 v v1) ∧ (BND w → HRq (mx v w) → a.toInt < (w.1 127 26).toInt → ∀ R R' : MW → Prop, p_Mo_flow w a R → (∀ w', BND w' → HRq (mx v1 w') → w'.1 127 26 = w.1 127 26 → R w' → R' w') → p_Mo_flow w a R')) (Q1 := fun _ _ => True) (fun v1 q => ⟨(q v).1, fun w => (q w).2⟩) (fun _ _ => trivial) _ _ _ (fun w => ?_)
  by_cases c : BND w ∧ HRq (mx v w) ∧ a.toInt < (w.1 127 26).toInt
  · refine way_pair hv c.1 c.2.1 a0 c.2.2 hB (fun v' pr g => ⟨g, fun _ _ _ R R' hR kR => ?_⟩)
    have sf : p_Mo_flow w a (fun w' => BND w') := h_Mo_flow c.1 (ft_r c.2.1) a0 a1 c.2.2 (fun w' b _ => b)
    have j : p_Mo_flow w a (fun w' => R w' ∧ BND w') := al_p_Mo_flow (I := Bool) true (Q1 := fun i w' => if i = true then R w' else BND w') (fun i => by
      cases i with
      | true => exact al_p_Mo_flow (I := Unit) () (Q1 := fun _ w' => R w') (fun _ => hR) (fun w' q => by rw [if_pos rfl]; exact q ())
      | false => exact al_p_Mo_flow (I := Unit) () (Q1 := fun _ w' => BND w') (fun _ => sf) (fun w' q => by rw [if_neg (by decide)]; exact q ())) (fun w' q => ⟨by have z := q true; rw [if_pos rfl] at z; exact z, by have z := q false; rw [if_neg (by decide)] at z; exact z⟩)
    exact pr _ _ j (fun w' hq e z => kR w' z.2 hq e z.1)
  · exact q12_q (fun v1 q => ⟨q, fun a' b d => absurd ⟨a', b, d⟩ c⟩) _ _ _ hB
/-- the reference's loop over the ways from x on -/
def MvL (v v' : MW) (x : Int32) : Prop := ∀ w : MW, BND w → HRq (mx v w) → ∀ (y1 y2 : Int32) (E E' : MW → Prop) (Q Q' : Int32 → MW → Prop) (m : Nat), q_Mo_tick_67 y1 y2 E Q m x w → (∀ w', BND w' → HRq (mx v' w') → E w' → E' w') → q_Mo_tick_67 y1 y2 E' Q' m x w
theorem ml_0 {v : MW} {x : Int32} (hx : (v.1 26 1).toInt ≤ x.toInt) : MvL v v x := by
  intro w hw hr y1 y2 E E' Q Q' m h k
  have v26 : v.1 26 1 = w.1 127 26 := hr.2.2.2.1.1
  rw [v26] at hx
  cases m with
  | zero => exact False.elim h
  | succ m =>
    rw [q_Mo_tick_67.eq_2] at h ⊢
    exact ⟨fun c => k w hw hr (h.1 c), fun c => absurd hx c⟩
theorem ml_s {v v1 v' : MW} {x : Int32} (hx : ¬ (v.1 26 1).toInt ≤ x.toInt) (r : MvU v x v1) (c : MvL v1 v' (x + (1 : Int32))) : MvL v v' x := by
  intro w hw hr y1 y2 E E' Q Q' m h k
  have v26 : v.1 26 1 = w.1 127 26 := hr.2.2.2.1.1
  rw [v26] at hx
  cases m with
  | zero => exact False.elim h
  | succ m =>
    rw [q_Mo_tick_67.eq_2] at h ⊢
    exact ⟨fun d => absurd d hx, fun d => r w hw hr (by omega) _ _ (h.2 d) (fun w' hw' hr' _ g => c w' hw' hr' y1 y2 E E' Q Q' m g k)⟩
theorem mv_2 {E E' Q Q' : MW → Prop} : ∀ (m : Nat) (x : Int32) (v : MW), q_Wa_move_2 E Q m x v → BND v → v.2.2 7 0 = some 8 → 0 ≤ x.toInt → (∀ v', MvL v v' x → E v' → E' v') → q_Wa_move_2 E' Q' m x v := by
  intro m
  induction m with
  | zero => exact fun _ _ h _ _ _ _ => False.elim h
  | succ m ih =>
    intro x v h hv h7 x0 k
    rw [q_Wa_move_2.eq_2] at h ⊢
    refine ⟨fun d => k v (ml_0 d) (h.1 d), fun d => ?_⟩
    have b := bd_26_1 hv
    have e := ti_add2 (Eq.refl x.toInt) i_1 (by omega) (by omega)
    refine mv_u hv h7 x0 (by omega) (h.2 d) (fun v1 b1 f1 r g => ih _ _ g b1 ?_ (by omega) (fun v' c g2 => k v' (ml_s d r c) g2))
    rw [(f1 7 0 (by decide)).2.2]
    exact h7
theorem mv_all {v : MW} {Q Q' : MW → Prop} (hv : BND v) (h7 : v.2.2 7 0 = some 8) (h : p_Wa_move v Q) (k : ∀ v', MvL v v' 0 → Q v' → Q' v') : p_Wa_move v Q' := by
  rw [p_Wa_move.eq_1] at h ⊢
  exact mv_2 _ _ _ h hv h7 (by decide) k
